-- what changes the town
theorem RX_c {A B A2 B2 : MM} (h1 : A2.1 0 0 = A.1 0 0) (h2 : A2.1 1 = A.1 1) (h3 : B2.1 0 1 = B.1 0 1) (h4 : B2.1 1 = B.1 1) (h : RX A B) : RX A2 B2 := by
  unfold RX
  rw [h1, h2, h3, h4]
  exact h
theorem RPs_c {P : PL} {A B A2 B2 : MM} (h1 : A2.1 0 3 = A.1 0 3) (h2 : A2.1 0 4 = A.1 0 4) (h3 : ∀ q, 11 ≤ q → q < 25 → A2.1 q = A.1 q) (h4 : B2.1 0 7 = B.1 0 7) (h5 : B2.1 8 = B.1 8) (h : RPs P A B) : RPs P A2 B2 := by
  obtain ⟨na, fi, p1, p2, p3, p4, p5, p6⟩ := h
  refine ⟨na, fi, p1, p2, h1.trans p3, h2.trans p4, h4.trans p5, fun j hj => ?_⟩
  rw [h3 _ (show 11 ≤ 9 + (2 + (fi + j) % 14) by omega) (by omega), h5]
  exact p6 j hj
theorem RSl_c {P : PL} {A B A2 B2 : MM} (h1 : A2.1 0 5 = A.1 0 5) (h2 : ∀ q, 25 ≤ q → A2.1 q = A.1 q) (h4 : B2.1 9 = B.1 9) (h5 : B2.1 10 = B.1 10) (h : RSl P A B) : RSl P A2 B2 := by
  obtain ⟨kb, k1, k2⟩ := h
  refine ⟨kb, h1.trans k1, fun j hj => ?_⟩
  rw [h2 _ (show 25 ≤ 9 + (16 + j) by omega), h4, h5]
  exact k2 j hj
theorem RFe_c {A B A2 B2 : MM} (h1 : A2.1 0 7 = A.1 0 7) (h2 : A2.1 0 6 = A.1 0 6) (h3 : A2.1 7 = A.1 7) (h4 : A2.1 8 = A.1 8) (h5 : B2.1 0 8 = B.1 0 8) (h6 : B2.1 11 = B.1 11) (h7 : B2.1 12 = B.1 12) (h8 : B2.1 13 = B.1 13) (h : RFe A B) : RFe A2 B2 := by
  unfold RFe
  rw [h1, h2, h3, h4, h5, h6, h7, h8]
  exact h
def FA (A A2 : MM) : Prop := A2.2 = A.2 ∧ (∀ q, q ≠ 0 → (q < 11 ∨ 25 ≤ q) → A2.1 q = A.1 q) ∧ ∀ c, c ≠ 3 → c ≠ 4 → A2.1 0 c = A.1 0 c
def FB (B B2 : MM) : Prop := B2.2 = B.2 ∧ (∀ q, q ≠ 0 → q ≠ 8 → B2.1 q = B.1 q) ∧ ∀ c, c ≠ 7 → B2.1 0 c = B.1 0 c
theorem FA.rfl {A : MM} : FA A A := ⟨Eq.refl _, fun _ _ _ => Eq.refl _, fun _ _ _ => Eq.refl _⟩
theorem FB.rfl {A : MM} : FB A A := ⟨Eq.refl _, fun _ _ _ => Eq.refl _, fun _ _ => Eq.refl _⟩
theorem CS_A {P : PL} {A A2 : MM} {s : SC} (h : CS P A 0 s) (k : FA A A2) : CS P A2 0 s := by
  refine ⟨h.1, ?_, h.2.2.1, by rw [k.2.1 (9 + 0) (by omega) (by omega)]; exact h.2.2.2⟩
  unfold PC
  rw [k.2.2 1 (by omega) (by omega), k.2.2 2 (by omega) (by omega), k.2.1 3 (by omega) (by omega), k.2.1 4 (by omega) (by omega), k.2.1 5 (by omega) (by omega), k.2.1 6 (by omega) (by omega)]
  exact h.2.1
theorem DS_B {P : PL} {B B2 : MM} {s : SC} (h : DS P B 6 s) (k : FB B B2) : DS P B2 6 s := by
  refine ⟨h.1, ?_, h.2.2.1, by rw [k.2.1 6 (by omega) (by omega)]; exact h.2.2.2⟩
  unfold PD
  rw [k.2.2 3 (by omega), k.2.2 4 (by omega), k.2.1 2 (by omega) (by omega), k.2.1 3 (by omega) (by omega)]
  exact h.2.1
-- the parts of the relation besides the town as it is now
def RO (P : PL) (A B : MM) : Prop := RX A B ∧ RSl P A B ∧ RFe A B ∧ A.2 = B.2
theorem Rel_now {P : PL} {A B A2 B2 : MM} {s s2 : SC} {f g : Nat → Int32} (hA : CS P A 0 s) (hB : DS P B 6 s) (ho : RO P A B) (a : FA A A2) (b : FB B B2) (hp : RPs P A2 B2) (hs : WS P s2) (hf : RP P f s2) (hg : RP P g s2) : Rel (mR A2 (9 + 0) f) (mR B2 6 g) := by
  obtain ⟨o1, o2, o3, o4⟩ := ho
  refine ⟨P, s2, ⟨CS_row (CS_A hA a) hs hf, DS_row (by omega) (DS_B hB b) hs hg⟩, RX_c ?_ ?_ ?_ ?_ o1, RPs_c ?_ ?_ ?_ ?_ ?_ hp, RSl_c ?_ ?_ ?_ ?_ o2, RFe_c ?_ ?_ ?_ ?_ ?_ ?_ ?_ ?_ o3, a.1.trans (o4.trans b.1.symm)⟩
  · rw [mR_ne _ _ (by omega)]; exact a.2.2 0 (by omega) (by omega)
  · rw [mR_ne _ _ (by omega)]; exact a.2.1 1 (by omega) (by omega)
  · rw [mR_ne _ _ (by omega)]; exact b.2.2 1 (by omega)
  · rw [mR_ne _ _ (by omega)]; exact b.2.1 1 (by omega) (by omega)
  · rw [mR_ne _ _ (by omega)]
  · rw [mR_ne _ _ (by omega)]
  · intro q h1 h2; rw [mR_ne _ _ (by omega)]
  · rw [mR_ne _ _ (by omega)]
  · rw [mR_ne _ _ (by omega)]
  · rw [mR_ne _ _ (by omega)]; exact a.2.2 5 (by omega) (by omega)
  · intro q h1; rw [mR_ne _ _ (by omega)]; exact a.2.1 q (by omega) (by omega)
  · rw [mR_ne _ _ (by omega)]; exact b.2.1 9 (by omega) (by omega)
  · rw [mR_ne _ _ (by omega)]; exact b.2.1 10 (by omega) (by omega)
  · rw [mR_ne _ _ (by omega)]; exact a.2.2 7 (by omega) (by omega)
  · rw [mR_ne _ _ (by omega)]; exact a.2.2 6 (by omega) (by omega)
  · rw [mR_ne _ _ (by omega)]; exact a.2.1 7 (by omega) (by omega)
  · rw [mR_ne _ _ (by omega)]; exact a.2.1 8 (by omega) (by omega)
  · rw [mR_ne _ _ (by omega)]; exact b.2.2 8 (by omega)
  · rw [mR_ne _ _ (by omega)]; exact b.2.1 11 (by omega) (by omega)
  · rw [mR_ne _ _ (by omega)]; exact b.2.1 12 (by omega) (by omega)
  · rw [mR_ne _ _ (by omega)]; exact b.2.1 13 (by omega) (by omega)
-- the past
theorem scAt_in {N b j : Nat} (h : j < N) (hN : N < 2 ^ 31) : scAt N b (nI j) = some (b + j) := by
  unfold scAt
  rw [if_pos (ib_nI h hN), ncl (by omega)]
theorem scAt_out {N b : Nat} {x : Int32} (h : ib x N = false) : scAt N b x = none := by
  unfold scAt
  rw [if_neg (by rw [h]; decide)]
theorem rem14 {a : Nat} (h : a < 2 ^ 31) : nI a - nI a / (14 : Int32) * (14 : Int32) = nI (a % 14) := pk_rem h (by decide) (by decide)
theorem add_C {A : MM} {na fi : Nat} (h1 : na < 14) (h2 : fi < 14) (h3 : A.1 0 3 = nI fi) (h4 : A.1 0 4 = nI na) : q_X1_add_32 0 A = some ((), mU (mR A (9 + (2 + (fi + na) % 14)) (A.1 (9 + 0))) 0 4 (nI (na + 1))) := by
  unfold q_X1_add_32
  rw [h3, h4, nI_add, rem14 (by omega), scAt_in (by omega) (by decide)]
  show q_X1_add_61 0 _ = _
  unfold q_X1_add_61
  rw [mR_ne _ _ (by omega), h4, nI_1]
theorem note49 {B : MM} {a : Nat} (h : a < 14) (h7 : B.1 0 7 = nI a) : q_X7_note_49 B = some ((), mU (mR B 8 (ovr (B.1 8) (24 * a) 24 (B.1 6))) 0 7 (nI (a + 1))) := by
  unfold q_X7_note_49
  refine (show q_X7_note_51 FU 0 B = q_X7_note_51 FU (nI 0) (mR B 8 (ovr (B.1 8) (24 * a) 0 (B.1 6))) by rw [ovr_0, mR_self]; rfl).trans ?_
  refine lp0 24 (fun f j => q_X7_note_51 f (nI j) (mR B 8 (ovr (B.1 8) (24 * a) j (B.1 6)))) _ (by decide) ?_ ?_
  · intro f
    rw [q_X7_note_51, L24, if_pos (Int32.le_refl _), mR_ne _ _ (by decide), h7, nI_1]
  · intro f j hj
    rw [q_X7_note_51, L24, if_neg (nge hj (by decide)), ogd_pos (ib_nI hj (by decide)), mR_ne _ _ (by decide), h7, pk_mul, nI_add, ogd_pos (ib_nI (by omega) (by decide)), ncl (by omega), ncl (by omega), mU_mR, mR_mR, mR_at, mR_ne _ _ (by decide), nI_1]
    congr 1
    exact mRf _ _ ovr_s
theorem note14 {B : MM} (h7 : B.1 0 7 = nI 14) : q_X7_note B = some ((), mU (mR B 8 (ovr (ovr (B.1 8) 0 312 (fun c => B.1 8 (c + 24))) 312 24 (B.1 6))) 0 7 (nI 14)) := by
  unfold q_X7_note
  rw [if_pos (by rw [h7]; rfl)]
  have key : q_X7_note_11 FU 0 B = q_X7_note_49 (mU (mR B 8 (ovr (B.1 8) 0 312 (fun c => B.1 8 (c + 24)))) 0 7 (nI 13)) := by
    refine (show q_X7_note_11 FU 0 B = q_X7_note_11 FU (nI 0) (mR B 8 (ovr (B.1 8) 0 0 (fun c => B.1 8 (c + 24)))) by rw [ovr_0, mR_self]; rfl).trans ?_
    refine lp0 312 (fun f j => q_X7_note_11 f (nI j) (mR B 8 (ovr (B.1 8) 0 j (fun c => B.1 8 (c + 24))))) _ (by decide) ?_ ?_
    · intro f
      rw [q_X7_note_11, L312, if_pos (Int32.le_refl _), mR_ne _ _ (by decide), h7]
      rfl
    · intro f j hj
      rw [q_X7_note_11, L312, if_neg (nge hj (by decide)), p24, ogd_pos (ib_nI (by omega) (by decide)), ogd_pos (ib_nI (by omega) (by decide)), ncl (by omega), ncl (by omega), mR_at, ovr_out (by omega), mU_mR, mR_mR, mR_at, nI_1]
      congr 1
      refine mRf _ _ ?_
      have := ovr_s (f := B.1 8) (o := 0) (j := j) (g := fun c => B.1 8 (c + 24))
      rwa [Nat.zero_add] at this
  rw [key, note49 (a := 13) (by omega) mU_at]
  have e : ∀ {M : MM} {f : Nat → Int32} {v w : Int32}, mU (mR (mU M 0 7 v) 8 f) 0 7 w = mU (mR M 8 f) 0 7 w := by
    intro M f v w
    unfold mU mR
    refine Prod.ext ?_ rfl
    funext r c
    show (if r = 0 ∧ c = 7 then w else (if r = 8 then f else fun c2 => if r = 0 ∧ c2 = 7 then v else M.1 r c2) c) = (if r = 0 ∧ c = 7 then w else (if r = 8 then f else M.1 r) c)
    by_cases g : r = 0 ∧ c = 7
    · rw [if_pos g, if_pos g]
    · rw [if_neg g, if_neg g]
      by_cases g2 : r = 8
      · rw [if_pos g2, if_pos g2]
      · rw [if_neg g2, if_neg g2, if_neg g]
  rw [e, mR_mR, mU_r (by omega), mR_at, mU_r (by omega), mR_ne _ _ (by omega)]
theorem RP_p {P : PL} {f g : Nat → Int32} {s : SC} (hP : WP P) (h : ∀ c, c < 24 → f c = g c) (hg : RP P g s) : RP P f s := RP_congr hP (fun c hc _ => h c hc) hg
theorem note_2 {P : PL} {A B : MM} {s : SC} (hA : CS P A 0 s) (hB : DS P B 6 s) (h : RPs P A B) : ∃ A2 B2, q_X1_add 0 A = some ((), A2) ∧ q_X7_note B = some ((), B2) ∧ RPs P A2 B2 ∧ FA A A2 ∧ FB B B2 := by
  obtain ⟨na, fi, p1, p2, p3, p4, p5, p6⟩ := h
  by_cases hn : na = 14
  · subst hn
    unfold q_X1_add
    rw [if_pos (by rw [p4]; rfl), p3, nI_1, rem14 (by omega), mU_0 (by omega), p4, show nI 14 - (1 : Int32) = nI 13 from rfl, add_C (na := 13) (fi := (fi + 1) % 14) (by omega) (by omega) (by rw [mU_0 (by omega), mU_at]) mU_at, note14 p5]
    refine ⟨_, _, rfl, rfl, ⟨14, (fi + 1) % 14, by omega, by omega, ?_, mU_at, mU_at, fun j hj => ?_⟩, ⟨rfl, fun q h1 h2 => ?_, fun c h1 h2 => ?_⟩, ⟨rfl, fun q h1 h2 => ?_, fun c h1 => ?_⟩⟩
    · rw [mU_0 (by omega), mR_ne _ _ (by omega), mU_0 (by omega), mU_at]
    · rw [mU_r (M := mR B 8 _) (by omega), mR_at (M := B), mU_r (M := mR (mU (mU A _ _ _) _ _ _) _ _) (by omega)]
      by_cases e : j = 13
      · subst e
        refine ⟨s, hA.2.2.1, ?_, ?_⟩
        · rw [mR_at, mU_r (by omega), mU_r (by omega)]
          exact hA.2.2.2
        · refine RP_p hA.1 (fun c hc => ?_) hB.2.2.2
          show ovr _ 312 24 (B.1 6) (312 + c) = _
          rw [ovr_in hc]
      · obtain ⟨u, u1, u2, u3⟩ := p6 (j + 1) (by omega)
        refine ⟨u, u1, ?_, ?_⟩
        · rw [mR_ne _ _ (by omega), mU_r (by omega), mU_r (by omega), show ((fi + 1) % 14 + j) % 14 = (fi + (j + 1)) % 14 by omega]
          exact u2
        · refine RP_p hA.1 (fun c hc => ?_) u3
          show ovr _ 312 24 (B.1 6) (24 * j + c) = B.1 8 (24 * (j + 1) + c)
          rw [ovr_out (by omega)]
          have := ovr_in (f := B.1 8) (o := 0) (n := 312) (g := fun c => B.1 8 (c + 24)) (j := 24 * j + c) (by omega)
          rw [Nat.zero_add] at this
          rw [this, show 24 * j + c + 24 = 24 * (j + 1) + c by omega]
    · rw [mU_r (by omega), mR_ne _ _ (by omega), mU_r (by omega), mU_r (by omega)]
    · rw [mU_0 (by omega), mR_ne _ _ (by omega), mU_0 (by omega), mU_0 (by omega)]
    · rw [mU_r (by omega), mR_ne _ _ (by omega)]
    · rw [mU_0 (by omega), mR_ne _ _ (by omega)]
  · have hn2 : na < 14 := by omega
    unfold q_X1_add q_X7_note
    have ne : ¬ nI na = (14 : Int32) := fun q => hn ((nI_eq (b := 14) (by omega) (by decide)).mp q)
    rw [if_neg (by rw [p4]; exact ne), add_C hn2 p2 p3 p4, if_neg (by rw [p5]; exact ne), note49 hn2 p5]
    refine ⟨_, _, rfl, rfl, ⟨na + 1, fi, by omega, by omega, ?_, mU_at, mU_at, fun j hj => ?_⟩, ⟨rfl, fun q h1 h2 => ?_, fun c h1 h2 => ?_⟩, ⟨rfl, fun q h1 h2 => ?_, fun c h1 => ?_⟩⟩
    · rw [mU_0 (by omega), mR_ne _ _ (by omega), p3]
    · rw [mU_r (M := mR B 8 _) (by omega), mR_at (M := B), mU_r (M := mR A _ _) (by omega)]
      by_cases e : j = na
      · subst e
        refine ⟨s, hA.2.2.1, ?_, ?_⟩
        · rw [mR_at]
          exact hA.2.2.2
        · refine RP_p hA.1 (fun c hc => ?_) hB.2.2.2
          show ovr _ (24 * j) 24 (B.1 6) (24 * j + c) = _
          rw [ovr_in hc]
      · obtain ⟨u, u1, u2, u3⟩ := p6 j (by omega)
        refine ⟨u, u1, ?_, ?_⟩
        · rw [mR_ne _ _ (by omega)]
          exact u2
        · refine RP_p hA.1 (fun c hc => ?_) u3
          show ovr _ (24 * na) 24 (B.1 6) (24 * j + c) = B.1 8 (24 * j + c)
          rw [ovr_out (by omega)]
    · rw [mU_r (by omega), mR_ne _ _ (by omega)]
    · rw [mU_0 (by omega), mR_ne _ _ (by omega)]
    · rw [mU_r (by omega), mR_ne _ _ (by omega)]
    · rw [mU_0 (by omega), mR_ne _ _ (by omega)]
