-- what may stand
def wB (st w l t u : Nat) : Bool := t_X0_isWetAt (nI st) (nI w) (nI l) (nI t) (nI u)
set_option maxRecDepth 100000 in
theorem wB_M : ∀ st, st < 4 → ∀ w, w < 6 → ∀ l, l < 7 → ∀ t, t < 6 → ∀ u, u < 10 → t_X7_rainsBy (nI st) (nI w) (nI l) (nI t) (nI u) = wB st w l t u := by decide +kernel
def andN (q : Nat → Bool) : Nat → Bool
  | 0 => true
  | n + 1 => andN q n && q n
theorem andN_s {q : Nat → Bool} (n : Nat) : andN q (n + 1) = (andN q n && q n) := rfl
theorem andN_f {q : Nat → Bool} {j : Nat} (h : q j = false) : ∀ n, j < n → andN q n = false
  | 0, hn => absurd hn (by omega)
  | n + 1, hn => by
    rw [andN_s]
    by_cases e : j = n
    · subst e
      rw [h, Bool.and_false]
    · rw [andN_f h n (by omega), Bool.false_and]
theorem andN_congr {p q : Nat → Bool} : ∀ n, (∀ j, j < n → p j = q j) → andN p n = andN q n
  | 0, _ => rfl
  | n + 1, h => by rw [andN_s, andN_s, andN_congr n (fun j hj => h j (by omega)), h n (by omega)]
def soQ (t u : Nat → Nat) (fr : Nat → Bool) (st w l k : Nat) : Bool := wB st w l (t k) (u k) == fr k
theorem b2i_eq (a b : Bool) : (b2i a = b2i b) ↔ a = b := by cases a <;> cases b <;> decide
theorem so_C {A : MM} {nf : Nat} {t u : Nat → Nat} {fr : Nat → Bool} (f1 : nf ≤ 6) (f2 : A.1 0 7 = nI nf) (f4 : A.1 0 6 = bs (fun j => decide (j < nf) && fr j)) (f5 : ∀ j, j < nf → A.1 7 j = nI (t j) ∧ A.1 8 j = nI (u j)) (st w l : Nat) : q_X0_isSo (nI st) (nI w) (nI l) A = some (andN (soQ t u fr st w l) nf, A) := by
  unfold q_X0_isSo
  refine lpJ (N := nf) (j0 := 0) (b := ()) (fun f j (_ : Unit) => q_X0_isSo_3 (nI st) (nI w) (nI l) f (nI j) A) (fun j _ => andN (soQ t u fr st w l) j = true) (fun r => r = some (andN (soQ t u fr st w l) nf, A)) (by omega) (by omega) rfl ?_ ?_
  · intro f _ m
    show q_X0_isSo_3 (nI st) (nI w) (nI l) (f + 1) (nI nf) A = _
    rw [q_X0_isSo_3, f2, if_pos (Int32.le_refl _), m]
  · intro f j _ hj m
    obtain ⟨g1, g2⟩ := f5 j hj
    show q_X0_isSo_3 (nI st) (nI w) (nI l) (f + 1) (nI j) A = _ ∨ ∃ _ : Unit, _ ∧ q_X0_isSo_3 (nI st) (nI w) (nI l) (f + 1) (nI j) A = q_X0_isSo_3 (nI st) (nI w) (nI l) f (nI (j + 1)) A
    rw [q_X0_isSo_3, f2, if_neg (nge hj (by omega)), at_in (show j < 6 by omega) (by decide), at_in (show j < 6 by omega) (by decide), Nat.zero_add, g1, g2, f4, hasC _ (by omega), decide_eq_true hj, Bool.true_and]
    by_cases e : t_X0_isWetAt (nI st) (nI w) (nI l) (nI (t j)) (nI (u j)) = fr j
    · right
      refine ⟨(), ?_, ?_⟩
      · rw [andN_s, m, Bool.true_and]
        unfold soQ wB
        rw [e]
        exact beq_self_eq_true _
      · rw [if_pos ((b2i_eq _ _).mpr e), nI_1]
    · left
      have : andN (soQ t u fr st w l) nf = false := andN_f (j := j) (by unfold soQ wB; simpa using e) nf hj
      rw [if_neg (fun q => e ((b2i_eq _ _).mp q)), this]
def mayN (q : Nat → Nat → Nat → Bool) (i : Nat) : Bool := q (i / 36) (i / 6 % 6) (1 + i % 6)
def mayS (q : Nat → Nat → Nat → Bool) : Nat → Nat × Int32
  | 0 => (0, -9)
  | i + 1 => if mayN q i then ((mayS q i).1 + 1, if (mayS q i).1 = 0 then nI (100 * (i / 36) + 10 * (i / 6 % 6) + (1 + i % 6)) else (mayS q i).2) else mayS q i
theorem mayS_s {q : Nat → Nat → Nat → Bool} (i : Nat) : mayS q (i + 1) = if mayN q i then ((mayS q i).1 + 1, if (mayS q i).1 = 0 then nI (100 * (i / 36) + 10 * (i / 6 % 6) + (1 + i % 6)) else (mayS q i).2) else mayS q i := rfl
theorem mayS_le {q : Nat → Nat → Nat → Bool} : ∀ i, (mayS q i).1 ≤ i
  | 0 => Nat.le_refl _
  | i + 1 => by
    have := mayS_le (q := q) i
    rw [mayS_s]
    split
    · show (mayS q i).1 + 1 ≤ i + 1
      omega
    · omega
def soR (t u : Nat → Nat) (fr : Nat → Bool) (nf : Nat) (st w l : Nat) : Bool := andN (soQ t u fr st w l) nf
section
variable {A : MM} {nf : Nat} {t u : Nat → Nat} {fr : Nat → Bool}
theorem may37 (f1 : nf ≤ 6) (f2 : A.1 0 7 = nI nf) (f4 : A.1 0 6 = bs (fun j => decide (j < nf) && fr j)) (f5 : ∀ j, j < nf → A.1 7 j = nI (t j) ∧ A.1 8 j = nI (u j)) (x : Int32) (k18 : Int32 → Int32 → Int32 → MM → Option (Int32 × MM)) (k27 : Int32 → Int32 → Int32 → Int32 → MM → Option (Int32 × MM)) {st w : Nat} (hst : st < 4) (hw : w < 6) : q_X6_may_37 x k18 k27 FU (nI (mayS (soR t u fr nf) (36 * st + 6 * w)).1) (mayS (soR t u fr nf) (36 * st + 6 * w)).2 (nI st) (nI w) 1 A = k27 (nI (mayS (soR t u fr nf) (36 * st + 6 * w + 6)).1) (mayS (soR t u fr nf) (36 * st + 6 * w + 6)).2 (nI st) (nI (w + 1)) A := by
  refine lp0 6 (fun f j => q_X6_may_37 x k18 k27 f (nI (mayS (soR t u fr nf) (36 * st + 6 * w + j)).1) (mayS (soR t u fr nf) (36 * st + 6 * w + j)).2 (nI st) (nI w) (nI (j + 1)) A) _ (by decide) ?_ ?_
  · intro f
    rw [q_X6_may_37, if_pos (by decide), nI_1]
  · intro f j hj
    have hl := mayS_le (q := soR t u fr nf) (36 * st + 6 * w + j)
    have e : mayN (soR t u fr nf) (36 * st + 6 * w + j) = andN (soQ t u fr st w (j + 1)) nf := by
      unfold mayN
      rw [show (36 * st + 6 * w + j) / 36 = st by omega, show (36 * st + 6 * w + j) / 6 % 6 = w by omega, show 1 + (36 * st + 6 * w + j) % 6 = j + 1 by omega]
      rfl
    rw [q_X6_may_37, if_neg (show ¬ (6 : Int32) < nI (j + 1) from nI_nlt (a := 6) (by omega) (by omega)), so_C f1 f2 f4 f5, obd_of rfl, ← Nat.add_assoc (36 * st + 6 * w) j 1, mayS_s, e]
    cases andN (soQ t u fr st w (j + 1)) nf with
    | false => rw [if_pos b2i_f, if_neg (by decide), q_X6_may_86, nI_1]
    | true =>
      rw [if_neg b1n, if_pos rfl]
      by_cases c0 : (mayS (soR t u fr nf) (36 * st + 6 * w + j)).1 = 0
      · rw [c0, if_pos nI_0, if_pos rfl, q_X6_may_82, q_X6_may_86, nI_1, show (100 : Int32) * nI st = nI (100 * st) from pk_mul 100 st, show (10 : Int32) * nI w = nI (10 * w) from pk_mul 10 w, nI_add, nI_add, nI_1, show (36 * st + 6 * w + j) / 36 = st by omega, show (36 * st + 6 * w + j) / 6 % 6 = w by omega, show 1 + (36 * st + 6 * w + j) % 6 = j + 1 by omega]
      · rw [if_neg (nI_ne0 (by omega) (by omega)), if_neg c0, q_X6_may_82, q_X6_may_86, nI_1, nI_1]
theorem may27 (f1 : nf ≤ 6) (f2 : A.1 0 7 = nI nf) (f4 : A.1 0 6 = bs (fun j => decide (j < nf) && fr j)) (f5 : ∀ j, j < nf → A.1 7 j = nI (t j) ∧ A.1 8 j = nI (u j)) (x : Int32) (k18 : Int32 → Int32 → Int32 → MM → Option (Int32 × MM)) {st : Nat} (hst : st < 4) : q_X6_may_27 x k18 FU (nI (mayS (soR t u fr nf) (36 * st)).1) (mayS (soR t u fr nf) (36 * st)).2 (nI st) 0 A = k18 (nI (mayS (soR t u fr nf) (36 * st + 36)).1) (mayS (soR t u fr nf) (36 * st + 36)).2 (nI (st + 1)) A := by
  refine lp0 6 (fun f j => q_X6_may_27 x k18 f (nI (mayS (soR t u fr nf) (36 * st + 6 * j)).1) (mayS (soR t u fr nf) (36 * st + 6 * j)).2 (nI st) (nI j) A) _ (by decide) ?_ ?_
  · intro f
    rw [q_X6_may_27, if_pos (by decide), nI_1]
  · intro f j hj
    rw [q_X6_may_27, if_neg (show ¬ (6 : Int32) ≤ nI j from nge hj (by decide)), may37 f1 f2 f4 f5 x k18 _ hst hj, show 36 * st + 6 * j + 6 = 36 * st + 6 * (j + 1) by omega]
theorem may_C (f1 : nf ≤ 6) (f2 : A.1 0 7 = nI nf) (f4 : A.1 0 6 = bs (fun j => decide (j < nf) && fr j)) (f5 : ∀ j, j < nf → A.1 7 j = nI (t j) ∧ A.1 8 j = nI (u j)) {c : Nat} (hc : c < 2) : q_X6_may (nI c) A = some (if c = 0 then nI (mayS (soR t u fr nf) 144).1 else (mayS (soR t u fr nf) 144).2, A) := by
  unfold q_X6_may
  rw [ch_in hc, if_neg b1n]
  refine lp0 4 (fun f j => q_X6_may_18 (nI c) f (nI (mayS (soR t u fr nf) (36 * j)).1) (mayS (soR t u fr nf) (36 * j)).2 (nI j) A) _ (by decide) ?_ ?_
  · intro f
    rw [q_X6_may_18, if_pos (by decide)]
    rcases (show c = 0 ∨ c = 1 by omega) with rfl | rfl
    · rw [if_pos nI_0, if_pos rfl]
    · rw [if_neg (by decide), if_neg (by decide)]
  · intro f j hj
    rw [q_X6_may_18, if_neg (show ¬ (4 : Int32) ≤ nI j from nge hj (by decide)), may27 f1 f2 f4 f5 (nI c) _ hj, show 36 * j + 36 = 36 * (j + 1) by omega]
end
-- the reference
section
variable {B : MM} {nf : Nat} {t u : Nat → Nat} {fr : Nat → Bool}
def mayR (k13 : Int32 → MM → Option (Unit × MM)) (i v2 v3 v4 : Int32) (b : Bool) (M : MM) : Option (Unit × MM) := if b2i b = 0 then q_X7_findMay_142 k13 i (b2i b) M else if M.1 0 11 = 0 then q_X7_findMay_146 k13 i (b2i b) (((100 : Int32) * v2 + (10 : Int32) * v3) + v4) M else q_X7_findMay_142 k13 i (b2i b) M
theorem may47 (f1 : nf ≤ 6) (M : MM) (f3 : M.1 0 8 = nI nf) (f5 : ∀ j, j < nf → t j < 6 ∧ u j < 10 ∧ M.1 11 j = nI (t j) ∧ M.1 12 j = nI (u j) ∧ M.1 13 j = b2i (fr j)) (k13 : Int32 → MM → Option (Unit × MM)) (i : Int32) {st w l : Nat} (hst : st < 4) (hw : w < 6) (hl : l < 7) : q_X7_findMay_47 k13 FU i (nI st) (nI w) (nI l) 1 0 M = mayR k13 i (nI st) (nI w) (nI l) (andN (soQ t u fr st w l) nf) M := by
  refine lp0 nf (fun f j => q_X7_findMay_47 k13 f i (nI st) (nI w) (nI l) (b2i (andN (soQ t u fr st w l) j)) (nI j) M) _ (by omega) ?_ ?_
  · intro f
    rw [q_X7_findMay_47, f3, if_pos (Int32.le_refl _)]
    rfl
  · intro f j hj
    obtain ⟨g1, g2, g3, g4, g5⟩ := f5 j hj
    rw [q_X7_findMay_47, f3, if_neg (nge hj (by omega)), andN_s]
    cases andN (soQ t u fr st w l) j with
    | false =>
      rw [if_pos b2i_f, q_X7_findMay_105, q_X7_findMay_106, nI_1, Bool.false_and]
      rfl
    | true =>
      rw [if_neg b1n, ogd_pos (ib_nI (by omega) (by decide)), ogd_pos (ib_nI (by omega) (by decide)), ogd_pos (ib_nI (by omega) (by decide)), ncl (by omega), g3, g4, g5, wB_M st hst w hw l hl (t j) g1 (u j) g2, Bool.true_and, show soQ t u fr st w l j = (wB st w l (t j) (u j) == fr j) from rfl]
      cases wB st w l (t j) (u j) <;> cases fr j
      · rw [if_neg (by decide), q_X7_findMay_98, if_pos b2i_f, q_X7_findMay_106, nI_1]
        rfl
      · rw [if_pos b2i_t, q_X7_findMay_98, if_neg (by decide), q_X7_findMay_105, q_X7_findMay_106, nI_1]
        rfl
      · rw [if_neg (by decide), q_X7_findMay_98, if_neg (by decide), q_X7_findMay_105, q_X7_findMay_106, nI_1]
        rfl
      · rw [if_pos b2i_t, q_X7_findMay_98, if_pos b2i_t, q_X7_findMay_106, nI_1]
        rfl
theorem mayR_e (k13 : Int32 → MM → Option (Unit × MM)) (i v2 v3 v4 : Int32) (b : Bool) (M : MM) (m : Nat) (hm : m < 1000) (h11 : M.1 0 11 = nI m) : ∃ M2, mayR k13 i v2 v3 v4 b M = k13 (i + 1) M2 ∧ kE M M2 ∧ M2.1 0 11 = nI (if b then m + 1 else m) ∧ M2.1 0 12 = (if b then (if m = 0 then ((100 : Int32) * v2 + (10 : Int32) * v3) + v4 else M.1 0 12) else M.1 0 12) := by
  unfold mayR
  have kk : ∀ a b, kE M (mU (mU M 0 12 a) 0 11 b) := fun a b => (kE_0 (by omega)).trans (kE_0 (by omega))
  cases b with
  | false =>
    rw [if_pos b2i_f, q_X7_findMay_142, q_X7_findMay_146, if_pos b2i_f, q_X7_findMay_164, mU_0 (by omega), h11]
    exact ⟨_, rfl, kk _ _, by rw [mU_at]; exact nI_add m 0, by rw [mU2 (by omega)]; rfl⟩
  | true =>
    rw [if_neg b1n]
    by_cases m0 : m = 0
    · subst m0
      rw [if_pos (show M.1 0 11 = (0 : Int32) from h11), q_X7_findMay_146, if_neg b1n, q_X7_findMay_164, mU_0 (by omega), h11]
      exact ⟨_, rfl, kk _ _, by rw [mU_at]; rfl, by rw [mU2 (by omega)]; rfl⟩
    · rw [if_neg (by rw [h11]; exact nI_ne0 (by omega) (by omega)), q_X7_findMay_142, q_X7_findMay_146, if_neg b1n, q_X7_findMay_164, mU_0 (by omega), h11]
      exact ⟨_, rfl, kk _ _, by rw [mU_at, nI_1]; rfl, by rw [mU2 (by omega), if_pos rfl, if_neg m0]⟩
theorem may_M (f1 : nf ≤ 6) (f3 : B.1 0 8 = nI nf) (f5 : ∀ j, j < nf → t j < 6 ∧ u j < 10 ∧ B.1 11 j = nI (t j) ∧ B.1 12 j = nI (u j) ∧ B.1 13 j = b2i (fr j)) : ∃ B2, q_X7_findMay B = some ((), B2) ∧ kE B B2 ∧ B2.1 0 11 = nI (mayS (soR t u fr nf) 144).1 ∧ B2.1 0 12 = (mayS (soR t u fr nf) 144).2 := by
  unfold q_X7_findMay
  refine lpJ (N := 144) (j0 := 0) (fun f j (M : MM) => q_X7_findMay_13 f (nI j) M) (fun j M => kE B M ∧ M.1 0 11 = nI (mayS (soR t u fr nf) j).1 ∧ M.1 0 12 = (mayS (soR t u fr nf) j).2) (fun r => ∃ B2, r = some ((), B2) ∧ kE B B2 ∧ B2.1 0 11 = nI (mayS (soR t u fr nf) 144).1 ∧ B2.1 0 12 = (mayS (soR t u fr nf) 144).2) (by decide) (by decide) ?_ ?_ ?_
  · exact ⟨(kE_0 (by omega)).trans (kE_0 (by omega)), by rw [mU2 (by omega)]; rfl, by rw [mU_at]; rfl⟩
  · rintro f M ⟨m1, m2, m3⟩
    refine ⟨M, ?_, m1, m2, m3⟩
    show q_X7_findMay_13 (f + 1) (nI 144) M = _
    rw [q_X7_findMay_13, if_pos (by decide)]
  · rintro f i M hi ⟨m1, m2, m3⟩
    right
    have d1 : nI i / (36 : Int32) = nI (i / 36) := pk_div (by omega) (by decide) (by decide)
    have d0 : nI i / (6 : Int32) = nI (i / 6) := pk_div (by omega) (by decide) (by decide)
    have d2 : nI (i / 6) - nI (i / 6) / (6 : Int32) * (6 : Int32) = nI (i / 6 % 6) := pk_rem (by omega) (by decide) (by decide)
    have d3 : nI i - nI (i / 6) * (6 : Int32) = nI (i % 6) := by rw [← d0]; exact pk_rem (by omega) (by decide) (by decide)
    have hl := mayS_le (q := soR t u fr nf) i
    show ∃ b2 : MM, _ ∧ q_X7_findMay_13 (f + 1) (nI i) M = q_X7_findMay_13 f (nI (i + 1)) b2
    rw [q_X7_findMay_13, if_neg (show ¬ (144 : Int32) ≤ nI i from nge hi (by decide)), d1, d0, d2, d3, show (1 : Int32) + nI (i % 6) = nI (1 + i % 6) from nI_add 1 _]
    rw [may47 (t := t) (u := u) (fr := fr) f1 M (by rw [m1.2.2 8 (by omega)]; exact f3) (fun j hj => by rw [m1.r (q := 11) (by omega), m1.r (q := 12) (by omega), m1.r (q := 13) (by omega)]; exact f5 j hj) _ _ (by omega) (by omega) (by omega)]
    obtain ⟨M2, e, k, q1, q2⟩ := mayR_e (q_X7_findMay_13 f) (nI i) (nI (i / 36)) (nI (i / 6 % 6)) (nI (1 + i % 6)) (andN (soQ t u fr (i / 36) (i / 6 % 6) (1 + i % 6)) nf) M _ (by omega) m2
    refine ⟨M2, ⟨m1.trans k, ?_, ?_⟩, by rw [e, nI_1]⟩
    · rw [q1, mayS_s, show mayN (soR t u fr nf) i = andN (soQ t u fr (i / 36) (i / 6 % 6) (1 + i % 6)) nf from rfl]
      cases andN (soQ t u fr (i / 36) (i / 6 % 6) (1 + i % 6)) nf <;> rfl
    · rw [q2, mayS_s, m3, show mayN (soR t u fr nf) i = andN (soQ t u fr (i / 36) (i / 6 % 6) (1 + i % 6)) nf from rfl]
      cases andN (soQ t u fr (i / 36) (i / 6 % 6) (1 + i % 6)) nf with
      | false => rfl
      | true =>
        rw [if_pos rfl, if_pos rfl, show (100 : Int32) * nI (i / 36) = nI (100 * (i / 36)) from pk_mul 100 _, show (10 : Int32) * nI (i / 6 % 6) = nI (10 * (i / 6 % 6)) from pk_mul 10 _, nI_add, nI_add]
end
theorem o_may {A B : MM} (h : RFe A B) (x : Int32) : TW A B (q_X6_may x A) (q_X7_may x B) := by
  obtain ⟨nf, fr, f1, f2, f3, f4, f5⟩ := h
  rcases cases_n x (n := 2) (by decide) with o | ⟨c, hc, rfl⟩
  · unfold q_X6_may q_X7_may
    rw [ch_out o, inF 2 (by decide) (by decide) o, if_pos b2i_f, if_pos b2i_f]
    exact TW.q _
  · have g : ∀ j, j < nf → (A.1 7 j).toNatClampNeg < 6 ∧ (A.1 8 j).toNatClampNeg < 10 ∧ A.1 7 j = nI (A.1 7 j).toNatClampNeg ∧ A.1 8 j = nI (A.1 8 j).toNatClampNeg ∧ B.1 11 j = nI (A.1 7 j).toNatClampNeg ∧ B.1 12 j = nI (A.1 8 j).toNatClampNeg ∧ B.1 13 j = b2i (fr j) := by
      intro j hj
      obtain ⟨t, u, q1, q2, q3, q4, q5, q6, q7⟩ := f5 j hj
      rw [q3, q5, ncl (by omega), ncl (by omega)]
      exact ⟨q1, q2, rfl, rfl, q4, q6, q7⟩
    have e1 := may_C (t := fun j => (A.1 7 j).toNatClampNeg) (u := fun j => (A.1 8 j).toNatClampNeg) f1 f2 f4 (fun j hj => ⟨(g j hj).2.2.1, (g j hj).2.2.2.1⟩) hc
    obtain ⟨B2, e2, k, q1, q2⟩ := may_M (B := mU B 0 0 0) (t := fun j => (A.1 7 j).toNatClampNeg) (u := fun j => (A.1 8 j).toNatClampNeg) (fr := fr) f1 (by rw [mU_0 (by omega)]; exact f3) (fun j hj => ⟨(g j hj).1, (g j hj).2.1, by rw [mU_r (by omega)]; exact (g j hj).2.2.2.2.1, by rw [mU_r (by omega)]; exact (g j hj).2.2.2.2.2.1, by rw [mU_r (by omega)]; exact (g j hj).2.2.2.2.2.2⟩)
    refine TW.of _ ⟨A, e1, K.rfl⟩ ⟨B2, ?_, z_0.trans k⟩
    unfold q_X7_may
    rw [inT 2 (by decide) (by decide) hc, if_neg b1n, e2, obd_of rfl, q1, q2]
    rcases (show c = 0 ∨ c = 1 by omega) with rfl | rfl
    · rw [if_pos nI_0, if_pos rfl]
    · rw [if_neg (by decide), if_neg (by decide)]
