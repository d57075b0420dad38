-- where two rest
theorem tw2 (t : Nat) : (2 : Int32) * nI t = nI (2 * t) := pk_mul 2 t
def prB (w v : Nat) (a b : Bool) (t : Nat) : Bool := (a && t == w) || (b && t == v)
def gV (rain hail a : Bool) : Int32 := (if hail then -3 else if rain then 2 else 0) - b2i a
def gS (P : PL) (s : SC) (w v : Nat) (a b : Bool) : SC := openAll P (prB w v a b) s (pW P)
def gW (P : PL) (s : SC) (w v : Nat) (a b : Bool) : Int32 := gV (rainB P (gS P s w v a b) (sP s w)) (hailB P (gS P s w v a b) (sP s w)) a
theorem pr_bs {w v : Nat} (hw : w < 6) (hv : v < 6) (a b : Bool) : (if a then (1 : Int32) <<< (nI w &&& 31) else 0) ||| (if b then (1 : Int32) <<< (nI v &&& 31) else 0) = bs (prB w v a b) := by
  have e : ∀ (x : Nat), x < 6 → ∀ c : Bool, (if c then (1 : Int32) <<< (nI x &&& 31) else 0) = bs (fun t => c && t == x) := by
    intro x hx c
    cases c with
    | true => rw [if_pos rfl, one_sh hx]; exact bs_congr (fun t _ => by simp)
    | false => rw [if_neg (by decide)]; exact (bs_z (fun t _ => by simp)).symm
  rw [e w hw, e v hv, bs_or]
  rfl
theorem gS_sw {P : PL} {s : SC} {w v : Nat} {a b : Bool} : gS P s v w b a = gS P s w v a b := openAll_congr _ (fun j _ => by unfold prB; rw [Bool.or_comm])
theorem gain_C {P : PL} {A : MM} {s : SC} (h : CS P A 0 s) {w v : Nat} (hw : w < pW P) (hv : v < pW P) (a b : Bool) : ∃ A2, q_X6_gain (nI w) (b2i a) (nI v) (b2i b) A = some (gW P s w v a b, A2) ∧ K 10 A A2 := by
  have h5 := h.1.1
  obtain ⟨a1, a2⟩ := bg_C h
  obtain ⟨A2, e, a3, a4⟩ := c_all a1 (prB w v a b)
  refine ⟨A2, ?_, a2.trans a4⟩
  have e0 : q_X6_gain (nI w) (b2i a) (nI v) (b2i b) A = q_X6_gain_38 (nI w) (b2i a) (nI v) (b2i b) (if a then (1 : Int32) <<< (nI w &&& 31) else 0) (if b then (1 : Int32) <<< (nI v &&& 31) else 0) (mR A (9 + 1) (A.1 (9 + 0))) := by
    unfold q_X6_gain q_X6_gain_26
    cases a <;> cases b <;> rfl
  have hp : t_X3_placeOf 1 (nI w) A2 = nI (sP s w) := by
    rw [placeOf_C a3 hw]
    show nI (sP (openAll P (prB w v a b) s (pW P)) w) = _
    rw [sP_openAll]
  have ht : sP s w < 6 := h.2.2.1.1 w hw
  rw [e0, q_X6_gain_38, pr_bs (by omega) (by omega), e, obd_of rfl, hail_C a3, obd_of rfl, rain_C a3, obd_of rfl, hp, hasC _ ht, hasC _ ht]
  have hr := hail_rain (P := P) (s := gS P s w v a b) (t := sP s w)
  unfold gW
  revert hr
  show (hailB P (gS P s w v a b) (sP s w) = true → rainB P (gS P s w v a b) (sP s w) = true) → (if b2i (rainB P (gS P s w v a b) (sP s w)) = 0 then q_X6_gain_94 (nI w) (b2i a) (nI v) (b2i b) (b2i (hailB P (gS P s w v a b) (sP s w))) A2 else if b2i (hailB P (gS P s w v a b) (sP s w)) = 0 then q_X6_gain_95 (nI w) (b2i a) (nI v) (b2i b) (b2i (hailB P (gS P s w v a b) (sP s w))) 2 A2 else q_X6_gain_94 (nI w) (b2i a) (nI v) (b2i b) (b2i (hailB P (gS P s w v a b) (sP s w))) A2) = _
  generalize rainB P (gS P s w v a b) (sP s w) = r
  generalize hailB P (gS P s w v a b) (sP s w) = q
  intro hr
  cases r <;> cases q
  · cases a <;> rfl
  · exact absurd (hr rfl) (by decide)
  · cases a <;> rfl
  · cases a <;> rfl
theorem cont_C {P : PL} {A : MM} {s : SC} (h : CS P A 0 s) {w v : Nat} (hw : w < pW P) (hv : v < pW P) (a b : Bool) : ∃ A2, q_X6_isContent (nI w) (b2i a) (nI v) (b2i b) A = some (!decide (gW P s w v a b < gW P s w v (!a) b), A2) ∧ K 10 A A2 := by
  obtain ⟨A2, e, k⟩ := gain_C h hw hv a b
  obtain ⟨A3, e3, k3⟩ := gain_C (CS_K h k (by omega)) hw hv (!a) b
  refine ⟨A3, ?_, k.trans k3⟩
  have e0 : ∀ z M, (if b2i a = 0 then q_X6_isContent_20 (nI w) (b2i a) (nI v) (b2i b) z (nI w) 1 M else q_X6_isContent_20 (nI w) (b2i a) (nI v) (b2i b) z (nI w) 0 M) = q_X6_isContent_20 (nI w) (b2i a) (nI v) (b2i b) z (nI w) (b2i (!a)) M := by
    intro z M
    cases a <;> rfl
  unfold q_X6_isContent
  rw [e, obd_of rfl, e0, q_X6_isContent_20, e3, obd_of rfl]
  by_cases g : gW P s w v a b < gW P s w v (!a) b
  · rw [if_pos g, decide_eq_true g]; rfl
  · rw [if_neg g, decide_eq_false g]; rfl
def asT (i : Nat) : Bool := decide (2 ≤ i)
def bsT (i : Nat) : Bool := decide (i % 2 = 1)
def reB (P : PL) (s : SC) (w v i : Nat) : Bool := !decide (gW P s w v (asT i) (bsT i) < gW P s w v (!asT i) (bsT i)) && !decide (gW P s v w (bsT i) (asT i) < gW P s v w (!bsT i) (asT i))
def reS (P : PL) (s : SC) (w v : Nat) : Nat → Nat × Int32
  | 0 => (0, -9)
  | i + 1 => if reB P s w v i then ((reS P s w v i).1 + 1, if (reS P s w v i).1 = 0 then nI (10 * (i / 2) + i % 2) else (reS P s w v i).2) else reS P s w v i
theorem reS_s {P : PL} {s : SC} {w v : Nat} (i : Nat) : reS P s w v (i + 1) = if reB P s w v i then ((reS P s w v i).1 + 1, if (reS P s w v i).1 = 0 then nI (10 * (i / 2) + i % 2) else (reS P s w v i).2) else reS P s w v i := rfl
theorem reS_le {P : PL} {s : SC} {w v : Nat} : ∀ i, (reS P s w v i).1 ≤ i
  | 0 => Nat.le_refl _
  | i + 1 => by
    have := reS_le (P := P) (s := s) (w := w) (v := v) i
    rw [reS_s]
    split
    · show (reS P s w v i).1 + 1 ≤ i + 1
      omega
    · omega
theorem r10 {i : Nat} (h : i < 4) : ((10 : Int32) * (nI i / (2 : Int32))) + (nI i - nI i / (2 : Int32) * (2 : Int32)) = nI (10 * (i / 2) + i % 2) := by
  rcases (show i = 0 ∨ i = 1 ∨ i = 2 ∨ i = 3 by omega) with rfl | rfl | rfl | rfl <;> decide
theorem rests_C {P : PL} {A : MM} {s : SC} (h : CS P A 0 s) {w v : Nat} (hw : w < pW P) (hv : v < pW P) {c : Nat} (hc : c < 2) : ∃ A2, q_X6_rests_74 (nI w) (nI v) (nI c) FU 0 (-9) 0 A = some (if c = 0 then nI (reS P s w v 4).1 else (reS P s w v 4).2, A2) ∧ K 10 A A2 := by
  refine lpJ (N := 4) (j0 := 0) (b := ((0 : Int32), (-9 : Int32), A)) (fun f j (b : Int32 × Int32 × MM) => q_X6_rests_74 (nI w) (nI v) (nI c) f b.1 b.2.1 (nI j) b.2.2) (fun j b => b.1 = nI (reS P s w v j).1 ∧ b.2.1 = (reS P s w v j).2 ∧ K 10 A b.2.2) (fun r => ∃ A2, r = some (if c = 0 then nI (reS P s w v 4).1 else (reS P s w v 4).2, A2) ∧ K 10 A A2) (by decide) (by decide) ⟨rfl, rfl, K.rfl⟩ ?_ ?_
  · rintro f ⟨x, y, M⟩ ⟨m1, m2, m3⟩
    refine ⟨M, ?_, m3⟩
    show q_X6_rests_74 (nI w) (nI v) (nI c) (f + 1) x y (nI 4) M = _
    rw [q_X6_rests_74, if_pos (by decide), show x = nI (reS P s w v 4).1 from m1, show y = (reS P s w v 4).2 from m2]
    rcases (show c = 0 ∨ c = 1 by omega) with rfl | rfl
    · rw [if_pos nI_0, if_pos rfl]
    · rw [if_neg (by decide), if_neg (by decide)]
  · rintro f i ⟨x, y, M⟩ hi ⟨m1, m2, m3⟩
    right
    have m1 : x = nI (reS P s w v i).1 := m1
    have m2 : y = (reS P s w v i).2 := m2
    have m3 : K 10 A M := m3
    subst m1 m2
    have hl := reS_le (P := P) (s := s) (w := w) (v := v) i
    show ∃ b2 : Int32 × Int32 × MM, _ ∧ q_X6_rests_74 (nI w) (nI v) (nI c) (f + 1) (nI (reS P s w v i).1) (reS P s w v i).2 (nI i) M = q_X6_rests_74 (nI w) (nI v) (nI c) f b2.1 b2.2.1 (nI (i + 1)) b2.2.2
    have e0 : ∀ k : Int32 → Int32 → Int32 → MM → Option (Int32 × MM), ∀ x y, (if nI i < (2 : Int32) then q_X6_rests_91 (nI w) (nI v) (nI c) k x y (nI i) 0 M else q_X6_rests_91 (nI w) (nI v) (nI c) k x y (nI i) 1 M) = q_X6_rests_106 (nI w) (nI v) (nI c) k x y (nI i) (b2i (asT i)) (b2i (bsT i)) M := by
      intro k x y
      unfold q_X6_rests_91
      rcases (show i = 0 ∨ i = 1 ∨ i = 2 ∨ i = 3 by omega) with rfl | rfl | rfl | rfl
      · rw [if_pos (by decide), if_neg (by decide)]; rfl
      · rw [if_pos (by decide), if_pos (by decide)]; rfl
      · rw [if_neg (by decide), if_neg (by decide)]; rfl
      · rw [if_neg (by decide), if_pos (by decide)]; rfl
    rw [q_X6_rests_74, if_neg (show ¬ (4 : Int32) ≤ nI i from nge hi (by decide)), e0, q_X6_rests_106]
    obtain ⟨M2, e2, k2⟩ := cont_C (CS_K h m3 (by omega)) hw hv (asT i) (bsT i)
    obtain ⟨M3, e3, k3⟩ := cont_C (CS_K h (m3.trans k2) (by omega)) hv hw (bsT i) (asT i)
    have hs := reS_s (P := P) (s := s) (w := w) (v := v) i
    unfold reB at hs
    rw [e2, obd_of rfl]
    cases g : (!decide (gW P s w v (asT i) (bsT i) < gW P s w v (!asT i) (bsT i))) with
    | false =>
      rw [g, Bool.false_and, if_neg (by decide)] at hs
      rw [if_pos b2i_f, q_X6_rests_161, nI_1]
      exact ⟨(nI (reS P s w v i).1, (reS P s w v i).2, M2), ⟨by rw [hs], by rw [hs], m3.trans k2⟩, rfl⟩
    | true =>
      rw [g, Bool.true_and] at hs
      rw [if_neg b1n, e3, obd_of rfl]
      cases g2 : (!decide (gW P s v w (bsT i) (asT i) < gW P s v w (!bsT i) (asT i))) with
      | false =>
        rw [g2, if_neg (by decide)] at hs
        rw [if_pos b2i_f, q_X6_rests_161, nI_1]
        exact ⟨(nI (reS P s w v i).1, (reS P s w v i).2, M3), ⟨by rw [hs], by rw [hs], m3.trans (k2.trans k3)⟩, rfl⟩
      | true =>
        rw [g2, if_pos rfl] at hs
        rw [if_neg b1n]
        by_cases c0 : (reS P s w v i).1 = 0
        · rw [if_pos c0] at hs
          rw [c0, if_pos nI_0, r10 hi, q_X6_rests_156, q_X6_rests_161, nI_1, nI_1]
          exact ⟨(nI 1, nI (10 * (i / 2) + i % 2), M3), ⟨by rw [hs, c0], by rw [hs], m3.trans (k2.trans k3)⟩, rfl⟩
        · rw [if_neg c0] at hs
          rw [if_neg (nI_ne0 (by omega) (by omega)), q_X6_rests_156, q_X6_rests_161, nI_1, nI_1]
          exact ⟨(nI ((reS P s w v i).1 + 1), (reS P s w v i).2, M3), ⟨by rw [hs], by rw [hs], m3.trans (k2.trans k3)⟩, rfl⟩
-- the reference
theorem gain_M {P : PL} {M : MM} {s : SC} {w v : Nat} {a b : Bool} (hs : WS P s) (h : DS P M 7 (gS P s w v a b)) {x : Nat} (hx : x < pW P) (c : Bool) : q_X7_gainOf (nI x) (b2i c) M = some (gV (rainB P (gS P s w v a b) (sP s x)) (hailB P (gS P s w v a b) (sP s x)) c, M) := by
  have h5 := h.1.1
  have hp : M.1 7 x = nI (sP s x) := by
    rw [h.2.2.2.1 x hx]
    show nI (sP (openAll P (prB w v a b) s (pW P)) x) = _
    rw [sP_openAll]
  have ht : sP s x < 6 := hs.1 x hx
  unfold q_X7_gainOf
  rw [hail_M h, obd_of rfl, ogd_pos (ib_nI (by omega) (by decide)), ncl (by omega), hp, hasM _ ht, rain_M h, obd_of rfl, ogd_pos (ib_nI (by omega) (by decide)), hp, hasM _ ht]
  generalize rainB P (gS P s w v a b) (sP s x) = r
  generalize hailB P (gS P s w v a b) (sP s x) = q
  cases r <;> cases q <;> cases c <;> rfl
def gIn (P : PL) (s : SC) (w v n : Nat) (M : MM) : Prop := ∀ j, j < n → M.1 14 (2 * j) = gW P s w v (asT j) (bsT j) ∧ M.1 14 (2 * j + 1) = gW P s v w (bsT j) (asT j)
theorem xa : ∀ i, i < 4 → nI i ^^^ (2 : Int32) = nI (i ^^^ 2) ∧ nI i ^^^ (1 : Int32) = nI (i ^^^ 1) ∧ i ^^^ 2 < 4 ∧ i ^^^ 1 < 4 ∧ asT (i ^^^ 2) = !asT i ∧ bsT (i ^^^ 2) = bsT i ∧ asT (i ^^^ 1) = asT i ∧ bsT (i ^^^ 1) = !bsT i := by decide
theorem rests_M2 {P : PL} {B : MM} {s : SC} {w v : Nat} (hg : gIn P s w v 4 B) (x1 x2 : Int32) {c : Nat} (hc : c < 2) : ∃ B2, q_X7_rests_190 x1 x2 (nI c) FU 0 (mU (mU B 0 13 0) 0 14 (-9)) = some (if c = 0 then nI (reS P s w v 4).1 else (reS P s w v 4).2, B2) ∧ kE B B2 := by
  refine lpJ (N := 4) (j0 := 0) (fun f j (M : MM) => q_X7_rests_190 x1 x2 (nI c) f (nI j) M) (fun j M => kE B M ∧ M.1 14 = B.1 14 ∧ M.1 0 13 = nI (reS P s w v j).1 ∧ M.1 0 14 = (reS P s w v j).2) (fun r => ∃ B2, r = some (if c = 0 then nI (reS P s w v 4).1 else (reS P s w v 4).2, B2) ∧ kE B B2) (by decide) (by decide) ?_ ?_ ?_
  · exact ⟨(kE_0 (by omega)).trans (kE_0 (by omega)), by rw [mU_r (by omega), mU_r (by omega)], by rw [mU2 (by omega)]; rfl, by rw [mU_at]; rfl⟩
  · rintro f M ⟨m1, m2, m3, m4⟩
    refine ⟨M, ?_, m1⟩
    show q_X7_rests_190 x1 x2 (nI c) (f + 1) (nI 4) M = _
    rw [q_X7_rests_190, if_pos (by decide), m3, m4]
    rcases (show c = 0 ∨ c = 1 by omega) with rfl | rfl
    · rw [if_pos nI_0, if_pos rfl]
    · rw [if_neg (by decide), if_neg (by decide)]
  · rintro f i M hi ⟨m1, m2, m3, m4⟩
    right
    obtain ⟨y1, y2, y3, y4, y5, y6, y7, y8⟩ := xa i hi
    obtain ⟨g1, g2⟩ := hg i hi
    obtain ⟨g3, g4⟩ := hg (i ^^^ 2) y3
    obtain ⟨g5, g6⟩ := hg (i ^^^ 1) y4
    rw [y5, y6] at g3
    rw [y7, y8] at g6
    have hl := reS_le (P := P) (s := s) (w := w) (v := v) i
    have hs := reS_s (P := P) (s := s) (w := w) (v := v) i
    unfold reB at hs
    have kk : ∀ a b, kE B (mU (mU M 0 14 a) 0 13 b) := fun a b => m1.trans ((kE_0 (by omega)).trans (kE_0 (by omega)))
    have k14 : ∀ a b, (mU (mU M 0 14 a) 0 13 b).1 14 = B.1 14 := fun a b => by rw [mU_r (by omega), mU_r (by omega), m2]
    show ∃ b2 : MM, _ ∧ q_X7_rests_190 x1 x2 (nI c) (f + 1) (nI i) M = q_X7_rests_190 x1 x2 (nI c) f (nI (i + 1)) b2
    rw [q_X7_rests_190, if_neg (show ¬ (4 : Int32) ≤ nI i from nge hi (by decide)), y1, y2, tw2, tw2, tw2, p1, p1, ogd_pos (ib_nI (by omega) (by decide)), ogd_pos (ib_nI (by omega) (by decide)), ogd_pos (ib_nI (by omega) (by decide)), ogd_pos (ib_nI (by omega) (by decide)), ncl (by omega), ncl (by omega), ncl (by omega), ncl (by omega), m2, g1, g3, g2, g6]
    have stay : reS P s w v (i + 1) = reS P s w v i → ∃ b2 : MM, (kE B b2 ∧ b2.1 14 = B.1 14 ∧ b2.1 0 13 = nI (reS P s w v (i + 1)).1 ∧ b2.1 0 14 = (reS P s w v (i + 1)).2) ∧ q_X7_rests_250 x1 x2 (nI c) (q_X7_rests_190 x1 x2 (nI c) f) (nI i) M = q_X7_rests_190 x1 x2 (nI c) f (nI (i + 1)) b2 := by
      intro e
      refine ⟨_, ⟨kk (M.1 0 14) (nI (reS P s w v i).1 + 0), k14 _ _, ?_, ?_⟩, ?_⟩
      · rw [mU_at, e]; exact nI_add _ 0
      · rw [mU2 (by omega), m4, e]
      · rw [q_X7_rests_250, q_X7_rests_251, if_pos rfl, q_X7_rests_281, q_X7_rests_285, if_pos rfl, q_X7_rests_303, mU_0 (by omega), m3, nI_1]
    by_cases q1 : gW P s w v (asT i) (bsT i) < gW P s w v (!asT i) (bsT i)
    · rw [decide_eq_true q1, Bool.not_true, Bool.false_and, if_neg (by decide)] at hs
      rw [if_pos q1]
      exact stay hs
    · rw [decide_eq_false q1, Bool.not_false, Bool.true_and] at hs
      rw [if_neg q1]
      by_cases q2 : gW P s v w (bsT i) (asT i) < gW P s v w (!bsT i) (asT i)
      · rw [decide_eq_true q2, Bool.not_true, if_neg (by decide)] at hs
        rw [if_pos q2]
        exact stay hs
      · rw [decide_eq_false q2, Bool.not_false, if_pos rfl] at hs
        rw [if_neg q2, q_X7_rests_251, if_neg (show ¬ (1 : Int32) = 0 by decide)]
        by_cases c0 : (reS P s w v i).1 = 0
        · rw [if_pos c0] at hs
          refine ⟨_, ⟨kk (nI (10 * (i / 2) + i % 2)) (nI (reS P s w v i).1 + 1), k14 _ _, ?_, ?_⟩, ?_⟩
          · rw [mU_at, hs, nI_1]
          · rw [mU2 (by omega), hs]
          · rw [if_pos (show M.1 0 13 = (0 : Int32) by rw [m3, c0]; rfl), q_X7_rests_285, if_neg (show ¬ (1 : Int32) = 0 by decide), q_X7_rests_303, r10 hi, mU_0 (by omega), m3, nI_1]
        · rw [if_neg c0] at hs
          refine ⟨_, ⟨kk (M.1 0 14) (nI (reS P s w v i).1 + 1), k14 _ _, ?_, ?_⟩, ?_⟩
          · rw [mU_at, hs, nI_1]
          · rw [mU2 (by omega), m4, hs]
          · rw [if_neg (show ¬ M.1 0 13 = (0 : Int32) by rw [m3]; exact nI_ne0 (by omega) (by omega)), q_X7_rests_281, q_X7_rests_285, if_neg (show ¬ (1 : Int32) = 0 by decide), q_X7_rests_303, mU_0 (by omega), m3, nI_1]
theorem rests_M {P : PL} {B : MM} {s : SC} (h : DS P B 6 s) {w v : Nat} (hw : w < pW P) (hv : v < pW P) (ow : sO s w = false) (ov : sO s v = false) {c : Nat} (hc : c < 2) : ∃ B2, q_X7_rests_73 (nI w) (nI v) (nI c) FU 0 B = some (if c = 0 then nI (reS P s w v 4).1 else (reS P s w v 4).2, B2) ∧ kE B B2 := by
  have h5 := h.1.1
  refine lpJ (N := 4) (j0 := 0) (fun f j (M : MM) => q_X7_rests_73 (nI w) (nI v) (nI c) f (nI j) M) (fun j M => kE B M ∧ gIn P s w v j M) (fun r => ∃ B2, r = some (if c = 0 then nI (reS P s w v 4).1 else (reS P s w v 4).2, B2) ∧ kE B B2) (by decide) (by decide) ⟨kE.rfl, fun j hj => absurd hj (by omega)⟩ ?_ ?_
  · rintro f M ⟨m1, m2⟩
    show ∃ B2, q_X7_rests_73 (nI w) (nI v) (nI c) (f + 1) (nI 4) M = _ ∧ _
    rw [q_X7_rests_73, if_pos (by decide)]
    obtain ⟨B2, e, k⟩ := rests_M2 m2 (nI w) (nI v) hc
    exact ⟨B2, e, m1.trans k⟩
  · rintro f i M hi ⟨m1, m2⟩
    right
    obtain ⟨B1, e1, b1, k1⟩ := bg_M (DS_e h m1)
    obtain ⟨B2, e2, b2, k2⟩ := m_all b1 (prB w v (asT i) (bsT i)) (fun t ht hp => by
      unfold prB at hp
      rw [Bool.or_eq_true, Bool.and_eq_true, Bool.and_eq_true, beq_iff_eq, beq_iff_eq] at hp
      rcases hp with ⟨_, rfl⟩ | ⟨_, rfl⟩
      · exact ow
      · exact ov)
    have e0 : ∀ (k : Int32 → MM → Option (Int32 × MM)) (M : MM), (if nI i ≤ (1 : Int32) then q_X7_rests_97 (nI w) (nI v) (nI c) k (nI i) 0 M else q_X7_rests_97 (nI w) (nI v) (nI c) k (nI i) ((1 : Int32) <<< (nI w &&& 31)) M) = obd (q_X7_openAll ((if asT i then (1 : Int32) <<< (nI w &&& 31) else 0) ||| (if bsT i then (1 : Int32) <<< (nI v &&& 31) else 0)) M) (fun _ m => q_X7_rests_137 (nI w) (nI v) (nI c) k (nI i) (nI (2 * i)) (nI w) (b2i (asT i)) m) := by
      intro k M
      unfold q_X7_rests_97 q_X7_rests_112
      rcases (show i = 0 ∨ i = 1 ∨ i = 2 ∨ i = 3 by omega) with rfl | rfl | rfl | rfl
      · rw [if_pos (by decide), if_neg (by decide)]; simp only [if_pos (show nI 0 ≤ (1 : Int32) by decide)]; rfl
      · rw [if_pos (by decide), if_pos (by decide)]; simp only [if_pos (show nI 1 ≤ (1 : Int32) by decide)]; rfl
      · rw [if_neg (by decide), if_neg (by decide)]; simp only [if_neg (show ¬ nI 2 ≤ (1 : Int32) by decide)]; rfl
      · rw [if_neg (by decide), if_pos (by decide)]; simp only [if_neg (show ¬ nI 3 ≤ (1 : Int32) by decide)]; rfl
    have e3 : ∀ (k : Int32 → MM → Option (Int32 × MM)) (M : MM), (if nI i - nI i / (2 : Int32) * (2 : Int32) = (1 : Int32) then q_X7_rests_166 (nI w) (nI v) (nI c) k (nI i) ((2 : Int32) * nI i + 1) (nI v) 1 M else q_X7_rests_166 (nI w) (nI v) (nI c) k (nI i) ((2 : Int32) * nI i + 1) (nI v) 0 M) = q_X7_rests_166 (nI w) (nI v) (nI c) k (nI i) (nI (2 * i + 1)) (nI v) (b2i (bsT i)) M := by
      intro k M
      rcases (show i = 0 ∨ i = 1 ∨ i = 2 ∨ i = 3 by omega) with rfl | rfl | rfl | rfl
      · rw [if_neg (by decide)]; rfl
      · rw [if_pos (by decide)]; rfl
      · rw [if_neg (by decide)]; rfl
      · rw [if_pos (by decide)]; rfl
    show ∃ b2 : MM, _ ∧ q_X7_rests_73 (nI w) (nI v) (nI c) (f + 1) (nI i) M = q_X7_rests_73 (nI w) (nI v) (nI c) f (nI (i + 1)) b2
    have b3 : DS P (mU B2 14 (2 * i) (gW P s w v (asT i) (bsT i))) 7 (gS P s w v (asT i) (bsT i)) := DS_v b2 (by omega) (by omega)
    have hgv : gV (rainB P (gS P s w v (asT i) (bsT i)) (sP s v)) (hailB P (gS P s w v (asT i) (bsT i)) (sP s v)) (bsT i) = gW P s v w (bsT i) (asT i) := by
      unfold gW
      rw [gS_sw]
    rw [q_X7_rests_73, if_neg (show ¬ (4 : Int32) ≤ nI i from nge hi (by decide)), e1, obd_of rfl, e0, pr_bs (by omega) (by omega), e2, obd_of rfl, q_X7_rests_137, gain_M h.2.2.1 b2 hw, obd_of rfl, ogd_pos (ib_nI (by omega) (by decide)), ncl (by omega), e3, show gV (rainB P (gS P s w v (asT i) (bsT i)) (sP s w)) (hailB P (gS P s w v (asT i) (bsT i)) (sP s w)) (asT i) = gW P s w v (asT i) (bsT i) from rfl, q_X7_rests_166, gain_M h.2.2.1 b3 hv, obd_of rfl, ogd_pos (ib_nI (by omega) (by decide)), ncl (by omega), nI_1, hgv]
    refine ⟨_, ⟨m1.trans ((k1.trans k2).e.trans ((kE_r (by omega)).trans (kE_r (by omega)))), fun j hj => ?_⟩, rfl⟩
    have kr : B2.1 14 = M.1 14 := (k1.trans k2).2 14 (by omega)
    by_cases g : j = i
    · subst g
      exact ⟨by rw [mU_nc (by omega), mU_at], by rw [mU_at]⟩
    · obtain ⟨z1, z2⟩ := m2 j (by omega)
      refine ⟨?_, ?_⟩
      · rw [mU_nc (by omega), mU_nc (by omega), kr, z1]
      · rw [mU_nc (by omega), mU_nc (by omega), kr, z2]
theorem o_rests {P : PL} {A B : MM} {s : SC} (h : RN P s A B) (x1 x2 x3 : Int32) : TW A B (q_X6_rests x1 x2 x3 A) (q_X7_rests x1 x2 x3 B) := by
  obtain ⟨h1, h2⟩ := h
  have h3 := z_D h2
  have h5 := h1.1.1
  unfold q_X6_rests q_X7_rests
  rcases cases_n x1 (n := pW P) (by omega) with o | ⟨w, hw, rfl⟩
  · rw [hw_out h1.2.1 o, nw_out h3.2.1.1 h5 o, if_pos b2i_f, if_neg b1n]
    exact TW.q _
  · rw [hw_in h1.2.1 hw h5, nw_in h3.2.1.1 hw h5, if_neg b1n, if_pos b2i_f]
    rcases cases_n x2 (n := pW P) (by omega) with o | ⟨v, hv, rfl⟩
    · rw [hw_out h1.2.1 o, nw_out h3.2.1.1 h5 o, if_pos b2i_f, if_neg b1n]
      exact TW.q _
    · rw [hw_in h1.2.1 hv h5, nw_in h3.2.1.1 hv h5, if_neg b1n, if_pos b2i_f]
      by_cases e : nI w = nI v
      · rw [if_pos e, if_pos e]
        exact TW.q _
      · rw [if_neg e, if_neg e]
        rcases cases_n x3 (n := 2) (by decide) with o | ⟨c, hc, rfl⟩
        · rw [ch_out o, inF 2 (by decide) (by decide) o, if_pos b2i_f, if_pos b2i_f]
          exact TW.q _
        · rw [ch_in hc, inT 2 (by decide) (by decide) hc, if_neg b1n, if_neg b1n, isOpen_C h1 (by omega), isOpen_C h1 (by omega), ogd_pos (by decide), ogd_pos (by decide), c5, h3.2.2.2.2.1, hasM _ (by omega), hasM _ (by omega)]
          cases ow : sO s w with
          | true =>
            rw [if_neg b1n, if_neg b1n]
            exact TW.q _
          | false =>
            rw [if_pos b2i_f, if_pos b2i_f]
            cases ov : sO s v with
            | true =>
              rw [if_neg b1n, if_neg b1n]
              exact TW.q _
            | false =>
              rw [if_pos b2i_f, if_pos b2i_f]
              obtain ⟨A2, q1, k1⟩ := rests_C h1 hw hv hc
              obtain ⟨B2, q2, k2⟩ := rests_M h3 hw hv ow ov hc
              exact TW.of _ ⟨A2, q1, k1⟩ ⟨B2, q2, z_0.trans k2⟩
