-- the relation of the two
def RX (A B : MM) : Prop := ∃ n : Nat, n ≤ 48 ∧ A.1 0 0 = nI n ∧ B.1 0 1 = nI n ∧ ∀ j, j < n → A.1 1 j = B.1 1 j
def RPs (P : PL) (A B : MM) : Prop := ∃ na fi : Nat, na ≤ 14 ∧ fi < 14 ∧ A.1 0 3 = nI fi ∧ A.1 0 4 = nI na ∧ B.1 0 7 = nI na ∧ ∀ j, j < na → ∃ s : SC, WS P s ∧ RP P (A.1 (9 + (2 + (fi + j) % 14))) s ∧ RP P (fun c => B.1 8 (24 * j + c)) s
def RSl (P : PL) (A B : MM) : Prop := ∃ kb : Nat → Bool, A.1 0 5 = bs kb ∧ ∀ k, k < 2 → B.1 10 k = b2i (kb k) ∧ (kb k = true → ∃ s : SC, WS P s ∧ RP P (A.1 (9 + (16 + k))) s ∧ RP P (fun c => B.1 9 (24 * k + c)) s)
def RFe (A B : MM) : Prop := ∃ (nf : Nat) (fr : Nat → Bool), nf ≤ 6 ∧ A.1 0 7 = nI nf ∧ B.1 0 8 = nI nf ∧ A.1 0 6 = bs (fun j => decide (j < nf) && fr j) ∧ ∀ j, j < nf → ∃ t h : Nat, t < 6 ∧ h < 10 ∧ A.1 7 j = nI t ∧ B.1 11 j = nI t ∧ A.1 8 j = nI h ∧ B.1 12 j = nI h ∧ B.1 13 j = b2i (fr j)
def Rel (A B : MM) : Prop := ∃ (P : PL) (s : SC), RN P s A B ∧ RX A B ∧ RPs P A B ∧ RSl P A B ∧ RFe A B ∧ A.2 = B.2
theorem kE.r {M M2 : MM} (k : kE M M2) {q : Nat} (h : q ≠ 0 ∧ q ≠ 4 ∧ q ≠ 5 ∧ q ≠ 7 ∧ q ≠ 14 ∧ q ≠ 15) : M2.1 q = M.1 q := k.2.1 q h.1 h.2.1 h.2.2.1 h.2.2.2.1 h.2.2.2.2.1 h.2.2.2.2.2
theorem RX_E {A B A2 B2 : MM} (k : K 10 A A2) (e : kE B B2) (h : RX A B) : RX A2 B2 := by
  obtain ⟨n, h1, h2, h3, h4⟩ := h
  refine ⟨n, h1, by rw [k.2 0 (by omega)]; exact h2, by rw [e.2.2 1 (by omega)]; exact h3, fun j hj => ?_⟩
  rw [k.2 1 (by omega), e.r (q := 1) (by omega)]; exact h4 j hj
theorem RPs_E {P : PL} {A B A2 B2 : MM} (k : K 10 A A2) (e : kE B B2) (h : RPs P A B) : RPs P A2 B2 := by
  obtain ⟨na, fi, h1, h2, h3, h4, h5, h6⟩ := h
  refine ⟨na, fi, h1, h2, by rw [k.2 0 (by omega)]; exact h3, by rw [k.2 0 (by omega)]; exact h4, by rw [e.2.2 7 (by omega)]; exact h5, fun j hj => ?_⟩
  rw [k.2 _ (show 9 + (2 + (fi + j) % 14) ≠ 10 by omega), e.r (q := 8) (by omega)]; exact h6 j hj
theorem RSl_E {P : PL} {A B A2 B2 : MM} (k : K 10 A A2) (e : kE B B2) (h : RSl P A B) : RSl P A2 B2 := by
  obtain ⟨kb, h1, h2⟩ := h
  refine ⟨kb, by rw [k.2 0 (by omega)]; exact h1, fun j hj => ?_⟩
  rw [k.2 _ (show 9 + (16 + j) ≠ 10 by omega), e.r (q := 9) (by omega), e.r (q := 10) (by omega)]; exact h2 j hj
theorem RFe_E {A B A2 B2 : MM} (k : K 10 A A2) (e : kE B B2) (h : RFe A B) : RFe A2 B2 := by
  obtain ⟨nf, fr, h1, h2, h3, h4, h5⟩ := h
  refine ⟨nf, fr, h1, by rw [k.2 0 (by omega)]; exact h2, by rw [e.2.2 8 (by omega)]; exact h3, by rw [k.2 0 (by omega)]; exact h4, fun j hj => ?_⟩
  rw [k.2 7 (by omega), k.2 8 (by omega), e.r (q := 11) (by omega), e.r (q := 12) (by omega), e.r (q := 13) (by omega)]; exact h5 j hj
theorem Rel_E {A B A2 B2 : MM} (h : Rel A B) (k : K 10 A A2) (e : kE B B2) : Rel A2 B2 := by
  obtain ⟨P, s, ⟨h1, h2⟩, h3, h4, h5, h6, h7⟩ := h
  exact ⟨P, s, ⟨CS_K h1 k (by omega), DS_e h2 e⟩, RX_E k e h3, RPs_E k e h4, RSl_E k e h5, RFe_E k e h6, k.1.trans (h7.trans e.1.symm)⟩
-- what a call must keep
def OK2 (A B : MM) (x y : Option (Int32 × MM)) : Prop := ∃ r A2 B2, x = some (r, A2) ∧ y = some (r, B2) ∧ Rel A2 B2
theorem OK2.tw {A B : MM} {x y : Option (Int32 × MM)} (h : Rel A B) (t : TW A B x y) : OK2 A B x y := by
  obtain ⟨r, A2, B2, e, e2, k, k2⟩ := t
  exact ⟨r, A2, B2, e, e2, Rel_E h k k2⟩
-- what is asked about
theorem placeOf_C2 {P : PL} {M : MM} {i : Nat} {s : SC} (h : CS P M i s) {w : Nat} (hw : w < pW P) : t_X3_placeOf i (nI w) M = nI (sP s w) := placeOf_C h hw
theorem nw_cls {x : Int32} {n k : Nat} (hn : n < 2 ^ 31) (hk : k < n) (h : x < 0 ∨ nI n ≤ x) : x ≠ nI k := by
  rintro rfl
  rcases h with h | h
  · exact nI_pos (by omega) h
  · exact nge hk hn h
theorem o_about {A B : MM} (h : Rel A B) (x : Int32) : TW A B (q_X6_about x A) (q_X7_about x B) := by
  obtain ⟨P, s, ⟨h1, h2⟩, ⟨n, t1, t2, t3, t4⟩, ⟨na, fi, p1, p2, p3, p4, p5, p6⟩, h5, ⟨nf, fr, f1, f2, f3, f4, f5⟩, h7⟩ := h
  have h2 := z_D h2
  unfold q_X6_about q_X7_about
  rcases cases_n x (n := 11) (by decide) with o | ⟨j, hj, rfl⟩
  · simp only [if_neg (show ¬ x = (0 : Int32) from nw_cls (k := 0) (by decide) (by decide) o), if_neg (show ¬ x = (1 : Int32) from nw_cls (k := 1) (by decide) (by decide) o), if_neg (show ¬ x = (2 : Int32) from nw_cls (k := 2) (by decide) (by decide) o), if_neg (show ¬ x = (3 : Int32) from nw_cls (k := 3) (by decide) (by decide) o), if_neg (show ¬ x = (4 : Int32) from nw_cls (k := 4) (by decide) (by decide) o), if_neg (show ¬ x = (5 : Int32) from nw_cls (k := 5) (by decide) (by decide) o), if_neg (show ¬ x = (6 : Int32) from nw_cls (k := 6) (by decide) (by decide) o), if_neg (show ¬ x = (7 : Int32) from nw_cls (k := 7) (by decide) (by decide) o), if_neg (show ¬ x = (8 : Int32) from nw_cls (k := 8) (by decide) (by decide) o), if_neg (show ¬ x = (9 : Int32) from nw_cls (k := 9) (by decide) (by decide) o), if_neg (show ¬ x = (10 : Int32) from nw_cls (k := 10) (by decide) (by decide) o)]
    exact TW.q _
  · rcases (show j = 0 ∨ j = 1 ∨ j = 2 ∨ j = 3 ∨ j = 4 ∨ j = 5 ∨ j = 6 ∨ j = 7 ∨ j = 8 ∨ j = 9 ∨ j = 10 by omega) with rfl | rfl | rfl | rfl | rfl | rfl | rfl | rfl | rfl | rfl | rfl
    · rw [if_pos (by decide), if_pos (by decide)]
      exact TW.of (nI (pW P)) ⟨A, by rw [show t_X2_walkerCount A = A.1 0 1 from rfl, h1.2.1.1], K.rfl⟩ ⟨_, by rw [h2.2.1.1], z_0⟩
    · rw [if_neg (by decide), if_pos (by decide), if_neg (by decide), if_pos (by decide)]
      exact TW.of (nI (pN P)) ⟨A, by rw [show t_X2_needCount A = A.1 0 2 from rfl, h1.2.1.2.1], K.rfl⟩ ⟨_, by rw [h2.2.1.2.1], z_0⟩
    · rw [if_neg (by decide), if_neg (by decide), if_pos (by decide), if_neg (by decide), if_neg (by decide), if_pos (by decide)]
      exact TW.of (sT s) ⟨A, by rw [time_C h1], K.rfl⟩ ⟨_, by rw [ogd_pos (by decide), c23, h2.2.2.2.2.2.2.2.2], z_0⟩
    · rw [if_neg (by decide), if_neg (by decide), if_neg (by decide), if_pos (by decide), if_neg (by decide), if_neg (by decide), if_neg (by decide), if_pos (by decide)]
      exact TW.of (bs (sO s)) ⟨A, by rw [bits_C h1], K.rfl⟩ ⟨_, by rw [ogd_pos (by decide), c5, h2.2.2.2.2.1], z_0⟩
    · rw [if_neg (by decide), if_neg (by decide), if_neg (by decide), if_neg (by decide), if_pos (by decide), if_neg (by decide), if_neg (by decide), if_neg (by decide), if_neg (by decide), if_pos (by decide)]
      exact TW.of (bs (rainB P s)) ⟨A, by rw [rain_C h1, obd_of rfl], K.rfl⟩ ⟨_, by rw [rain_M h2, obd_of rfl], z_0⟩
    · rw [if_neg (by decide), if_neg (by decide), if_neg (by decide), if_neg (by decide), if_neg (by decide), if_pos (by decide), if_neg (by decide), if_neg (by decide), if_neg (by decide), if_neg (by decide), if_neg (by decide), if_pos (by decide)]
      exact TW.of (bs (hailB P s)) ⟨A, by rw [hail_C h1, obd_of rfl], K.rfl⟩ ⟨_, by rw [hail_M h2, obd_of rfl], z_0⟩
    · rw [if_neg (by decide), if_neg (by decide), if_neg (by decide), if_neg (by decide), if_neg (by decide), if_neg (by decide), if_pos (by decide), if_neg (by decide), if_neg (by decide), if_neg (by decide), if_neg (by decide), if_neg (by decide), if_neg (by decide), if_pos (by decide)]
      exact TW.of (bs (needB P s 1)) ⟨A, by rw [L1, needs_C h1 (by decide), obd_of rfl], K.rfl⟩ ⟨_, by rw [L1, needs_M h2 (by decide), obd_of rfl], z_0⟩
    · rw [if_neg (by decide), if_neg (by decide), if_neg (by decide), if_neg (by decide), if_neg (by decide), if_neg (by decide), if_neg (by decide), if_pos (by decide), if_neg (by decide), if_neg (by decide), if_neg (by decide), if_neg (by decide), if_neg (by decide), if_neg (by decide), if_neg (by decide), if_pos (by decide)]
      exact TW.of (bs (needB P s 2)) ⟨A, by rw [L2, needs_C h1 (by decide), obd_of rfl], K.rfl⟩ ⟨_, by rw [L2, needs_M h2 (by decide), obd_of rfl], z_0⟩
    · rw [if_neg (by decide), if_neg (by decide), if_neg (by decide), if_neg (by decide), if_neg (by decide), if_neg (by decide), if_neg (by decide), if_neg (by decide), if_pos (by decide), if_neg (by decide), if_neg (by decide), if_neg (by decide), if_neg (by decide), if_neg (by decide), if_neg (by decide), if_neg (by decide), if_neg (by decide), if_pos (by decide)]
      exact TW.of (nI na) ⟨A, by rw [show t_X1_size A = A.1 0 4 from rfl, p4], K.rfl⟩ ⟨_, by rw [mU_0 (by omega), p5], z_0⟩
    · rw [if_neg (by decide), if_neg (by decide), if_neg (by decide), if_neg (by decide), if_neg (by decide), if_neg (by decide), if_neg (by decide), if_neg (by decide), if_neg (by decide), if_pos (by decide), if_neg (by decide), if_neg (by decide), if_neg (by decide), if_neg (by decide), if_neg (by decide), if_neg (by decide), if_neg (by decide), if_neg (by decide), if_neg (by decide), if_pos (by decide)]
      exact TW.of (nI nf) ⟨A, by rw [show t_X0_size A = A.1 0 7 from rfl, f2], K.rfl⟩ ⟨_, by rw [mU_0 (by omega), f3], z_0⟩
    · rw [if_neg (by decide), if_neg (by decide), if_neg (by decide), if_neg (by decide), if_neg (by decide), if_neg (by decide), if_neg (by decide), if_neg (by decide), if_neg (by decide), if_neg (by decide), if_pos (by decide), if_neg (by decide), if_neg (by decide), if_neg (by decide), if_neg (by decide), if_neg (by decide), if_neg (by decide), if_neg (by decide), if_neg (by decide), if_neg (by decide), if_neg (by decide), if_pos (by decide)]
      exact TW.of (nI n) ⟨A, by rw [show t_X4_length A = A.1 0 0 from rfl, t2], K.rfl⟩ ⟨_, by rw [mU_0 (by omega), t3], z_0⟩
section
variable {P : PL} {A B : MM} {s : SC}
theorem o_walker (h : RN P s A B) (x1 x2 : Int32) : TW A B (some (t_X6_walker x1 x2 A, A)) (q_X7_walker x1 x2 B) := by
  obtain ⟨h1, h2⟩ := h
  have h2 := z_D h2
  have h5 := h1.1.1
  unfold t_X6_walker q_X7_walker
  rcases cases_n x1 (n := pW P) (by omega) with o | ⟨w, hw, rfl⟩
  · rw [hw_out h1.2.1 o, nw_out h2.2.1.1 h5 o, if_pos b2i_f, if_neg b1n]
    exact TW.q _
  · rw [hw_in h1.2.1 hw h5, nw_in h2.2.1.1 hw h5, if_neg b1n, if_pos b2i_f]
    rcases cases_n x2 (n := 3) (by decide) with o | ⟨j, hj, rfl⟩
    · simp only [if_neg (show ¬ x2 = (0 : Int32) from nw_cls (k := 0) (by decide) (by decide) o), if_neg (show ¬ x2 = (1 : Int32) from nw_cls (k := 1) (by decide) (by decide) o), if_neg (show ¬ x2 = (2 : Int32) from nw_cls (k := 2) (by decide) (by decide) o)]
      exact TW.q _
    · rcases (show j = 0 ∨ j = 1 ∨ j = 2 by omega) with rfl | rfl | rfl
      · rw [if_pos (by decide), if_pos (by decide)]
        exact TW.of (nI (sP s w)) ⟨A, by rw [placeOf_C h1 hw], K.rfl⟩ ⟨_, by rw [ogd_pos (ib_nI (by omega) (by decide)), ncl (by omega), h2.2.2.2.1 w hw], z_0⟩
      · rw [if_neg (by decide), if_pos (by decide), if_neg (by decide), if_pos (by decide)]
        exact TW.of (nI (pS P w)) ⟨A, by rw [stuffOf_C h5 h1.2.1 hw], K.rfl⟩ ⟨_, by rw [ogd_pos (ib_nI (by omega) (by decide)), ncl (by omega), h2.2.1.2.2.1 w hw], z_0⟩
      · rw [if_neg (by decide), if_neg (by decide), if_pos (by decide), show (if b2i (t_X3_isOpen 0 (nI w) A) = 0 then (0 : Int32) else 1) = nI (if sO s w then 1 else 0) by rw [isOpen_C h1 (by omega)]; cases sO s w <;> rfl]
        generalize hz : (nI (if sO s w then 1 else 0)) = z
        rw [if_neg (by decide), if_neg (by decide), if_pos (by decide)]
        exact TW.of z ⟨A, rfl, K.rfl⟩ ⟨_, by rw [ogd_pos (by decide), c5, h2.2.2.2.2.1, shb _ (by omega), hz], z_0⟩
theorem hn_in {M : MM} (h : PC P M) {k : Nat} (hk : k < pN P) (h5 : pN P ≤ 5) : t_X2_hasNeed (nI k) M = true := by
  unfold t_X2_hasNeed
  rw [if_neg (nI_pos (by omega)), h.2.1, if_neg (nge hk (by omega))]
theorem hn_out {M : MM} (h : PC P M) {x : Int32} (hx : x < 0 ∨ nI (pN P) ≤ x) : t_X2_hasNeed x M = false := by
  unfold t_X2_hasNeed
  rcases hx with hx | hx
  · rw [if_pos hx]
  · rw [h.2.1, if_pos hx]
    split <;> rfl
theorem o_need (h : RN P s A B) (x1 x2 : Int32) : TW A B (some (t_X6_need x1 x2 A, A)) (q_X7_need x1 x2 B) := by
  obtain ⟨h1, h2⟩ := h
  have h2 := z_D h2
  have h5 := h1.1.2.1
  unfold t_X6_need q_X7_need
  rw [h2.2.1.2.1]
  rcases cases_n x1 (n := pN P) (by omega) with o | ⟨k, hk, rfl⟩
  · rw [hn_out h1.2.1 o, in_out (by omega) o, if_pos b2i_f, if_pos b2i_f]
    exact TW.q _
  · rw [hn_in h1.2.1 hk h5, in_nI hk (by omega), if_neg b1n, if_neg b1n]
    obtain ⟨n1, n2, n3⟩ := need_C h1.1 h1.2.1 hk
    obtain ⟨d1, d2, d3⟩ := h2.2.1.2.2.2 k hk
    rcases cases_n x2 (n := 3) (by decide) with o | ⟨j, hj, rfl⟩
    · rw [inF 3 (by decide) (by decide) o, if_pos b2i_f]
      simp only [if_neg (show ¬ x2 = (0 : Int32) from nw_cls (k := 0) (by decide) (by decide) o), if_neg (show ¬ x2 = (1 : Int32) from nw_cls (k := 1) (by decide) (by decide) o), if_neg (show ¬ x2 = (2 : Int32) from nw_cls (k := 2) (by decide) (by decide) o)]
      by_cases e : x2 = 3
      · rw [if_pos e, if_pos e]
        refine TW.of (nI (sF s k)) ⟨A, by rw [fateOf_C h1 (by omega)], K.rfl⟩ ⟨_, ?_, z_0⟩
        rw [a18, ogd_pos (ib_nI (by omega) (by decide)), ncl (by omega), h2.2.2.2.2.2.2.2.1 k (by omega)]
      · rw [if_neg e, if_neg e]
        exact TW.q _
    · rw [inT 3 (by decide) (by decide) hj, if_neg b1n]
      rcases (show j = 0 ∨ j = 1 ∨ j = 2 by omega) with rfl | rfl | rfl
      · rw [if_pos (by decide), n1, m3, nI_add, ogd_pos (ib_nI (by omega) (by decide)), ncl (by omega)]
        exact TW.of (nI (pR P k)) ⟨A, rfl, K.rfl⟩ ⟨_, by rw [Nat.add_zero, d1], z_0⟩
      · rw [if_neg (by decide), if_pos (by decide), n2, m3, nI_add, ogd_pos (ib_nI (by omega) (by decide)), ncl (by omega)]
        exact TW.of (nI (pT P k)) ⟨A, rfl, K.rfl⟩ ⟨_, by rw [d2], z_0⟩
      · rw [if_neg (by decide), if_neg (by decide), if_pos (by decide), n3, m3, nI_add, ogd_pos (ib_nI (by omega) (by decide)), ncl (by omega)]
        exact TW.of (nI (pH P k)) ⟨A, rfl, K.rfl⟩ ⟨_, by rw [d3], z_0⟩
theorem o_street (h : RN P s A B) (x1 x2 : Int32) : TW A B (q_X6_street x1 x2 A) (q_X7_street x1 x2 B) := by
  obtain ⟨h1, h2⟩ := h
  have h2 := z_D h2
  unfold q_X6_street q_X7_street
  rcases cases_n x1 (n := 6) (by decide) with o | ⟨t, ht, rfl⟩
  · rw [is_out o, ns_out o, if_pos b2i_f, if_neg b1n]
    exact TW.q _
  · rw [is_in ht, ns_in ht, if_neg b1n, if_pos b2i_f]
    rcases cases_n x2 (n := 3) (by decide) with o | ⟨j, hj, rfl⟩
    · simp only [if_neg (show ¬ x2 = (0 : Int32) from nw_cls (k := 0) (by decide) (by decide) o), if_neg (show ¬ x2 = (1 : Int32) from nw_cls (k := 1) (by decide) (by decide) o), if_neg (show ¬ x2 = (2 : Int32) from nw_cls (k := 2) (by decide) (by decide) o)]
      exact TW.q _
    · rcases (show j = 0 ∨ j = 1 ∨ j = 2 by omega) with rfl | rfl | rfl
      · rw [if_pos (by decide), if_pos (by decide)]
        exact TW.of (sE s t) ⟨A, by rw [wetOf_C h1 ht], K.rfl⟩ ⟨_, by rw [a12, ogd_pos (ib_nI (by omega) (by decide)), ncl (by omega), h2.2.2.2.2.2.2.1 t ht], z_0⟩
      · rw [if_neg (by decide), if_pos (by decide), if_neg (by decide), if_pos (by decide)]
        exact TW.of (nI (sL s t)) ⟨A, by rw [lastsOf_C h1 ht], K.rfl⟩ ⟨_, by rw [a6, ogd_pos (ib_nI (by omega) (by decide)), ncl (by omega), h2.2.2.2.2.2.1 t ht], z_0⟩
      · rw [if_neg (by decide), if_neg (by decide), if_pos (by decide), if_neg (by decide), if_neg (by decide), if_pos (by decide)]
        exact TW.of (nI (cnt (atB s t) (pW P))) ⟨A, by rw [openIn_C h1 ht, obd_of rfl], K.rfl⟩ ⟨_, by rw [openIn_M h2 ht, obd_of rfl], z_0⟩
end
