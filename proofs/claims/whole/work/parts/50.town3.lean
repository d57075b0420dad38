-- a new town in the reference
theorem nar0 : vp_nar .boolean (0 : Int32) = 0 := by decide
theorem t102 {N : Nat} (hN : N ≤ 5) {W : Int32} (M : MM) (h3 : M.1 0 3 = W) (h4 : M.1 0 4 = nI N) : ∃ B2, q_X7_town_102 FU 0 M = some ((10 : Int32) * W + nI N, B2) ∧ B2.2 = M.2 ∧ (∀ q, q ≠ 0 → q ≠ 3 → q ≠ 10 → B2.1 q = M.1 q) ∧ (∀ c, c ≠ 7 → B2.1 0 c = M.1 0 c) ∧ B2.1 0 7 = 0 ∧ (∀ k, k < 2 → B2.1 10 k = 0) ∧ ∀ j, j < 3 * N → B2.1 3 j = M.1 5 j := by
  refine lpJ (N := 3 * N) (j0 := 0) (fun f j (X : MM) => q_X7_town_102 f (nI j) X) (fun j X => X.2 = M.2 ∧ (∀ q, q ≠ 3 → X.1 q = M.1 q) ∧ ∀ i, i < j → X.1 3 i = M.1 5 i) (fun r => ∃ B2, r = some ((10 : Int32) * W + nI N, B2) ∧ B2.2 = M.2 ∧ (∀ q, q ≠ 0 → q ≠ 3 → q ≠ 10 → B2.1 q = M.1 q) ∧ (∀ c, c ≠ 7 → B2.1 0 c = M.1 0 c) ∧ B2.1 0 7 = 0 ∧ (∀ k, k < 2 → B2.1 10 k = 0) ∧ ∀ j, j < 3 * N → B2.1 3 j = M.1 5 j) (by omega) (Nat.zero_le _) ⟨rfl, fun _ _ => rfl, fun i hi => absurd hi (by omega)⟩ ?_ ?_
  · rintro f X ⟨m1, m2, m3⟩
    have e0 : X.1 0 = M.1 0 := m2 0 (by omega)
    refine ⟨mU (mU (mU X 0 7 0) 10 0 0) 10 1 0, ?_, m1, fun q a b c => ?_, fun c hc => ?_, ?_, fun k hk => ?_, fun j hj => ?_⟩
    · show q_X7_town_102 (f + 1) (nI (3 * N)) X = _
      have e1 : (mU (mU (mU X 0 7 0) 10 0 0) 10 1 0).1 0 3 = W := by rw [mU_r (by omega), mU_r (by omega), mU_0 (by omega), e0, h3]
      have e2 : (mU (mU (mU X 0 7 0) 10 0 0) 10 1 0).1 0 4 = nI N := by rw [mU_r (by omega), mU_r (by omega), mU_0 (by omega), e0, h4]
      have c1 : (1 : Int32).toNatClampNeg = 1 := rfl
      have c0 : (0 : Int32).toNatClampNeg = 0 := rfl
      rw [q_X7_town_102, e0, h4, show (3 : Int32) * nI N = nI (3 * N) from pk_mul 3 N, if_pos (Int32.le_refl _), ogd_pos (by decide), ogd_pos (by decide), nar0, c0, c1, e1, e2]
    · rw [mU_r c, mU_r c, mU_r a]
      exact m2 q b
    · rw [mU_r (by omega), mU_r (by omega), mU_0 hc, e0]
    · rw [mU_r (by omega), mU_r (by omega), mU_at]
    · rcases (show k = 0 ∨ k = 1 by omega) with rfl | rfl
      · rw [mU_nc (by omega), mU_at]
      · rw [mU_at]
    · rw [mU_r (by omega), mU_r (by omega), mU_r (by omega)]
      exact m3 j hj
  · rintro f j X hj ⟨m1, m2, m3⟩
    right
    have e0 : X.1 0 = M.1 0 := m2 0 (by omega)
    refine ⟨mU X 3 j (X.1 5 j), ⟨m1, fun q hq => by rw [mU_r hq]; exact m2 q hq, fun i hi => ?_⟩, ?_⟩
    · by_cases e : i = j
      · subst e
        rw [mU_at, m2 5 (by omega)]
      · rw [mU_nc e]
        exact m3 i (by omega)
    · show q_X7_town_102 (f + 1) (nI j) X = _
      rw [q_X7_town_102, e0, h4, show (3 : Int32) * nI N = nI (3 * N) from pk_mul 3 N, if_neg (nge hj (by omega)), ogd_pos (ib_nI (by omega) (by decide)), ogd_pos (ib_nI (by omega) (by decide)), ncl (by omega), nI_1]
theorem t56 {W : Nat} (hW : W ≤ 5) (M : MM) (h3 : M.1 0 3 = nI W) : ∃ M2, q_X7_town_56 FU 0 M = q_X7_town_102 FU 0 M2 ∧ M2.2 = M.2 ∧ (∀ q, q ≠ 2 → q ≠ 6 → M2.1 q = M.1 q) ∧ (∀ w, w < W → M2.1 6 w = M.1 4 (2 * w) ∧ M2.1 2 w = M.1 4 (2 * w + 1)) ∧ ∀ c, 5 ≤ c → M2.1 6 c = M.1 6 c := by
  refine lpJ (N := W) (j0 := 0) (fun f j (X : MM) => q_X7_town_56 f (nI j) X) (fun j X => X.2 = M.2 ∧ (∀ q, q ≠ 2 → q ≠ 6 → X.1 q = M.1 q) ∧ (∀ w, w < j → X.1 6 w = M.1 4 (2 * w) ∧ X.1 2 w = M.1 4 (2 * w + 1)) ∧ ∀ c, 5 ≤ c → X.1 6 c = M.1 6 c) (fun r => ∃ M2, r = q_X7_town_102 FU 0 M2 ∧ M2.2 = M.2 ∧ (∀ q, q ≠ 2 → q ≠ 6 → M2.1 q = M.1 q) ∧ (∀ w, w < W → M2.1 6 w = M.1 4 (2 * w) ∧ M2.1 2 w = M.1 4 (2 * w + 1)) ∧ ∀ c, 5 ≤ c → M2.1 6 c = M.1 6 c) (by omega) (Nat.zero_le _) ⟨rfl, fun _ _ _ => rfl, fun i hi => absurd hi (by omega), fun _ _ => rfl⟩ ?_ ?_
  · rintro f X ⟨m1, m2, m3, m4⟩
    refine ⟨X, ?_, m1, m2, m3, m4⟩
    show q_X7_town_56 (f + 1) (nI W) X = _
    rw [q_X7_town_56, m2 0 (by omega) (by omega), h3, if_pos (Int32.le_refl _)]
  · rintro f j X hj ⟨m1, m2, m3, m4⟩
    right
    have e4 : X.1 4 = M.1 4 := m2 4 (by omega) (by omega)
    refine ⟨mU (mU X 6 j (M.1 4 (2 * j))) 2 j (M.1 4 (2 * j + 1)), ⟨m1, fun q a b => by rw [mU_r a, mU_r b]; exact m2 q a b, fun w hw => ?_, fun c hc => ?_⟩, ?_⟩
    · by_cases e : w = j
      · subst e
        rw [mU_r (by omega), mU_at, mU_at]
        exact ⟨rfl, rfl⟩
      · rw [mU_r (M := mU X 6 _ _) (q := 6) (by omega), mU_nc e, mU_nc e, mU_r (by omega)]
        exact m3 w (by omega)
    · rw [mU_r (by omega), mU_nc (by omega)]
      exact m4 c hc
    · show q_X7_town_56 (f + 1) (nI j) X = _
      rw [q_X7_town_56, m2 0 (by omega) (by omega), h3, if_neg (nge hj (by omega)), tw2, p1, ogd_pos (ib_nI (by omega) (by decide)), ogd_pos (ib_nI (by omega) (by decide)), ogd_pos (ib_nI (by omega) (by decide)), ogd_pos (ib_nI (by omega) (by decide)), ncl (by omega), ncl (by omega), ncl (by omega), mU_r (M := X) (by omega), e4, nI_1]
theorem t35 (M : MM) : ∃ M2, q_X7_town_35 FU 0 M = q_X7_town_56 FU 0 M2 ∧ M2.2 = M.2 ∧ (∀ q, q ≠ 6 → M2.1 q = M.1 q) ∧ ∀ c, c < 24 → M2.1 6 c = 0 := by
  refine lpJ (N := 24) (j0 := 0) (fun f j (X : MM) => q_X7_town_35 f (nI j) X) (fun j X => X.2 = M.2 ∧ (∀ q, q ≠ 6 → X.1 q = M.1 q) ∧ ∀ c, c < j → X.1 6 c = 0) (fun r => ∃ M2, r = q_X7_town_56 FU 0 M2 ∧ M2.2 = M.2 ∧ (∀ q, q ≠ 6 → M2.1 q = M.1 q) ∧ ∀ c, c < 24 → M2.1 6 c = 0) (by omega) (Nat.zero_le _) ⟨rfl, fun _ _ => rfl, fun i hi => absurd hi (by omega)⟩ ?_ ?_
  · rintro f X ⟨m1, m2, m3⟩
    refine ⟨X, ?_, m1, m2, m3⟩
    show q_X7_town_35 (f + 1) (nI 24) X = _
    rw [q_X7_town_35, if_pos (by decide)]
  · rintro f j X hj ⟨m1, m2, m3⟩
    right
    refine ⟨mU X 6 j 0, ⟨m1, fun q a => by rw [mU_r a]; exact m2 q a, fun c hc => ?_⟩, ?_⟩
    · by_cases e : c = j
      · subst e
        rw [mU_at]
      · rw [mU_nc e]
        exact m3 c (by omega)
    · show q_X7_town_35 (f + 1) (nI j) X = _
      rw [q_X7_town_35, if_neg (show ¬ (24 : Int32) ≤ nI j from nge hj (by decide)), ogd_pos (ib_nI (by omega) (by decide)), ncl (by omega), nI_1]
theorem paR_WT (b : Nat → Int32) (n : Nat) : WT (paR b n).2 := by
  unfold paR
  split
  · exact WT_0
  · split
    · exact prs_WT _ _ _ WT_0
    · exact WT_0
theorem read_C {A : MM} {b : Nat → Int32} {n : Nat} (h : TA A b n) (hr : (paR b n).1 = -9) : ∃ A2, q_X2_readFrom A = some ((), A2) ∧ KC A A2 ∧ DC A2 (paR b n).2 := by
  have h48 := h.1
  unfold paR at hr ⊢
  by_cases n0 : n = 0
  · rw [if_pos n0] at hr
    exact absurd hr (by decide)
  · rw [if_neg n0] at hr ⊢
    by_cases u : b 0 = 85
    · rw [if_pos u] at hr ⊢
      have k1 : KC A (mU (mU A 0 1 0) 0 2 0) := (KC_0 (by omega)).trans (KC_0 (by omega))
      obtain ⟨A2, e, k2, d2⟩ := rf_C 50 1 ts0 FU (mU (mU A 0 1 0) 0 2 0) (TA_k h k1) ⟨by rw [mU_0 (by omega), mU_at]; rfl, by rw [mU_at]; rfl, fun w hw => absurd hw (by show ¬ w < 0; omega), fun k hk => absurd hk (by show ¬ k < 0; omega)⟩ (by omega) (by omega) (by show n < 1 + 400; omega) WT_0 hr
      exact ⟨A2, e, k1.trans k2, d2⟩
    · rw [if_neg u] at hr
      exact absurd hr (by decide)
theorem o_town {A B : MM} (h : Rel A B) : OK2 A B (q_X6_town A) (q_X7_town B) := by
  have h := h.z
  unfold q_X6_town q_X7_town
  generalize mU B 0 0 0 = B0 at *
  have hR := h
  obtain ⟨P, s, ⟨h1, h2⟩, ⟨n, t1, t2, t3, t4⟩, ⟨na, fi, p1, p2, p3, p4, p5, p6⟩, o2, ⟨nf, fr, f1, f2, f3, f4, f5⟩, o4⟩ := h
  have hA : TA A (A.1 1) n := ⟨t1, t2, fun j _ => rfl⟩
  have hB : TB B0 (A.1 1) n := ⟨t1, t3, fun j hj => (t4 j hj).symm⟩
  obtain ⟨M, e, k, dt⟩ := fault_M hB
  have hW := paR_WT (A.1 1) n
  rw [fault_C hA, obd_of rfl, e, obd_of rfl]
  by_cases ok : (paR (A.1 1) n).1 = -9
  · have dt := dt ok
    obtain ⟨A2, q1, k1, d1⟩ := read_C hA ok
    obtain ⟨f, q2, r2⟩ := begin_C hW d1
    revert hW dt d1 r2
    generalize (paR (A.1 1) n).2 = st
    intro hW dt d1 r2
    have w5 := hW.1.1
    have n5 := hW.1.2.1
    rw [if_pos ok, if_pos ok, q1, obd_of rfl, q2, obd_of rfl]
    have hN3 : (mU (mU M 0 3 (M.1 0 5)) 0 4 ((mU M 0 3 (M.1 0 5)).1 0 6)).1 0 3 = nI (pW st.2) := by rw [mU_0 (by omega), mU_at, dt.1]
    have hN4 : (mU (mU M 0 3 (M.1 0 5)) 0 4 ((mU M 0 3 (M.1 0 5)).1 0 6)).1 0 4 = nI (pN st.2) := by rw [mU_at, mU_0 (by omega), dt.2.1]
    have hNr : ∀ q, q ≠ 0 → (mU (mU M 0 3 (M.1 0 5)) 0 4 ((mU M 0 3 (M.1 0 5)).1 0 6)).1 q = M.1 q := fun q hq => by rw [mU_r hq, mU_r hq]
    have hNc : ∀ c, c ≠ 3 → c ≠ 4 → (mU (mU M 0 3 (M.1 0 5)) 0 4 ((mU M 0 3 (M.1 0 5)).1 0 6)).1 0 c = M.1 0 c := fun c a b => by rw [mU_0 b, mU_0 a]
    have hN2 : (mU (mU M 0 3 (M.1 0 5)) 0 4 ((mU M 0 3 (M.1 0 5)).1 0 6)).2 = M.2 := rfl
    revert hN3 hN4 hNr hNc hN2
    generalize mU (mU M 0 3 (M.1 0 5)) 0 4 ((mU M 0 3 (M.1 0 5)).1 0 6) = Nn
    intro hN3 hN4 hNr hNc hN2
    obtain ⟨M1, a1, a2, a3, a4⟩ := t35 Nn
    obtain ⟨M2, b1, b2, b3, b4, b5⟩ := t56 w5 M1 (by rw [a3 0 (by omega)]; exact hN3)
    obtain ⟨M3, c1, c2, c3, c4, c5, c6, c7⟩ := t102 n5 M2 (W := nI (pW st.2)) (by rw [b3 0 (by omega) (by omega), a3 0 (by omega)]; exact hN3) (by rw [b3 0 (by omega) (by omega), a3 0 (by omega)]; exact hN4)
    rw [a1, b1, c1]
    show OK2 A B (some ((10 : Int32) * (mU (mU (mR A2 (9 + 0) f) 0 4 0) 0 5 0).1 0 1 + (mU (mU (mR A2 (9 + 0) f) 0 4 0) 0 5 0).1 0 2, mU (mU (mR A2 (9 + 0) f) 0 4 0) 0 5 0)) _
    have x1 : (mU (mU (mR A2 (9 + 0) f) 0 4 0) 0 5 0).1 0 1 = nI (pW st.2) := by rw [mU_0 (by omega), mU_0 (by omega), mR_ne _ _ (by omega), d1.1]
    have x2 : (mU (mU (mR A2 (9 + 0) f) 0 4 0) 0 5 0).1 0 2 = nI (pN st.2) := by rw [mU_0 (by omega), mU_0 (by omega), mR_ne _ _ (by omega), d1.2.1]
    have xr : ∀ q, q ≠ 0 → q ≠ 9 + 0 → (mU (mU (mR A2 (9 + 0) f) 0 4 0) 0 5 0).1 q = A2.1 q := fun q a b => by rw [mU_r a, mU_r a, mR_ne _ _ b]
    have xc : ∀ c, c ≠ 4 → c ≠ 5 → (mU (mU (mR A2 (9 + 0) f) 0 4 0) 0 5 0).1 0 c = A2.1 0 c := fun c a b => by rw [mU_0 b, mU_0 a, mR_ne _ _ (by omega)]
    have y0 : ∀ c, c ≠ 7 → c ≠ 3 → c ≠ 4 → M3.1 0 c = M.1 0 c := fun c a b d => by rw [c4 c a, b3 0 (by omega) (by omega), a3 0 (by omega), hNc c b d]
    have y3 : M3.1 0 3 = nI (pW st.2) := by rw [c4 3 (by omega), b3 0 (by omega) (by omega), a3 0 (by omega), hN3]
    have y4 : M3.1 0 4 = nI (pN st.2) := by rw [c4 4 (by omega), b3 0 (by omega) (by omega), a3 0 (by omega), hN4]
    have yr : ∀ q, q ≠ 0 → q ≠ 2 → q ≠ 3 → q ≠ 6 → q ≠ 10 → M3.1 q = M.1 q := fun q z1 z2 z3 z4 z5 => by rw [c3 q z1 z3 z5, b3 q z2 z4, a3 q z4, hNr q z1]
    have m4 : M1.1 4 = M.1 4 := by rw [a3 4 (by omega), hNr 4 (by omega)]
    have m5 : M2.1 5 = M.1 5 := by rw [b3 5 (by omega) (by omega), a3 5 (by omega), hNr 5 (by omega)]
    have y6 : M3.1 6 = M2.1 6 := c3 6 (by omega) (by omega) (by omega)
    have yz : ∀ c, 5 ≤ c → c < 24 → M3.1 6 c = 0 := fun c z1 z2 => by rw [y6, b5 c z1, a4 c z2]
    rw [x1, x2]
    refine OK2.q _ ⟨st.2, s0 st.1, ⟨⟨hW.1, ⟨x1, x2, fun w hw => ?_, fun j hj => ?_⟩, WS_0 hW, ?_⟩, ⟨hW.1, ⟨y3, y4, fun w hw => ?_, fun j hj => ?_⟩, WS_0 hW, fun w hw => ?_, ?_, fun t ht => ?_, fun t ht => ?_, fun j hj => ?_, ?_⟩⟩, ⟨n, t1, ?_, ?_, fun j hj => ?_⟩, ⟨0, fi, by omega, p2, ?_, ?_, c5, fun j hj => absurd hj (by omega)⟩, ⟨nB, mU_at, fun j hj => ⟨c6 j hj, fun q => absurd (show false = true from q) (by decide)⟩⟩, ⟨nf, fr, f1, ?_, ?_, ?_, fun j hj => ?_⟩, ?_⟩
    · rw [xr 3 (by omega) (by omega)]; exact (d1.2.2.1 w hw).2
    · rw [xr 4 (by omega) (by omega), xr 5 (by omega) (by omega), xr 6 (by omega) (by omega)]; exact d1.2.2.2 j hj
    · rw [mU_r (by omega), mU_r (by omega), mR_at]; exact r2
    · rw [c3 2 (by omega) (by omega) (by omega), (b4 w hw).2, m4]; exact (dt.2.2.1 w hw).2
    · rw [c7 _ (by omega), c7 _ (by omega), c7 _ (by omega), m5]; exact dt.2.2.2 j hj
    · rw [y6, (b4 w hw).1, m4]; exact (dt.2.2.1 w hw).1
    · rw [yz 5 (by omega) (by omega)]; rfl
    · rw [yz _ (by omega) (by omega)]; rfl
    · rw [yz _ (by omega) (by omega)]; rfl
    · rw [yz _ (by omega) (by omega)]; rfl
    · rw [yz 23 (by omega) (by omega)]; rfl
    · rw [xc 0 (by omega) (by omega), k1.2.2 0 (by omega) (by omega)]; exact t2
    · rw [y0 1 (by omega) (by omega) (by omega), k.2.2 1 (by omega)]; exact t3
    · rw [xr 1 (by omega) (by omega), k1.2.1 1 (by omega), yr 1 (by omega) (by omega) (by omega) (by omega) (by omega), k.r (q := 1) (by omega)]; exact t4 j hj
    · rw [xc 3 (by omega) (by omega), k1.2.2 3 (by omega) (by omega)]; exact p3
    · rw [mU_0 (by omega), mU_at]; rfl
    · rw [xc 7 (by omega) (by omega), k1.2.2 7 (by omega) (by omega)]; exact f2
    · rw [y0 8 (by omega) (by omega) (by omega), k.2.2 8 (by omega)]; exact f3
    · rw [xc 6 (by omega) (by omega), k1.2.2 6 (by omega) (by omega)]; exact f4
    · rw [xr 7 (by omega) (by omega), k1.2.1 7 (by omega), xr 8 (by omega) (by omega), k1.2.1 8 (by omega), yr 11 (by omega) (by omega) (by omega) (by omega) (by omega), k.r (q := 11) (by omega), yr 12 (by omega) (by omega) (by omega) (by omega) (by omega), k.r (q := 12) (by omega), yr 13 (by omega) (by omega) (by omega) (by omega) (by omega), k.r (q := 13) (by omega)]; exact f5 j hj
    · exact k1.1.trans (o4.trans (k.1.symm.trans (hN2.symm.trans (a2.symm.trans (b2.symm.trans c2.symm)))))
  · rw [if_neg ok, if_neg ok]
    exact OK2.q _ (Rel_E hR K.rfl k)
