-- a judgement, weeks: both together
theorem one64 : (1 : Int64) = (1 : Int32).toInt64 := by decide
theorem inT1 {j : Nat} (n : Nat) {c : Int64} (hc : c = (nI n).toInt64) (hn : n < 2 ^ 31) (h1 : 1 ≤ j) (h : j ≤ n) : t_X7_in (nI j).toInt64 (1 : Int64) c = true := by
  rw [hc, one64]
  refine in_t (fun q => ?_) (fun q => ?_)
  · exact nI_nlt (b := 1) h1 (by omega) (wlt.mp q)
  · exact nI_nlt h (by omega) (wlt.mp q)
theorem inF1 {x : Int32} (n : Nat) {c : Int64} (hc : c = (nI n).toInt64) (hn : n + 1 < 2 ^ 31) (h : x < 1 ∨ nI (n + 1) ≤ x) : t_X7_in x.toInt64 (1 : Int64) c = false := by
  rw [hc, one64]
  rcases h with h | h
  · exact in_f1 (wlt.mpr h)
  · exact in_f2 (wlt.mpr (Int32.lt_of_lt_of_le (nI_lt (show n < n + 1 by omega) hn) h))
theorem o_judge {P : PL} {A B : MM} {s : SC} (h : RN P s A B) (x1 : Int32) (x2 : Int64) : TW A B (q_X6_judge x1 x2 A) (q_X7_judge x1 x2 B) := by
  obtain ⟨h1, h2⟩ := h
  have h3 := z_D h2
  unfold q_X6_judge q_X7_judge
  by_cases lo : x1 < 1
  · rw [if_pos lo, inF1 4 (by decide) (by decide) (Or.inl lo), if_pos b2i_f]
    exact TW.q _
  · rw [if_neg lo]
    by_cases hi : (4 : Int32) < x1
    · have : nI 5 ≤ x1 := by
        have := Int32.lt_iff_toInt_lt.mp hi
        rw [Int32.le_iff_toInt_le, nI_toInt (by decide)]
        rw [show (4 : Int32).toInt = 4 from rfl] at this
        omega
      rw [if_pos hi, inF1 4 (by decide) (by decide) (Or.inr this), if_pos b2i_f]
      exact TW.q _
    · rw [if_neg hi]
      obtain ⟨n, hn, rfl⟩ : ∃ n : Nat, (1 ≤ n ∧ n < 5) ∧ x1 = nI n := by
        rcases cases_n x1 (n := 5) (by decide) with o | ⟨n, hn, rfl⟩
        · rcases o with o | o
          · exact absurd (Int32.lt_trans o (by decide)) lo
          · exact absurd (Int32.lt_of_lt_of_le (show (4 : Int32) < nI 5 by decide) o) hi
        · refine ⟨n, ⟨?_, hn⟩, rfl⟩
          rcases Nat.eq_zero_or_pos n with rfl | q
          · exact absurd (by decide) lo
          · exact q
      have hp := k_pow n (by omega)
      have hp1 : 0 < 1000 ^ n := Nat.pow_pos (by decide)
      rw [inT1 4 (by decide) (by decide) hn.1 (by omega), if_neg b1n, lp_M n (by omega), obd_of rfl]
      by_cases ng : x2 < 0
      · rw [if_pos (lcmp_lt.mpr ng), in_f1 ng, if_pos b2i_f]
        exact TW.q _
      · rw [if_neg (fun q => ng (lcmp_lt.mp q))]
        obtain ⟨m, hm, rfl⟩ := pk_lOf ng
        have e1 : lN (1000 ^ n) - 1 = lN (1000 ^ n - 1) := lN_sub (b := 1) hp1
        have ng' : ¬ lN m < (0 : Int64) := ng
        rw [wl_C m n hm (by omega), obd_of rfl, e1]
        by_cases sm : m < 1000 ^ n
        · have z0 : lN (m / 1000 ^ n) = 0 := by rw [Nat.div_eq_of_lt sm]; rfl
          rw [z0, if_pos (by decide), in_t ng' (fun q => by have := (pk_lLT (by omega) hm).mp q; omega), if_neg b1n]
          obtain ⟨a1, a2⟩ := bg_C h1
          obtain ⟨B1, f, b1, b2⟩ := bg_M h3
          obtain ⟨A2, q1, k1⟩ := ju_C hm (show n < 5 by omega) n 0 FU _ s (by omega) (by show n < 400; omega) a1
          obtain ⟨B2, q2, k2⟩ := ju_M hm (show n < 5 by omega) n 0 FU B1 s (by omega) (by show n < 400; omega) b1
          rw [f, obd_of rfl]
          exact TW.of _ ⟨A2, q1, a2.trans k1⟩ ⟨B2, q2, z_0.trans (b2.trans k2).e⟩
        · have hd : 0 < m / 1000 ^ n := Nat.div_pos (by omega) hp1
          have hd2 : m / 1000 ^ n < 2 ^ 63 := Nat.lt_of_le_of_lt (Nat.div_le_self _ _) hm
          have gt : 0 < lg_cmp (lN (m / 1000 ^ n)) (0 : Int64) := lcmp_gt.mpr ((pk_lLT (a := 0) (by decide) hd2).mpr hd)
          rw [if_neg (fun q => by rw [q] at gt; exact absurd gt (by decide)), in_f2 ((pk_lLT (by omega) hm).mpr (by omega)), if_pos b2i_f]
          exact TW.q _
-- weeks
def nx (v : Int64) : Int64 := v * (6364136223846793005 : Int64) + (1442695040888963407 : Int64)
def rnE (v : Int64) : Int32 := ((v.toUInt64 >>> ((33 : Int32).toInt64.toUInt64 &&& Int64.toUInt64 63)).toInt64 - (v.toUInt64 >>> ((33 : Int32).toInt64.toUInt64 &&& Int64.toUInt64 63)).toInt64 / (24 : Int64) * (24 : Int64)).toInt32
theorem rnE_n (v : Int64) : ∃ r : Nat, r < 24 ∧ rnE v = nI r := rnd_n v
def wkStep (P : PL) (s : SC) (r : Nat) : SC := (if r < 5 then doS P s 1 0 r else if r < 10 then doS P s 2 0 (r - 5) else if r < 15 then doS P s 3 (r - 10) 1 else doS P s 0 0 0).getD s
theorem wk_C (x v2 v3 : Int32) (f : Nat) (M : MM) : q_X6_weeks_29 x (f + 1) v2 v3 M = (if x ≤ v3 then some (v2, M) else obd (q_X6_doByChance (rnE (nx M.2)) (mL M (nx M.2))) (fun _ m => obd (q_X3_rainBits 1 m) (fun z m2 => q_X6_weeks_29 x f (v2 + t_J6_bitCount_0f7a4 z) (v3 + 1) m2))) := rfl
theorem wk_M (x v2 v3 : Int32) (f : Nat) (M : MM) : q_X7_weeks_28 x (f + 1) v2 v3 M = (if x ≤ v3 then some (v2, M) else if (5 : Int32) ≤ rnE (nx M.2) then (if (10 : Int32) ≤ rnE (nx M.2) then (if (15 : Int32) ≤ rnE (nx M.2) then q_X7_weeks_117 x (q_X7_weeks_28 x f) v2 v3 0 (mL M (nx M.2)) else q_X7_weeks_117 x (q_X7_weeks_28 x f) v2 v3 (301 + 10 * (rnE (nx M.2) - 10)) (mL M (nx M.2))) else q_X7_weeks_117 x (q_X7_weeks_28 x f) v2 v3 (195 + rnE (nx M.2)) (mL M (nx M.2))) else q_X7_weeks_117 x (q_X7_weeks_28 x f) v2 v3 (100 + rnE (nx M.2)) (mL M (nx M.2))) := rfl
theorem ch_C {P : PL} {M : MM} {s : SC} (h : CS P M 1 s) {r : Nat} (hr : r < 24) : ∃ M2, q_X6_doByChance (nI r) M = some ((), M2) ∧ CS P M2 1 (wkStep P s r) ∧ K 10 M M2 := by
  have h5 := h.1.1
  unfold q_X6_doByChance wkStep
  by_cases r5 : r < 5
  · rw [if_pos r5, if_neg (show ¬ (5 : Int32) ≤ nI r from nge r5 (by decide))]
    unfold doS
    rw [if_neg (show ¬ (1 : Nat) = 0 by decide), if_pos (rfl : (1 : Nat) = 1)]
    by_cases g : r < pW P ∧ sO s r = false
    · rw [if_pos ⟨rfl, g⟩]
      obtain ⟨M2, e, k1, k2⟩ := c_raise h g.1 g.2
      rw [e, obd_of rfl]
      exact ⟨M2, rfl, k1, k2⟩
    · rw [if_neg (fun q => g q.2), raise_C0 h (by omega) g, obd_of rfl]
      exact ⟨M, rfl, h, K.rfl⟩
  · rw [if_neg r5, if_pos (show (5 : Int32) ≤ nI r from nI_le (a := 5) (by omega) (by omega))]
    by_cases r10 : r < 10
    · rw [if_pos r10, if_neg (show ¬ (10 : Int32) ≤ nI r from nge r10 (by decide)), show nI r - (5 : Int32) = nI (r - 5) from pk_sub (b := 5) (by omega)]
      unfold doS
      rw [if_neg (show ¬ (2 : Nat) = 0 by decide), if_neg (show ¬ (2 : Nat) = 1 by decide), if_pos (rfl : (2 : Nat) = 2)]
      by_cases g : r - 5 < pW P ∧ sO s (r - 5) = true
      · rw [if_pos ⟨rfl, g⟩]
        obtain ⟨M2, e, k1, k2⟩ := c_lower h g.1 g.2
        rw [e, obd_of rfl]
        exact ⟨M2, rfl, k1, k2⟩
      · rw [if_neg (fun q => g q.2), lower_C0 h (by omega) g, obd_of rfl]
        exact ⟨M, rfl, h, K.rfl⟩
    · rw [if_neg r10, if_pos (show (10 : Int32) ≤ nI r from nI_le (a := 10) (by omega) (by omega))]
      by_cases r15 : r < 15
      · rw [if_pos r15, if_neg (show ¬ (15 : Int32) ≤ nI r from nge r15 (by decide)), show nI r - (10 : Int32) = nI (r - 10) from pk_sub (b := 10) (by omega)]
        unfold doS
        rw [if_neg (show ¬ (3 : Nat) = 0 by decide), if_neg (show ¬ (3 : Nat) = 1 by decide), if_neg (show ¬ (3 : Nat) = 2 by decide), if_pos (rfl : (3 : Nat) = 3)]
        have ev := ev_move h (show r - 10 < 10 by omega) 1 (c := 1) rfl (by decide)
        revert ev
        by_cases g : (1 : Nat) < 2 ∧ r - 10 < pW P ∧ (!sO s (r - 10) && t_X6_isStreet (nI (sP s (r - 10)) + dC (nI 1))) = true
        · rw [if_pos g]
          rintro ⟨M2, e, k1, k2⟩
          rw [e, obd_of rfl]
          exact ⟨M2, rfl, k1, k2⟩
        · intro _
          rw [if_neg g]
          have e : q_X3_move 1 (nI (r - 10)) 1 M = some (false, M) := by
            by_cases hw : r - 10 < pW P
            · refine move_C0 h hw 1 ?_
              exact Bool.eq_false_iff.mpr (fun q => g ⟨by decide, hw, q⟩)
            · exact move_C1 h.2.1 (Or.inr (nI_le (by omega) (by omega)))
          rw [e, obd_of rfl]
          exact ⟨M, rfl, h, K.rfl⟩
      · rw [if_neg r15, if_pos (show (15 : Int32) ≤ nI r from nI_le (a := 15) (by omega) (by omega))]
        unfold doS
        rw [if_pos (rfl : (0 : Nat) = 0), if_pos ⟨rfl, rfl⟩]
        obtain ⟨M2, e, k1, k2⟩ := c_hour h
        rw [e, obd_of rfl]
        exact ⟨M2, rfl, k1, k2⟩
theorem ch_M {P : PL} {M : MM} {s : SC} (h : DS P M 7 s) {e : Nat} (he : e < 1000) (s2 : SC) (hs : s2 = (doS P s (e / 100) (e / 10 % 10) (e % 10)).getD s) : ∃ b M2, q_X7_does (nI e) M = some (b, M2) ∧ DS P M2 7 s2 ∧ K 7 M M2 := by
  have ev := ev_M h he
  rw [hs]
  revert ev
  cases doS P s (e / 100) (e / 10 % 10) (e % 10) with
  | none =>
    intro q
    exact ⟨false, M, q, h, K.rfl⟩
  | some s2 =>
    rintro ⟨M2, q, k1, k2⟩
    exact ⟨true, M2, q, k1, k2⟩
def sdN (v : Int64) : Nat → Int64
  | 0 => v
  | n + 1 => nx (sdN v n)
def wkS (P : PL) (s : SC) (v : Int64) : Nat → SC
  | 0 => s
  | n + 1 => wkStep P (wkS P s v n) (rnE (sdN v (n + 1))).toNatClampNeg
def acS (P : PL) (s : SC) (v : Int64) : Nat → Int32
  | 0 => 0
  | n + 1 => acS P s v n + nI (cnt (rainB P (wkS P s v (n + 1))) 6)
theorem CS_L {P : PL} {M : MM} {i : Nat} {s : SC} {v : Int64} (h : CS P M i s) : CS P (mL M v) i s := h
theorem DS_L {P : PL} {M : MM} {p : Nat} {s : SC} {v : Int64} (h : DS P M p s) : DS P (mL M v) p s := h
theorem K_L {r : Nat} {M M2 : MM} {v w : Int64} (h : K r (mL M v) M2) : K r (mL M w) (mL M2 w) := ⟨Eq.refl _, h.2⟩
theorem o_weeks {A B : MM} (h : Rel A B) (x : Int32) : OK2 A B (q_X6_weeks x A) (q_X7_weeks x B) := by
  have h := h.z
  unfold q_X6_weeks q_X7_weeks
  generalize mU B 0 0 0 = B0 at *
  have hR := h
  obtain ⟨P, s, ⟨h1, h2⟩, o1, hp, o2, o3, o4⟩ := h
  by_cases lo : x < 1
  · rw [if_pos lo, inF1 30 (by decide) (by decide) (Or.inl lo), if_pos b2i_f]
    exact OK2.q _ hR
  · rw [if_neg lo]
    by_cases hi : x ≤ (30 : Int32)
    · obtain ⟨n, hn, rfl⟩ : ∃ n : Nat, (1 ≤ n ∧ n < 31) ∧ x = nI n := by
        rcases cases_n x (n := 31) (by decide) with o | ⟨n, hn, rfl⟩
        · rcases o with o | o
          · exact absurd (Int32.lt_trans o (by decide)) lo
          · exact absurd hi (Int32.not_le.mpr (Int32.lt_of_lt_of_le (show (30 : Int32) < nI 31 by decide) o))
        · refine ⟨n, ⟨?_, hn⟩, rfl⟩
          rcases Nat.eq_zero_or_pos n with rfl | q
          · exact absurd (by decide) lo
          · exact q
      rw [if_pos hi, inT1 30 (by decide) (by decide) hn.1 (by omega), if_neg b1n]
      obtain ⟨a1, a2⟩ := bg_C h1
      obtain ⟨B1, f, b1, b2⟩ := bg_M h2
      rw [f, obd_of rfl]
      have hr : ∀ j, ∃ r : Nat, r < 24 ∧ rnE (sdN A.2 (j + 1)) = nI r ∧ wkS P s A.2 (j + 1) = wkStep P (wkS P s A.2 j) r := by
        intro j
        obtain ⟨r, r1, r2⟩ := rnE_n (sdN A.2 (j + 1))
        refine ⟨r, r1, r2, ?_⟩
        show wkStep P (wkS P s A.2 j) (rnE (sdN A.2 (j + 1))).toNatClampNeg = _
        rw [r2, ncl (by omega)]
      have c1 : ∃ A2, q_X6_weeks_29 (nI n) FU 0 0 (mR A (9 + 1) (A.1 (9 + 0))) = some (acS P s A.2 n, A2) ∧ K 10 (mL A (sdN A.2 n)) A2 := by
        refine lpJ (N := n) (j0 := 0) (b := ((0 : Int32), mR A (9 + 1) (A.1 (9 + 0)))) (fun f j (b : Int32 × MM) => q_X6_weeks_29 (nI n) f b.1 (nI j) b.2) (fun j b => b.1 = acS P s A.2 j ∧ CS P b.2 1 (wkS P s A.2 j) ∧ K 10 (mL A (sdN A.2 j)) b.2) (fun r => ∃ A2, r = some (acS P s A.2 n, A2) ∧ K 10 (mL A (sdN A.2 n)) A2) (by omega) (by omega) ⟨rfl, a1, a2⟩ ?_ ?_
        · rintro f ⟨y, M⟩ ⟨m1, m2, m3⟩
          refine ⟨M, ?_, m3⟩
          show q_X6_weeks_29 (nI n) (f + 1) y (nI n) M = _
          rw [wk_C, if_pos (Int32.le_refl _), show y = acS P s A.2 n from m1]
        · rintro f j ⟨y, M⟩ hj ⟨m1, m2, m3⟩
          right
          have m2 : CS P M 1 (wkS P s A.2 j) := m2
          have m3 : K 10 (mL A (sdN A.2 j)) M := m3
          obtain ⟨r, r1, r2, r3⟩ := hr j
          have e1 : nx M.2 = sdN A.2 (j + 1) := by rw [m3.1]; rfl
          obtain ⟨M2, q1, q2, q3⟩ := ch_C (CS_L (v := sdN A.2 (j + 1)) m2) r1
          rw [← r3] at q2
          refine ⟨(acS P s A.2 (j + 1), M2), ⟨rfl, q2, (K_L m3).trans q3⟩, ?_⟩
          show q_X6_weeks_29 (nI n) (f + 1) y (nI j) M = _
          rw [wk_C, if_neg (nge hj (by omega)), e1, r2, q1, obd_of rfl, rain_C q2, obd_of rfl, bitC, nI_1, show y = acS P s A.2 j from m1]
          rfl
      have c2 : ∃ B2, q_X7_weeks_28 (nI n) FU 0 0 B1 = some (acS P s A.2 n, B2) ∧ K 7 (mL B0 (sdN A.2 n)) B2 := by
        refine lpJ (N := n) (j0 := 0) (b := ((0 : Int32), B1)) (fun f j (b : Int32 × MM) => q_X7_weeks_28 (nI n) f b.1 (nI j) b.2) (fun j b => b.1 = acS P s A.2 j ∧ DS P b.2 7 (wkS P s A.2 j) ∧ K 7 (mL B0 (sdN A.2 j)) b.2) (fun r => ∃ A2, r = some (acS P s A.2 n, A2) ∧ K 7 (mL B0 (sdN A.2 n)) A2) (by omega) (by omega) ⟨rfl, b1, ⟨b2.1.trans o4.symm, b2.2⟩⟩ ?_ ?_
        · rintro f ⟨y, M⟩ ⟨m1, m2, m3⟩
          refine ⟨M, ?_, m3⟩
          show q_X7_weeks_28 (nI n) (f + 1) y (nI n) M = _
          rw [wk_M, if_pos (Int32.le_refl _), show y = acS P s A.2 n from m1]
        · rintro f j ⟨y, M⟩ hj ⟨m1, m2, m3⟩
          right
          have m2 : DS P M 7 (wkS P s A.2 j) := m2
          have m3 : K 7 (mL B0 (sdN A.2 j)) M := m3
          obtain ⟨r, r1, r2, r3⟩ := hr j
          have e1 : nx M.2 = sdN A.2 (j + 1) := by rw [m3.1]; rfl
          have fin : ∀ e, e < 1000 → wkS P s A.2 (j + 1) = (doS P (wkS P s A.2 j) (e / 100) (e / 10 % 10) (e % 10)).getD (wkS P s A.2 j) → ∃ b2 : Int32 × MM, (b2.1 = acS P s A.2 (j + 1) ∧ DS P b2.2 7 (wkS P s A.2 (j + 1)) ∧ K 7 (mL B0 (sdN A.2 (j + 1))) b2.2) ∧ q_X7_weeks_117 (nI n) (q_X7_weeks_28 (nI n) f) y (nI j) (nI e) (mL M (sdN A.2 (j + 1))) = q_X7_weeks_28 (nI n) f b2.1 (nI (j + 1)) b2.2 := by
            intro e he hs
            obtain ⟨b, M2, q1, q2, q3⟩ := ch_M (DS_L (v := sdN A.2 (j + 1)) m2) he _ hs
            refine ⟨(acS P s A.2 (j + 1), M2), ⟨rfl, q2, (K_L m3).trans q3⟩, ?_⟩
            rw [q_X7_weeks_117, q1, obd_of rfl, rain_M q2, obd_of rfl, manyM, obd_of rfl, nI_1, show y = acS P s A.2 j from m1]
            rfl
          show ∃ b2 : Int32 × MM, _ ∧ q_X7_weeks_28 (nI n) (f + 1) y (nI j) M = q_X7_weeks_28 (nI n) f b2.1 (nI (j + 1)) b2.2
          rw [wk_M, if_neg (nge hj (by omega)), e1, r2]
          unfold wkStep at r3
          by_cases r5 : r < 5
          · rw [if_pos r5] at r3
            rw [if_neg (show ¬ (5 : Int32) ≤ nI r from nge r5 (by decide)), show (100 : Int32) + nI r = nI (100 + r) from nI_add 100 r]
            refine fin (100 + r) (by omega) ?_
            rw [r3, show (100 + r) / 100 = 1 by omega, show (100 + r) / 10 % 10 = 0 by omega, show (100 + r) % 10 = r by omega]
          · rw [if_neg r5] at r3
            rw [if_pos (show (5 : Int32) ≤ nI r from nI_le (a := 5) (by omega) (by omega))]
            by_cases r10 : r < 10
            · rw [if_pos r10] at r3
              rw [if_neg (show ¬ (10 : Int32) ≤ nI r from nge r10 (by decide)), show (195 : Int32) + nI r = nI (195 + r) from nI_add 195 r]
              refine fin (195 + r) (by omega) ?_
              rw [r3, show (195 + r) / 100 = 2 by omega, show (195 + r) / 10 % 10 = 0 by omega, show (195 + r) % 10 = r - 5 by omega]
            · rw [if_neg r10] at r3
              rw [if_pos (show (10 : Int32) ≤ nI r from nI_le (a := 10) (by omega) (by omega))]
              by_cases r15 : r < 15
              · rw [if_pos r15] at r3
                rw [if_neg (show ¬ (15 : Int32) ≤ nI r from nge r15 (by decide)), show nI r - (10 : Int32) = nI (r - 10) from pk_sub (b := 10) (by omega), show (10 : Int32) * nI (r - 10) = nI (10 * (r - 10)) from pk_mul 10 _, show (301 : Int32) + nI (10 * (r - 10)) = nI (301 + 10 * (r - 10)) from nI_add 301 _]
                refine fin (301 + 10 * (r - 10)) (by omega) ?_
                rw [r3, show (301 + 10 * (r - 10)) / 100 = 3 by omega, show (301 + 10 * (r - 10)) / 10 % 10 = r - 10 by omega, show (301 + 10 * (r - 10)) % 10 = 1 by omega]
              · rw [if_neg r15] at r3
                rw [if_pos (show (15 : Int32) ≤ nI r from nI_le (a := 15) (by omega) (by omega))]
                exact fin 0 (by omega) r3
      obtain ⟨A2, q1, k1⟩ := c1
      obtain ⟨B2, q2, k2⟩ := c2
      rw [q1, q2]
      exact OK2.q _ (Rel_E (A := mL A (sdN A.2 n)) (B := mL B0 (sdN A.2 n)) ⟨P, s, ⟨h1, h2⟩, o1, hp, o2, o3, rfl⟩ k1 k2.e)
    · rw [if_neg hi]
      have : nI 31 ≤ x := by
        have := Int32.lt_iff_toInt_lt.mp (Int32.not_le.mp hi)
        rw [Int32.le_iff_toInt_le, nI_toInt (by decide)]
        rw [show (30 : Int32).toInt = 30 from rfl] at this
        omega
      rw [inF1 30 (by decide) (by decide) (Or.inr this), if_pos b2i_f]
      exact OK2.q _ hR
