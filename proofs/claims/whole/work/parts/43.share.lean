-- a share
def fcN : Nat → Nat
  | 0 => 1
  | n + 1 => (n + 1) * fcN n
theorem od_C {c : Nat} (hc : c < 7) (M : MM) : q_X6_ordersOf (nI c) M = some (nI (fcN c), M) := by
  unfold q_X6_ordersOf
  by_cases c0 : c = 0
  · subst c0
    show q_X6_ordersOf_4 (nI 0) (399 + 1) 1 2 M = _
    rw [q_X6_ordersOf_4, if_pos (by decide)]
    rfl
  · refine lp c (fun f j => q_X6_ordersOf_4 (nI c) f (nI (fcN j)) (nI (j + 1)) M) _ ?_ ?_ (c - 1) 1 FU (by omega) (by show c - 1 < 400; omega)
    · intro f
      rw [q_X6_ordersOf_4, if_pos (nI_lt (by omega) (by omega))]
    · intro f j hj
      rw [q_X6_ordersOf_4, if_neg (nI_nlt (by omega) (by omega)), pk_mul, nI_1, Nat.mul_comm]
      rfl
theorem od_M {c : Nat} (hc : c < 7) (M : MM) : q_X7_ways (nI c) M = some (nI (fcN c), M) := by
  unfold q_X7_ways
  by_cases c0 : c = 0
  · subst c0
    show q_X7_ways_4 (nI 0) (399 + 1) 1 2 M = _
    rw [q_X7_ways_4, if_pos (by decide)]
    rfl
  · refine lp c (fun f j => q_X7_ways_4 (nI c) f (nI (fcN j)) (nI (j + 1)) M) _ ?_ ?_ (c - 1) 1 FU (by omega) (by show c - 1 < 400; omega)
    · intro f
      rw [q_X7_ways_4, if_pos (nI_lt (by omega) (by omega))]
    · intro f j hj
      rw [q_X7_ways_4, if_neg (nI_nlt (by omega) (by omega)), pk_mul, nI_1, Nat.mul_comm]
      rfl
theorem fc_nz : ∀ c, c < 7 → ¬ nI (fcN c) = 0 := by decide
def cmO (s : SC) (j t : Nat) : Bool := sO s t && j.testBit t
def kcN (P : PL) (s : SC) (j : Nat) : Nat := keptN P (openAll P (fun t => j.testBit t) (forgS s (cmO s j)) (pW P))
theorem c_come {P : PL} {M : MM} {s : SC} (h : CS P M 0 s) {j : Nat} (hj : j < 64) : ∃ M2, q_X6_keptIfCome (nI j) M = some (nI (kcN P s j), M2) ∧ K 10 M M2 := by
  obtain ⟨a1, a2⟩ := bg_C h
  have e1 : t_X3_openBits 0 (mR M (9 + 1) (M.1 (9 + 0))) = bs (sO s) := bits_C (CS_K h a2 (by omega))
  have e2 : q_X3_forget 1 (bs (sO s) &&& (nI j ^^^ (-1 : Int32))) (mR M (9 + 1) (M.1 (9 + 0))) = some ((), mR (mR M (9 + 1) (M.1 (9 + 0))) (9 + 1) (forgF (cmO s j) ((mR M (9 + 1) (M.1 (9 + 0))).1 (9 + 1)))) := by
    unfold q_X3_forget
    rw [a1.2.2.2.2.1, nIbs j hj, bs_andn, bs_andn, mU_mR]
    congr 2
    refine mRf _ _ ?_
    funext c
    show (if c = 5 then bs (fun t => sO s t && !(sO s t && !j.testBit t)) else _) = (if c = 5 then bs (cmO s j) else _)
    rw [bs_congr (q := cmO s j) (fun t _ => by unfold cmO; cases sO s t <;> cases j.testBit t <;> rfl)]
  have a3 : CS P (mR (mR M (9 + 1) (M.1 (9 + 0))) (9 + 1) (forgF (cmO s j) ((mR M (9 + 1) (M.1 (9 + 0))).1 (9 + 1)))) 1 (forgS s (cmO s j)) := CS_row a1 (WS_forg a1.2.2.1 (fun w hw => by unfold cmO; rw [h.2.2.1.2.1 w hw, Bool.false_and])) (RP_forg h.1 a1.2.2.2 _)
  obtain ⟨A4, e4, a5, a6⟩ := c_all a3 (fun t => j.testBit t)
  obtain ⟨A5, e5, a7, a8⟩ := c_kept a5
  refine ⟨A5, ?_, a2.trans (K_mR.trans (a6.trans a8))⟩
  unfold q_X6_keptIfCome
  rw [e1, e2, obd_of rfl, nIbs j hj, e4, obd_of rfl]
  exact e5 _
theorem orW : ∀ j, j < 32 → ∀ w, w < 5 → nI j ||| ((1 : Int32) <<< (nI w &&& 31)) = nI (j ||| 2 ^ w) ∧ j ||| 2 ^ w < 32 := by decide +kernel
theorem orL : ∀ W, W < 6 → ∀ j, j < 32 → ∀ w, w < 5 → j < 2 ^ W → w < W → j ||| 2 ^ w < 2 ^ W := by decide +kernel
theorem bcW0 : ∀ W, W < 6 → ∀ j, j < 32 → ∀ w, w < 5 → ((!(decide (j < 2 ^ W) && decide (w < W) && !j.testBit w)) || decide (bcN j + 1 ≤ W)) = true := by decide +kernel
theorem bcW (W : Nat) (h1 : W < 6) (j : Nat) (h2 : j < 32) (w : Nat) (h3 : w < 5) (h4 : j < 2 ^ W) (h5 : w < W) (h6 : j.testBit w = false) : bcN j + 1 ≤ W := by
  have := bcW0 W h1 j h2 w h3
  rw [decide_eq_true h4, decide_eq_true h5, h6] at this
  exact of_decide_eq_true this
def shT (P : PL) (s : SC) (w j : Nat) : Int32 := ((nI (kcN P s (j ||| 2 ^ w)) - nI (kcN P s j)) * nI (fcN (bcN j))) * nI (fcN (pW P - 1 - bcN j))
def shA (P : PL) (s : SC) (w : Nat) : Nat → Int32
  | 0 => 0
  | j + 1 => if j.testBit w then shA P s w j else shA P s w j + shT P s w j
theorem shA_s {P : PL} {s : SC} {w : Nat} (j : Nat) : shA P s w (j + 1) = if j.testBit w then shA P s w j else shA P s w j + shT P s w j := rfl
theorem has_nC {j w : Nat} (hj : j < 64) (hw : w < 6) : t_X6_has (nI j) (nI w) = j.testBit w := by rw [nIbs j hj, hasC _ hw]
theorem has_nM {j w : Nat} (hj : j < 64) (hw : w < 6) : t_X7_has (nI j) (nI w) = j.testBit w := by rw [nIbs j hj, hasM _ hw]
theorem share_C {P : PL} {A : MM} {s : SC} (h : CS P A 0 s) {w : Nat} (hw : w < pW P) (x2 : Int32) : ∃ A2, q_X6_share (nI w) x2 A = some (frA (shA P s w (2 ^ pW P)) (nI (fcN (pW P))) x2, A2) ∧ K 10 A A2 := by
  have h5 := h.1.1
  have hp := pw5 h5
  unfold q_X6_share
  rw [hw_in h.2.1 hw h5, if_neg b1n, show t_X2_walkerCount A = A.1 0 1 from rfl, h.2.1.1]
  refine lpJ (N := 2 ^ pW P) (j0 := 0) (b := ((0 : Int32), A)) (fun f j (b : Int32 × MM) => q_X6_share_27 (nI w) x2 f (nI (pW P)) b.1 (nI j) b.2) (fun j b => b.1 = shA P s w j ∧ K 10 A b.2) (fun r => ∃ A2, r = some (frA (shA P s w (2 ^ pW P)) (nI (fcN (pW P))) x2, A2) ∧ K 10 A A2) (by omega) (Nat.zero_le _) ⟨rfl, K.rfl⟩ ?_ ?_
  · rintro f ⟨y, M⟩ ⟨m1, m2⟩
    refine ⟨M, ?_, m2⟩
    show q_X6_share_27 (nI w) x2 (f + 1) (nI (pW P)) y (nI (2 ^ pW P)) M = _
    rw [q_X6_share_27, shW h5, if_pos (Int32.le_refl _), od_C (by omega), obd_of rfl, part_C (fc_nz _ (by omega)), obd_of rfl, show y = shA P s w (2 ^ pW P) from m1]
  · rintro f j ⟨y, M⟩ hj ⟨m1, m2⟩
    right
    have m1 : y = shA P s w j := m1
    have m2 : K 10 A M := m2
    show ∃ b2 : Int32 × MM, _ ∧ q_X6_share_27 (nI w) x2 (f + 1) (nI (pW P)) y (nI j) M = q_X6_share_27 (nI w) x2 f (nI (pW P)) b2.1 (nI (j + 1)) b2.2
    have hs := shA_s (P := P) (s := s) (w := w) j
    rw [q_X6_share_27, shW h5, if_neg (nge hj (by omega)), has_nC (by omega) (by omega)]
    cases hb : j.testBit w with
    | true =>
      rw [hb, if_pos rfl] at hs
      rw [if_neg b1n, q_X6_share_93, nI_1]
      exact ⟨(y, M), ⟨by rw [hs]; exact m1, m2⟩, rfl⟩
    | false =>
      rw [hb, if_neg (by decide)] at hs
      have hc := bcW (pW P) (by omega) j (by omega) w (by omega) hj hw hb
      obtain ⟨o1, o2⟩ := orW j (by omega) w (by omega)
      obtain ⟨M2, e2, k2⟩ := c_come (CS_K h m2 (by omega)) (j := j ||| 2 ^ w) (by omega)
      obtain ⟨M3, e3, k3⟩ := c_come (CS_K h (m2.trans k2) (by omega)) (j := j) (by omega)
      rw [if_pos b2i_f, o1, e2, obd_of rfl, e3, obd_of rfl, bc_nI (by omega), od_C (by omega), obd_of rfl, show nI (pW P) - (1 : Int32) = nI (pW P - 1) from pk_sub (b := 1) (by omega), pk_sub (by omega), od_C (by omega), obd_of rfl, q_X6_share_93, nI_1]
      exact ⟨(y + shT P s w j, M3), ⟨by rw [hs]; exact congrArg (· + _) m1, m2.trans (k2.trans k3)⟩, rfl⟩
theorem share_M2 {P : PL} {s : SC} {M : MM} (h5 : pW P ≤ 5) (h3 : M.1 0 3 = nI (pW P)) (hv : ∀ i, i < 2 ^ pW P → M.1 15 i = nI (kcN P s i)) {w : Nat} (hw : w < pW P) (x2 : Int32) : q_X7_share_76 (nI w) x2 FU 0 0 M = some (frA (shA P s w (2 ^ pW P)) (nI (fcN (pW P))) x2, M) := by
  have hp := pw5 h5
  refine lp0 (2 ^ pW P) (fun f j => q_X7_share_76 (nI w) x2 f (shA P s w j) (nI j) M) _ (by omega) ?_ ?_
  · intro f
    rw [q_X7_share_76, h3, shW h5, if_pos (Int32.le_refl _), od_M (by omega), obd_of rfl, frac_M (fc_nz _ (by omega)), obd_of rfl]
  · intro f j hj
    have hs := shA_s (P := P) (s := s) (w := w) j
    rw [q_X7_share_76, h3, shW h5, if_neg (nge hj (by omega)), has_nM (by omega) (by omega)]
    cases hb : j.testBit w with
    | true =>
      rw [hb, if_pos rfl] at hs
      rw [if_neg b1n, q_X7_share_144, nI_1, hs]
    | false =>
      rw [hb, if_neg (by decide)] at hs
      have hc := bcW (pW P) (by omega) j (by omega) w (by omega) hj hw hb
      have hl := orL (pW P) (by omega) j (by omega) w (by omega) hj hw
      obtain ⟨o1, o2⟩ := orW j (by omega) w (by omega)
      rw [if_pos b2i_f, many_nI (by omega), obd_of rfl, od_M (by omega), obd_of rfl, h3, show nI (pW P) - (1 : Int32) = nI (pW P - 1) from pk_sub (b := 1) (by omega), pk_sub (by omega), od_M (by omega), obd_of rfl, o1, ogd_pos (ib_nI o2 (by decide)), ogd_pos (ib_nI (by omega) (by decide)), ncl (by omega), ncl (by omega), hv _ hl, hv _ hj, q_X7_share_144, nI_1, hs]
      unfold shT
      rw [Int32.mul_comm (nI (fcN (bcN j)) * nI (fcN (pW P - 1 - bcN j))), ← Int32.mul_assoc]
theorem share_M {P : PL} {B : MM} {s : SC} (h : DS P B 6 s) {w : Nat} (hw : w < pW P) (x2 : Int32) : ∃ B2, q_X7_share_17 (nI w) x2 FU 0 B = some (frA (shA P s w (2 ^ pW P)) (nI (fcN (pW P))) x2, B2) ∧ kE B B2 := by
  have h5 := h.1.1
  have hp := pw5 h5
  refine lpJ (N := 2 ^ pW P) (j0 := 0) (fun f j (M : MM) => q_X7_share_17 (nI w) x2 f (nI j) M) (fun j M => kE B M ∧ ∀ i, i < j → M.1 15 i = nI (kcN P s i)) (fun r => ∃ B2, r = some (frA (shA P s w (2 ^ pW P)) (nI (fcN (pW P))) x2, B2) ∧ kE B B2) (by omega) (Nat.zero_le _) ⟨kE.rfl, fun j hj => absurd hj (by omega)⟩ ?_ ?_
  · rintro f M ⟨m1, m2⟩
    refine ⟨M, ?_, m1⟩
    have m3 := DS_e h m1
    show q_X7_share_17 (nI w) x2 (f + 1) (nI (2 ^ pW P)) M = _
    rw [q_X7_share_17, m3.2.1.1, shW h5, if_pos (Int32.le_refl _), share_M2 h5 m3.2.1.1 m2 hw]
  · rintro f j M hj ⟨m1, m2⟩
    right
    have m3 := DS_e h m1
    obtain ⟨B1, e1, b1, k1⟩ := bg_M m3
    have e2 : mU B1 7 5 (bs (cmO s j)) = mR B1 7 (forgF (cmO s j) (B1.1 7)) := mU_mR _ _ _ _
    have b2 : DS P (mU B1 7 5 (bs (cmO s j))) 7 (forgS s (cmO s j)) := by
      rw [e2]
      exact DS_row (by omega) b1 (WS_forg b1.2.2.1 (fun w hw => by unfold cmO; rw [h.2.2.1.2.1 w hw, Bool.false_and])) (RP_forg h.1 b1.2.2.2 _)
    have k2 : K 7 B1 (mU B1 7 5 (bs (cmO s j))) := by rw [e2]; exact K_mR
    obtain ⟨B3, e3, b3, k3⟩ := m_all b2 (fun t => j.testBit t && !sO s t) (fun w _ hb => by
      show cmO s j w = false
      unfold cmO
      revert hb
      cases sO s w <;> cases j.testBit w <;> decide)
    have hsame : openAll P (fun t => j.testBit t && !sO s t) (forgS s (cmO s j)) (pW P) = openAll P (fun t => j.testBit t) (forgS s (cmO s j)) (pW P) := openAll_congr _ (fun t _ => by
      show (j.testBit t && !sO s t && !cmO s j t) = (j.testBit t && !cmO s j t)
      unfold cmO
      cases sO s t <;> cases j.testBit t <;> rfl)
    rw [hsame] at b3
    obtain ⟨B4, e4, b4, k4⟩ := m_kept b3
    have hb6 : B1.1 6 = M.1 6 := k1.2 6 (by omega)
    show ∃ b2 : MM, _ ∧ q_X7_share_17 (nI w) x2 (f + 1) (nI j) M = q_X7_share_17 (nI w) x2 f (nI (j + 1)) b2
    rw [q_X7_share_17, m3.2.1.1, shW h5, if_neg (nge hj (by omega)), e1, obd_of rfl, ogd_pos (by decide), ogd_pos (by decide), ogd_pos (by decide), c5, b1.2.2.2.2.1, mU_r (M := B1) (r := 7) (by omega), hb6, m3.2.2.2.2.1, nIbs j (by omega), bs_and, bs_andn]
    show ∃ b2 : MM, _ ∧ obd (q_X7_openAll (bs fun t => j.testBit t && !sO s t) (mU B1 7 5 (bs (cmO s j)))) _ = _
    rw [e3, obd_of rfl, e4, obd_of rfl, ← nIbs j (by omega), ogd_pos (ib_nI (by omega) (by decide)), ncl (by omega), nI_1]
    refine ⟨_, ⟨m1.trans ((k1.trans (k2.trans (k3.trans k4))).e.trans (kE_r (by omega))), fun i hi => ?_⟩, rfl⟩
    by_cases g : i = j
    · subst g
      rw [mU_at]
      rfl
    · rw [mU_nc g, (k1.trans (k2.trans (k3.trans k4))).2 15 (by omega)]
      exact m2 i (by omega)
theorem o_share {P : PL} {A B : MM} {s : SC} (h : RN P s A B) (x1 x2 : Int32) : TW A B (q_X6_share x1 x2 A) (q_X7_share x1 x2 B) := by
  obtain ⟨h1, h2⟩ := h
  have h3 := z_D h2
  have h5 := h1.1.1
  rcases cases_n x1 (n := pW P) (by omega) with o | ⟨w, hw, rfl⟩
  · unfold q_X6_share q_X7_share
    rw [hw_out h1.2.1 o, nw_out h3.2.1.1 h5 o, if_pos b2i_f, if_neg b1n]
    exact TW.q _
  · obtain ⟨A2, q1, k1⟩ := share_C h1 hw x2
    obtain ⟨B2, q2, k2⟩ := share_M h3 hw x2
    refine TW.of _ ⟨A2, q1, k1⟩ ⟨B2, ?_, z_0.trans k2⟩
    unfold q_X7_share
    rw [nw_in h3.2.1.1 hw h5, if_pos b2i_f]
    exact q2
