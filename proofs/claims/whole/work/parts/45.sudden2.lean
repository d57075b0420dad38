-- sudden rain
theorem pw_C {a n : Nat} (hn : n < 300) (M : MM) : q_X6_power (nI a) (nI n) M = some (nI (a ^ n), M) := by
  unfold q_X6_power
  refine lp0 n (fun f j => q_X6_power_4 (nI a) (nI n) f (nI (a ^ j)) (nI j) M) _ (by omega) ?_ ?_
  · intro f
    rw [q_X6_power_4, if_pos (Int32.le_refl _)]
  · intro f j hj
    rw [q_X6_power_4, if_neg (nge hj (by omega)), pk_mul, nI_1, Nat.pow_succ]
theorem pw_M {a n : Nat} (hn : n < 300) (M : MM) : q_X7_power (nI a) (nI n) M = some (nI (a ^ n), M) := by
  unfold q_X7_power
  refine lp0 n (fun f j => q_X7_power_4 (nI a) (nI n) f (nI (a ^ j)) (nI j) M) _ (by omega) ?_ ?_
  · intro f
    rw [q_X7_power_4, if_pos (Int32.le_refl _)]
  · intro f j hj
    rw [q_X7_power_4, if_neg (nge hj (by omega)), pk_mul, nI_1, Nat.pow_succ]
def hiS (P : PL) (s : SC) (t : Nat) (z : Bool) (a : Nat → Bool) : Bool := if z then rainB P (openAll P a s (pW P)) t else hailB P (openAll P a s (pW P)) t
def nB : Nat → Bool := fun _ => false
theorem hi_n {P : PL} {s : SC} {t : Nat} {z : Bool} {j : Nat} : hiS P s t z (fun u => j.testBit u || nB u) = hiS P s t z (fun u => j.testBit u) := by
  have : (fun u => j.testBit u || nB u) = (fun u => j.testBit u) := by
    funext u
    exact Bool.or_false _
  rw [this]
theorem hi_O {P : PL} {s : SC} {t : Nat} {z : Bool} (a b : Nat → Bool) (h : ∀ u, u < pW P → (a u && !sO s u) = (b u && !sO s u)) : hiS P s t z a = hiS P s t z b := by
  unfold hiS
  rw [openAll_congr (P := P) (p := a) (q := b) (s := s) (pW P) h]
theorem sud_C {P : PL} {A : MM} {s : SC} (h : CS P A 0 s) {t p z : Nat} (ht : t < 6) (hp : p < 11) (hz : z < 2) (x4 : Int32) : ∃ A2, q_X6_sudden_51 (nI t) (nI z) (nI p) x4 FU (t_X3_shutBits 0 A) (t_J6_bitCount_0f7a4 (t_X3_shutBits 0 A)) 0 0 A = some (frA (nI (sm (cwT P s (hiS P s t (z == 0)) p (10 - p) (cnt (shutB P s) 6) nB) 32)) (nI (10 ^ cnt (shutB P s) 6)) x4, A2) ∧ K 10 A A2 := by
  have h5 := h.1.1
  have hm := cnt_le (shutB P s) 6
  have tz : ∀ n, n < 7 → ¬ nI (10 ^ n) = 0 := by decide
  rw [shut_C h, bitC]
  refine lpJ (N := 32) (j0 := 0) (b := ((0 : Int32), A)) (fun f j (b : Int32 × MM) => q_X6_sudden_51 (nI t) (nI z) (nI p) x4 f (bs (shutB P s)) (nI (cnt (shutB P s) 6)) b.1 (nI j) b.2) (fun j b => b.1 = nI (sm (cwT P s (hiS P s t (z == 0)) p (10 - p) (cnt (shutB P s) 6) nB) j) ∧ K 10 A b.2) (fun r => ∃ A2, r = some (frA (nI (sm (cwT P s (hiS P s t (z == 0)) p (10 - p) (cnt (shutB P s) 6) nB) 32)) (nI (10 ^ cnt (shutB P s) 6)) x4, A2) ∧ K 10 A A2) (by omega) (Nat.zero_le _) ⟨rfl, K.rfl⟩ ?_ ?_
  · rintro f ⟨y, M⟩ ⟨m1, m2⟩
    refine ⟨M, ?_, m2⟩
    show q_X6_sudden_51 (nI t) (nI z) (nI p) x4 (f + 1) (bs (shutB P s)) (nI (cnt (shutB P s) 6)) y (nI 32) M = _
    rw [q_X6_sudden_51, if_pos (by decide), show (10 : Int32) = nI 10 from rfl, pw_C (by omega), obd_of rfl, part_C (tz _ (by omega)), obd_of rfl, show y = nI (sm (cwT P s (hiS P s t (z == 0)) p (10 - p) (cnt (shutB P s) 6) nB) 32) from m1]
  · rintro f j ⟨y, M⟩ hj ⟨m1, m2⟩
    right
    have m1 : y = nI (sm (cwT P s (hiS P s t (z == 0)) p (10 - p) (cnt (shutB P s) 6) nB) j) := m1
    have m2 : K 10 A M := m2
    show ∃ b2 : Int32 × MM, _ ∧ q_X6_sudden_51 (nI t) (nI z) (nI p) x4 (f + 1) (bs (shutB P s)) (nI (cnt (shutB P s) 6)) y (nI j) M = q_X6_sudden_51 (nI t) (nI z) (nI p) x4 f (bs (shutB P s)) (nI (cnt (shutB P s) 6)) b2.1 (nI (j + 1)) b2.2
    have hs := sm_s (cwT P s (hiS P s t (z == 0)) p (10 - p) (cnt (shutB P s) 6) nB) j
    rw [show cwT P s (hiS P s t (z == 0)) p (10 - p) (cnt (shutB P s) 6) nB j = if wiB P s j && hiS P s t (z == 0) (fun u => j.testBit u || nB u) then p ^ bcN j * (10 - p) ^ (cnt (shutB P s) 6 - bcN j) else 0 from rfl, hi_n] at hs
    have stay : ∀ M2, K 10 A M2 → sm (cwT P s (hiS P s t (z == 0)) p (10 - p) (cnt (shutB P s) 6) nB) (j + 1) = sm (cwT P s (hiS P s t (z == 0)) p (10 - p) (cnt (shutB P s) 6) nB) j + 0 → ∃ b2 : Int32 × MM, (b2.1 = nI (sm (cwT P s (hiS P s t (z == 0)) p (10 - p) (cnt (shutB P s) 6) nB) (j + 1)) ∧ K 10 A b2.2) ∧ q_X6_sudden_147 (nI t) (nI z) (nI p) x4 (q_X6_sudden_51 (nI t) (nI z) (nI p) x4 f) (bs (shutB P s)) (nI (cnt (shutB P s) 6)) y (nI j) M2 = q_X6_sudden_51 (nI t) (nI z) (nI p) x4 f (bs (shutB P s)) (nI (cnt (shutB P s) 6)) b2.1 (nI (j + 1)) b2.2 := by
      intro M2 k2 e
      refine ⟨(y, M2), ⟨by rw [e, Nat.add_zero]; exact m1, k2⟩, ?_⟩
      rw [q_X6_sudden_147, nI_1]
    rw [q_X6_sudden_51, L32, if_neg (nge hj (by decide)), wi_C (by omega)]
    cases hw : wiB P s j with
    | false =>
      rw [hw, Bool.false_and, if_neg (by decide)] at hs
      rw [if_pos b2i_f]
      exact stay M m2 hs
    | true =>
      rw [hw, Bool.true_and] at hs
      have hlt : j < 2 ^ pW P := by
        rcases Nat.lt_or_ge j (2 ^ pW P) with g | g
        · exact g
        · rw [wi_hi h5 hj g] at hw
          exact absurd hw (by decide)
      have hb : bcN j ≤ cnt (shutB P s) 6 := by
        have h1 := wi_bc (P := P) (s := s) (pW P) h5 j hlt hw
        rw [cnt_out (p := shutB P s) (m := pW P) (n := 6) (by omega) (fun u hu _ => by unfold shutB; rw [decide_eq_false (show ¬ u < pW P by omega), Bool.false_and])]
        exact h1
      obtain ⟨a1, a2⟩ := bg_C (CS_K h m2 (by omega))
      obtain ⟨A2, e, a3, a4⟩ := c_all a1 (fun u => j.testBit u)
      have k2 : K 10 A A2 := m2.trans (a2.trans a4)
      have key : ∃ b2 : Int32 × MM, (b2.1 = nI (sm (cwT P s (hiS P s t (z == 0)) p (10 - p) (cnt (shutB P s) 6) nB) (j + 1)) ∧ K 10 A b2.2) ∧ (if b2i (hiS P s t (z == 0) (fun u => j.testBit u)) = 0 then q_X6_sudden_147 (nI t) (nI z) (nI p) x4 (q_X6_sudden_51 (nI t) (nI z) (nI p) x4 f) (bs (shutB P s)) (nI (cnt (shutB P s) 6)) y (nI j) A2 else q_X6_sudden_147 (nI t) (nI z) (nI p) x4 (q_X6_sudden_51 (nI t) (nI z) (nI p) x4 f) (bs (shutB P s)) (nI (cnt (shutB P s) 6)) (y + nI (p ^ bcN j) * nI ((10 - p) ^ (cnt (shutB P s) 6 - bcN j))) (nI j) A2) = q_X6_sudden_51 (nI t) (nI z) (nI p) x4 f (bs (shutB P s)) (nI (cnt (shutB P s) 6)) b2.1 (nI (j + 1)) b2.2 := by
        cases g : hiS P s t (z == 0) (fun u => j.testBit u) with
        | false =>
          rw [g, if_neg (by decide)] at hs
          rw [if_pos b2i_f]
          exact stay A2 k2 hs
        | true =>
          rw [g, if_pos rfl] at hs
          rw [if_neg b1n, q_X6_sudden_147, nI_1, pk_mul, m1, nI_add]
          exact ⟨(_, A2), ⟨(congrArg nI hs).symm, k2⟩, rfl⟩
      have e109 : ∀ g : Bool, ∀ s0 : Int32, t_X6_has s0 (nI t) = g → q_X6_sudden_109 (nI t) (nI z) (nI p) x4 (q_X6_sudden_51 (nI t) (nI z) (nI p) x4 f) (bs (shutB P s)) (nI (cnt (shutB P s) 6)) y (nI j) s0 A2 = (if b2i g = 0 then q_X6_sudden_147 (nI t) (nI z) (nI p) x4 (q_X6_sudden_51 (nI t) (nI z) (nI p) x4 f) (bs (shutB P s)) (nI (cnt (shutB P s) 6)) y (nI j) A2 else q_X6_sudden_147 (nI t) (nI z) (nI p) x4 (q_X6_sudden_51 (nI t) (nI z) (nI p) x4 f) (bs (shutB P s)) (nI (cnt (shutB P s) 6)) (y + nI (p ^ bcN j) * nI ((10 - p) ^ (cnt (shutB P s) 6 - bcN j))) (nI j) A2) := by
        intro g s0 hg
        have l3 := bcN_le j
        rw [q_X6_sudden_109, hg, bc_nI (by omega), pw_C (by omega), obd_of rfl, show (10 : Int32) - nI p = nI (10 - p) from pk_sub (a := 10) (by omega), pk_sub hb, pw_C (by omega), obd_of rfl]
      rw [if_neg b1n, nIbs j (by omega), e, obd_of rfl, ← nIbs j (by omega)]
      rcases (show z = 0 ∨ z = 1 by omega) with rfl | rfl
      · rw [if_pos (show nI 0 = (0 : Int32) from rfl), rain_C a3, obd_of rfl, e109 (hiS P s t true (fun u => j.testBit u)) _ (by rw [hasC _ ht]; rfl)]
        exact key
      · rw [if_neg (show ¬ nI 1 = (0 : Int32) by decide), hail_C a3, obd_of rfl, e109 (hiS P s t false (fun u => j.testBit u)) _ (by rw [hasC _ ht]; rfl)]
        exact key
theorem sud_M {P : PL} {B : MM} {s : SC} (h : DS P B 6 s) {t p z : Nat} (ht : t < 6) (hp : p < 11) (hz : z < 2) (x4 : Int32) : ∃ B2, q_X7_sudden_45 (nI t) (nI z) (nI p) x4 FU 0 0 B = some (frA (nI (sm (rwT (hiS P s t (z == 0)) p (10 - p) (pW P) nB) (2 ^ pW P))) (nI (10 ^ pW P)) x4, B2) ∧ kE B B2 := by
  have h5 := h.1.1
  have hpw := pw5 h5
  have tz : ∀ n, n < 7 → ¬ nI (10 ^ n) = 0 := by decide
  refine lpJ (N := 2 ^ pW P) (j0 := 0) (b := ((0 : Int32), B)) (fun f j (b : Int32 × MM) => q_X7_sudden_45 (nI t) (nI z) (nI p) x4 f b.1 (nI j) b.2) (fun j b => b.1 = nI (sm (rwT (hiS P s t (z == 0)) p (10 - p) (pW P) nB) j) ∧ kE B b.2) (fun r => ∃ B2, r = some (frA (nI (sm (rwT (hiS P s t (z == 0)) p (10 - p) (pW P) nB) (2 ^ pW P))) (nI (10 ^ pW P)) x4, B2) ∧ kE B B2) (by omega) (Nat.zero_le _) ⟨rfl, kE.rfl⟩ ?_ ?_
  · rintro f ⟨y, M⟩ ⟨m1, m2⟩
    have m3 := DS_e h m2
    refine ⟨M, ?_, m2⟩
    show q_X7_sudden_45 (nI t) (nI z) (nI p) x4 (f + 1) y (nI (2 ^ pW P)) M = _
    have m4 : M.1 0 3 = nI (pW P) := m3.2.1.1
    rw [q_X7_sudden_45, m4, shW h5, if_pos (Int32.le_refl _), show (10 : Int32) = nI 10 from rfl, pw_M (by omega), obd_of rfl, frac_M (tz _ (by omega)), obd_of rfl, show y = nI (sm (rwT (hiS P s t (z == 0)) p (10 - p) (pW P) nB) (2 ^ pW P)) from m1]
  · rintro f j ⟨y, M⟩ hj ⟨m1, m2⟩
    right
    have m1 : y = nI (sm (rwT (hiS P s t (z == 0)) p (10 - p) (pW P) nB) j) := m1
    have m2 : kE B M := m2
    have m3 := DS_e h m2
    have m4 : M.1 0 3 = nI (pW P) := m3.2.1.1
    show ∃ b2 : Int32 × MM, _ ∧ q_X7_sudden_45 (nI t) (nI z) (nI p) x4 (f + 1) y (nI j) M = q_X7_sudden_45 (nI t) (nI z) (nI p) x4 f b2.1 (nI (j + 1)) b2.2
    have hs := sm_s (rwT (hiS P s t (z == 0)) p (10 - p) (pW P) nB) j
    rw [show rwT (hiS P s t (z == 0)) p (10 - p) (pW P) nB j = if hiS P s t (z == 0) (fun u => j.testBit u || nB u) then p ^ bcN j * (10 - p) ^ (pW P - bcN j) else 0 from rfl, hi_n] at hs
    have hbw : bcN j ≤ pW P := by
      have : ∀ W, W < 6 → ∀ j, j < 32 → (!decide (j < 2 ^ W) || decide (bcN j ≤ W)) = true := by decide +kernel
      have := this (pW P) (by omega) j (by omega)
      rw [decide_eq_true hj] at this
      exact of_decide_eq_true this
    obtain ⟨B1, e1, b1, k1⟩ := bg_M m3
    obtain ⟨B2, e2, b2, k2⟩ := m_all b1 (fun u => j.testBit u && !sO s u) (fun w _ hb => by
      revert hb
      cases sO s w
      · intro _; rfl
      · cases j.testBit w <;> decide)
    have hsame : openAll P (fun u => j.testBit u && !sO s u) s (pW P) = openAll P (fun u => j.testBit u) s (pW P) := openAll_congr _ (fun u _ => by cases sO s u <;> cases j.testBit u <;> rfl)
    rw [hsame] at b2
    have kk : kE B B2 := m2.trans (k1.trans k2).e
    have e3 : B1.1 6 = M.1 6 := k1.2 6 (by omega)
    have e4 : B2.1 0 3 = nI (pW P) := by rw [(k1.trans k2).2 0 (by omega)]; exact m4
    have key : ∃ b2 : Int32 × MM, (b2.1 = nI (sm (rwT (hiS P s t (z == 0)) p (10 - p) (pW P) nB) (j + 1)) ∧ kE B b2.2) ∧ (if b2i (hiS P s t (z == 0) (fun u => j.testBit u)) = 0 then q_X7_sudden_143 (nI t) (nI z) (nI p) x4 (q_X7_sudden_45 (nI t) (nI z) (nI p) x4 f) (nI j) y 0 B2 else q_X7_sudden_143 (nI t) (nI z) (nI p) x4 (q_X7_sudden_45 (nI t) (nI z) (nI p) x4 f) (nI j) y (nI (p ^ bcN j) * nI ((10 - p) ^ (pW P - bcN j))) B2) = q_X7_sudden_45 (nI t) (nI z) (nI p) x4 f b2.1 (nI (j + 1)) b2.2 := by
      cases g : hiS P s t (z == 0) (fun u => j.testBit u) with
      | false =>
        rw [g, if_neg (by decide)] at hs
        rw [if_pos b2i_f, q_X7_sudden_143, nI_1, m1, show nI (sm (rwT (hiS P s t (z == 0)) p (10 - p) (pW P) nB) j) + (0 : Int32) = nI (sm (rwT (hiS P s t (z == 0)) p (10 - p) (pW P) nB) j + 0) from nI_add _ 0]
        exact ⟨(_, B2), ⟨(congrArg nI hs).symm, kk⟩, rfl⟩
      | true =>
        rw [g, if_pos rfl] at hs
        rw [if_neg b1n, q_X7_sudden_143, nI_1, pk_mul, m1, nI_add]
        exact ⟨(_, B2), ⟨(congrArg nI hs).symm, kk⟩, rfl⟩
    have e105 : ∀ g : Bool, ∀ s0 : Int32, t_X7_has s0 (nI t) = g → q_X7_sudden_105 (nI t) (nI z) (nI p) x4 (q_X7_sudden_45 (nI t) (nI z) (nI p) x4 f) y (nI j) (nI (bcN j)) s0 B2 = (if b2i g = 0 then q_X7_sudden_143 (nI t) (nI z) (nI p) x4 (q_X7_sudden_45 (nI t) (nI z) (nI p) x4 f) (nI j) y 0 B2 else q_X7_sudden_143 (nI t) (nI z) (nI p) x4 (q_X7_sudden_45 (nI t) (nI z) (nI p) x4 f) (nI j) y (nI (p ^ bcN j) * nI ((10 - p) ^ (pW P - bcN j))) B2) := by
      intro g s0 hg
      rw [q_X7_sudden_105, hg, pw_M (by omega), obd_of rfl, e4, show (10 : Int32) - nI p = nI (10 - p) from pk_sub (a := 10) (by omega), pk_sub hbw, pw_M (by omega), obd_of rfl]
    rw [q_X7_sudden_45, m4, shW h5, if_neg (nge hj (by omega)), e1, obd_of rfl, ogd_pos (by decide), c5, e3, m3.2.2.2.2.1, nIbs j (by omega), bs_andn, e2, obd_of rfl, ← nIbs j (by omega), many_nI (by omega), obd_of rfl]
    rcases (show z = 0 ∨ z = 1 by omega) with rfl | rfl
    · rw [if_pos (show nI 0 = (0 : Int32) from rfl), rain_M b2, obd_of rfl, e105 (hiS P s t true (fun u => j.testBit u)) _ (by rw [hasM _ ht]; rfl)]
      exact key
    · rw [if_neg (show ¬ nI 1 = (0 : Int32) by decide), hail_M b2, obd_of rfl, e105 (hiS P s t false (fun u => j.testBit u)) _ (by rw [hasM _ ht]; rfl)]
      exact key
theorem o_sudden {P : PL} {A B : MM} {s : SC} (h : RN P s A B) (x1 x2 x3 x4 : Int32) : TW A B (q_X6_sudden x1 x2 x3 x4 A) (q_X7_sudden x1 x2 x3 x4 B) := by
  obtain ⟨h1, h2⟩ := h
  have h3 := z_D h2
  have h5 := h1.1.1
  have hpw := pw5 h5
  unfold q_X6_sudden q_X7_sudden
  rcases cases_n x1 (n := 6) (by decide) with o | ⟨t, ht, rfl⟩
  · rw [is_out o, ns_out o, if_pos b2i_f, if_neg b1n]
    exact TW.q _
  · rw [is_in ht, ns_in ht, if_neg b1n, if_pos b2i_f]
    rcases cases_n x2 (n := 2) (by decide) with o | ⟨z, hz, rfl⟩
    · rw [ch_out o, inF 2 (by decide) (by decide) o, if_pos b2i_f, if_pos b2i_f]
      exact TW.q _
    · rw [ch_in hz, inT 2 (by decide) (by decide) hz, if_neg b1n, if_neg b1n]
      rw [show (if x3 < 0 then some ((-2 : Int32), A) else if x3 ≤ (10 : Int32) then q_X6_sudden_51 (nI t) (nI z) x3 x4 FU (t_X3_shutBits 0 A) (t_J6_bitCount_0f7a4 (t_X3_shutBits 0 A)) 0 0 A else some (-2, A)) = (if x3 < 0 then some ((-2 : Int32), A) else if x3 ≤ nI 10 then q_X6_sudden_51 (nI t) (nI z) x3 x4 FU (t_X3_shutBits 0 A) (t_J6_bitCount_0f7a4 (t_X3_shutBits 0 A)) 0 0 A else some (-2, A)) from rfl]
      rcases cases_n x3 (n := 11) (by decide) with o | ⟨p, hp, rfl⟩
      · rw [rg_o1 (by decide) o, inF 11 (by decide) (by decide) o, if_pos b2i_f]
        exact TW.q _
      · rw [rg_i1 (by decide) hp, inT 11 (by decide) (by decide) hp, if_neg b1n]
        obtain ⟨A2, q1, k1⟩ := sud_C h1 ht hp hz x4
        obtain ⟨B2, q2, k2⟩ := sud_M h3 ht hp hz x4
        have hm : cnt (shutB P s) 6 = cnt (shutB P s) (pW P) := cnt_out (by omega) (fun u hu _ => by unfold shutB; rw [decide_eq_false (show ¬ u < pW P by omega), Bool.false_and])
        have hml := cnt_le (shutB P s) (pW P)
        obtain ⟨s1, s2⟩ := two_sums (P := P) (s := s) (H := hiS P s t (z == 0)) (p := p) (q := 10 - p) (by omega) h5 (fun a b hab => hi_O a b (fun u hu => by rw [hab u (by omega)])) (fun a b hab => hi_O a b hab) (pW P) (Nat.le_refl _) nB
        have hC : sm (cwT P s (hiS P s t (z == 0)) p (10 - p) (cnt (shutB P s) 6) nB) 32 = sm (cwT P s (hiS P s t (z == 0)) p (10 - p) (cnt (shutB P s) (pW P)) nB) (2 ^ pW P) := by
          rw [hm, show 32 = 2 ^ pW P + (32 - 2 ^ pW P) by omega, sm_add, sm_0 (f := fun j => cwT P s (hiS P s t (z == 0)) p (10 - p) (cnt (shutB P s) (pW P)) nB (2 ^ pW P + j)) _ (fun j hj => ?_), Nat.add_zero]
          show (if wiB P s (2 ^ pW P + j) && _ then _ else 0) = 0
          rw [wi_hi h5 (by omega) (by omega), Bool.false_and, if_neg (by decide)]
        have ht10 : 10 ^ pW P ≤ 10 ^ 5 := Nat.pow_le_pow_right (by decide) h5
        have hsplit : 10 ^ pW P = 10 ^ (pW P - cnt (shutB P s) (pW P)) * 10 ^ cnt (shutB P s) (pW P) := by rw [← Nat.pow_add, show pW P - cnt (shutB P s) (pW P) + cnt (shutB P s) (pW P) = pW P by omega]
        refine TW.of _ ⟨A2, q1, k1⟩ ⟨B2, ?_, z_0.trans k2⟩
        rw [q2, hC, hm, s1, hsplit, frA_k (Nat.pow_pos (by decide)) (Nat.pow_pos (by decide)) (by rw [← s1]; omega) (by rw [← hsplit]; omega)]
