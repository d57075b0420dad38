-- the best of all: the reference, and both together; the best street to send to
theorem mU2 {M : MM} {c d : Nat} {v w : Int32} (h : c ≠ d) : (mU (mU M 0 c v) 0 d w).1 0 c = v := by rw [mU_0 h, mU_at]
theorem asked_M {P : PL} {B : MM} {s : SC} (h : DS P B 6 s) {c : Nat} (hc : c < 2) : ∃ B2, q_X7_asked (nI c) B = some (if c = 0 then nI (askS P s (2 ^ pW P)).1 else nI (askS P s (2 ^ pW P)).2, B2) ∧ kE B B2 := by
  have hW := h.1.1
  have hp := pw5 hW
  have hp1 := pw0 (pW P)
  unfold q_X7_asked
  rw [inT 2 (by decide) (by decide) hc, if_neg b1n]
  refine lpJ (N := 2 ^ pW P) (j0 := 0) (fun f j (M : MM) => q_X7_asked_31 (nI c) f (nI j) M) (fun j M => DS P M 6 s ∧ kE B M ∧ ((j = 0 ∧ M.1 0 9 = 0 ∧ M.1 0 10 = -9) ∨ (1 ≤ j ∧ M.1 0 9 = nI (askS P s j).1 ∧ M.1 0 10 = nI (askS P s j).2))) (fun r => ∃ A2, r = some (if c = 0 then nI (askS P s (2 ^ pW P)).1 else nI (askS P s (2 ^ pW P)).2, A2) ∧ kE B A2) (by omega) (by omega) ?_ ?_ ?_
  · have k : kE B (mU (mU (mU B 0 0 0) 0 9 0) 0 10 (-9)) := z_0.trans ((kE_0 (by omega)).trans (kE_0 (by omega)))
    exact ⟨DS_e h k, k, Or.inl ⟨rfl, by rw [mU2 (by omega)], mU_at⟩⟩
  · rintro f M ⟨m1, m2, m3⟩
    refine ⟨M, ?_, m2⟩
    rcases m3 with ⟨m3, _⟩ | ⟨m3, m4, m5⟩
    · omega
    show q_X7_asked_31 (nI c) (f + 1) (nI (2 ^ pW P)) M = _
    rw [q_X7_asked_31, m1.2.1.1, shW hW, if_pos (Int32.le_refl _), m4, m5]
    rcases (show c = 0 ∨ c = 1 by omega) with rfl | rfl
    · rw [if_pos nI_0, if_pos rfl]
    · rw [if_neg (by decide), if_neg (by decide)]
  · rintro f j M hj ⟨m1, m2, m3⟩
    right
    obtain ⟨l1, l2⟩ := askS_lt (P := P) (s := s) j
    have l3 := bcN_le j
    have l4 := bcN_le (askS P s j).1
    have l5 : kO P s j ≤ 6 := keptN_le
    show ∃ b2 : MM, _ ∧ q_X7_asked_31 (nI c) (f + 1) (nI j) M = q_X7_asked_31 (nI c) f (nI (j + 1)) b2
    rw [q_X7_asked_31, m1.2.1.1, shW hW, if_neg (nge hj (by omega)), ogd_pos (by decide), c5, m1.2.2.2.2.1]
    by_cases hw : wiB P s j = true
    · rw [if_pos ((wi_M hW hj).mpr hw)]
      obtain ⟨B1, e1, b1, k1⟩ := bg_M m1
      obtain ⟨B2, e2, b2, k2⟩ := m_all b1 (fun t => j.testBit t) (fun w hw2 hb => wi_lo hw w (by omega) hb)
      obtain ⟨B3, e3, b3, k3⟩ := m_kept b2
      have k : K 7 M B3 := k1.trans (k2.trans k3)
      have q9 : B3.1 0 9 = M.1 0 9 := by rw [k.2 0 (by omega)]
      have q10 : B3.1 0 10 = M.1 0 10 := by rw [k.2 0 (by omega)]
      rw [e1, obd_of rfl, nIbs j (by omega), e2, obd_of rfl, e3, obd_of rfl, ← nIbs j (by omega), q10]
      have hkO : keptN P (openAll P (fun t => j.testBit t) s (pW P)) = kO P s j := rfl
      rw [hkO]
      have kk : kE B B3 := m2.trans k.e
      have move : askS P s (j + 1) = (j, kO P s j) → ∀ f, ∃ b2 : MM, (DS P b2 6 s ∧ kE B b2 ∧ ((j + 1 = 0 ∧ b2.1 0 9 = 0 ∧ b2.1 0 10 = -9) ∨ (1 ≤ j + 1 ∧ b2.1 0 9 = nI (askS P s (j + 1)).1 ∧ b2.1 0 10 = nI (askS P s (j + 1)).2))) ∧ q_X7_asked_96 (nI c) (q_X7_asked_31 (nI c) f) (nI j) (nI (kO P s j)) B3 = q_X7_asked_31 (nI c) f (nI (j + 1)) b2 := by
        intro ha f
        have k2 : kE B (mU (mU B3 0 10 (nI (kO P s j))) 0 9 (nI j)) := kk.trans ((kE_0 (by omega)).trans (kE_0 (by omega)))
        refine ⟨_, ⟨DS_e h k2, k2, Or.inr ⟨by omega, by rw [mU_at, ha], by rw [mU2 (by omega), ha]⟩⟩, ?_⟩
        rw [q_X7_asked_96, q_X7_asked_106, nI_1]
      rcases m3 with ⟨rfl, m4, m5⟩ | ⟨m3, m4, m5⟩
      · rw [m5, if_pos (by rw [Int32.lt_iff_toInt_lt, nI_toInt (by omega), show (-9 : Int32).toInt = -9 from rfl]; omega)]
        exact move askS_1 f
      · rw [m5]
        have stay : askS P s (j + 1) = askS P s j → ∀ f, ∃ b2 : MM, (DS P b2 6 s ∧ kE B b2 ∧ ((j + 1 = 0 ∧ b2.1 0 9 = 0 ∧ b2.1 0 10 = -9) ∨ (1 ≤ j + 1 ∧ b2.1 0 9 = nI (askS P s (j + 1)).1 ∧ b2.1 0 10 = nI (askS P s (j + 1)).2))) ∧ q_X7_asked_106 (nI c) (q_X7_asked_31 (nI c) f) (nI j) B3 = q_X7_asked_31 (nI c) f (nI (j + 1)) b2 := by
          intro ha f
          refine ⟨B3, ⟨DS_e h kk, kk, Or.inr ⟨by omega, by rw [q9, m4, ha], by rw [q10, m5, ha]⟩⟩, ?_⟩
          rw [q_X7_asked_106, nI_1]
        have hb : askS P s (j + 1) = if btB (kO P s) j (askS P s j) then (j, kO P s j) else askS P s j := by rw [askS_s, hw, Bool.true_and]
        unfold btB at hb
        by_cases g1 : (askS P s j).2 < kO P s j
        · have hb : askS P s (j + 1) = (j, kO P s j) := by rw [hb, decide_eq_true g1]; rfl
          rw [if_pos (nI_lt g1 (by omega))]
          exact move hb f
        · rw [decide_eq_false g1, Bool.false_or] at hb
          rw [if_neg (nI_nlt (by omega) (by omega))]
          by_cases g2 : (askS P s j).2 = kO P s j
          · rw [decide_eq_true g2, Bool.true_and] at hb
            rw [if_pos (by rw [g2]), many_nI (by omega), obd_of rfl, q9, m4, many_nI (by omega), obd_of rfl]
            by_cases g3 : bcN j < bcN (askS P s j).1
            · rw [if_pos (decide_eq_true g3)] at hb
              rw [if_neg (fun q => by have := (nI_leI (by omega) (by omega)).mp q; omega)]
              exact move hb f
            · rw [if_neg (by simpa using g3)] at hb
              rw [if_pos (nI_le (by omega) (by omega))]
              exact stay hb f
          · rw [decide_eq_false g2, Bool.false_and] at hb
            rw [if_neg (fun q => g2 ((nI_eq (by omega) (by omega)).mp q).symm)]
            exact stay hb f
    · rw [if_neg (fun q => hw ((wi_M hW hj).mp q))]
      rcases m3 with ⟨rfl, m4, m5⟩ | ⟨m3, m4, m5⟩
      · exact absurd (show wiB P s 0 = true from decide_eq_true (bs_z (fun t _ => by rw [Nat.zero_testBit]; rfl))) hw
      · have ha : askS P s (j + 1) = askS P s j := by
          have : wiB P s j = false := by simpa using hw
          rw [askS_s, this, Bool.false_and]
          rfl
        refine ⟨M, ⟨m1, m2, Or.inr ⟨by omega, by rw [m4, ha], by rw [m5, ha]⟩⟩, ?_⟩
        rw [q_X7_asked_106, nI_1]
theorem o_asked {P : PL} {A B : MM} {s : SC} (h : RN P s A B) (x1 : Int32) : TW A B (q_X6_asked x1 A) (q_X7_asked x1 B) := by
  rcases cases_n x1 (n := 2) (by decide) with o | ⟨c, hc, rfl⟩
  · unfold q_X6_asked q_X7_asked
    rw [ch_out o, inF 2 (by decide) (by decide) o, if_pos b2i_f, if_pos b2i_f]
    exact TW.q _
  · have hW := h.1.1.1
    have hp := pw5 hW
    have e : askS P s 32 = askS P s (2 ^ pW P) := by
      have := askS_hi (s := s) hW (32 - 2 ^ pW P) (by omega)
      rwa [show 2 ^ pW P + (32 - 2 ^ pW P) = 32 by omega] at this
    obtain ⟨A2, e1, k1⟩ := asked_C h.1 hc
    exact TW.of _ ⟨A2, by rw [e1, e], k1⟩ (asked_M h.2 hc)
-- to send
def kS (P : PL) (s : SC) (w t : Nat) : Nat := keptN P (openS P (moveS s w t) w)
def sentS (P : PL) (s : SC) (w : Nat) : Nat → Nat × Nat
  | 0 => (0, kS P s w 0)
  | n + 1 => if (sentS P s w n).2 < kS P s w n then (n, kS P s w n) else sentS P s w n
theorem sentS_s {P : PL} {s : SC} {w : Nat} (n : Nat) : sentS P s w (n + 1) = if (sentS P s w n).2 < kS P s w n then (n, kS P s w n) else sentS P s w n := rfl
theorem sentS_1 {P : PL} {s : SC} {w : Nat} : sentS P s w 1 = (0, kS P s w 0) := by rw [sentS_s]; split <;> rfl
theorem sentS_lt {P : PL} {s : SC} {w : Nat} : ∀ n, (sentS P s w n).2 ≤ 6
  | 0 => keptN_le
  | n + 1 => by
    rw [sentS_s]
    split
    · exact keptN_le
    · exact sentS_lt n
theorem c_sent {P : PL} {M : MM} {s : SC} (h : CS P M 0 s) {w t : Nat} (hw : w < pW P) (ho : sO s w = false) (ht : t < 6) : ∃ M2, q_X6_keptIfSent (nI w) (nI t) M = some (nI (kS P s w t), M2) ∧ K 10 M M2 := by
  obtain ⟨a1, a2⟩ := bg_C h
  obtain ⟨A2, e, a3, a4⟩ := c_place a1 hw ht
  obtain ⟨A3, e3, a5, a6⟩ := c_raise a3 hw ho
  obtain ⟨A4, e4, a7, a8⟩ := c_kept a5
  refine ⟨A4, ?_, a2.trans (a4.trans (a6.trans a8))⟩
  unfold q_X6_keptIfSent
  rw [e, obd_of rfl, e3, obd_of rfl]
  exact e4 _
theorem o_sent {P : PL} {A B : MM} {s : SC} (h : RN P s A B) (x1 x2 : Int32) : TW A B (q_X6_sent x1 x2 A) (q_X7_sent x1 x2 B) := by
  obtain ⟨h1, h2⟩ := h
  have h3 := z_D h2
  have h5 := h1.1.1
  unfold q_X6_sent q_X7_sent
  rcases cases_n x1 (n := pW P) (by omega) with o | ⟨w, hw, rfl⟩
  · rw [hw_out h1.2.1 o, nw_out h3.2.1.1 h5 o, if_pos b2i_f, if_neg b1n]
    exact TW.q _
  · rw [hw_in h1.2.1 hw h5, nw_in h3.2.1.1 hw h5, if_neg b1n, if_pos b2i_f]
    rcases cases_n x2 (n := 2) (by decide) with o | ⟨c, hc, rfl⟩
    · rw [ch_out o, inF 2 (by decide) (by decide) o, if_pos b2i_f, if_pos b2i_f]
      exact TW.q _
    · rw [ch_in hc, inT 2 (by decide) (by decide) hc, if_neg b1n, if_neg b1n, isOpen_C h1 (by omega), ogd_pos (by decide), c5, h3.2.2.2.2.1, hasM _ (by omega)]
      cases ho : sO s w with
      | true =>
        rw [if_neg b1n, if_neg b1n]
        exact TW.q _
      | false =>
        rw [if_pos b2i_f, if_pos b2i_f]
        refine TW.of (if c = 0 then nI (sentS P s w 6).1 else nI (sentS P s w 6).2) ?_ ?_
        · obtain ⟨A1, e, k⟩ := c_sent h1 hw ho (t := 0) (by decide)
          rw [L0, e, obd_of rfl]
          refine lpJ (N := 6) (j0 := 1) (b := (nI 0, nI (kS P s w 0), A1)) (fun f j (b : Int32 × Int32 × MM) => q_X6_sent_50 (nI w) (nI c) f b.1 b.2.1 (nI j) b.2.2) (fun j b => b.1 = nI (sentS P s w j).1 ∧ b.2.1 = nI (sentS P s w j).2 ∧ K 10 A b.2.2) (fun r => ∃ A2, r = some (if c = 0 then nI (sentS P s w 6).1 else nI (sentS P s w 6).2, A2) ∧ K 10 A A2) (by decide) (by decide) ?_ ?_ ?_
          · show nI 0 = nI (sentS P s w 1).1 ∧ nI (kS P s w 0) = nI (sentS P s w 1).2 ∧ K 10 A A1
            rw [sentS_1]
            exact ⟨rfl, rfl, k⟩
          · rintro f ⟨x, y, M⟩ ⟨m1, m2, m3⟩
            refine ⟨M, ?_, m3⟩
            show q_X6_sent_50 (nI w) (nI c) (f + 1) x y (nI 6) M = _
            have m1 : x = nI (sentS P s w 6).1 := m1
            have m2 : y = nI (sentS P s w 6).2 := m2
            rw [q_X6_sent_50, if_pos (by decide), m1, m2]
            rcases (show c = 0 ∨ c = 1 by omega) with rfl | rfl
            · rw [if_pos nI_0, if_pos rfl]
            · rw [if_neg (by decide), if_neg (by decide)]
          · rintro f j ⟨x, y, M⟩ hj ⟨m1, m2, m3⟩
            right
            have m1 : x = nI (sentS P s w j).1 := m1
            have m2 : y = nI (sentS P s w j).2 := m2
            have m3 : K 10 A M := m3
            subst m1 m2
            have l2 := sentS_lt (P := P) (s := s) (w := w) j
            have l5 : kS P s w j ≤ 6 := keptN_le
            obtain ⟨M2, e2, k2⟩ := c_sent (CS_K h1 m3 (by omega)) hw ho hj
            show ∃ b2 : Int32 × Int32 × MM, _ ∧ q_X6_sent_50 (nI w) (nI c) (f + 1) (nI (sentS P s w j).1) (nI (sentS P s w j).2) (nI j) M = q_X6_sent_50 (nI w) (nI c) f b2.1 b2.2.1 (nI (j + 1)) b2.2.2
            rw [q_X6_sent_50, L6, if_neg (nge hj (by decide)), e2, obd_of rfl]
            have hs := sentS_s (P := P) (s := s) (w := w) j
            by_cases g : (sentS P s w j).2 < kS P s w j
            · rw [if_pos g] at hs
              rw [if_neg (fun q => by have := (nI_leI (by omega) (by omega)).mp q; omega), q_X6_sent_80, nI_1]
              exact ⟨(nI j, nI (kS P s w j), M2), ⟨by rw [hs], by rw [hs], m3.trans k2⟩, rfl⟩
            · rw [if_neg g] at hs
              rw [if_pos (nI_le (by omega) (by omega)), q_X6_sent_80, nI_1]
              exact ⟨(nI (sentS P s w j).1, nI (sentS P s w j).2, M2), ⟨by rw [hs], by rw [hs], m3.trans k2⟩, rfl⟩
        · refine lpJ (N := 6) (j0 := 0) (fun f j (M : MM) => q_X7_sent_57 (nI w) (nI c) f (nI j) M) (fun j M => kE B M ∧ ((j = 0 ∧ M.1 0 9 = 0 ∧ M.1 0 10 = -9) ∨ (1 ≤ j ∧ M.1 0 9 = nI (sentS P s w j).1 ∧ M.1 0 10 = nI (sentS P s w j).2))) (fun r => ∃ A2, r = some (if c = 0 then nI (sentS P s w 6).1 else nI (sentS P s w 6).2, A2) ∧ kE B A2) (by omega) (by omega) ?_ ?_ ?_
          · exact ⟨z_0.trans ((kE_0 (by omega)).trans (kE_0 (by omega))), Or.inl ⟨rfl, by rw [mU2 (by omega)], mU_at⟩⟩
          · rintro f M ⟨m2, m3⟩
            refine ⟨M, ?_, m2⟩
            rcases m3 with ⟨m3, _⟩ | ⟨m3, m4, m5⟩
            · omega
            show q_X7_sent_57 (nI w) (nI c) (f + 1) (nI 6) M = _
            rw [q_X7_sent_57, if_pos (by decide), m4, m5]
            rcases (show c = 0 ∨ c = 1 by omega) with rfl | rfl
            · rw [if_pos nI_0, if_pos rfl]
            · rw [if_neg (by decide), if_neg (by decide)]
          · rintro f j M hj ⟨m2, m3⟩
            right
            have m1 := DS_e h2 m2
            have l2 := sentS_lt (P := P) (s := s) (w := w) j
            have l5 : kS P s w j ≤ 6 := keptN_le
            obtain ⟨B1, e1, b1, k1⟩ := bg_M m1
            obtain ⟨b2, k2⟩ := m_place b1 hw hj
            obtain ⟨B3, e3, b3, k3⟩ := m_open b2 hw
            obtain ⟨B4, e4, b4, k4⟩ := m_kept b3
            have k : K 7 M B4 := k1.trans (k2.trans (k3.trans k4))
            have q9 : B4.1 0 9 = M.1 0 9 := by rw [k.2 0 (by omega)]
            have q10 : B4.1 0 10 = M.1 0 10 := by rw [k.2 0 (by omega)]
            have kk : kE B B4 := m2.trans k.e
            have hkS : keptN P (openS P (moveS s w j) w) = kS P s w j := rfl
            show ∃ b2 : MM, _ ∧ q_X7_sent_57 (nI w) (nI c) (f + 1) (nI j) M = q_X7_sent_57 (nI w) (nI c) f (nI (j + 1)) b2
            rw [q_X7_sent_57, L6, if_neg (nge hj (by decide)), e1, obd_of rfl, ogd_pos (ib_nI (by omega) (by decide)), ncl (by omega), e3, obd_of rfl, e4, obd_of rfl, hkS]
            have hs := sentS_s (P := P) (s := s) (w := w) j
            have kf : ∀ a b, kE B (mU (mU B4 0 9 a) 0 10 b) := fun a b => kk.trans ((kE_0 (by omega)).trans (kE_0 (by omega)))
            have mv : B4.1 0 10 < nI (kS P s w j) → sentS P s w (j + 1) = (j, kS P s w j) → ∀ f, ∃ b2 : MM, (kE B b2 ∧ ((j + 1 = 0 ∧ b2.1 0 9 = 0 ∧ b2.1 0 10 = -9) ∨ (1 ≤ j + 1 ∧ b2.1 0 9 = nI (sentS P s w (j + 1)).1 ∧ b2.1 0 10 = nI (sentS P s w (j + 1)).2))) ∧ (if nI (kS P s w j) ≤ B4.1 0 10 then q_X7_sent_107 (nI w) (nI c) (q_X7_sent_57 (nI w) (nI c) f) (nI j) (nI (kS P s w j)) (B4.1 0 9) B4 else q_X7_sent_107 (nI w) (nI c) (q_X7_sent_57 (nI w) (nI c) f) (nI j) (nI (kS P s w j)) (nI j) B4) = q_X7_sent_57 (nI w) (nI c) f (nI (j + 1)) b2 := by
              intro g hs f
              refine ⟨_, ⟨kf (nI j) (nI (kS P s w j)), Or.inr ⟨by omega, by rw [mU2 (by omega), hs], by rw [mU_at, hs]⟩⟩, ?_⟩
              rw [if_neg (Int32.not_le.mpr g), q_X7_sent_107, mU_0 (by omega), if_neg (Int32.not_le.mpr g), q_X7_sent_129, nI_1]
            rcases m3 with ⟨rfl, m4, m5⟩ | ⟨m3, m4, m5⟩
            · refine mv ?_ sentS_1 f
              rw [q10, m5, Int32.lt_iff_toInt_lt, nI_toInt (by omega), show (-9 : Int32).toInt = -9 from rfl]
              omega
            · by_cases g : (sentS P s w j).2 < kS P s w j
              · rw [if_pos g] at hs
                exact mv (by rw [q10, m5]; exact nI_lt g (by omega)) hs f
              · rw [if_neg g] at hs
                refine ⟨_, ⟨kf (B4.1 0 9) (B4.1 0 10), Or.inr ⟨by omega, by rw [mU2 (by omega), hs, q9, m4], by rw [mU_at, hs, q10, m5]⟩⟩, ?_⟩
                have hle : nI (kS P s w j) ≤ B4.1 0 10 := by rw [q10, m5]; exact nI_le (by omega) (by omega)
                rw [if_pos hle, q_X7_sent_107, mU_0 (by omega), if_pos hle, q_X7_sent_129, nI_1]
