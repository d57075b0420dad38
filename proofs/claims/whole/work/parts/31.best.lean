-- the best of all who may open
theorem b6_andn : ∀ a b c d e f a' b' c' d' e' f' : Bool, b6 a b c d e f &&& (b6 a' b' c' d' e' f' ^^^ (-1 : Int32)) = b6 (a && !a') (b && !b') (c && !c') (d && !d') (e && !e') (f && !f') := by decide +kernel
theorem bs_andn (p q : Nat → Bool) : bs p &&& (bs q ^^^ (-1 : Int32)) = bs (fun t => p t && !q t) := b6_andn _ _ _ _ _ _ _ _ _ _ _ _
theorem shW {W : Nat} (h : W ≤ 5) : (1 : Int32) <<< (nI W &&& 31) = nI (2 ^ W) := by
  rcases (show W = 0 ∨ W = 1 ∨ W = 2 ∨ W = 3 ∨ W = 4 ∨ W = 5 by omega) with rfl | rfl | rfl | rfl | rfl | rfl <;> decide
theorem shW1 {W : Nat} (h : W ≤ 5) : (1 : Int32) <<< (nI W &&& 31) - 1 = bs (fun t => decide (t < W)) := by
  rcases (show W = 0 ∨ W = 1 ∨ W = 2 ∨ W = 3 ∨ W = 4 ∨ W = 5 by omega) with rfl | rfl | rfl | rfl | rfl | rfl <;> decide
theorem pw5 {W : Nat} (h : W ≤ 5) : 2 ^ W ≤ 32 := Nat.pow_le_pow_right (by decide) h
theorem pw0 (W : Nat) : 1 ≤ 2 ^ W := Nat.one_le_two_pow
theorem tb_lt {j W t : Nat} (h : j < 2 ^ W) (ht : W ≤ t) : j.testBit t = false := Nat.testBit_lt_two_pow (Nat.lt_of_lt_of_le h (Nat.pow_le_pow_right (by decide) ht))
theorem tb_hi : ∀ W, W < 6 → ∀ j, j < 32 → 2 ^ W ≤ j → ∃ t, t < 6 ∧ W ≤ t ∧ j.testBit t = true := by decide +kernel
theorem bs_z {p : Nat → Bool} (h : ∀ t, t < 6 → p t = false) : bs p = 0 := (bs_congr (q := fun _ => false) h).trans bs_0
theorem bs_nz {p : Nat → Bool} {t : Nat} (ht : t < 6) (h : p t = true) : ¬ bs p = 0 := by
  intro e
  have := bs_inj (p := p) (q := fun _ => false) (e.trans bs_0.symm) t ht
  rw [h] at this
  exact absurd this (by decide)
def shutB (P : PL) (s : SC) (t : Nat) : Bool := decide (t < pW P) && !sO s t
def wiB (P : PL) (s : SC) (j : Nat) : Bool := decide (bs (fun t => j.testBit t && !shutB P s t) = 0)
theorem shut_C {P : PL} {M : MM} {i : Nat} {s : SC} (h : CS P M i s) : t_X3_shutBits i M = bs (shutB P s) := by
  unfold t_X3_shutBits
  rw [show t_X2_walkerCount M = M.1 0 1 from rfl, h.2.1.1, shW1 h.1.1, h.2.2.2.2.1, bs_andn]
  rfl
theorem wi_C {P : PL} {s : SC} {j : Nat} (hj : j < 64) : t_X6_isWithin (nI j) (bs (shutB P s)) = wiB P s j := by
  unfold t_X6_isWithin wiB
  rw [nIbs j hj, bs_andn]
  by_cases e : bs (fun t => j.testBit t && !shutB P s t) = 0
  · rw [if_pos e, decide_eq_true e]
  · rw [if_neg e, decide_eq_false e]
theorem wi_M {P : PL} {s : SC} {j : Nat} (hW : pW P ≤ 5) (hj : j < 2 ^ pW P) : (nI j &&& bs (sO s) = 0) ↔ wiB P s j = true := by
  have := pw5 hW
  unfold wiB
  rw [nIbs j (by omega), bs_and, decide_eq_true_iff]
  rw [bs_congr (q := fun t => j.testBit t && !shutB P s t) (fun t ht => ?_)]
  by_cases g : pW P ≤ t
  · rw [tb_lt hj g]; rfl
  · unfold shutB
    rw [decide_eq_true (show t < pW P by omega)]
    cases sO s t <;> rfl
theorem wi_hi {P : PL} {s : SC} {j : Nat} (hW : pW P ≤ 5) (hj : j < 32) (h : 2 ^ pW P ≤ j) : wiB P s j = false := by
  obtain ⟨t, t1, t2, t3⟩ := tb_hi (pW P) (by omega) j hj h
  unfold wiB
  refine decide_eq_false (bs_nz t1 ?_)
  show (j.testBit t && !(decide (t < pW P) && !sO s t)) = true
  rw [t3, decide_eq_false (show ¬ t < pW P by omega)]
  rfl
theorem wi_lo {P : PL} {s : SC} {j : Nat} (h : wiB P s j = true) : ∀ w, w < 6 → j.testBit w = true → sO s w = false := by
  intro w hw hb
  have h := of_decide_eq_true h
  cases g : sO s w with
  | false => rfl
  | true =>
    refine absurd h (bs_nz (t := w) hw ?_)
    show (j.testBit w && !(decide (w < pW P) && !sO s w)) = true
    rw [hb, g]
    cases decide (w < pW P) <;> rfl
def kO (P : PL) (s : SC) (j : Nat) : Nat := keptN P (openAll P (fun t => j.testBit t) s (pW P))
def bcN (j : Nat) : Nat := cnt (fun t => j.testBit t) 6
def btB (k : Nat → Nat) (n : Nat) (b : Nat × Nat) : Bool := decide (b.2 < k n) || (decide (b.2 = k n) && decide (bcN n < bcN b.1))
def askS (P : PL) (s : SC) : Nat → Nat × Nat
  | 0 => (0, kO P s 0)
  | n + 1 => if wiB P s n && btB (kO P s) n (askS P s n) then (n, kO P s n) else askS P s n
theorem askS_s {P : PL} {s : SC} (n : Nat) : askS P s (n + 1) = if wiB P s n && btB (kO P s) n (askS P s n) then (n, kO P s n) else askS P s n := rfl
theorem keptN_le {P : PL} {s : SC} : keptN P s ≤ 6 := cnt_le _ _
theorem askS_lt {P : PL} {s : SC} : ∀ n, (askS P s n).1 ≤ n ∧ (askS P s n).2 ≤ 6
  | 0 => ⟨Nat.le_refl _, keptN_le⟩
  | n + 1 => by
    have ih := askS_lt (P := P) (s := s) n
    rw [askS_s]
    split
    · exact ⟨by show n ≤ n + 1; omega, keptN_le⟩
    · exact ⟨by omega, ih.2⟩
theorem askS_1 {P : PL} {s : SC} : askS P s 1 = (0, kO P s 0) := by
  rw [askS_s]
  split <;> rfl
theorem askS_hi {P : PL} {s : SC} (hW : pW P ≤ 5) : ∀ d, 2 ^ pW P + d ≤ 32 → askS P s (2 ^ pW P + d) = askS P s (2 ^ pW P)
  | 0, _ => rfl
  | d + 1, h => by
    rw [show 2 ^ pW P + (d + 1) = (2 ^ pW P + d) + 1 by omega, askS_s, wi_hi hW (by omega) (by omega), Bool.false_and]
    exact askS_hi hW d (by omega)
theorem c_opened {P : PL} {M : MM} {s : SC} (h : CS P M 0 s) {j : Nat} (hj : j < 64) : ∃ M2, q_X6_keptIfOpened (nI j) M = some (nI (kO P s j), M2) ∧ K 10 M M2 := by
  obtain ⟨a1, a2⟩ := bg_C h
  obtain ⟨A2, e, a3, a4⟩ := c_all a1 (fun t => j.testBit t)
  obtain ⟨A3, e3, a5, a6⟩ := c_kept a3
  refine ⟨A3, ?_, a2.trans (a4.trans a6)⟩
  unfold q_X6_keptIfOpened
  rw [nIbs j hj, e, obd_of rfl]
  exact e3 _
theorem bc_nI {j : Nat} (hj : j < 64) : t_J6_bitCount_0f7a4 (nI j) = nI (bcN j) := by rw [nIbs j hj, bitC]; rfl
theorem many_nI {j : Nat} (hj : j < 64) (M : MM) : q_X7_many (nI j) M = some (nI (bcN j), M) := by rw [nIbs j hj, manyM]; rfl
theorem bcN_le (j : Nat) : bcN j ≤ 6 := cnt_le _ _
theorem asked_C {P : PL} {A : MM} {s : SC} (h : CS P A 0 s) {c : Nat} (hc : c < 2) : ∃ A2, q_X6_asked (nI c) A = some (if c = 0 then nI (askS P s 32).1 else nI (askS P s 32).2, A2) ∧ K 10 A A2 := by
  unfold q_X6_asked
  rw [ch_in hc, if_neg b1n, L0]
  obtain ⟨A1, e, k⟩ := c_opened h (j := 0) (by decide)
  rw [e, obd_of rfl]
  refine lpJ (N := 32) (j0 := 1) (b := (nI 0, nI (kO P s 0), A1)) (fun f j (b : Int32 × Int32 × MM) => q_X6_asked_21 (nI c) f b.1 b.2.1 (nI j) b.2.2) (fun j b => b.1 = nI (askS P s j).1 ∧ b.2.1 = nI (askS P s j).2 ∧ K 10 A b.2.2) (fun r => ∃ A2, r = some (if c = 0 then nI (askS P s 32).1 else nI (askS P s 32).2, A2) ∧ K 10 A A2) (by decide) (by decide) ?_ ?_ ?_
  · show nI 0 = nI (askS P s 1).1 ∧ nI (kO P s 0) = nI (askS P s 1).2 ∧ K 10 A A1
    rw [askS_1]
    exact ⟨rfl, rfl, k⟩
  · rintro f ⟨x, y, M⟩ ⟨m1, m2, m3⟩
    refine ⟨M, ?_, m3⟩
    show q_X6_asked_21 (nI c) (f + 1) x y (nI 32) M = _
    have m1 : x = nI (askS P s 32).1 := m1
    have m2 : y = nI (askS P s 32).2 := m2
    rw [q_X6_asked_21, if_pos (by decide), m1, m2]
    rcases (show c = 0 ∨ c = 1 by omega) with rfl | rfl
    · rw [if_pos nI_0, if_pos rfl]
    · rw [if_neg (by decide), if_neg (by decide)]
  · rintro f j ⟨x, y, M⟩ hj ⟨m1, m2, m3⟩
    right
    have m1 : x = nI (askS P s j).1 := m1
    have m2 : y = nI (askS P s j).2 := m2
    have m3 : K 10 A M := m3
    subst m1 m2
    have hM : CS P M 0 s := CS_K h m3 (by omega)
    obtain ⟨l1, l2⟩ := askS_lt (P := P) (s := s) j
    have l3 := bcN_le j
    have l4 := bcN_le (askS P s j).1
    have l5 : kO P s j ≤ 6 := keptN_le
    show ∃ b2 : Int32 × Int32 × MM, _ ∧ q_X6_asked_21 (nI c) (f + 1) (nI (askS P s j).1) (nI (askS P s j).2) (nI j) M = q_X6_asked_21 (nI c) f b2.1 b2.2.1 (nI (j + 1)) b2.2.2
    rw [q_X6_asked_21, L32, if_neg (nge hj (by decide)), shut_C hM, wi_C (by omega)]
    have stay : ∀ (M2 : MM), K 10 A M2 → askS P s (j + 1) = askS P s j → ∀ f, ∃ b2 : Int32 × Int32 × MM, (b2.1 = nI (askS P s (j + 1)).1 ∧ b2.2.1 = nI (askS P s (j + 1)).2 ∧ K 10 A b2.2.2) ∧ q_X6_asked_93 (nI c) (q_X6_asked_21 (nI c) f) (nI (askS P s j).1) (nI (askS P s j).2) (nI j) M2 = q_X6_asked_21 (nI c) f b2.1 b2.2.1 (nI (j + 1)) b2.2.2 := by
      intro M2 k2 e2 f
      refine ⟨(_, _, M2), ⟨by rw [e2], by rw [e2], k2⟩, ?_⟩
      rw [q_X6_asked_93, nI_1]
    have move : ∀ (M2 : MM), K 10 A M2 → askS P s (j + 1) = (j, kO P s j) → ∀ f, ∃ b2 : Int32 × Int32 × MM, (b2.1 = nI (askS P s (j + 1)).1 ∧ b2.2.1 = nI (askS P s (j + 1)).2 ∧ K 10 A b2.2.2) ∧ q_X6_asked_87 (nI c) (q_X6_asked_21 (nI c) f) (nI j) (nI (kO P s j)) M2 = q_X6_asked_21 (nI c) f b2.1 b2.2.1 (nI (j + 1)) b2.2.2 := by
      intro M2 k2 e2 f
      refine ⟨(nI j, nI (kO P s j), M2), ⟨by rw [e2], by rw [e2], k2⟩, ?_⟩
      rw [q_X6_asked_87, q_X6_asked_93, nI_1]
    cases hw : wiB P s j with
    | false =>
      rw [if_pos b2i_f]
      refine stay M m3 ?_ f
      rw [askS_s, hw, Bool.false_and]
      rfl
    | true =>
      obtain ⟨M2, e2, k2⟩ := c_opened hM (j := j) (by omega)
      rw [if_neg b1n, e2, obd_of rfl, bc_nI (show (askS P s j).1 < 64 by omega), bc_nI (show j < 64 by omega)]
      have hb : askS P s (j + 1) = if btB (kO P s) j (askS P s j) then (j, kO P s j) else askS P s j := by rw [askS_s, hw, Bool.true_and]
      unfold btB at hb
      by_cases g1 : (askS P s j).2 < kO P s j
      · have hb : askS P s (j + 1) = (j, kO P s j) := by rw [hb, decide_eq_true g1]; rfl
        have e3 : ∀ z, q_X6_asked_68 (nI c) (q_X6_asked_21 (nI c) f) (nI (askS P s j).1) (nI (askS P s j).2) (nI j) (nI (kO P s j)) z M2 = q_X6_asked_87 (nI c) (q_X6_asked_21 (nI c) f) (nI j) (nI (kO P s j)) M2 := by
          intro z
          rw [q_X6_asked_68, if_pos (nI_lt g1 (by omega))]
        rw [e3, e3]
        have : ∀ {α : Type} (p : Prop) (hp : Decidable p) (x : α), (@ite α p hp x x) = x := by intro α p hp x; split <;> rfl
        rw [this]
        exact move M2 (m3.trans k2) hb f
      · rw [decide_eq_false g1, Bool.false_or] at hb
        by_cases g2 : (askS P s j).2 = kO P s j
        · rw [decide_eq_true g2, Bool.true_and] at hb
          by_cases g3 : bcN j < bcN (askS P s j).1
          · rw [if_pos (decide_eq_true g3)] at hb
            rw [if_neg (fun q => by have := (nI_leI (by omega) (by omega)).mp q; omega), q_X6_asked_68, if_neg (nI_nlt (by omega) (by omega)), if_pos (by rw [g2]), if_neg (by decide)]
            exact move M2 (m3.trans k2) hb f
          · rw [if_neg (by simpa using g3)] at hb
            rw [if_pos (nI_le (by omega) (by omega)), q_X6_asked_68, if_neg (nI_nlt (by omega) (by omega)), if_pos (by rw [g2]), if_pos rfl]
            exact stay M2 (m3.trans k2) hb f
        · rw [decide_eq_false g2, Bool.false_and] at hb
          have e3 : ∀ z, q_X6_asked_68 (nI c) (q_X6_asked_21 (nI c) f) (nI (askS P s j).1) (nI (askS P s j).2) (nI j) (nI (kO P s j)) z M2 = q_X6_asked_93 (nI c) (q_X6_asked_21 (nI c) f) (nI (askS P s j).1) (nI (askS P s j).2) (nI j) M2 := by
            intro z
            rw [q_X6_asked_68, if_neg (nI_nlt (by omega) (by omega)), if_neg (fun q => g2 ((nI_eq (by omega) (by omega)).mp q).symm)]
          rw [e3, e3]
          have : ∀ {α : Type} (p : Prop) (hp : Decidable p) (x : α), (@ite α p hp x x) = x := by intro α p hp x; split <;> rfl
          rw [this]
          exact stay M2 (m3.trans k2) hb f
