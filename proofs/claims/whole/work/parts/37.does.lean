-- one event: a kind, a walker, a figure
def stN (z : Int32) : Nat := z.toNatClampNeg
def doS (P : PL) (s : SC) (a b c : Nat) : Option SC :=
  if a = 0 then (if b = 0 ∧ c = 0 then some (hourS P s) else none)
  else if a = 1 then (if b = 0 ∧ c < pW P ∧ sO s c = false then some (openS P s c) else none)
  else if a = 2 then (if b = 0 ∧ c < pW P ∧ sO s c = true then some (shutS P s c) else none)
  else if a = 3 then (if c < 2 ∧ b < pW P ∧ (!sO s b && t_X6_isStreet (nI (sP s b) + dC (nI c))) = true then some (moveS s b (stN (nI (sP s b) + dC (nI c)))) else none)
  else if a = 4 then (if b = 0 ∧ c < 6 ∧ rainB P s c = true then some s else none)
  else if a = 5 then (if b = 0 ∧ c < pN P ∧ sF s c = 1 then some s else none)
  else none
theorem st_in {z : Int32} (h : t_X6_isStreet z = true) : stN z < 6 ∧ z = nI (stN z) := by
  rcases cases_n z (n := 6) (by decide) with o | ⟨t, ht, rfl⟩
  · rw [is_out o] at h
    exact absurd h (by decide)
  · unfold stN
    rw [ncl (by omega)]
    exact ⟨ht, rfl⟩
def evC (P : PL) (M : MM) (o : Option SC) (x : Option (Bool × MM)) : Prop := match o with
  | some s2 => ∃ M2, x = some (true, M2) ∧ CS P M2 1 s2 ∧ K 10 M M2
  | none => ∃ M2, x = some (false, M2) ∧ K 10 M M2
def evM (P : PL) (M : MM) (o : Option SC) (x : Option (Bool × MM)) : Prop := match o with
  | some s2 => ∃ M2, x = some (true, M2) ∧ DS P M2 7 s2 ∧ K 7 M M2
  | none => x = some (false, M)
theorem evC_n {P : PL} {M : MM} {x : Option (Bool × MM)} (h : x = some (false, M)) : evC P M none x := ⟨M, h, K.rfl⟩
theorem nE {a k : Nat} (ha : a < 1000) (hk : k < 1000) (h : a ≠ k) : ¬ nI a = nI k := fun q => h ((nI_eq (by omega) (by omega)).mp q)
section
variable {P : PL} {M : MM} {s : SC}
theorem ev_move (h : CS P M 1 s) {b : Nat} (hb : b < 10) (x : Int32) {c : Nat} (hx : dC x = dC (nI c)) (hc : c < 2) : evC P M (if c < 2 ∧ b < pW P ∧ (!sO s b && t_X6_isStreet (nI (sP s b) + dC (nI c))) = true then some (moveS s b (stN (nI (sP s b) + dC (nI c)))) else none) (q_X3_move 1 (nI b) x M) := by
  have h5 := h.1.1
  by_cases hw : b < pW P
  · by_cases g : (!sO s b && t_X6_isStreet (nI (sP s b) + dC (nI c))) = true
    · rw [if_pos ⟨hc, hw, g⟩]
      rw [Bool.and_eq_true, Bool.not_eq_true'] at g
      obtain ⟨ho, g⟩ := g
      obtain ⟨g1, g2⟩ := st_in g
      exact ⟨_, move_C h hw x ho g1 (by rw [hx]; exact g2), CS_row h (WS_move h.2.2.1 g1) (RP_move h.1 h.2.2.2 hw), K_mR⟩
    · rw [if_neg (fun q => g q.2.2)]
      exact evC_n (move_C0 h hw x (by rw [hx]; simpa using g))
  · rw [if_neg (fun q => hw q.2.1)]
    exact evC_n (move_C1 h.2.1 (Or.inr (nI_le (by omega) (by omega))))
theorem ev_C (h : CS P M 1 s) {a b c : Nat} (ha : a < 10) (hb : b < 10) (hc : c < 10) : evC P M (doS P s a b c) (q_X6_comesTrue (nI a) (nI b) (nI c) M) := by
  have h5 := h.1.1
  have hN := h.1.2.1
  unfold q_X6_comesTrue doS
  by_cases a3 : a = 3
  · subst a3
    rw [if_neg (show ¬ (3 : Nat) = 0 by decide), if_neg (show ¬ (3 : Nat) = 1 by decide), if_neg (show ¬ (3 : Nat) = 2 by decide), if_pos (rfl : (3 : Nat) = 3), if_pos (show nI 3 = (3 : Int32) from rfl)]
    by_cases c2 : c < 2
    · rw [ch_in c2, if_neg b1n]
      have key : ∀ x : Int32, dC x = dC (nI c) → evC P M (if c < 2 ∧ b < pW P ∧ (!sO s b && t_X6_isStreet (nI (sP s b) + dC (nI c))) = true then some (moveS s b (stN (nI (sP s b) + dC (nI c)))) else none) (q_X6_comesTrue_27 (nI 3) (nI b) (nI c) (nI b) x M) := by
        intro x hx
        have e := ev_move h hb x hx c2
        revert e
        unfold q_X6_comesTrue_27
        generalize (if c < 2 ∧ b < pW P ∧ (!sO s b && t_X6_isStreet (nI (sP s b) + dC (nI c))) = true then some (moveS s b (stN (nI (sP s b) + dC (nI c)))) else none) = o
        cases o with
        | none =>
          rintro ⟨M2, e, k⟩
          exact ⟨M2, by rw [e, obd_of rfl, if_pos b2i_f], k⟩
        | some s2 =>
          rintro ⟨M2, e, k⟩
          exact ⟨M2, by rw [e, obd_of rfl, if_neg b1n], k⟩
      rcases (show c = 0 ∨ c = 1 by omega) with rfl | rfl
      · rw [if_neg (by decide : ¬ nI 0 = (1 : Int32))]
        exact key 0 (by decide)
      · rw [if_pos (by decide : nI 1 = (1 : Int32))]
        exact key 1 (by decide)
    · rw [ch_out (Or.inr (nI_le (by omega) (by omega))), if_pos b2i_f, if_neg (fun q => c2 q.1)]
      exact evC_n rfl
  · rw [if_neg (show ¬ nI a = (3 : Int32) from nE (by omega) (by decide) a3), if_neg a3]
    by_cases b0 : b = 0
    · subst b0
      rw [if_pos nI_0]
      by_cases a0 : a = 0
      · subst a0
        rw [if_pos (rfl : (0 : Nat) = 0), if_pos (show nI 0 = (0 : Int32) from rfl)]
        obtain ⟨M2, e, k1, k2⟩ := c_hour h
        rw [e, obd_of rfl]
        by_cases c0 : c = 0
        · subst c0
          rw [if_pos ⟨rfl, rfl⟩, if_pos nI_0]
          exact ⟨M2, rfl, k1, k2⟩
        · rw [if_neg (fun q => c0 q.2), if_neg (nI_ne0 (by omega) (by omega))]
          exact ⟨M2, rfl, k2⟩
      · rw [if_neg a0, if_neg (show ¬ nI a = (0 : Int32) from nE (by omega) (by decide) a0)]
        by_cases a1 : a = 1
        · subst a1
          rw [if_pos (rfl : (1 : Nat) = 1), if_pos (show nI 1 = (1 : Int32) from rfl)]
          by_cases g : c < pW P ∧ sO s c = false
          · rw [if_pos ⟨rfl, g⟩]
            obtain ⟨M2, e, k1, k2⟩ := c_raise h g.1 g.2
            rw [e, obd_of rfl]
            exact ⟨M2, rfl, k1, k2⟩
          · rw [if_neg (fun q => g q.2)]
            by_cases c6 : c < 6
            · rw [raise_C0 h c6 g, obd_of rfl]
              exact evC_n rfl
            · rw [raise_out h.2.1 (Or.inr (nI_le (by omega) (by omega))), obd_of rfl]
              exact evC_n rfl
        · rw [if_neg a1, if_neg (show ¬ nI a = (1 : Int32) from nE (by omega) (by decide) a1)]
          by_cases a2 : a = 2
          · subst a2
            rw [if_pos (rfl : (2 : Nat) = 2), if_pos (show nI 2 = (2 : Int32) from rfl)]
            by_cases g : c < pW P ∧ sO s c = true
            · rw [if_pos ⟨rfl, g⟩]
              obtain ⟨M2, e, k1, k2⟩ := c_lower h g.1 g.2
              rw [e, obd_of rfl]
              exact ⟨M2, rfl, k1, k2⟩
            · rw [if_neg (fun q => g q.2)]
              by_cases c6 : c < 6
              · rw [lower_C0 h c6 g, obd_of rfl]
                exact evC_n rfl
              · rw [lower_out h.2.1 (Or.inr (nI_le (by omega) (by omega))), obd_of rfl]
                exact evC_n rfl
          · rw [if_neg a2, if_neg (show ¬ nI a = (2 : Int32) from nE (by omega) (by decide) a2), if_neg (show ¬ nI a = (3 : Int32) from nE (by omega) (by decide) a3)]
            by_cases a4 : a = 4
            · subst a4
              rw [if_pos (rfl : (4 : Nat) = 4), if_pos (show nI 4 = (4 : Int32) from rfl)]
              by_cases c6 : c < 6
              · rw [is_in c6, if_neg b1n, rain_C h, obd_of rfl, hasC _ c6]
                cases g : rainB P s c with
                | true =>
                  rw [if_neg b1n, if_pos ⟨rfl, c6, rfl⟩]
                  exact ⟨M, rfl, h, K.rfl⟩
                | false =>
                  rw [if_pos b2i_f, if_neg (fun q => absurd q.2.2 (by decide))]
                  exact evC_n rfl
              · rw [is_out (Or.inr (nI_le (by omega) (by omega))), if_pos b2i_f, if_neg (fun q => c6 q.2.1)]
                exact evC_n rfl
            · rw [if_neg a4, if_neg (show ¬ nI a = (4 : Int32) from nE (by omega) (by decide) a4)]
              by_cases a5 : a = 5
              · subst a5
                rw [if_pos (rfl : (5 : Nat) = 5), if_pos (show nI 5 = (5 : Int32) from rfl), L1, needs_C h (by decide), obd_of rfl]
                have e : t_X6_has (bs (needB P s 1)) (nI c) = (decide (c < pN P) && sF s c == 1) := by
                  by_cases c6 : c < 6
                  · rw [hasC _ c6]; rfl
                  · rw [decide_eq_false (show ¬ c < pN P by omega), Bool.false_and]
                    have : ∀ c, c < 10 → 6 ≤ c → ∀ u v w x y z : Bool, t_X6_has (b6 u v w x y z) (nI c) = false := by decide +kernel
                    exact this c hc (by omega) _ _ _ _ _ _
                rw [e]
                by_cases g : c < pN P ∧ sF s c = 1
                · rw [if_pos ⟨rfl, g⟩, decide_eq_true g.1, g.2]
                  exact ⟨M, rfl, h, K.rfl⟩
                · rw [if_neg (fun q => g q.2)]
                  refine evC_n ?_
                  rw [show (decide (c < pN P) && sF s c == 1) = false by
                    by_cases g2 : c < pN P
                    · rw [decide_eq_true g2, Bool.true_and]
                      simpa using fun q => g ⟨g2, q⟩
                    · rw [decide_eq_false g2, Bool.false_and]]
              · rw [if_neg a5, if_neg (show ¬ nI a = (5 : Int32) from nE (by omega) (by decide) a5)]
                exact evC_n rfl
    · rw [if_neg (nI_ne0 (by omega) (by omega))]
      have : (if a = 0 then (if b = 0 ∧ c = 0 then some (hourS P s) else none) else if a = 1 then (if b = 0 ∧ c < pW P ∧ sO s c = false then some (openS P s c) else none) else if a = 2 then (if b = 0 ∧ c < pW P ∧ sO s c = true then some (shutS P s c) else none) else if a = 4 then (if b = 0 ∧ c < 6 ∧ rainB P s c = true then some s else none) else if a = 5 then (if b = 0 ∧ c < pN P ∧ sF s c = 1 then some s else none) else none) = (none : Option SC) := by
        simp [b0]
      rw [this]
      exact evC_n rfl
end
theorem rnd_n (v : Int64) : ∃ r : Nat, r < 24 ∧ ((v.toUInt64 >>> ((33 : Int32).toInt64.toUInt64 &&& Int64.toUInt64 63)).toInt64 - (v.toUInt64 >>> ((33 : Int32).toInt64.toUInt64 &&& Int64.toUInt64 63)).toInt64 / (24 : Int64) * (24 : Int64)).toInt32 = nI r := by
  have e1 : (33 : Int32).toInt64.toUInt64 &&& Int64.toUInt64 63 = 33 := by decide
  rw [e1]
  have e2 : ∀ w : UInt64, w.toInt64 = lN w.toNat := by
    intro w
    apply Int64.toBitVec_inj.mp
    unfold lN
    simp
  have e3 : (v.toUInt64 >>> 33).toNat < 2 ^ 31 := by
    have := v.toUInt64.toNat_lt
    rw [UInt64.toNat_shiftRight, show (33 : UInt64).toNat % 64 = 33 from rfl, Nat.shiftRight_eq_div_pow]
    omega
  rw [e2]
  refine ⟨(v.toUInt64 >>> 33).toNat % 24, by omega, ?_⟩
  have := pk_lRem (a := (v.toUInt64 >>> 33).toNat) (b := 24) (by omega) (by decide) (by decide)
  refine (congrArg Int64.toInt32 this).trans ?_
  exact lN_i _
