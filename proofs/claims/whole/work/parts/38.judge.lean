-- one event in the reference; a judgement; weeks
section
variable {P : PL} {M : MM} {s : SC}
theorem d175_n {x : Int32} {a : Nat} (ha : a < 10) (h4 : a ≠ 4) (h5 : a ≠ 5) (v3 v4 : Int32) : q_X7_does_175 x (nI a) v3 v4 M = some (false, M) := by
  unfold q_X7_does_175
  rw [if_neg (show ¬ nI a = (4 : Int32) from nE (by omega) (by decide) h4), if_neg (show ¬ nI a = (5 : Int32) from nE (by omega) (by decide) h5)]
theorem d122_n {x : Int32} {a : Nat} (ha : a < 10) (h3 : a ≠ 3) (v3 v4 : Int32) : q_X7_does_122 x (nI a) v3 v4 M = q_X7_does_175 x (nI a) v3 v4 M := by
  unfold q_X7_does_122
  rw [if_neg (show ¬ nI a = (3 : Int32) from nE (by omega) (by decide) h3)]
theorem d78_n {x : Int32} {a : Nat} (ha : a < 10) (h2 : a ≠ 2) (v3 v4 : Int32) : q_X7_does_78 x (nI a) v3 v4 M = q_X7_does_122 x (nI a) v3 v4 M := by
  unfold q_X7_does_78
  rw [if_neg (show ¬ nI a = (2 : Int32) from nE (by omega) (by decide) h2)]
theorem ev_M (h : DS P M 7 s) {e : Nat} (he : e < 1000) : evM P M (doS P s (e / 100) (e / 10 % 10) (e % 10)) (q_X7_does (nI e) M) := by
  have h5 := h.1.1
  have hN := h.1.2.1
  have d1 : nI e / (100 : Int32) = nI (e / 100) := pk_div (by omega) (by decide) (by decide)
  have d0 : nI e / (10 : Int32) = nI (e / 10) := pk_div (by omega) (by decide) (by decide)
  have d2 : nI (e / 10) - nI (e / 10) / (10 : Int32) * (10 : Int32) = nI (e / 10 % 10) := pk_rem (by omega) (by decide) (by decide)
  have d3 : nI e - nI e / (10 : Int32) * (10 : Int32) = nI (e % 10) := pk_rem (by omega) (by decide) (by decide)
  have d4 : nI e - nI (e / 10) * (10 : Int32) = nI (e % 10) := by rw [← d0]; exact d3
  unfold q_X7_does
  rw [d1, d0, d2, d4]
  by_cases e0 : e = 0
  · subst e0
    rw [if_pos nI_0]
    unfold doS
    rw [if_pos (show 0 / 100 = 0 from rfl), if_pos ⟨rfl, rfl⟩]
    obtain ⟨M2, e, k1, k2⟩ := m_hour h
    rw [e, obd_of rfl]
    exact ⟨M2, rfl, k1, k2⟩
  · rw [if_neg (nI_ne0 (by omega) (by omega))]
    have hz : ¬ (e / 100 = 0 ∧ e / 10 % 10 = 0 ∧ e % 10 = 0) := by omega
    have ha : e / 100 < 10 := by omega
    have hb : e / 10 % 10 < 10 := by omega
    have hc : e % 10 < 10 := by omega
    clear d1 d0 d2 d3 d4
    revert hz ha hb hc
    generalize e / 100 = a
    generalize e / 10 % 10 = b
    generalize e % 10 = c
    intro hz ha hb hc
    have bb : b ≠ 0 → ¬ nI b = 0 := fun q => nI_ne0 (by omega) (by omega)
    have cN : ¬ c < pW P → t_X7_noWalker (nI c) M = true := fun q => nw_out h.2.1.1 h5 (Or.inr (nI_le (by omega) (by omega)))
    unfold doS
    by_cases a0 : a = 0
    · subst a0
      rw [if_pos (rfl : (0 : Nat) = 0), if_neg (show ¬ (b = 0 ∧ c = 0) from fun q => hz ⟨rfl, q.1, q.2⟩), if_neg (show ¬ nI 0 = (1 : Int32) by decide), d78_n (by omega) (by omega), d122_n (by omega) (by omega), d175_n (by omega) (by omega) (by omega)]
      exact rfl
    · rw [if_neg a0]
      by_cases a1 : a = 1
      · subst a1
        have stop : q_X7_does_78 (nI e) (nI 1) (nI b) (nI c) M = some (false, M) := by rw [d78_n (by omega) (by omega), d122_n (by omega) (by omega), d175_n (by omega) (by omega) (by omega)]
        rw [if_pos (rfl : (1 : Nat) = 1), if_pos (show nI 1 = (1 : Int32) from rfl), stop]
        by_cases b0 : b = 0
        · subst b0
          rw [if_pos nI_0]
          by_cases cw : c < pW P
          · rw [nw_in h.2.1.1 cw h5, if_pos b2i_f, ogd_pos (by decide), c5, h.2.2.2.2.1, hasM _ (by omega)]
            cases ho : sO s c with
            | false =>
              obtain ⟨M2, e, k1, k2⟩ := m_open h cw
              rw [if_pos b2i_f, if_pos ⟨rfl, cw, rfl⟩, e, obd_of rfl]
              exact ⟨M2, rfl, k1, k2⟩
            | true =>
              rw [if_neg b1n, if_neg (fun q => absurd q.2.2 (by decide))]
              exact rfl
          · rw [cN cw, if_neg b1n, if_neg (fun q => cw q.2.1)]
            exact rfl
        · rw [if_neg (bb b0), if_neg (fun q => b0 q.1)]
          exact rfl
      · rw [if_neg a1, if_neg (show ¬ nI a = (1 : Int32) from nE (by omega) (by decide) a1)]
        by_cases a2 : a = 2
        · subst a2
          have stop : q_X7_does_122 (nI e) (nI 2) (nI b) (nI c) M = some (false, M) := by rw [d122_n (by omega) (by omega), d175_n (by omega) (by omega) (by omega)]
          rw [if_pos (rfl : (2 : Nat) = 2)]
          unfold q_X7_does_78
          rw [if_pos (show nI 2 = (2 : Int32) from rfl), stop]
          by_cases b0 : b = 0
          · subst b0
            rw [if_pos nI_0]
            by_cases cw : c < pW P
            · rw [nw_in h.2.1.1 cw h5, if_pos b2i_f, ogd_pos (by decide), c5, h.2.2.2.2.1, hasM _ (by omega)]
              cases ho : sO s c with
              | true =>
                obtain ⟨M2, e, k1, k2⟩ := m_shut h cw
                rw [if_neg b1n, if_pos ⟨rfl, cw, rfl⟩, e, obd_of rfl]
                exact ⟨M2, rfl, k1, k2⟩
              | false =>
                rw [if_pos b2i_f, if_neg (fun q => absurd q.2.2 (by decide))]
                exact rfl
            · rw [cN cw, if_neg b1n, if_neg (fun q => cw q.2.1)]
              exact rfl
          · rw [if_neg (bb b0), if_neg (fun q => b0 q.1)]
            exact rfl
        · rw [if_neg a2, d78_n ha a2]
          by_cases a3 : a = 3
          · subst a3
            have stop : q_X7_does_175 (nI e) (nI 3) (nI b) (nI c) M = some (false, M) := d175_n (by omega) (by omega) (by omega) _ _
            rw [if_pos (rfl : (3 : Nat) = 3)]
            unfold q_X7_does_122
            rw [if_pos (show nI 3 = (3 : Int32) from rfl), stop]
            by_cases bw : b < pW P
            · rw [nw_in h.2.1.1 bw h5, if_pos b2i_f]
              by_cases c2 : c < 2
              · have dd : (2 : Int32) * nI c - 1 = dC (nI c) := by
                  rcases (show c = 0 ∨ c = 1 by omega) with rfl | rfl <;> decide
                rw [if_neg (show ¬ (2 : Int32) ≤ nI c from nge c2 (by decide)), dd, canWalk_M h bw, obd_of rfl]
                cases g : (!sO s b && t_X6_isStreet (nI (sP s b) + dC (nI c))) with
                | true =>
                  have g' := g
                  rw [Bool.and_eq_true, Bool.not_eq_true'] at g'
                  obtain ⟨g1, g2⟩ := st_in g'.2
                  rw [if_neg b1n, if_pos ⟨c2, bw, rfl⟩, ogd_pos (ib_nI (by omega) (by decide)), ogd_pos (ib_nI (by omega) (by decide)), ncl (by omega), h.2.2.2.1 b bw]
                  obtain ⟨k1, k2⟩ := m_place h bw g1
                  rw [← g2] at k1 k2
                  exact ⟨_, rfl, k1, k2⟩
                | false =>
                  rw [if_pos b2i_f, if_neg (fun q => absurd q.2.2 (by decide))]
                  exact rfl
              · rw [if_pos (show (2 : Int32) ≤ nI c from nI_le (a := 2) (by omega) (by omega)), if_neg (fun q => c2 q.1)]
                exact rfl
            · rw [nw_out h.2.1.1 h5 (Or.inr (nI_le (by omega) (by omega))), if_neg b1n, if_neg (fun q => bw q.2.1)]
              exact rfl
          · rw [if_neg a3, d122_n ha a3]
            unfold q_X7_does_175
            by_cases a4 : a = 4
            · subst a4
              rw [if_pos (rfl : (4 : Nat) = 4), if_pos (show nI 4 = (4 : Int32) from rfl)]
              by_cases b0 : b = 0
              · subst b0
                rw [if_pos nI_0]
                by_cases c6 : c < 6
                · rw [ns_in c6, if_pos b2i_f, rain_M h, obd_of rfl, hasM _ c6]
                  cases g : rainB P s c with
                  | true =>
                    rw [if_neg b1n, if_pos ⟨rfl, c6, rfl⟩]
                    exact ⟨M, rfl, h, K.rfl⟩
                  | false =>
                    rw [if_pos b2i_f, if_neg (fun q => absurd q.2.2 (by decide))]
                    exact rfl
                · rw [ns_out (Or.inr (nI_le (by omega) (by omega))), if_neg b1n, if_neg (fun q => c6 q.2.1)]
                  exact rfl
              · rw [if_neg (bb b0), if_neg (fun q => b0 q.1)]
                exact rfl
            · rw [if_neg a4, if_neg (show ¬ nI a = (4 : Int32) from nE (by omega) (by decide) a4)]
              by_cases a5 : a = 5
              · subst a5
                rw [if_pos (rfl : (5 : Nat) = 5), if_pos (show nI 5 = (5 : Int32) from rfl)]
                by_cases b0 : b = 0
                · subst b0
                  rw [if_pos nI_0, h.2.1.2.1]
                  by_cases cn : c < pN P
                  · rw [if_neg (nge cn (by omega)), a18, ogd_pos (ib_nI (by omega) (by decide)), ncl (by omega), h.2.2.2.2.2.2.2.1 c (by omega)]
                    have hf := h.2.2.1.2.2.2.1 c (by omega)
                    by_cases g : sF s c = 1
                    · rw [if_pos ⟨rfl, cn, g⟩, g, if_pos (show nI 1 = (1 : Int32) from rfl)]
                      exact ⟨M, rfl, h, K.rfl⟩
                    · rw [if_neg (fun q => g q.2.2), if_neg (show ¬ nI (sF s c) = (1 : Int32) from nE (by omega) (by decide) g)]
                      exact rfl
                  · rw [if_pos (nI_le (by omega) (by omega)), if_neg (fun q => cn q.2.1)]
                    exact rfl
                · rw [if_neg (bb b0), if_neg (fun q => b0 q.1)]
                  exact rfl
              · rw [if_neg a5, if_neg (show ¬ nI a = (5 : Int32) from nE (by omega) (by decide) a5)]
                exact rfl
end
-- a judgement
theorem wl_C (m k : Nat) (hm : m < 2 ^ 63) (hk : k < 8) (M : MM) : q_X6_withoutLast (lN m) (nI k) M = some (lN (m / 1000 ^ k), M) := by
  unfold q_X6_withoutLast
  refine (show q_X6_withoutLast_5 (lN m) (nI k) FU (lN m) 0 M = q_X6_withoutLast_5 (lN m) (nI k) FU (lN (m / 1000 ^ 0)) (nI 0) M by rw [Nat.pow_zero, Nat.div_one]; rfl).trans ?_
  refine lp0 k (fun f j => q_X6_withoutLast_5 (lN m) (nI k) f (lN (m / 1000 ^ j)) (nI j) M) _ (by omega) ?_ ?_
  · intro f
    rw [q_X6_withoutLast_5, if_pos (Int32.le_refl _)]
  · intro f j hj
    have hd : m / 1000 ^ j < 2 ^ 63 := Nat.lt_of_le_of_lt (Nat.div_le_self _ _) hm
    have e : lN (m / 1000 ^ j) / (1000 : Int64) = lN (m / 1000 ^ (j + 1)) := by
      have := pk_lDiv (b := 1000) hd (by decide) (by decide)
      refine this.trans ?_
      rw [Nat.div_div_eq_div_mul, Nat.pow_succ]
    rw [q_X6_withoutLast_5, if_neg (nge hj (by omega)), e, nI_1]
theorem lp_M (k : Nat) (hk : k < 6) (M : MM) : q_X7_longPower (1000 : Int64) (nI k) M = some (lN (1000 ^ k), M) := by
  unfold q_X7_longPower
  refine (show q_X7_longPower_5 1000 (nI k) FU 1 0 M = q_X7_longPower_5 1000 (nI k) FU (lN (1000 ^ 0)) (nI 0) M from rfl).trans ?_
  refine lp0 k (fun f j => q_X7_longPower_5 1000 (nI k) f (lN (1000 ^ j)) (nI j) M) _ (by omega) ?_ ?_
  · intro f
    rw [q_X7_longPower_5, if_pos (Int32.le_refl _)]
  · intro f j hj
    rw [q_X7_longPower_5, if_neg (nge hj (by omega)), show lN (1000 ^ j) * (1000 : Int64) = lN (1000 ^ j * 1000) from lN_mul _ 1000, nI_1, Nat.pow_succ]
def evN (m n i : Nat) : Nat := m / 1000 ^ (n - 1 - i) % 1000
def juS (P : PL) (s : SC) (m n : Nat) : Nat → Nat → Int32
  | 0, _ => -9
  | d + 1, i => match doS P s (evN m n i / 100) (evN m n i / 10 % 10) (evN m n i % 10) with
    | some s2 => juS P s2 m n d (i + 1)
    | none => nI i
theorem k_pow : ∀ k, k < 5 → 1000 ^ k < 2 ^ 63 := by decide
theorem ju_C {P : PL} {m n : Nat} (hm : m < 2 ^ 63) (hn : n < 5) : ∀ (d i : Nat) (f : Nat) (M : MM) (s : SC), i + d = n → d < f → CS P M 1 s → ∃ M2, q_X6_judge_43 (nI n) (lN m) f (nI i) M = some (juS P s m n d i, M2) ∧ K 10 M M2 := by
  intro d
  induction d with
  | zero =>
    intro i f M s hi hf h
    obtain ⟨g, rfl⟩ : ∃ g, f = g + 1 := ⟨f - 1, by omega⟩
    have : i = n := by omega
    subst this
    rw [q_X6_judge_43, if_pos (Int32.le_refl _)]
    exact ⟨M, rfl, K.rfl⟩
  | succ d ih =>
    intro i f M s hi hf h
    obtain ⟨g, rfl⟩ : ∃ g, f = g + 1 := ⟨f - 1, by omega⟩
    have hd : m / 1000 ^ (n - 1 - i) < 2 ^ 63 := Nat.lt_of_le_of_lt (Nat.div_le_self _ _) hm
    have e1 : (lN (m / 1000 ^ (n - 1 - i)) - lN (m / 1000 ^ (n - 1 - i)) / (1000 : Int64) * (1000 : Int64)).toInt32 = nI (evN m n i) := by
      have := pk_lRem (b := 1000) hd (by decide) (by decide)
      exact (congrArg Int64.toInt32 this).trans (lN_i _)
    have he : evN m n i < 1000 := Nat.mod_lt _ (by decide)
    have e2 : nI n - (1 : Int32) - nI i = nI (n - 1 - i) := by
      rw [show nI n - (1 : Int32) = nI (n - 1) from pk_sub (b := 1) (by omega), pk_sub (by omega)]
    have d1 : nI (evN m n i) / (100 : Int32) = nI (evN m n i / 100) := pk_div (by omega) (by decide) (by decide)
    have d0 : nI (evN m n i) / (10 : Int32) = nI (evN m n i / 10) := pk_div (by omega) (by decide) (by decide)
    have d2 : nI (evN m n i / 10) - nI (evN m n i / 10) / (10 : Int32) * (10 : Int32) = nI (evN m n i / 10 % 10) := pk_rem (by omega) (by decide) (by decide)
    have d3 : nI (evN m n i) - nI (evN m n i / 10) * (10 : Int32) = nI (evN m n i % 10) := by rw [← d0]; exact pk_rem (by omega) (by decide) (by decide)
    rw [q_X6_judge_43, if_neg (nge (show i < n by omega) (by omega)), e2, wl_C m _ hm (by omega), obd_of rfl, e1, d1, d0, d2, d3]
    have ev := ev_C h (a := evN m n i / 100) (b := evN m n i / 10 % 10) (c := evN m n i % 10) (by omega) (by omega) (by omega)
    unfold juS
    revert ev
    cases doS P s (evN m n i / 100) (evN m n i / 10 % 10) (evN m n i % 10) with
    | none =>
      rintro ⟨M2, q, k⟩
      rw [q, obd_of rfl, if_pos b2i_f]
      exact ⟨M2, rfl, k⟩
    | some s2 =>
      rintro ⟨M2, q, k1, k2⟩
      rw [q, obd_of rfl, if_neg b1n, nI_1]
      obtain ⟨M3, q3, k3⟩ := ih (i + 1) g M2 s2 (by omega) (by omega) k1
      exact ⟨M3, q3, k2.trans k3⟩
theorem ju_M {P : PL} {m n : Nat} (hm : m < 2 ^ 63) (hn : n < 5) : ∀ (d i : Nat) (f : Nat) (M : MM) (s : SC), i + d = n → d < f → DS P M 7 s → ∃ M2, q_X7_judge_44 (nI n) (lN m) f (nI i) M = some (juS P s m n d i, M2) ∧ K 7 M M2 := by
  intro d
  induction d with
  | zero =>
    intro i f M s hi hf h
    obtain ⟨g, rfl⟩ : ∃ g, f = g + 1 := ⟨f - 1, by omega⟩
    have : i = n := by omega
    subst this
    rw [q_X7_judge_44, if_pos (Int32.le_refl _)]
    exact ⟨M, rfl, K.rfl⟩
  | succ d ih =>
    intro i f M s hi hf h
    obtain ⟨g, rfl⟩ : ∃ g, f = g + 1 := ⟨f - 1, by omega⟩
    have hd : m / 1000 ^ (n - 1 - i) < 2 ^ 63 := Nat.lt_of_le_of_lt (Nat.div_le_self _ _) hm
    have hp := k_pow (n - 1 - i) (by omega)
    have h1 : 0 < 1000 ^ (n - 1 - i) := Nat.pow_pos (by decide)
    have e0 : lN m / lN (1000 ^ (n - 1 - i)) = lN (m / 1000 ^ (n - 1 - i)) := pk_lDiv hm h1 hp
    have e1 : (lN (m / 1000 ^ (n - 1 - i)) - lN (m / 1000 ^ (n - 1 - i)) / (1000 : Int64) * (1000 : Int64)).toInt32 = nI (evN m n i) := by
      have := pk_lRem (b := 1000) hd (by decide) (by decide)
      exact (congrArg Int64.toInt32 this).trans (lN_i _)
    have he : evN m n i < 1000 := Nat.mod_lt _ (by decide)
    have e2 : nI n - (1 : Int32) - nI i = nI (n - 1 - i) := by
      rw [show nI n - (1 : Int32) = nI (n - 1) from pk_sub (b := 1) (by omega), pk_sub (by omega)]
    have nz : ¬ lN (1000 ^ (n - 1 - i)) = 0 := fun q => by
      have := (pk_lEQ (b := 0) hp (by decide)).mp q
      omega
    rw [q_X7_judge_44, if_neg (nge (show i < n by omega) (by omega)), e2, lp_M _ (by omega), obd_of rfl, ogd_pos nz, e0, e1]
    have ev := ev_M h he
    unfold juS
    revert ev
    cases doS P s (evN m n i / 100) (evN m n i / 10 % 10) (evN m n i % 10) with
    | none =>
      intro q
      have q : q_X7_does (nI (evN m n i)) M = some (false, M) := q
      rw [q, obd_of rfl, if_pos b2i_f]
      exact ⟨M, rfl, K.rfl⟩
    | some s2 =>
      rintro ⟨M2, q, k1, k2⟩
      rw [q, obd_of rfl, if_neg b1n, nI_1]
      obtain ⟨M3, q3, k3⟩ := ih (i + 1) g M2 s2 (by omega) (by omega) k1
      exact ⟨M3, q3, k2.trans k3⟩
