-- the text of a town in the reference
theorem in_i {x lo hi : Int32} : t_X7_in x.toInt64 lo.toInt64 hi.toInt64 = (!decide (x < lo) && !decide (hi < x)) := by
  by_cases g : x < lo
  · rw [in_f1 (wlt.mpr g), decide_eq_true g]; rfl
  · rw [decide_eq_false g]
    by_cases g2 : hi < x
    · rw [in_f2 (wlt.mpr g2), decide_eq_true g2]; rfl
    · rw [in_t (fun q => g (wlt.mp q)) (fun q => g2 (wlt.mp q)), decide_eq_false g2]; rfl
theorem fg_n {b : Nat → Int32} {k : Nat} {lo hi : Int32} (h0 : 0 ≤ lo) (h : fg b k lo hi = true) : b k - 48 = nI (fnB b k) ∧ ¬ hi < b k - 48 ∧ fnB b k < 2 ^ 31 := by
  unfold fg at h
  rw [Bool.and_eq_true, Bool.not_eq_true', Bool.not_eq_true'] at h
  have h1 := of_decide_eq_false h.1
  have h2 := of_decide_eq_false h.2
  obtain ⟨j, hj, e⟩ := nI_of (x := b k - 48) (fun q => h1 (Int32.lt_of_lt_of_le q h0))
  unfold fnB
  rw [e, ncl hj]
  exact ⟨rfl, by rw [← e]; exact h2, hj⟩
theorem fg_le {b : Nat → Int32} {k : Nat} {lo : Int32} {m : Nat} (hm : m < 2 ^ 31) (h0 : 0 ≤ lo) (h : fg b k lo (nI m) = true) : fnB b k ≤ m := by
  obtain ⟨e, h2, h3⟩ := fg_n h0 h
  rw [e] at h2
  rcases Nat.lt_or_ge m (fnB b k) with g | g
  · exact absurd (nI_lt g h3) h2
  · exact g
theorem fg_9 {b : Nat → Int32} {k : Nat} {lo hi : Int32} (h0 : 0 ≤ lo) (h : fg b k lo hi = true) : ¬ b k - 48 = -9 := by
  obtain ⟨e, h2, h3⟩ := fg_n h0 h
  rw [e]
  intro q
  have := congrArg Int32.toInt q
  rw [nI_toInt h3] at this
  rw [show (-9 : Int32).toInt = -9 from rfl] at this
  omega
def TB (M : MM) (b : Nat → Int32) (n : Nat) : Prop := n ≤ 48 ∧ M.1 0 1 = nI n ∧ ∀ j, j < n → M.1 1 j = b j
def DT (M : MM) (st : TS) : Prop := M.1 0 5 = nI (pW st.2) ∧ M.1 0 6 = nI (pN st.2) ∧ (∀ w, w < pW st.2 → M.1 4 (2 * w) = nI (st.1 w) ∧ M.1 4 (2 * w + 1) = nI (pS st.2 w)) ∧ ∀ k, k < pN st.2 → M.1 5 (3 * k) = nI (pR st.2 k) ∧ M.1 5 (3 * k + 1) = nI (pT st.2 k) ∧ M.1 5 (3 * k + 2) = nI (pH st.2 k)
def WT (st : TS) : Prop := WP st.2 ∧ ∀ w, w < pW st.2 → st.1 w < 6
section
variable {M : MM} {b : Nat → Int32} {n : Nat}
theorem TB_e {M2 : MM} (h : TB M b n) (k : kE M M2) : TB M2 b n := ⟨h.1, (k.2.2 1 (by omega)).trans h.2.1, fun j hj => by rw [k.r (q := 1) (by omega)]; exact h.2.2 j hj⟩
theorem DT_2 {st : TS} {v : Int32} (h : DT M st) : DT (mU M 0 2 v) st := by
  unfold DT
  rw [mU_0 (by omega), mU_0 (by omega), mU_r (by omega), mU_r (by omega)]
  exact h
theorem fig_M (h : TB M b n) {i : Nat} (hi : i ≤ n) (h2 : M.1 0 2 = nI i) (lo hi2 : Int32) : q_X7_figure lo hi2 M = if i < n ∧ fg b i lo hi2 = true then some (b i - 48, mU M 0 2 (nI (i + 1))) else some (-9, M) := by
  have h48 := h.1
  unfold q_X7_figure
  rw [h2, h.2.1]
  by_cases g : i < n
  · rw [if_neg (fun q => by have := (nI_eq (by omega) (by omega)).mp q; omega), ogd_pos (ib_nI (by omega) (by decide)), ncl (by omega), h.2.2 i g, in_i, show (!decide (b i - 48 < lo) && !decide (hi2 < b i - 48)) = fg b i lo hi2 from rfl, nI_1]
    cases fg b i lo hi2 with
    | true => rw [if_neg b1n, if_pos ⟨g, rfl⟩, mU_at, nI_pred, ogd_pos (ib_nI (by omega) (by decide)), ncl (by omega), mU_r (by omega), h.2.2 i g]
    | false => rw [if_pos b2i_f, if_neg (fun q => absurd q.2 (by decide))]
  · have : i = n := by omega
    subst this
    rw [if_pos rfl, if_neg (fun q => g q.1)]
theorem one_W (h : TB M b n) {st : TS} (hd : DT M st) {k : Nat} (hk : k + 1 ≤ n) (h2 : M.1 0 2 = nI (k + 1)) (hw : pW st.2 < 5) : ∃ M2, kE M M2 ∧ (if tkW b n k = 3 then q_X7_readOneWalker M = some (true, M2) ∧ M2.1 0 2 = nI (k + 3) ∧ DT M2 (adW b k st) else q_X7_readOneWalker M = some (false, M2) ∧ M2.1 0 2 = nI (k + tkW b n k)) := by
  have h48 := h.1
  unfold q_X7_readOneWalker tkW
  rw [fig_M h hk h2]
  by_cases c1 : k + 1 < n ∧ fg b (k + 1) 0 5 = true
  · obtain ⟨e1, _, _⟩ := fg_n (by decide) c1.2
    have k1 : kE M (mU M 0 2 (nI (k + 1 + 1))) := kE_0 (by omega)
    rw [if_pos c1, if_pos c1, obd_of rfl, if_neg (fg_9 (by decide) c1.2), fig_M (i := k + 2) (TB_e h k1) (by omega) mU_at]
    by_cases c2 : k + 2 < n ∧ fg b (k + 2) 0 3 = true
    · obtain ⟨e2, _, _⟩ := fg_n (by decide) c2.2
      rw [if_pos c2, if_pos c2, obd_of rfl]
      simp only [if_pos (rfl : (3 : Nat) = 3)]
      unfold q_X7_readOneWalker_24
      have d5 : (mU (mU M 0 2 (nI (k + 1 + 1))) 0 2 (nI (k + 2 + 1))).1 0 5 = nI (pW st.2) := by rw [mU_0 (by omega), mU_0 (by omega)]; exact hd.1
      rw [if_neg (fg_9 (by decide) c2.2), d5, tw2, ogd_pos (ib_nI (by omega) (by decide)), ncl (by omega), mU_r (M := mU (mU M 0 2 _) 0 2 _) (r := 4) (by omega), d5, tw2, p1, ogd_pos (ib_nI (by omega) (by decide)), ncl (by omega), mU_r (M := mU (mU (mU M 0 2 _) 0 2 _) 4 _ _) (r := 4) (by omega), mU_r (M := mU (mU M 0 2 _) 0 2 _) (r := 4) (by omega), d5, nI_1, e1, e2]
      refine ⟨_, ((kE_0 (by omega)).trans (kE_0 (by omega))).trans (((kE_r (by omega)).trans (kE_r (by omega))).trans (kE_0 (by omega))), rfl, ?_, ?_, ?_, fun w hw2 => ?_, fun j hj => ?_⟩
      · rw [mU_0 (by omega), mU_r (by omega), mU_r (by omega), mU_at]
      · exact mU_at
      · rw [mU_0 (by omega), mU_r (by omega), mU_r (by omega), mU_0 (by omega), mU_0 (by omega)]
        exact hd.2.1
      · have hw2 : w < pW st.2 + 1 := hw2
        show _ = nI (upN st.1 (pW st.2) (fnB b (k + 1)) w) ∧ _ = nI (upN (pS st.2) (pW st.2) (fnB b (k + 2)) w)
        rw [mU_r (M := mU (mU (mU (mU M 0 2 _) 0 2 _) 4 _ _) 4 _ _) (by omega)]
        unfold upN
        by_cases e : w = pW st.2
        · subst e
          rw [if_pos rfl, if_pos rfl, mU_nc (by omega), mU_at, mU_at]
          exact ⟨rfl, rfl⟩
        · rw [if_neg e, if_neg e, mU_nc (by omega), mU_nc (by omega), mU_nc (by omega), mU_nc (by omega), mU_r (by omega), mU_r (by omega)]
          exact hd.2.2.1 w (by omega)
      · rw [mU_r (by omega), mU_r (by omega), mU_r (by omega), mU_r (by omega), mU_r (by omega)]
        exact hd.2.2.2 j hj
    · rw [if_neg c2, if_neg c2, obd_of rfl, q_X7_readOneWalker_24, if_pos rfl]
      simp only [if_neg (show ¬ (2 : Nat) = 3 by decide)]
      exact ⟨_, k1, rfl, mU_at⟩
  · rw [if_neg c1, if_neg c1, obd_of rfl, if_pos rfl, q_X7_readOneWalker_24, if_pos rfl]
    simp only [if_neg (show ¬ (1 : Nat) = 3 by decide)]
    exact ⟨_, kE.rfl, rfl, h2⟩
theorem lo0 (b : Nat → Int32) (k : Nat) : (0 : Int32) ≤ loB b k := by
  unfold loB
  split <;> decide
theorem one_N (h : TB M b n) {st : TS} (hd : DT M st) {k : Nat} (hk : k + 1 ≤ n) (h2 : M.1 0 2 = nI (k + 1)) (hw : pN st.2 < 5) : ∃ M2, kE M M2 ∧ (if tkN b n k = 4 then q_X7_readOneNeed M = some (true, M2) ∧ M2.1 0 2 = nI (k + 4) ∧ DT M2 (adN b k st) else q_X7_readOneNeed M = some (false, M2) ∧ M2.1 0 2 = nI (k + tkN b n k)) := by
  have h48 := h.1
  unfold q_X7_readOneNeed tkN
  rw [fig_M h hk h2]
  by_cases c1 : k + 1 < n ∧ fg b (k + 1) 0 5 = true
  · obtain ⟨e1, _, _⟩ := fg_n (by decide) c1.2
    have k1 : kE M (mU M 0 2 (nI (k + 1 + 1))) := kE_0 (by omega)
    rw [if_pos c1, if_pos c1, obd_of rfl, if_neg (fg_9 (by decide) c1.2), fig_M (i := k + 2) (TB_e h k1) (by omega) mU_at]
    by_cases c2 : k + 2 < n ∧ fg b (k + 2) 0 2 = true
    · obtain ⟨e2, _, _⟩ := fg_n (by decide) c2.2
      have k2 : kE M (mU (mU M 0 2 (nI (k + 1 + 1))) 0 2 (nI (k + 2 + 1))) := k1.trans (kE_0 (by omega))
      have e24 : ∀ M3, q_X7_readOneNeed_24 (b (k + 1) - 48) (b (k + 2) - 48) M3 = q_X7_readOneNeed_47 (b (k + 1) - 48) (b (k + 2) - 48) (loB b (k + 2)) M3 := by
        intro M3
        unfold q_X7_readOneNeed_24 loB
        rw [if_neg (fg_9 (by decide) c2.2)]
        by_cases q : b (k + 2) - 48 = 1
        · rw [if_pos q, if_pos q]
        · rw [if_neg q, if_neg q]
      rw [if_pos c2, if_pos c2, obd_of rfl, e24, q_X7_readOneNeed_47, fig_M (i := k + 3) (TB_e h k2) (by omega) mU_at]
      by_cases c3 : k + 3 < n ∧ fg b (k + 3) (loB b (k + 2)) 9 = true
      · obtain ⟨e3, _, _⟩ := fg_n (lo0 _ _) c3.2
        rw [if_pos c3, if_pos c3, obd_of rfl]
        simp only [if_pos (rfl : (4 : Nat) = 4)]
        unfold q_X7_readOneNeed_52
        have d6 : (mU (mU (mU M 0 2 (nI (k + 1 + 1))) 0 2 (nI (k + 2 + 1))) 0 2 (nI (k + 3 + 1))).1 0 6 = nI (pN st.2) := by rw [mU_0 (by omega), mU_0 (by omega), mU_0 (by omega)]; exact hd.2.1
        have kz : kE M (mU (mU (mU M 0 2 (nI (k + 1 + 1))) 0 2 (nI (k + 2 + 1))) 0 2 (nI (k + 3 + 1))) := k2.trans (kE_0 (by omega))
        have z2 : (mU (mU (mU M 0 2 (nI (k + 1 + 1))) 0 2 (nI (k + 2 + 1))) 0 2 (nI (k + 3 + 1))).1 0 2 = nI (k + 4) := mU_at
        have zd : DT (mU (mU (mU M 0 2 (nI (k + 1 + 1))) 0 2 (nI (k + 2 + 1))) 0 2 (nI (k + 3 + 1))) st := DT_2 (DT_2 (DT_2 hd))
        revert d6 kz z2 zd
        generalize mU (mU (mU M 0 2 (nI (k + 1 + 1))) 0 2 (nI (k + 2 + 1))) 0 2 (nI (k + 3 + 1)) = Z
        intro d6 kz z2 zd
        rw [if_neg (fg_9 (lo0 _ _) c3.2), d6, m3, ogd_pos (ib_nI (by omega) (by decide)), ncl (by omega), mU_r (M := Z) (r := 5) (by omega), d6, m3, p1, ogd_pos (ib_nI (by omega) (by decide)), ncl (by omega), mU_r (M := mU Z 5 _ _) (r := 5) (by omega), mU_r (M := Z) (r := 5) (by omega), d6, m3, p2, ogd_pos (ib_nI (by omega) (by decide)), ncl (by omega), mU_r (M := mU (mU Z 5 _ _) 5 _ _) (r := 5) (by omega), mU_r (M := mU Z 5 _ _) (r := 5) (by omega), mU_r (M := Z) (r := 5) (by omega), d6, nI_1, e1, e2, e3]
        refine ⟨_, kz.trans (((kE_r (by omega)).trans (kE_r (by omega))).trans ((kE_r (by omega)).trans (kE_0 (by omega)))), rfl, ?_, ?_, ?_, fun w hw2 => ?_, fun j hj => ?_⟩
        · rw [mU_0 (by omega), mU_r (by omega), mU_r (by omega), mU_r (by omega), z2]
        · rw [mU_0 (by omega), mU_r (by omega), mU_r (by omega), mU_r (by omega)]
          exact zd.1
        · exact mU_at
        · rw [mU_r (by omega), mU_r (by omega), mU_r (by omega), mU_r (by omega)]
          exact zd.2.2.1 w hw2
        · have hj : j < pN st.2 + 1 := hj
          show _ = nI (upN (pR st.2) (pN st.2) (fnB b (k + 1)) j) ∧ _ = nI (upN (pT st.2) (pN st.2) (fnB b (k + 2)) j) ∧ _ = nI (upN (pH st.2) (pN st.2) (fnB b (k + 3)) j)
          rw [mU_r (M := mU (mU (mU Z 5 _ _) 5 _ _) 5 _ _) (by omega)]
          unfold upN
          by_cases e : j = pN st.2
          · subst e
            rw [if_pos rfl, if_pos rfl, if_pos rfl, mU_nc (by omega), mU_nc (by omega), mU_at, mU_nc (by omega), mU_at, mU_at]
            exact ⟨rfl, rfl, rfl⟩
          · rw [if_neg e, if_neg e, if_neg e, mU_nc (by omega), mU_nc (by omega), mU_nc (by omega), mU_nc (by omega), mU_nc (by omega), mU_nc (by omega), mU_nc (by omega), mU_nc (by omega), mU_nc (by omega)]
            exact zd.2.2.2 j (by omega)
      · rw [if_neg c3, if_neg c3, obd_of rfl, q_X7_readOneNeed_52, if_pos rfl]
        simp only [if_neg (show ¬ (3 : Nat) = 4 by decide)]
        exact ⟨_, k2, rfl, mU_at⟩
    · rw [if_neg c2, if_neg c2, obd_of rfl, q_X7_readOneNeed_24, if_pos rfl, q_X7_readOneNeed_52, if_pos rfl]
      simp only [if_neg (show ¬ (2 : Nat) = 4 by decide)]
      exact ⟨_, k1, rfl, mU_at⟩
  · rw [if_neg c1, if_neg c1, obd_of rfl, if_pos rfl, q_X7_readOneNeed_24, if_pos rfl, q_X7_readOneNeed_52, if_pos rfl]
    simp only [if_neg (show ¬ (1 : Nat) = 4 by decide)]
    exact ⟨_, kE.rfl, rfl, h2⟩
end
