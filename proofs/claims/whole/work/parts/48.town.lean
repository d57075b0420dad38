-- the town's text read by the reference
theorem nI9 {a : Nat} (h : a < 1000) : ¬ nI a = -9 := by
  intro q
  have := congrArg Int32.toInt q
  rw [nI_toInt (by omega)] at this
  rw [show (-9 : Int32).toInt = -9 from rfl] at this
  omega
theorem tkW_le (b : Nat → Int32) (n k : Nat) : tkW b n k ≤ 3 := by
  unfold tkW
  repeat' split
  all_goals omega
theorem tkN_le (b : Nat → Int32) (n k : Nat) : tkN b n k ≤ 4 := by
  unfold tkN
  repeat' split
  all_goals omega
theorem tkW_3 {b : Nat → Int32} {n k : Nat} (h : tkW b n k = 3) : k + 2 < n ∧ fg b (k + 1) 0 5 = true ∧ fg b (k + 2) 0 3 = true := by
  unfold tkW at h
  split at h
  · rename_i c1
    split at h
    · rename_i c2
      exact ⟨c2.1, c1.2, c2.2⟩
    · omega
  · omega
theorem tkN_4 {b : Nat → Int32} {n k : Nat} (h : tkN b n k = 4) : k + 3 < n ∧ fg b (k + 1) 0 5 = true ∧ fg b (k + 2) 0 2 = true ∧ fg b (k + 3) (loB b (k + 2)) 9 = true := by
  unfold tkN at h
  split at h
  · rename_i c1
    split at h
    · rename_i c2
      split at h
      · rename_i c3
        exact ⟨c3.1, c1.2, c2.2, c3.2⟩
      · omega
    · omega
  · omega
theorem WT_W {b : Nat → Int32} {n k : Nat} {st : TS} (h : WT st) (hw : pW st.2 < 5) (ht : tkW b n k = 3) : WT (adW b k st) := by
  obtain ⟨⟨h1, h2, h3, h4⟩, h5⟩ := h
  obtain ⟨t0, t1, t2⟩ := tkW_3 ht
  have f1 := fg_le (m := 5) (by decide) (by decide) t1
  have f2 := fg_le (m := 3) (by decide) (by decide) t2
  refine ⟨⟨by show pW st.2 + 1 ≤ 5; omega, h2, fun w hw2 => ?_, h4⟩, fun w hw2 => ?_⟩
  · have hw2 : w < pW st.2 + 1 := hw2
    show upN (pS st.2) (pW st.2) (fnB b (k + 2)) w < 4
    unfold upN
    split
    · omega
    · exact h3 w (by omega)
  · have hw2 : w < pW st.2 + 1 := hw2
    show upN st.1 (pW st.2) (fnB b (k + 1)) w < 6
    unfold upN
    split
    · omega
    · exact h5 w (by omega)
theorem WT_N {b : Nat → Int32} {n k : Nat} {st : TS} (h : WT st) (hn : pN st.2 < 5) (ht : tkN b n k = 4) : WT (adN b k st) := by
  obtain ⟨⟨h1, h2, h3, h4⟩, h5⟩ := h
  obtain ⟨t0, t1, t2, t3⟩ := tkN_4 ht
  have f1 := fg_le (m := 5) (by decide) (by decide) t1
  have f2 := fg_le (m := 2) (by decide) (by decide) t2
  have f3 := fg_le (m := 9) (by decide) (lo0 _ _) t3
  refine ⟨⟨h1, by show pN st.2 + 1 ≤ 5; omega, h3, fun j hj => ?_⟩, h5⟩
  have hj : j < pN st.2 + 1 := hj
  show upN (pR st.2) (pN st.2) (fnB b (k + 1)) j < 6 ∧ upN (pT st.2) (pN st.2) (fnB b (k + 2)) j < 3 ∧ upN (pH st.2) (pN st.2) (fnB b (k + 3)) j < 10
  unfold upN
  by_cases e : j = pN st.2
  · rw [if_pos e, if_pos e, if_pos e]
    omega
  · rw [if_neg e, if_neg e, if_neg e]
    exact h4 j (by omega)
theorem prs_WT {b : Nat → Int32} {n : Nat} : ∀ (d k : Nat) (st : TS), WT st → WT (prs b n d k st).2
  | 0, _, st, h => h
  | d + 1, k, st, h => by
    rw [prs_s]
    by_cases g : n ≤ k
    · rw [if_pos g]; exact h
    · rw [if_neg g]
      by_cases c1 : b k = 87 ∧ pW st.2 < 5
      · rw [if_pos c1]
        by_cases t : tkW b n k = 3
        · rw [if_pos t]; exact prs_WT d _ _ (WT_W h c1.2 t)
        · rw [if_neg t]; exact h
      · rw [if_neg c1]
        by_cases c2 : b k = 78 ∧ pN st.2 < 5
        · rw [if_pos c2]
          by_cases t : tkN b n k = 4
          · rw [if_pos t]; exact prs_WT d _ _ (WT_N h c2.2 t)
          · rw [if_neg t]; exact h
        · rw [if_neg c2]; exact h
theorem prs_M {b : Nat → Int32} {n : Nat} : ∀ (d k : Nat) (st : TS) (f : Nat) (M : MM), TB M b n → DT M st → M.1 0 2 = nI k → k ≤ n → n < k + d → n < k + f → WT st → ∃ M2, q_X7_readTown_40 f M = some ((prs b n d k st).1, M2) ∧ kE M M2 ∧ ((prs b n d k st).1 = -9 → DT M2 (prs b n d k st).2) := by
  intro d
  induction d with
  | zero => intro k st f M _ _ _ hk hd; omega
  | succ d ih =>
    intro k st f M hB hD h2 hk hd hf hW
    have h48 := hB.1
    have hw5 := hW.1.1
    have hn5 := hW.1.2.1
    obtain ⟨f, rfl⟩ : ∃ g, f = g + 1 := ⟨f - 1, by omega⟩
    rw [prs_s, q_X7_readTown_40, hB.2.1, h2]
    by_cases g : n ≤ k
    · rw [if_pos (nI_le g (by omega)), if_pos g]
      exact ⟨M, rfl, kE.rfl, fun _ => hD⟩
    · rw [if_neg (nge (show k < n by omega) (by omega)), if_neg g]
      have kz : kE M (mU M 0 2 (nI (k + 1))) := kE_0 (by omega)
      have zB := TB_e hB kz
      have zD : DT (mU M 0 2 (nI (k + 1))) st := DT_2 hD
      have z2 : (mU M 0 2 (nI (k + 1))).1 0 2 = nI (k + 1) := mU_at
      have e58 : q_X7_readThing_58 (mU M 0 2 (nI (k + 1))) = some (false, mU (mU M 0 2 (nI (k + 1))) 0 2 (nI k)) := by
        unfold q_X7_readThing_58
        rw [z2, nI_pred]
      have no : ∀ e, q_X7_readThing M = some (false, e) → kE M e → e.1 0 2 = nI k → ∃ M2, obd (q_X7_readThing M) (fun z m => if b2i z = 0 then some (m.1 0 2, m) else q_X7_readTown_40 f m) = some (nI k, M2) ∧ kE M M2 ∧ (nI k = -9 → DT M2 st) := by
        intro e q k1 q2
        rw [q, obd_of rfl, if_pos b2i_f, q2]
        exact ⟨e, rfl, k1, fun z => absurd z (nI9 (by omega))⟩
      have hbb : q_X7_readThing M = if b k = 87 then (if (5 : Int32) ≤ nI (pW st.2) then q_X7_readThing_39 (b k) (mU M 0 2 (nI (k + 1))) else obd (q_X7_readOneWalker (mU M 0 2 (nI (k + 1)))) (fun z m => some (z, m))) else q_X7_readThing_39 (b k) (mU M 0 2 (nI (k + 1))) := by
        unfold q_X7_readThing
        rw [h2, ogd_pos (ib_nI (show k < 48 by omega) (by decide)), ncl (by omega), hB.2.2 k (by omega), nI_1, zD.1]
      have ke58 : kE M (mU (mU M 0 2 (nI (k + 1))) 0 2 (nI k)) := kz.trans (kE_0 (by omega))
      by_cases bw : b k = 87
      · have b78 : ¬ b k = 78 := by rw [bw]; decide
        rw [if_pos bw] at hbb
        by_cases w5 : pW st.2 < 5
        · rw [if_neg (show ¬ (5 : Int32) ≤ nI (pW st.2) from nge w5 (by decide))] at hbb
          rw [if_pos ⟨bw, w5⟩]
          obtain ⟨M2, k2, q⟩ := one_W zB zD (show k + 1 ≤ n by omega) z2 w5
          by_cases t : tkW b n k = 3
          · rw [if_pos t] at q ⊢
            obtain ⟨q1, q2, q3⟩ := q
            have t0 := (tkW_3 t).1
            rw [hbb, q1, obd_of rfl, obd_of rfl, if_neg b1n]
            obtain ⟨M3, r1, r2, r3⟩ := ih (k + 3) (adW b k st) f M2 (TB_e hB (kz.trans k2)) q3 q2 (by omega) (by omega) (by omega) (WT_W hW w5 t)
            exact ⟨M3, r1, (kz.trans k2).trans r2, r3⟩
          · rw [if_neg t] at q ⊢
            obtain ⟨q1, q2⟩ := q
            have := tkW_le b n k
            rw [hbb, q1, obd_of rfl, obd_of rfl, if_pos b2i_f, q2]
            exact ⟨M2, rfl, kz.trans k2, fun z => absurd z (nI9 (by omega))⟩
        · rw [if_pos (show (5 : Int32) ≤ nI (pW st.2) from nI_le (a := 5) (by omega) (by omega)), q_X7_readThing_39, if_neg b78, e58] at hbb
          rw [if_neg (fun q => w5 q.2), if_neg (fun q => b78 q.1)]
          exact no _ hbb ke58 mU_at
      · rw [if_neg bw, q_X7_readThing_39] at hbb
        rw [if_neg (fun q => bw q.1)]
        by_cases bn : b k = 78
        · rw [if_pos bn, zD.2.1] at hbb
          by_cases n5 : pN st.2 < 5
          · rw [if_neg (show ¬ (5 : Int32) ≤ nI (pN st.2) from nge n5 (by decide))] at hbb
            rw [if_pos ⟨bn, n5⟩]
            obtain ⟨M2, k2, q⟩ := one_N zB zD (show k + 1 ≤ n by omega) z2 n5
            by_cases t : tkN b n k = 4
            · rw [if_pos t] at q ⊢
              obtain ⟨q1, q2, q3⟩ := q
              have t0 := (tkN_4 t).1
              rw [hbb, q1, obd_of rfl, obd_of rfl, if_neg b1n]
              obtain ⟨M3, r1, r2, r3⟩ := ih (k + 4) (adN b k st) f M2 (TB_e hB (kz.trans k2)) q3 q2 (by omega) (by omega) (by omega) (WT_N hW n5 t)
              exact ⟨M3, r1, (kz.trans k2).trans r2, r3⟩
            · rw [if_neg t] at q ⊢
              obtain ⟨q1, q2⟩ := q
              have := tkN_le b n k
              rw [hbb, q1, obd_of rfl, obd_of rfl, if_pos b2i_f, q2]
              exact ⟨M2, rfl, kz.trans k2, fun z => absurd z (nI9 (by omega))⟩
          · rw [if_pos (show (5 : Int32) ≤ nI (pN st.2) from nI_le (a := 5) (by omega) (by omega)), e58] at hbb
            rw [if_neg (fun q => n5 q.2)]
            exact no _ hbb ke58 mU_at
        · rw [if_neg bn, e58] at hbb
          rw [if_neg (fun q => bn q.1)]
          exact no _ hbb ke58 mU_at
theorem WT_0 : WT ts0 := ⟨⟨by decide, by decide, fun w hw => absurd hw (by show ¬ w < 0; omega), fun k hk => absurd hk (by show ¬ k < 0; omega)⟩, fun w hw => absurd hw (by show ¬ w < 0; omega)⟩
theorem fault_M {M : MM} {b : Nat → Int32} {n : Nat} (h : TB M b n) : ∃ M2, q_X7_readTown M = some ((paR b n).1, M2) ∧ kE M M2 ∧ ((paR b n).1 = -9 → DT M2 (paR b n).2) := by
  have h48 := h.1
  have k0 : kE M (mU (mU (mU M 0 2 0) 0 5 0) 0 6 0) := ((kE_0 (by omega)).trans (kE_0 (by omega))).trans (kE_0 (by omega))
  have z1 := TB_e h k0
  have k1 : kE (mU (mU (mU M 0 2 0) 0 5 0) 0 6 0) (mU (mU (mU (mU M 0 2 0) 0 5 0) 0 6 0) 0 2 1) := kE_0 (by omega)
  unfold q_X7_readTown paR
  rw [z1.2.1]
  by_cases n0 : n = 0
  · subst n0
    rw [if_pos nI_0, if_pos rfl]
    exact ⟨_, rfl, k0, fun q => absurd q (by decide)⟩
  · rw [if_neg (nI_ne0 (by omega) (by omega)), if_neg n0, ogd_pos (by decide), show (0 : Int32).toNatClampNeg = 0 from rfl, z1.2.2 0 (by omega)]
    by_cases u : b 0 = 85
    · rw [if_pos u, if_pos u]
      obtain ⟨M2, e, k2, q⟩ := prs_M (b := b) (n := n) 50 1 ts0 FU (mU (mU (mU (mU M 0 2 0) 0 5 0) 0 6 0) 0 2 1) (TB_e h (k0.trans k1)) ⟨by rw [mU_0 (by omega), mU_0 (by omega), mU_at]; rfl, by rw [mU_0 (by omega), mU_at]; rfl, fun w hw => absurd hw (by show ¬ w < 0; omega), fun k hk => absurd hk (by show ¬ k < 0; omega)⟩ mU_at (by omega) (by omega) (by show n < 1 + 400; omega) WT_0
      exact ⟨M2, e, (k0.trans k1).trans k2, q⟩
    · rw [if_neg u, if_neg u]
      exact ⟨_, rfl, k0, fun q => absurd q (by decide)⟩
theorem o_fault {A B : MM} (h : RX A B) : TW A B (q_X6_fault A) (q_X7_fault B) := by
  obtain ⟨n, t1, t2, t3, t4⟩ := h
  have hA : TA A (A.1 1) n := ⟨t1, t2, fun j _ => rfl⟩
  have hB : TB (mU B 0 0 0) (A.1 1) n := ⟨t1, by rw [mU_0 (by omega)]; exact t3, fun j hj => by rw [mU_r (by omega)]; exact (t4 j hj).symm⟩
  obtain ⟨B2, e, k, _⟩ := fault_M hB
  unfold q_X6_fault q_X7_fault
  exact TW.of _ ⟨A, by rw [fault_C hA, obd_of rfl], K.rfl⟩ ⟨B2, by rw [e, obd_of rfl], z_0.trans k⟩
