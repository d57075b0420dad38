-- keeping and coming again
theorem sl_in {k : Nat} (h : k < 2) : t_X6_isSlot (nI k) = true := by
  rcases (show k = 0 ∨ k = 1 by omega) with rfl | rfl <;> decide
theorem sl_out {x : Int32} (h : x < 0 ∨ nI 2 ≤ x) : t_X6_isSlot x = false := by
  unfold t_X6_isSlot
  rcases h with h | h
  · rw [if_pos h]
  · rw [L2, if_pos h]
    split <;> rfl
theorem nar1 : vp_nar .boolean (1 : Int32) = b2i true := by decide
theorem keep_M {B0 : MM} {k : Nat} (hk : k < 2) (M : MM) (h6 : M.1 6 = B0.1 6) (h9 : M.1 9 = B0.1 9) : q_X7_keep_26 (nI k) FU 0 M = some (B0.1 6 23, mR M 9 (ovr (B0.1 9) (24 * k) 24 (B0.1 6))) := by
  refine (show q_X7_keep_26 (nI k) FU 0 M = q_X7_keep_26 (nI k) FU (nI 0) (mR M 9 (ovr (B0.1 9) (24 * k) 0 (B0.1 6))) by rw [ovr_0, ← h9, mR_self]; rfl).trans ?_
  refine lp0 24 (fun f j => q_X7_keep_26 (nI k) f (nI j) (mR M 9 (ovr (B0.1 9) (24 * k) j (B0.1 6)))) _ (by decide) ?_ ?_
  · intro f
    rw [q_X7_keep_26, L24, if_pos (Int32.le_refl _), ogd_pos (by decide), c23, mR_ne _ _ (by decide), h6]
  · intro f j hj
    rw [q_X7_keep_26, L24, if_neg (nge hj (by decide)), pk_mul, nI_add, ogd_pos (ib_nI hj (by decide)), ogd_pos (ib_nI (by omega) (by decide)), ncl (by omega), ncl (by omega), mU_mR, mR_mR, mR_at, mR_ne _ _ (by decide), h6, nI_1]
    congr 1
    exact mRf _ _ ovr_s
theorem o_keep {A B : MM} (h : Rel A B) (x : Int32) : OK2 A B (q_X6_keep x A) (q_X7_keep x B) := by
  have h := h.z
  unfold q_X6_keep q_X7_keep
  generalize mU B 0 0 0 = B0 at *
  have hR := h
  obtain ⟨P, s, ⟨h1, h2⟩, o1, hp, ⟨kb, k1, k2⟩, o3, o4⟩ := h
  rcases cases_n x (n := 2) (by decide) with o | ⟨k, hk, rfl⟩
  · rw [sl_out o, inF 2 (by decide) (by decide) o, if_pos b2i_f, if_pos b2i_f]
    exact OK2.q _ hR
  · rw [sl_in hk, inT 2 (by decide) (by decide) hk, if_neg b1n, if_neg b1n, ogd_pos (ib_nI hk (by decide)), ncl (by omega), nar1, keep_M (B0 := B0) hk _ (mU_r (by omega)) (mU_r (by omega))]
    unfold q_X5_store
    rw [scAt_in hk (by decide)]
    have e1 : (mR A (9 + (16 + k)) (A.1 (9 + 0))).1 0 5 ||| ((1 : Int32) <<< (nI k &&& 31)) = bs (fun t => kb t || t == k) := by rw [mR_ne _ _ (by omega), k1, one_sh (by omega), bs_or]
    show OK2 A B (obd (some ((), mU (mR A (9 + (16 + k)) (A.1 (9 + 0))) 0 5 ((mR A (9 + (16 + k)) (A.1 (9 + 0))).1 0 5 ||| ((1 : Int32) <<< (nI k &&& 31))))) fun _ m => some (t_X3_time 0 m, m)) _
    rw [e1, obd_of rfl, show ∀ M, t_X3_time 0 M = M.1 (9 + 0) 23 from fun _ => rfl, mU_r (by omega), mR_ne _ _ (by omega), h1.2.2.2.2.2.2.2.2, h2.2.2.2.2.2.2.2.2]
    refine OK2.q _ ⟨P, s, ⟨CS_0 h1 (fun q a b => ?_) ?_ ?_ ?_, DS_0 h2 ?_ ?_ ?_ ?_ ?_⟩, RX_c ?_ ?_ ?_ ?_ o1, RPs_c ?_ ?_ (fun q a b => ?_) ?_ ?_ hp, ⟨fun t => kb t || t == k, mU_at, fun j hj => ?_⟩, RFe_c ?_ ?_ ?_ ?_ ?_ ?_ ?_ ?_ o3, o4⟩
    all_goals first
      | (rw [mU_r (by omega), mR_ne _ _ (by omega)]; done)
      | (rw [mU_0 (by omega), mR_ne _ _ (by omega)]; done)
      | (rw [mR_ne _ _ (by omega), mU_r (by omega)]; done)
      | skip
    rw [mU_r (M := mR A _ _) (by omega), mR_ne _ _ (show 10 ≠ 9 by decide), mR_at]
    by_cases e : j = k
    · subst e
      rw [mU_at, mR_at]
      refine ⟨by simp, fun _ => ⟨s, h1.2.2.1, h1.2.2.2, RP_p h1.1 (fun c hc => ?_) h2.2.2.2⟩⟩
      rw [ovr_in hc]
    · obtain ⟨q1, q2⟩ := k2 j hj
      have e3 : (j == k) = false := by simpa using e
      rw [mU_nc e, mR_ne _ _ (show 9 + (16 + j) ≠ 9 + (16 + k) by omega)]
      show B0.1 10 j = b2i (kb j || j == k) ∧ ((kb j || j == k) = true → _)
      rw [e3, Bool.or_false]
      refine ⟨q1, fun q => ?_⟩
      obtain ⟨u, u1, u2, u3⟩ := q2 q
      refine ⟨u, u1, u2, RP_p h1.1 (fun c hc => ?_) u3⟩
      rw [ovr_out (by omega)]
theorem again_M {B0 : MM} {k : Nat} (hk : k < 2) : q_X7_again_31 (nI k) FU 0 B0 = some (B0.1 9 (24 * k + 23), mU (mR B0 6 (ovr (B0.1 6) 0 24 (fun c => B0.1 9 (24 * k + c)))) 0 7 0) := by
  refine (show q_X7_again_31 (nI k) FU 0 B0 = q_X7_again_31 (nI k) FU (nI 0) (mR B0 6 (ovr (B0.1 6) 0 0 (fun c => B0.1 9 (24 * k + c)))) by rw [ovr_0, mR_self]; rfl).trans ?_
  refine lp0 24 (fun f j => q_X7_again_31 (nI k) f (nI j) (mR B0 6 (ovr (B0.1 6) 0 j (fun c => B0.1 9 (24 * k + c))))) _ (by decide) ?_ ?_
  · intro f
    have := ovr_in (f := B0.1 6) (o := 0) (n := 24) (g := fun c => B0.1 9 (24 * k + c)) (j := 23) (by decide)
    rw [Nat.zero_add] at this
    rw [q_X7_again_31, L24, if_pos (Int32.le_refl _), ogd_pos (by decide), c23, mU_r (by omega), mR_at, this]
  · intro f j hj
    rw [q_X7_again_31, L24, if_neg (nge hj (by decide)), pk_mul, nI_add, ogd_pos (ib_nI (by omega) (by decide)), ogd_pos (ib_nI hj (by decide)), ncl (by omega), ncl (by omega), mU_mR, mR_mR, mR_at, mR_ne _ _ (by decide), nI_1]
    congr 1
    refine mRf _ _ ?_
    have := ovr_s (f := B0.1 6) (o := 0) (j := j) (g := fun c => B0.1 9 (24 * k + c))
    rwa [Nat.zero_add] at this
theorem o_again {A B : MM} (h : Rel A B) (x : Int32) : OK2 A B (q_X6_again x A) (q_X7_again x B) := by
  have h := h.z
  unfold q_X6_again q_X7_again
  generalize mU B 0 0 0 = B0 at *
  have hR := h
  obtain ⟨P, s, ⟨h1, h2⟩, o1, hp, o2, o3, o4⟩ := h
  obtain ⟨kb, k1, k2⟩ := id o2
  rcases cases_n x (n := 2) (by decide) with o | ⟨k, hk, rfl⟩
  · rw [sl_out o, inF 2 (by decide) (by decide) o, if_pos b2i_f, if_pos b2i_f]
    exact OK2.q _ hR
  · obtain ⟨q1, q2⟩ := k2 k hk
    rw [sl_in hk, inT 2 (by decide) (by decide) hk, if_neg b1n, if_neg b1n, ogd_pos (ib_nI hk (by decide)), ncl (by omega), q1]
    unfold q_X5_fetch
    rw [scAt_in hk (by decide)]
    show OK2 A B (obd (if b2i (t_X6_has (A.1 0 5) (nI k)) = 0 then some (false, A) else some (true, mR A (9 + 0) (A.1 (9 + (16 + k))))) _) _
    rw [k1, hasC _ (by omega)]
    cases hb : kb k with
    | false =>
      rw [if_pos b2i_f, if_pos b2i_f, obd_of rfl, if_pos b2i_f]
      exact OK2.q _ hR
    | true =>
      obtain ⟨u, u1, u2, u3⟩ := q2 hb
      rw [if_neg b1n, if_neg b1n, obd_of rfl, if_neg b1n, again_M hk]
      show OK2 A B (some (t_X3_time 0 (mU (mR A (9 + 0) (A.1 (9 + (16 + k)))) 0 4 0), mU (mR A (9 + 0) (A.1 (9 + (16 + k)))) 0 4 0)) _
      rw [show ∀ M, t_X3_time 0 M = M.1 (9 + 0) 23 from fun _ => rfl, mU_r (by omega), mR_at, u2.2.2.2.2.2, show B0.1 9 (24 * k + 23) = sT u from u3.2.2.2.2.2]
      have eA : mU (mR A (9 + 0) (A.1 (9 + (16 + k)))) 0 4 0 = mR (mU A 0 4 0) (9 + 0) (A.1 (9 + (16 + k))) := by
        refine Prod.ext ?_ rfl
        funext r c
        show (if r = 0 ∧ c = 4 then (0 : Int32) else (if r = 9 + 0 then A.1 (9 + (16 + k)) else A.1 r) c) = (if r = 9 + 0 then A.1 (9 + (16 + k)) else fun c2 => if r = 0 ∧ c2 = 4 then (0 : Int32) else A.1 r c2) c
        by_cases g : r = 9 + 0
        · rw [if_pos g, if_pos g, if_neg (by omega)]
        · rw [if_neg g, if_neg g]
      have eB : ∀ f, mU (mR B0 6 f) 0 7 0 = mR (mU B0 0 7 0) 6 f := by
        intro f
        refine Prod.ext ?_ rfl
        funext r c
        show (if r = 0 ∧ c = 7 then (0 : Int32) else (if r = 6 then f else B0.1 r) c) = (if r = 6 then f else fun c2 => if r = 0 ∧ c2 = 7 then (0 : Int32) else B0.1 r c2) c
        by_cases g : r = 6
        · rw [if_pos g, if_pos g, if_neg (by omega)]
        · rw [if_neg g, if_neg g]
      rw [eA, eB]
      refine OK2.q _ (Rel_now (s := s) h1 h2 ⟨o1, o2, o3, o4⟩ ⟨rfl, fun q h1 h2 => mU_r h1, fun c h1 h2 => mU_0 h2⟩ ⟨rfl, fun q h1 h2 => mU_r h1, fun c h1 => mU_0 h1⟩ ?_ u1 u2 (RP_p h1.1 (fun c hc => ?_) u3))
      · obtain ⟨na, fi, p1, p2, p3, p4, p5, p6⟩ := hp
        exact ⟨0, fi, by omega, p2, by rw [mU_0 (by omega)]; exact p3, mU_at, mU_at, fun j hj => absurd hj (by omega)⟩
      · have := ovr_in (f := B0.1 6) (o := 0) (n := 24) (g := fun c => B0.1 9 (24 * k + c)) (j := c) hc
        rwa [Nat.zero_add] at this
