-- the class: sets opened, hours
def openAllF (P : PL) (p : Nat → Bool) (s : SC) (f : Nat → Int32) : Nat → Nat → Int32
  | 0 => f
  | n + 1 => if p n && !sO (openAll P p s n) n then openF P (openAll P p s n) n (openAllF P p s f n) else openAllF P p s f n
theorem openAllF_0 {P : PL} {p : Nat → Bool} {s : SC} {f : Nat → Int32} : openAllF P p s f 0 = f := rfl
theorem openAllF_s {P : PL} {p : Nat → Bool} {s : SC} {f : Nat → Int32} (n : Nat) : openAllF P p s f (n + 1) = (if p n && !sO (openAll P p s n) n then openF P (openAll P p s n) n (openAllF P p s f n) else openAllF P p s f n) := rfl
theorem openAll_s {P : PL} {p : Nat → Bool} {s : SC} (n : Nat) : openAll P p s (n + 1) = (if p n && !sO (openAll P p s n) n then openS P (openAll P p s n) n else openAll P p s n) := rfl
theorem nI_eq0 {a : Nat} (h : a < 2 ^ 31) : nI a = 0 ↔ a = 0 := nI_eq (b := 0) h (by decide)
theorem hoursF_0 {P : PL} {s : SC} {f : Nat → Int32} : hoursF P s f 0 = f := rfl
theorem RP_openAll {P : PL} {s : SC} {f : Nat → Int32} (hP : WP P) (hs : WS P s) (h : RP P f s) (p : Nat → Bool) : ∀ n, n ≤ pW P → RP P (openAllF P p s f n) (openAll P p s n)
  | 0, _ => h
  | n + 1, hn => by
    rw [openAllF_s, openAll_s]
    split
    · exact RP_open hP (WS_openAll hs p n (by omega)) (RP_openAll hP hs h p n (by omega)) (by omega)
    · exact RP_openAll hP hs h p n (by omega)
theorem raiseAll_C {P : PL} {M : MM} {i : Nat} {s : SC} (h : CS P M i s) (p : Nat → Bool) : q_X3_raiseAll i (bs p) M = some ((), mR M (9 + i) (openAllF P p s (M.1 (9 + i)) (pW P))) := by
  obtain ⟨hP, hC, hs, hR⟩ := id h
  have hW := hP.1
  unfold q_X3_raiseAll
  refine (show q_X3_raiseAll_2 i (bs p) FU 0 M = q_X3_raiseAll_2 i (bs p) FU (nI 0) (mR M (9 + i) (openAllF P p s (M.1 (9 + i)) (min 0 (pW P)))) by rw [Nat.zero_min, openAllF_0, mR_self]; rfl).trans ?_
  refine lp0 5 (fun f j => q_X3_raiseAll_2 i (bs p) f (nI j) (mR M (9 + i) (openAllF P p s (M.1 (9 + i)) (min j (pW P))))) _ (by decide) ?_ ?_
  · intro f
    rw [q_X3_raiseAll_2, L5, if_pos (Int32.le_refl _), Nat.min_eq_right hW]
  · intro f j hj
    rw [q_X3_raiseAll_2, L5, if_neg (nge hj (by decide)), hasC _ (by omega)]
    by_cases g : j < pW P
    · rw [Nat.min_eq_left (by omega), Nat.min_eq_left (by omega : j + 1 ≤ pW P)]
      have hj2 : CS P (mR M (9 + i) (openAllF P p s (M.1 (9 + i)) j)) i (openAll P p s j) := CS_row h (WS_openAll hs p j (by omega)) (RP_openAll hP hs hR p j (by omega))
      by_cases e : p j = true
      · rw [e, if_neg (by decide)]
        by_cases o : sO (openAll P p s j) j = true
        · rw [raise_C0 hj2 (by omega) (fun q => by rw [q.2] at o; cases o), obd_of rfl, q_X3_raiseAll_21, nI_1]
          rw [show openAllF P p s (M.1 (9 + i)) (j + 1) = openAllF P p s (M.1 (9 + i)) j by rw [openAllF_s, e, o]; rfl]
        · have o2 : sO (openAll P p s j) j = false := by simpa using o
          rw [raise_C hj2 g o2, obd_of rfl, q_X3_raiseAll_21, nI_1, mR_mR, mR_at]
          rw [show openAllF P p s (M.1 (9 + i)) (j + 1) = openF P (openAll P p s j) j (openAllF P p s (M.1 (9 + i)) j) by rw [openAllF_s, e, o2]; rfl]
      · have e2 : p j = false := by simpa using e
        rw [e2, if_pos (by decide), q_X3_raiseAll_21, nI_1]
        rw [show openAllF P p s (M.1 (9 + i)) (j + 1) = openAllF P p s (M.1 (9 + i)) j by rw [openAllF_s, e2]; rfl]
    · rw [Nat.min_eq_right (by omega), Nat.min_eq_right (by omega : pW P ≤ j + 1)]
      by_cases e : p j = true
      · have hj2 : CS P (mR M (9 + i) (openAllF P p s (M.1 (9 + i)) (pW P))) i (openAll P p s (pW P)) := CS_row h (WS_openAll hs p _ (Nat.le_refl _)) (RP_openAll hP hs hR p _ (Nat.le_refl _))
        rw [e, if_neg (by decide), raise_C0 hj2 (by omega) (fun q => g q.1), obd_of rfl, q_X3_raiseAll_21, nI_1]
      · have e2 : p j = false := by simpa using e
        rw [e2, if_pos (by decide), q_X3_raiseAll_21, nI_1]
-- an hour
theorem PC_row {P : PL} {M : MM} (h : PC P M) {r : Nat} (hr : 7 ≤ r) (f : Nat → Int32) : PC P (mR M r f) := by
  unfold PC
  rw [mR_ne _ _ (by omega), mR_ne _ _ (by omega), mR_ne _ _ (by omega), mR_ne _ _ (by omega), mR_ne _ _ (by omega)]
  exact h
theorem need_C {P : PL} {M : MM} (hP : WP P) (h : PC P M) {k : Nat} (hk : k < pN P) : t_X2_streetOfNeed (nI k) M = nI (pR P k) ∧ t_X2_sortOfNeed (nI k) M = nI (pT P k) ∧ t_X2_figureOfNeed (nI k) M = nI (pH P k) := by
  have := hP.2.1
  unfold t_X2_streetOfNeed t_X2_sortOfNeed t_X2_figureOfNeed
  rw [at_in (by omega) (by decide), at_in (by omega) (by decide), at_in (by omega) (by decide), Nat.zero_add]
  exact h.2.2.2 k hk
theorem b2i_if (c : Bool) : (b2i c = 0) = (c = false) := by cases c <;> simp [b2i]
theorem fate_C {P : PL} {M : MM} {i : Nat} {s : SC} (hP : WP P) (hC : PC P M) (hs : WS P s) (hT : M.1 (9 + i) 23 = sT s) (hE : ∀ t, t < 6 → M.1 (9 + i) (12 + t) = wetS P s t) {k : Nat} (hk : k < pN P) (hf : sF s k = 0) : t_X3_fateInHour i (nI k) (b2i (rainB P s (pR P k))) M = nI (fateS P s k) := by
  obtain ⟨n1, n2, n3⟩ := need_C hP hC hk
  obtain ⟨k1, k2, k3⟩ := hP.2.2.2 k hk
  have hN := hP.2.1
  have q1 : (nI (pT P k) = 1) ↔ (pT P k = 1) := nI_eq (b := 1) (by omega) (by decide)
  have q0 : (nI (pT P k) = 0) ↔ (pT P k = 0) := nI_eq (b := 0) (by omega) (by decide)
  have hw : t_X3_wetnessOf i (nI (pR P k)) M = wetS P s (pR P k) := by
    unfold t_X3_wetnessOf
    rw [at_in k1 (by decide), hE _ k1]
  unfold t_X3_fateInHour fateS
  rw [n2, n3, n1, hw, hT]
  by_cases e1 : pT P k = 1
  · rw [if_pos (q1.mpr e1), if_pos e1]
    split <;> rfl
  · rw [if_neg (fun q => e1 (q1.mp q)), if_neg e1]
    by_cases e2 : pT P k = 2
    · rw [if_pos e2]
      have e0 : ¬ pT P k = 0 := by omega
      by_cases t : sT s = nI (pH P k)
      · rw [if_pos t, if_pos t, t_X3_fateInHour_56]
        cases rainB P s (pR P k)
        · rw [if_pos (by decide), t_X3_fateInHour_80]; rfl
        · rw [if_neg (by decide), if_neg (by decide)]; rfl
      · rw [if_neg t, if_neg t, t_X3_fateInHour_56]
        cases rainB P s (pR P k)
        · rw [if_pos (by decide), t_X3_fateInHour_80]; rfl
        · rw [if_neg (by decide), if_pos (by decide), n2, if_neg (fun q => e0 (q0.mp q)), t_X3_fateInHour_80]; rfl
    · have e0 : pT P k = 0 := by omega
      rw [if_neg e2]
      by_cases t : sT s = nI (pH P k)
      · rw [if_pos t, if_pos t, t_X3_fateInHour_56]
        cases rainB P s (pR P k)
        · rw [if_pos (by decide), t_X3_fateInHour_80]; rfl
        · rw [if_neg (by decide), if_neg (by decide)]; rfl
      · rw [if_neg t, if_neg t, t_X3_fateInHour_56]
        cases rainB P s (pR P k)
        · rw [if_pos (by decide), t_X3_fateInHour_80]; rfl
        · rw [if_neg (by decide), if_pos (by decide), n2, if_pos (q0.mpr e0)]; rfl
theorem hour_C {P : PL} {M : MM} {i : Nat} {s : SC} (h : CS P M i s) : q_X3_passHour i M = some (bs (rainB P s), mR M (9 + i) (hourF P s (M.1 (9 + i)))) := by
  obtain ⟨hP, hC, hs, hR⟩ := id h
  have hW := hP.1
  have hN := hP.2.1
  obtain ⟨R1, R2, R3, R4, R5, R6⟩ := id hR
  unfold q_X3_passHour
  rw [rain_C h, obd_of rfl, hail_C h, obd_of rfl]
  have c1 : M = mR M (9 + i) (ovr (M.1 (9 + i)) 12 0 (wetS P s)) := by rw [ovr_0, mR_self]
  refine (show q_X3_passHour_12 i FU (bs (rainB P s)) (bs (hailB P s)) 0 M = q_X3_passHour_12 i FU (bs (rainB P s)) (bs (hailB P s)) (nI 0) (mR M (9 + i) (ovr (M.1 (9 + i)) 12 0 (wetS P s))) by rw [← c1]; rfl).trans ?_
  refine lp0 6 (fun f j => q_X3_passHour_12 i f (bs (rainB P s)) (bs (hailB P s)) (nI j) (mR M (9 + i) (ovr (M.1 (9 + i)) 12 j (wetS P s)))) _ (by decide) ?_ ?_
  · intro f
    rw [q_X3_passHour_12, if_pos (Int32.le_refl _)]
    generalize hf1 : ovr (M.1 (9 + i)) 12 6 (wetS P s) = f1
    have c2 : mR M (9 + i) f1 = mR M (9 + i) (ovr f1 18 0 (fun k => nI (fate2 P s k))) := by rw [ovr_0]
    refine (show q_X3_passHour_63 i FU (bs (rainB P s)) 0 (mR M (9 + i) f1) = q_X3_passHour_63 i FU (bs (rainB P s)) (nI 0) (mR M (9 + i) (ovr f1 18 0 (fun k => nI (fate2 P s k)))) by rw [← c2]; rfl).trans ?_
    refine lp0 (pN P) (fun f j => q_X3_passHour_63 i f (bs (rainB P s)) (nI j) (mR M (9 + i) (ovr f1 18 j (fun k => nI (fate2 P s k))))) _ (by omega) ?_ ?_
    · intro f
      have hC2 := PC_row hC (r := 9 + i) (by omega) (ovr f1 18 (pN P) (fun k => nI (fate2 P s k)))
      rw [q_X3_passHour_63, t_X2_needCount, hC2.2.1, if_pos (Int32.le_refl _)]
      generalize hf2 : ovr f1 18 (pN P) (fun k => nI (fate2 P s k)) = f2
      have c3 : mR M (9 + i) f2 = mR M (9 + i) (ovr f2 6 0 (fun t => nI (sL s t - 1))) := by rw [ovr_0]
      refine (show q_X3_passHour_115 i FU (bs (rainB P s)) 0 (mR M (9 + i) f2) = q_X3_passHour_115 i FU (bs (rainB P s)) (nI 0) (mR M (9 + i) (ovr f2 6 0 (fun t => nI (sL s t - 1)))) by rw [← c3]; rfl).trans ?_
      refine lp0 6 (fun f j => q_X3_passHour_115 i f (bs (rainB P s)) (nI j) (mR M (9 + i) (ovr f2 6 j (fun t => nI (sL s t - 1))))) _ (by decide) ?_ ?_
      · intro f
        rw [q_X3_passHour_115, if_pos (Int32.le_refl _), mU_mR, mR_mR, mR_at]
        congr 2
        refine mRf _ _ (funext fun c => ?_)
        unfold hourF
        rw [hf1, hf2]
        by_cases e : c = 23
        · rw [if_pos e, if_pos e, ovr_out (by omega), ← hf2, ovr_out (by omega), ← hf1, ovr_out (by omega), R6]
        · rw [if_neg e, if_neg e]
      · intro f j hj
        have hl := hs.2.2.1 j hj
        have v : (ovr f2 6 j fun t => nI (sL s t - 1)) (6 + j) = nI (sL s j) := by
          rw [ovr_out (by omega), ← hf2, ovr_out (by omega), ← hf1, ovr_out (by omega), R3 j hj]
        rw [q_X3_passHour_115, if_neg (nge hj (by decide)), ogd_pos (ib_nI hj (by decide)), ogd_pos (ib_nI hj (by decide)), ncl (by omega), mR_at, v, mU_mR, mR_mR, mR_at, nI_1]
        congr 1
        refine mRf _ _ ?_
        rw [← ovr_s]
        funext c
        by_cases e : c = 6 + j
        · rw [if_pos e, if_pos e]
          by_cases z : sL s j = 0
          · rw [z, if_pos (by decide)]; rfl
          · obtain ⟨m, hm⟩ : ∃ m, sL s j = m + 1 := ⟨sL s j - 1, by omega⟩
            rw [hm, nI_pred, if_neg (nI_pos (by omega))]; rfl
        · rw [if_neg e, if_neg e]
    · intro f j hj
      have hC2 := PC_row hC (r := 9 + i) (by omega) (ovr f1 18 j (fun k => nI (fate2 P s k)))
      have v : t_X3_fateOf i (nI j) (mR M (9 + i) (ovr f1 18 j fun k => nI (fate2 P s k))) = nI (sF s j) := by
        unfold t_X3_fateOf
        rw [at_in (by omega) (by decide), mR_at, ovr_out (by omega), ← hf1, ovr_out (by omega), R5 j (by omega)]
      have hfj := hs.2.2.2.1 j (by omega)
      rw [q_X3_passHour_63, t_X2_needCount, hC2.2.1, if_neg (nge hj (by omega)), v]
      by_cases z : sF s j = 0
      · rw [if_pos (by rw [z]; rfl), (need_C hP hC2 hj).1, hasC _ (hP.2.2.2 j hj).1]
        rw [fate_C hP hC2 hs (by rw [mR_at, ovr_out (by omega), ← hf1, ovr_out (by omega), R6]) (fun t ht => by rw [mR_at, ovr_out (by omega), ← hf1, ovr_in ht]) hj z]
        unfold t_put
        rw [if_pos (ib_nI (by omega) (by decide)), ncl (by omega), mU_mR, mR_mR, mR_at, q_X3_passHour_107, nI_1]
        congr 1
        refine mRf _ _ ?_
        rw [← ovr_s]
        funext c
        by_cases e : c = 18 + j
        · rw [if_pos e, if_pos e]
          unfold fate2
          rw [if_pos ⟨hj, z⟩]
        · rw [if_neg e, if_neg e]
      · rw [if_neg (fun q => z ((nI_eq0 (by omega)).mp q)), q_X3_passHour_107, nI_1]
        congr 1
        refine mRf _ _ ?_
        rw [ovr_keep]
        rw [← hf1, ovr_out (by omega), R5 j (by omega)]
        unfold fate2
        rw [if_neg (fun q => z q.2)]
  · intro f j hj
    have v : (ovr (M.1 (9 + i)) 12 j (wetS P s)) (12 + j) = sE s j := by rw [ovr_out (by omega), R4 j hj]
    rw [q_X3_passHour_12, if_neg (nge hj (by decide)), ogd_pos (ib_nI hj (by decide)), hasC _ hj, hasC _ hj, ncl (by omega), mR_at, v]
    have key : ∀ x : Int32, sE s j + x = wetS P s j → q_X3_passHour_53 i (q_X3_passHour_12 i f) (bs (rainB P s)) (bs (hailB P s)) (nI j) (nI j) (sE s j) x (mR M (9 + i) (ovr (M.1 (9 + i)) 12 j (wetS P s))) = q_X3_passHour_12 i f (bs (rainB P s)) (bs (hailB P s)) (nI (j + 1)) (mR M (9 + i) (ovr (M.1 (9 + i)) 12 (j + 1) (wetS P s))) := by
      intro x hx
      rw [q_X3_passHour_53, ogd_pos (ib_nI hj (by decide)), ncl (by omega), mU_mR, mR_mR, mR_at, nI_1, hx]
      congr 1
      exact mRf _ _ ovr_s
    cases hh : hailB P s j
    · rw [if_pos (by decide)]
      cases hr : rainB P s j
      · rw [if_pos (by decide)]
        exact key _ (by unfold wetS; rw [hr]; rfl)
      · rw [if_neg (by decide)]
        exact key _ (by unfold wetS; rw [hr, hh]; rfl)
    · rw [if_neg (by decide)]
      exact key _ (by unfold wetS; rw [hail_rain hh, hh]; rfl)
theorem hours_C {P : PL} {M : MM} {i : Nat} {s : SC} (h : CS P M i s) {n : Nat} (hn : n ≤ 20) : q_X3_passHours i (nI n) M = some ((), mR M (9 + i) (hoursF P s (M.1 (9 + i)) n)) := by
  obtain ⟨hP, hC, hs, hR⟩ := id h
  unfold q_X3_passHours
  refine (show q_X3_passHours_2 i (nI n) FU 0 M = q_X3_passHours_2 i (nI n) FU (nI 0) (mR M (9 + i) (hoursF P s (M.1 (9 + i)) 0)) by rw [hoursF_0, mR_self]; rfl).trans ?_
  refine lp0 n (fun f j => q_X3_passHours_2 i (nI n) f (nI j) (mR M (9 + i) (hoursF P s (M.1 (9 + i)) j))) _ (by omega) ?_ ?_
  · intro f
    rw [q_X3_passHours_2, if_pos (Int32.le_refl _)]
  · intro f j hj
    have hj2 : CS P (mR M (9 + i) (hoursF P s (M.1 (9 + i)) j)) i (hoursS P s j) := CS_row h (WS_hours hP hs j) (RP_hours hP hR j)
    rw [q_X3_passHours_2, if_neg (nge hj (by omega)), hour_C hj2, obd_of rfl, mR_mR, mR_at, nI_1]
    rfl
