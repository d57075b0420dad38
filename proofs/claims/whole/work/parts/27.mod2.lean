-- the reference: what it does to a page
theorem greater7 {a : Nat} (h : a ≤ 7) : t_X7_greater (nI a) 7 = nI (max a 7) := by
  unfold t_X7_greater
  by_cases z : 7 ≤ a
  · rw [if_pos ((qel7 (by omega)).mpr z)]; congr 1; omega
  · rw [if_neg (fun q => z ((qel7 (by omega)).mp q)), L7]; congr 1; omega
theorem greater1 {a : Nat} (h : a ≤ 7) : t_X7_greater (nI a) 1 = nI (max a 1) := by
  unfold t_X7_greater
  by_cases z : 1 ≤ a
  · rw [if_pos ((qel1 (by omega)).mpr z)]; congr 1; omega
  · rw [if_neg (fun q => z ((qel1 (by omega)).mp q)), L1]; congr 1; omega
theorem goOpen_M {P : PL} {M : MM} {p : Nat} {s : SC} (hp : p = 6 ∨ p = 7) (h : DS P M p s) {w : Nat} (hw : w < pW P) : q_X7_goOpen p (nI w) M = some ((), mR M p (openF P s w (M.1 p))) := by
  obtain ⟨hP, hC, hs, hR⟩ := id h
  have hW := hP.1
  have hpw := hs.1 w hw
  have hp4 : 4 ≤ p := by omega
  have e1 : mU M p 5 ((M.1 p 5) ||| ((1 : Int32) <<< (nI w &&& 31))) = mR M p (forgF (upN (sO s) w true) (M.1 p)) := by
    rw [mU_mR, hR.2.1, upN_or (by omega)]; rfl
  have hl := hs.2.2.1 _ hpw
  have v1 : forgF (upN (sO s) w true) (M.1 p) w = nI (sP s w) := by unfold forgF; rw [if_neg (by omega)]; exact hR.1 w hw
  have v2 : forgF (upN (sO s) w true) (M.1 p) (6 + sP s w) = nI (sL s (sP s w)) := by unfold forgF; rw [if_neg (by omega)]; exact hR.2.2.1 _ hpw
  unfold q_X7_goOpen
  rw [ogd_pos (by decide), ogd_pos (by decide), ogd_pos (ib_nI (by omega) (by decide)), ogd_pos (ib_nI (by omega) (by decide)), c5, e1, ncl (by omega), mR_ne _ _ (by omega), hC.2.2.1 w hw, mR_at, v1, a6]
  by_cases e : pS P w = 2
  · rw [if_pos ((pS2 hP hw).mpr e), ogd_pos (ib_nI (by omega) (by decide)), ncl (by omega), v2, q_X7_goOpen_42, ogd_pos (ib_nI (by omega) (by decide)), ncl (by omega), mU_mR, mR_mR, mR_at]
    congr 2
    refine mRf _ _ (funext fun c => ?_)
    show (if c = 6 + sP s w then t_X7_greater (nI (sL s (sP s w))) 7 else if c = 5 then bs (upN (sO s) w true) else M.1 p c) = (if c = 5 then bs (upN (sO s) w true) else if pS P w = 2 ∧ c = 6 + sP s w then nI (max (sL s (sP s w)) 7) else M.1 p c)
    by_cases c5 : c = 5
    · rw [if_neg (show ¬ c = 6 + sP s w by omega), if_pos c5, if_pos c5]
    · by_cases g : c = 6 + sP s w
      · rw [if_pos g, if_neg c5, if_pos ⟨e, g⟩, greater7 (by omega)]
      · rw [if_neg g, if_neg c5, if_neg c5, if_neg (fun q => g q.2)]
  · rw [if_neg (fun q => e ((pS2 hP hw).mp q)), ogd_pos (ib_nI (by omega) (by decide)), ncl (by omega), v2, q_X7_goOpen_42, ogd_pos (ib_nI (by omega) (by decide)), ncl (by omega), mU_mR, mR_mR, mR_at]
    congr 2
    refine mRf _ _ (funext fun c => ?_)
    by_cases g : c = 6 + sP s w
    · subst g
      rw [if_pos rfl, ← v2]
      unfold openF forgF
      rw [if_neg (by omega), if_neg (by omega), if_neg (fun q => e q.1)]
    · rw [if_neg g]
      unfold openF forgF
      by_cases c5 : c = 5
      · rw [if_pos c5, if_pos c5]
      · rw [if_neg c5, if_neg c5, if_neg (fun q => e q.1)]
theorem goShut_M {P : PL} {M : MM} {p : Nat} {s : SC} (hp : p = 6 ∨ p = 7) (h : DS P M p s) {w : Nat} (hw : w < pW P) : q_X7_goShut p (nI w) M = some ((), mR M p (shutF P s w (M.1 p))) := by
  obtain ⟨hP, hC, hs, hR⟩ := id h
  have hW := hP.1
  have hpw := hs.1 w hw
  have hp4 : 4 ≤ p := by omega
  have e1 : mU M p 5 ((M.1 p 5) &&& (((1 : Int32) <<< (nI w &&& 31)) ^^^ (-1 : Int32))) = mR M p (forgF (upN (sO s) w false) (M.1 p)) := by
    rw [mU_mR, hR.2.1, upN_not (by omega)]; rfl
  have hl := hs.2.2.1 _ hpw
  have v1 : forgF (upN (sO s) w false) (M.1 p) w = nI (sP s w) := by unfold forgF; rw [if_neg (by omega)]; exact hR.1 w hw
  have v2 : forgF (upN (sO s) w false) (M.1 p) (6 + sP s w) = nI (sL s (sP s w)) := by unfold forgF; rw [if_neg (by omega)]; exact hR.2.2.1 _ hpw
  unfold q_X7_goShut
  rw [ogd_pos (by decide), ogd_pos (by decide), ogd_pos (ib_nI (by omega) (by decide)), ogd_pos (ib_nI (by omega) (by decide)), c5, e1, ncl (by omega), mR_ne _ _ (by omega), hC.2.2.1 w hw, mR_at, v1, a6]
  by_cases e : pS P w = 1
  · rw [if_pos ((pS1 hP hw).mpr e), ogd_pos (ib_nI (by omega) (by decide)), ncl (by omega), v2, q_X7_goShut_43, ogd_pos (ib_nI (by omega) (by decide)), ncl (by omega), mU_mR, mR_mR, mR_at]
    congr 2
    refine mRf _ _ (funext fun c => ?_)
    show (if c = 6 + sP s w then t_X7_greater (nI (sL s (sP s w))) 1 else if c = 5 then bs (upN (sO s) w false) else M.1 p c) = (if c = 5 then bs (upN (sO s) w false) else if pS P w = 1 ∧ c = 6 + sP s w then nI (max (sL s (sP s w)) 1) else M.1 p c)
    by_cases c5 : c = 5
    · rw [if_neg (show ¬ c = 6 + sP s w by omega), if_pos c5, if_pos c5]
    · by_cases g : c = 6 + sP s w
      · rw [if_pos g, if_neg c5, if_pos ⟨e, g⟩, greater1 (by omega)]
      · rw [if_neg g, if_neg c5, if_neg c5, if_neg (fun q => g q.2)]
  · rw [if_neg (fun q => e ((pS1 hP hw).mp q)), ogd_pos (ib_nI (by omega) (by decide)), ncl (by omega), v2, q_X7_goShut_43, ogd_pos (ib_nI (by omega) (by decide)), ncl (by omega), mU_mR, mR_mR, mR_at]
    congr 2
    refine mRf _ _ (funext fun c => ?_)
    by_cases g : c = 6 + sP s w
    · subst g
      rw [if_pos rfl, ← v2]
      unfold shutF forgF
      rw [if_neg (by omega), if_neg (by omega), if_neg (fun q => e q.1)]
    · rw [if_neg g]
      unfold shutF forgF
      by_cases c5 : c = 5
      · rw [if_pos c5, if_pos c5]
      · rw [if_neg c5, if_neg c5, if_neg (fun q => e q.1)]
theorem fate_M {P : PL} {M : MM} {p : Nat} {s : SC} (hP : WP P) (hC : PD P M) (hs : WS P s) (hT : M.1 p 23 = sT s) (hE : ∀ t, t < 6 → M.1 p (12 + t) = wetS P s t) {k : Nat} (hk : k < pN P) (hf : sF s k = 0) : q_X7_stateThen p (nI k) (bs (rainB P s)) M = some (nI (fateS P s k), M) := by
  obtain ⟨n1, n2, n3⟩ := hC.2.2.2 k hk
  obtain ⟨k1, k2, k3⟩ := hP.2.2.2 k hk
  have hN := hP.2.1
  have q1 : (nI (pT P k) = 1) ↔ (pT P k = 1) := nI_eq (b := 1) (by omega) (by decide)
  have q2 : (nI (pT P k) = 2) ↔ (pT P k = 2) := nI_eq (b := 2) (by omega) (by decide)
  unfold q_X7_stateThen
  rw [m3, p1, p2, ogd_pos (ib_nI (by omega) (by decide)), ogd_pos (ib_nI (by omega) (by decide)), ogd_pos (ib_nI (by omega) (by decide)), ncl (by omega), ncl (by omega), ncl (by omega), n1, n2, n3, hasM _ k1]
  unfold fateS
  by_cases e1 : pT P k = 1
  · rw [if_pos (q1.mpr e1), if_pos e1, ogd_pos (ib_nI (by omega) (by decide)), a12, ogd_pos (ib_nI (by omega) (by decide)), ncl (by omega), hE _ k1]
    split <;> rfl
  · rw [if_neg (fun q => e1 (q1.mp q)), if_neg e1, ogd_pos (by decide), ogd_pos (by decide), c23, hT]
    by_cases e2 : pT P k = 2
    · rw [if_pos (q2.mpr e2), if_pos e2]
      by_cases t : sT s = nI (pH P k)
      · rw [if_pos t, if_pos t]
        cases rainB P s (pR P k)
        · rw [if_pos (by decide)]; rfl
        · rw [if_neg (by decide)]; rfl
      · rw [if_neg t, if_neg t]; rfl
    · rw [if_neg (fun q => e2 (q2.mp q)), if_neg e2, if_pos (hs.2.2.2.2 k hk (by omega) hf)]
      cases rainB P s (pR P k)
      · rw [if_pos (by decide), ogd_pos (by decide)]
        by_cases t : sT s = nI (pH P k)
        · rw [if_pos t, if_pos t]; rfl
        · rw [if_neg t, if_neg t]; rfl
      · rw [if_neg (by decide)]; rfl
theorem hour_M {P : PL} {M : MM} {p : Nat} {s : SC} (hp : p = 6 ∨ p = 7) (h : DS P M p s) : q_X7_goHour p M = some (bs (rainB P s), mR M p (hourF P s (M.1 p))) := by
  obtain ⟨hP, hC, hs, hR⟩ := id h
  have hW := hP.1
  have hN := hP.2.1
  have hp4 : 4 ≤ p := by omega
  obtain ⟨R1, R2, R3, R4, R5, R6⟩ := id hR
  unfold q_X7_goHour
  rw [rain_M h, obd_of rfl, hail_M h, obd_of rfl]
  have c1 : M = mR M p (ovr (M.1 p) 12 0 (wetS P s)) := by rw [ovr_0, mR_self]
  refine (show q_X7_goHour_15 p FU (bs (rainB P s)) (bs (hailB P s)) 0 M = q_X7_goHour_15 p FU (bs (rainB P s)) (bs (hailB P s)) (nI 0) (mR M p (ovr (M.1 p) 12 0 (wetS P s))) by rw [← c1]; rfl).trans ?_
  refine lp0 6 (fun f j => q_X7_goHour_15 p f (bs (rainB P s)) (bs (hailB P s)) (nI j) (mR M p (ovr (M.1 p) 12 j (wetS P s)))) _ (by decide) ?_ ?_
  · intro f
    rw [q_X7_goHour_15, L6, if_pos (Int32.le_refl _)]
    generalize hf1 : ovr (M.1 p) 12 6 (wetS P s) = f1
    have c2 : mR M p f1 = mR M p (ovr f1 18 0 (fun k => nI (fate2 P s k))) := by rw [ovr_0]
    refine (show q_X7_goHour_68 p FU (bs (rainB P s)) 0 (mR M p f1) = q_X7_goHour_68 p FU (bs (rainB P s)) (nI 0) (mR M p (ovr f1 18 0 (fun k => nI (fate2 P s k)))) by rw [← c2]; rfl).trans ?_
    refine lp0 (pN P) (fun f j => q_X7_goHour_68 p f (bs (rainB P s)) (nI j) (mR M p (ovr f1 18 j (fun k => nI (fate2 P s k))))) _ (by omega) ?_ ?_
    · intro f
      have hC2 := PD_row hC hp4 (ovr f1 18 (pN P) (fun k => nI (fate2 P s k)))
      rw [q_X7_goHour_68, hC2.2.1, if_pos (Int32.le_refl _)]
      generalize hf2 : ovr f1 18 (pN P) (fun k => nI (fate2 P s k)) = f2
      have c3 : mR M p f2 = mR M p (ovr f2 6 0 (fun t => nI (sL s t - 1))) := by rw [ovr_0]
      refine (show q_X7_goHour_121 p FU (bs (rainB P s)) 0 (mR M p f2) = q_X7_goHour_121 p FU (bs (rainB P s)) (nI 0) (mR M p (ovr f2 6 0 (fun t => nI (sL s t - 1)))) by rw [← c3]; rfl).trans ?_
      refine lp0 6 (fun f j => q_X7_goHour_121 p f (bs (rainB P s)) (nI j) (mR M p (ovr f2 6 j (fun t => nI (sL s t - 1))))) _ (by decide) ?_ ?_
      · intro f
        rw [q_X7_goHour_121, L6, if_pos (Int32.le_refl _), ogd_pos (by decide), ogd_pos (by decide), c23, mU_mR, mR_mR, mR_at]
        congr 2
        refine mRf _ _ (funext fun c => ?_)
        unfold hourF
        rw [hf1, hf2]
        by_cases e : c = 23
        · rw [if_pos e, if_pos e, ovr_out (by omega), ← hf2, ovr_out (by omega), ← hf1, ovr_out (by omega), R6]
        · rw [if_neg e, if_neg e]
      · intro f j hj
        have hl := hs.2.2.1 j hj
        have v : (ovr f2 6 j fun t => nI (sL s t - 1)) (6 + j) = nI (sL s j) := by
          rw [ovr_out (by omega), ← hf2, ovr_out (by omega), ← hf1, ovr_out (by omega), R3 j hj]
        have key : ∀ x : Int32, nI (sL s j) - x = nI (sL s j - 1) → q_X7_goHour_151 p (q_X7_goHour_121 p f) (bs (rainB P s)) (nI j) (nI (6 + j)) (nI (sL s j)) x (mR M p (ovr f2 6 j fun t => nI (sL s t - 1))) = q_X7_goHour_121 p f (bs (rainB P s)) (nI (j + 1)) (mR M p (ovr f2 6 (j + 1) fun t => nI (sL s t - 1))) := by
          intro x hx
          rw [q_X7_goHour_151, ogd_pos (ib_nI (by omega) (by decide)), ncl (by omega), mU_mR, mR_mR, mR_at, nI_1, hx]
          congr 1
          refine mRf _ _ ?_
          rw [← ovr_s]
        rw [q_X7_goHour_121, L6, if_neg (nge hj (by decide)), ← L6, a6, ogd_pos (ib_nI (by omega) (by decide)), ogd_pos (ib_nI (by omega) (by decide)), ncl (by omega), mR_at, v]
        by_cases z : sL s j = 0
        · rw [if_pos (by rw [z]; decide)]
          exact key _ (by rw [z]; rfl)
        · rw [if_neg (nI_nle (by omega) (by omega))]
          obtain ⟨m, hm⟩ : ∃ m, sL s j = m + 1 := ⟨sL s j - 1, by omega⟩
          exact key _ (by rw [hm, nI_pred]; rfl)
    · intro f j hj
      have hC2 := PD_row hC hp4 (ovr f1 18 j (fun k => nI (fate2 P s k)))
      have v : (ovr f1 18 j fun k => nI (fate2 P s k)) (18 + j) = nI (sF s j) := by
        rw [ovr_out (by omega), ← hf1, ovr_out (by omega), R5 j (by omega)]
      have hfj := hs.2.2.2.1 j (by omega)
      have key : ∀ x : Int32, x = nI (fate2 P s j) → q_X7_goHour_111 p (q_X7_goHour_68 p f) (bs (rainB P s)) (nI j) (nI (18 + j)) x (mR M p (ovr f1 18 j fun k => nI (fate2 P s k))) = q_X7_goHour_68 p f (bs (rainB P s)) (nI (j + 1)) (mR M p (ovr f1 18 (j + 1) fun k => nI (fate2 P s k))) := by
        intro x hx
        rw [q_X7_goHour_111, ogd_pos (ib_nI (by omega) (by decide)), ncl (by omega), mU_mR, mR_mR, mR_at, nI_1, hx]
        congr 1
        refine mRf _ _ ?_
        rw [← ovr_s]
      rw [q_X7_goHour_68, hC2.2.1, if_neg (nge hj (by omega)), a18, ogd_pos (ib_nI (by omega) (by decide)), ncl (by omega), mR_at, v]
      by_cases z : sF s j = 0
      · rw [if_pos (by rw [z]; rfl)]
        rw [fate_M hP hC2 hs (by rw [mR_at, ovr_out (by omega), ← hf1, ovr_out (by omega), R6]) (fun t ht => by rw [mR_at, ovr_out (by omega), ← hf1, ovr_in ht]) hj z, obd_of rfl]
        exact key _ (by unfold fate2; rw [if_pos ⟨hj, z⟩])
      · rw [if_neg (fun q => z ((nI_eq0 (by omega)).mp q)), ogd_pos (ib_nI (by omega) (by decide))]
        exact key _ (by unfold fate2; rw [if_neg (fun q => z q.2)])
  · intro f j hj
    have v : (ovr (M.1 p) 12 j (wetS P s)) (12 + j) = sE s j := by rw [ovr_out (by omega), R4 j hj]
    rw [q_X7_goHour_15, L6, if_neg (nge hj (by decide)), a12, ogd_pos (ib_nI (by omega) (by decide)), hasM _ hj, hasM _ hj, ncl (by omega), mR_at, v]
    have key : ∀ x : Int32, sE s j + x = wetS P s j → q_X7_goHour_57 p (q_X7_goHour_15 p f) (bs (rainB P s)) (bs (hailB P s)) (nI j) (nI (12 + j)) (sE s j) x (mR M p (ovr (M.1 p) 12 j (wetS P s))) = q_X7_goHour_15 p f (bs (rainB P s)) (bs (hailB P s)) (nI (j + 1)) (mR M p (ovr (M.1 p) 12 (j + 1) (wetS P s))) := by
      intro x hx
      rw [q_X7_goHour_57, ogd_pos (ib_nI (by omega) (by decide)), ncl (by omega), mU_mR, mR_mR, mR_at, nI_1, hx]
      congr 1
      exact mRf _ _ ovr_s
    cases hr : rainB P s j
    · rw [if_pos (by decide)]
      exact key _ (by unfold wetS; rw [hr]; rfl)
    · rw [if_neg (by decide)]
      cases hh : hailB P s j
      · rw [if_pos (by decide)]
        exact key _ (by unfold wetS; rw [hr, hh]; rfl)
      · rw [if_neg (by decide)]
        exact key _ (by unfold wetS; rw [hr, hh]; rfl)
theorem hours_M {P : PL} {M : MM} {s : SC} (h : DS P M 7 s) {n : Nat} (hn : n ≤ 20) : q_X7_goHours (nI n) M = some ((), mR M 7 (hoursF P s (M.1 7) n)) := by
  obtain ⟨hP, hC, hs, hR⟩ := id h
  unfold q_X7_goHours
  refine (show q_X7_goHours_2 (nI n) FU 0 M = q_X7_goHours_2 (nI n) FU (nI 0) (mR M 7 (hoursF P s (M.1 7) 0)) by rw [hoursF_0, mR_self]; rfl).trans ?_
  refine lp0 n (fun f j => q_X7_goHours_2 (nI n) f (nI j) (mR M 7 (hoursF P s (M.1 7) j))) _ (by omega) ?_ ?_
  · intro f
    rw [q_X7_goHours_2, if_pos (Int32.le_refl _)]
  · intro f j hj
    have hj2 : DS P (mR M 7 (hoursF P s (M.1 7) j)) 7 (hoursS P s j) := DS_row (by omega) h (WS_hours hP hs j) (RP_hours hP hR j)
    rw [q_X7_goHours_2, if_neg (nge hj (by omega)), hour_M (Or.inr rfl) hj2, obd_of rfl, mR_mR, mR_at, nI_1]
    rfl
theorem kept_M {P : PL} {M : MM} {s : SC} (h : DS P M 7 s) : q_X7_keptThen M = some (nI (cnt (needB P (hoursS P s 9) 1) 6), mR M 7 (hoursF P s (M.1 7) 9)) := by
  have h9 : DS P (mR M 7 (hoursF P s (M.1 7) 9)) 7 (hoursS P s 9) := DS_row (by omega) h (WS_hours h.1 h.2.2.1 9) (RP_hours h.1 h.2.2.2 9)
  unfold q_X7_keptThen
  rw [L9, hours_M h (by omega), obd_of rfl, L1, needs_M h9 (by decide), obd_of rfl, manyM, obd_of rfl]
theorem openAll_out {P : PL} {p : Nat → Bool} {s : SC} : ∀ (m n : Nat), n ≤ m → sO (openAll P p s n) m = sO s m
  | m, 0, _ => rfl
  | m, n + 1, h => by
    rw [openAll_s]
    have ih := openAll_out (P := P) (p := p) (s := s) m n (by omega)
    split
    · show upN (sO (openAll P p s n)) n true m = _
      unfold upN
      rw [if_neg (by omega)]
      exact ih
    · exact ih
theorem openAll_congr {P : PL} {p q : Nat → Bool} {s : SC} : ∀ (n : Nat), (∀ j, j < n → (p j && !sO s j) = (q j && !sO s j)) → openAll P p s n = openAll P q s n
  | 0, _ => rfl
  | n + 1, h => by
    have ih := openAll_congr (P := P) n (fun j hj => h j (by omega))
    rw [openAll_s, openAll_s, openAll_out n n (Nat.le_refl _), openAll_out n n (Nat.le_refl _), ih, h n (by omega)]
theorem openAll_M {P : PL} {M : MM} {s : SC} (h : DS P M 7 s) (p : Nat → Bool) (hp : ∀ w, w < pW P → p w = true → sO s w = false) : q_X7_openAll (bs p) M = some ((), mR M 7 (openAllF P p s (M.1 7) (pW P))) := by
  obtain ⟨hP, hC, hs, hR⟩ := id h
  have hW := hP.1
  unfold q_X7_openAll
  refine (show q_X7_openAll_2 (bs p) FU 0 M = q_X7_openAll_2 (bs p) FU (nI 0) (mR M 7 (openAllF P p s (M.1 7) 0)) by rw [openAllF_0, mR_self]; rfl).trans ?_
  refine lp0 (pW P) (fun f j => q_X7_openAll_2 (bs p) f (nI j) (mR M 7 (openAllF P p s (M.1 7) j))) _ (by omega) ?_ ?_
  · intro f
    rw [q_X7_openAll_2, (PD_row hC (r := 7) (by omega) _).1, if_pos (Int32.le_refl _)]
  · intro f j hj
    have hj2 : DS P (mR M 7 (openAllF P p s (M.1 7) j)) 7 (openAll P p s j) := DS_row (by omega) h (WS_openAll hs p j (by omega)) (RP_openAll hP hs hR p j (by omega))
    rw [q_X7_openAll_2, hj2.2.1.1, if_neg (nge hj (by omega)), hasM _ (by omega), openAllF_s, openAll_out j j (Nat.le_refl _)]
    by_cases e : p j = true
    · rw [e, if_neg (by decide), goOpen_M (Or.inr rfl) hj2 hj, obd_of rfl, q_X7_openAll_27, nI_1, mR_mR, mR_at, hp j hj e]
      rfl
    · have e2 : p j = false := by simpa using e
      rw [e2, if_pos (by decide), q_X7_openAll_27, nI_1]
      rfl
-- copies of 24 numbers
theorem begin_M {M : MM} : ∃ f : Nat → Int32, (∀ c, c < 24 → f c = M.1 6 c) ∧ q_X7_begin M = some ((), mR M 7 f) := by
  refine ⟨ovr (M.1 7) 0 24 (M.1 6), fun c hc => by have := ovr_in (f := M.1 7) (o := 0) (g := M.1 6) hc; rwa [Nat.zero_add] at this, ?_⟩
  unfold q_X7_begin
  refine (show q_X7_begin_2 FU 0 M = q_X7_begin_2 FU (nI 0) (mR M 7 (ovr (M.1 7) 0 0 (M.1 6))) by rw [ovr_0, mR_self]; rfl).trans ?_
  refine lp0 24 (fun f j => q_X7_begin_2 f (nI j) (mR M 7 (ovr (M.1 7) 0 j (M.1 6)))) _ (by decide) ?_ ?_
  · intro f
    rw [q_X7_begin_2, L24, if_pos (Int32.le_refl _)]
  · intro f j hj
    rw [q_X7_begin_2, L24, if_neg (nge hj (by decide)), ogd_pos (ib_nI hj (by decide)), ogd_pos (ib_nI hj (by decide)), ncl (by omega), mU_mR, mR_mR, mR_at, mR_ne _ _ (by decide), nI_1]
    congr 1
    refine mRf _ _ ?_
    have := ovr_s (f := M.1 7) (o := 0) (j := j) (g := M.1 6)
    rwa [Nat.zero_add] at this
theorem RP_congr {P : PL} {f g : Nat → Int32} {s : SC} (hP : WP P) (h : ∀ c, c < 24 → (c < pW P ∨ 5 ≤ c) → f c = g c) (hg : RP P g s) : RP P f s := by
  obtain ⟨h1, h2, h3, h4, h5, h6⟩ := hg
  have hW := hP.1
  refine ⟨fun w hw => ?_, ?_, fun t ht => ?_, fun t ht => ?_, fun k hk => ?_, ?_⟩
  · rw [h w (by omega) (Or.inl hw)]; exact h1 w hw
  · rw [h 5 (by omega) (Or.inr (by omega))]; exact h2
  · rw [h (6 + t) (by omega) (Or.inr (by omega))]; exact h3 t ht
  · rw [h (12 + t) (by omega) (Or.inr (by omega))]; exact h4 t ht
  · rw [h (18 + k) (by omega) (Or.inr (by omega))]; exact h5 k hk
  · rw [h 23 (by omega) (Or.inr (by omega))]; exact h6
