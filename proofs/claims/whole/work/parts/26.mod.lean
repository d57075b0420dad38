-- the reference: what it reads of a page
theorem leq1 {a : Nat} (h : a < 2 ^ 31) : nI a ≤ 1 ↔ a ≤ 1 := nI_leI (b := 1) h (by decide)
theorem qel1 {a : Nat} (h : a < 2 ^ 31) : (1 : Int32) ≤ nI a ↔ 1 ≤ a := nI_leI (a := 1) (by decide) h
theorem qel7 {a : Nat} (h : a < 2 ^ 31) : (7 : Int32) ≤ nI a ↔ 7 ≤ a := nI_leI (a := 7) (by decide) h
theorem c5 : (5 : Int32).toNatClampNeg = 5 := rfl
theorem c23 : (23 : Int32).toNatClampNeg = 23 := rfl
theorem a6 (t : Nat) : (6 : Int32) + nI t = nI (6 + t) := nI_add 6 t
theorem a12 (t : Nat) : (12 : Int32) + nI t = nI (12 + t) := nI_add 12 t
theorem a18 (t : Nat) : (18 : Int32) + nI t = nI (18 + t) := nI_add 18 t
theorem a24 (t : Nat) : (24 : Int32) + nI t = nI (24 + t) := nI_add 24 t
theorem m3 (t : Nat) : (3 : Int32) * nI t = nI (3 * t) := pk_mul 3 t
theorem m2 (t : Nat) : (2 : Int32) * nI t = nI (2 * t) := pk_mul 2 t
theorem m24 (t : Nat) : (24 : Int32) * nI t = nI (24 * t) := pk_mul 24 t
theorem p1 (t : Nat) : nI t + (1 : Int32) = nI (t + 1) := nI_1 t
theorem p2 (t : Nat) : nI t + (2 : Int32) = nI (t + 2) := nI_add t 2
theorem p3 (t : Nat) : nI t + (3 : Int32) = nI (t + 3) := nI_add t 3
theorem p24 (t : Nat) : nI t + (24 : Int32) = nI (t + 24) := nI_add t 24
theorem lcmp_lt {x y : Int64} : lg_cmp x y < 0 ↔ x < y := by
  unfold lg_cmp
  by_cases h1 : x > y
  · rw [if_pos h1]
    exact ⟨fun h => absurd h (by decide), fun h => (Int64.lt_irrefl (Int64.lt_trans h h1)).elim⟩
  · rw [if_neg h1]
    by_cases h2 : x = y
    · rw [if_pos h2]
      subst h2
      exact ⟨fun h => absurd h (by decide), fun h => (Int64.lt_irrefl h).elim⟩
    · rw [if_neg h2]
      refine ⟨fun _ => ?_, fun _ => by decide⟩
      have := Int64.not_lt.mp h1
      exact Int64.lt_of_le_of_ne this h2
theorem lcmp_gt {x y : Int64} : 0 < lg_cmp x y ↔ y < x := by
  unfold lg_cmp
  by_cases h1 : x > y
  · rw [if_pos h1]
    exact ⟨fun _ => h1, fun _ => by decide⟩
  · rw [if_neg h1]
    refine ⟨fun h => ?_, fun h => absurd h h1⟩
    by_cases h2 : x = y
    · rw [if_pos h2] at h; exact absurd h (by decide)
    · rw [if_neg h2] at h; exact absurd h (by decide)
theorem in_t {x lo hi : Int64} (h1 : ¬ x < lo) (h2 : ¬ hi < x) : t_X7_in x lo hi = true := by
  unfold t_X7_in
  rw [if_neg (fun q => h1 (lcmp_lt.mp q)), if_neg (fun q => h2 (lcmp_gt.mp q))]
theorem in_f1 {x lo hi : Int64} (h1 : x < lo) : t_X7_in x lo hi = false := by
  unfold t_X7_in
  rw [if_pos (lcmp_lt.mpr h1)]
theorem in_f2 {x lo hi : Int64} (h2 : hi < x) : t_X7_in x lo hi = false := by
  unfold t_X7_in
  rw [if_pos (lcmp_gt.mpr h2)]
  split <;> rfl
theorem wlt {a b : Int32} : a.toInt64 < b.toInt64 ↔ a < b := by
  rw [Int64.lt_iff_toInt_lt, Int32.lt_iff_toInt_lt, Int32.toInt_toInt64, Int32.toInt_toInt64]
-- a number among 0 .. n-1, for both
theorem in_nI {j n : Nat} (h : j < n) (hn : n < 2 ^ 31) : t_X7_in (nI j).toInt64 (0 : Int64) (nI n - 1).toInt64 = true := by
  obtain ⟨m, rfl⟩ : ∃ m, n = m + 1 := ⟨n - 1, by omega⟩
  rw [nI_pred]
  refine in_t ?_ ?_
  · rw [show (0 : Int64) = (0 : Int32).toInt64 from rfl, wlt]; exact nI_pos (by omega)
  · rw [wlt]; exact nI_nlt (by omega) (by omega)
theorem in_out {x : Int32} {n : Nat} (hn : n < 2 ^ 31) (h : x < 0 ∨ nI n ≤ x) : t_X7_in x.toInt64 (0 : Int64) (nI n - 1).toInt64 = false := by
  rcases h with h | h
  · refine in_f1 ?_
    rw [show (0 : Int64) = (0 : Int32).toInt64 from rfl, wlt]; exact h
  · refine in_f2 ?_
    rw [wlt]
    cases n with
    | zero =>
      refine Int32.lt_iff_toInt_lt.mpr ?_
      have := Int32.le_iff_toInt_le.mp h
      have e : (nI 0 - 1).toInt = -1 := rfl
      have e2 : (nI 0).toInt = 0 := rfl
      omega
    | succ m =>
      rw [nI_pred]
      refine Int32.lt_iff_toInt_lt.mpr ?_
      have := Int32.le_iff_toInt_le.mp h
      rw [nI_toInt hn] at this
      rw [nI_toInt (by omega)]
      omega
theorem nw_in {P : PL} {M : MM} (h : M.1 0 3 = nI (pW P)) {w : Nat} (hw : w < pW P) (h5 : pW P ≤ 5) : t_X7_noWalker (nI w) M = false := by
  unfold t_X7_noWalker
  rw [h, in_nI hw (by omega), if_neg (by decide)]
theorem nw_out {P : PL} {M : MM} (h : M.1 0 3 = nI (pW P)) {x : Int32} (h5 : pW P ≤ 5) (hx : x < 0 ∨ nI (pW P) ≤ x) : t_X7_noWalker x M = true := by
  unfold t_X7_noWalker
  rw [h, in_out (by omega) hx, if_pos (by decide)]
theorem ns_in {t : Nat} (h : t < 6) : t_X7_noStreet (nI t) = false := by
  unfold t_X7_noStreet
  rw [show (5 : Int64) = (nI 6 - 1).toInt64 from rfl, in_nI h (by decide), if_neg (by decide)]
theorem ns_out {x : Int32} (hx : x < 0 ∨ nI 6 ≤ x) : t_X7_noStreet x = true := by
  unfold t_X7_noStreet
  rw [show (5 : Int64) = (nI 6 - 1).toInt64 from rfl, in_out (by decide) hx, if_pos (by decide)]
theorem is_in {t : Nat} (h : t < 6) : t_X6_isStreet (nI t) = true := by
  unfold t_X6_isStreet
  rw [if_neg (nI_pos (by omega)), L6, if_neg (nge h (by decide))]
theorem is_out {x : Int32} (hx : x < 0 ∨ nI 6 ≤ x) : t_X6_isStreet x = false := by
  unfold t_X6_isStreet
  rcases hx with hx | hx
  · rw [if_pos hx]
  · rw [L6, if_pos hx]; split <;> rfl
theorem cases_n (x : Int32) {n : Nat} (hn : n < 2 ^ 31) : (x < 0 ∨ nI n ≤ x) ∨ ∃ j : Nat, j < n ∧ x = nI j := by
  rcases pk_ix x hn with h | h | h
  · exact Or.inl (Or.inl h)
  · exact Or.inl (Or.inr h)
  · exact Or.inr h
def DS (P : PL) (M : MM) (p : Nat) (s : SC) : Prop := WP P ∧ PD P M ∧ WS P s ∧ RP P (M.1 p) s
theorem PD_row {P : PL} {M : MM} (h : PD P M) {r : Nat} (hr : 4 ≤ r) (f : Nat → Int32) : PD P (mR M r f) := by
  unfold PD
  rw [mR_ne _ _ (by omega), mR_ne _ _ (by omega), mR_ne _ _ (by omega)]
  exact h
theorem DS_row {P : PL} {M : MM} {p : Nat} {s s2 : SC} {f : Nat → Int32} (hp : 4 ≤ p) (h : DS P M p s) (hs : WS P s2) (hf : RP P f s2) : DS P (mR M p f) p s2 := ⟨h.1, PD_row h.2.1 hp f, hs, by rw [mR_at]; exact hf⟩
def rtM (P : PL) (s : SC) (j : Nat) : Int32 := if nI (pS P j) = 3 then (((if sO s j then (1 : Int32) <<< (nI (sP s j) &&& 31) else 0) ||| ((if sO s j then (1 : Int32) <<< (nI (sP s j) &&& 31) else 0) <<< ((1 : Int32) &&& 31))) ||| ((if sO s j then (1 : Int32) <<< (nI (sP s j) &&& 31) else 0) >>> ((1 : Int32) &&& 31))) else (if sO s j then (1 : Int32) <<< (nI (sP s j) &&& 31) else 0)
theorem rtM_63 {P : PL} {s : SC} (hP : WP P) (hs : WS P s) {j : Nat} (hj : j < pW P) : rtM P s j &&& 63 = bs (hitR P s j) := by
  unfold rtM
  by_cases o : sO s j = true
  · rw [if_pos o]
    by_cases q : pS P j = 3
    · rw [if_pos ((pS3 hP hj).mpr q)]
      have h := umb_M (hs.1 j hj)
      unfold umbF at h
      rw [h]
      exact bs_congr (fun t _ => by simp [hitR, o, q])
    · rw [if_neg (fun e => q ((pS3 hP hj).mp e))]
      have h := umb_1 (hs.1 j hj)
      unfold umbF at h
      rw [h]
      exact bs_congr (fun t _ => by simp [hitR, o, q])
  · rw [if_neg o]
    have z : (if nI (pS P j) = 3 then (((0 : Int32) ||| ((0 : Int32) <<< ((1 : Int32) &&& 31))) ||| ((0 : Int32) >>> ((1 : Int32) &&& 31))) else (0 : Int32)) &&& 63 = bs (fun _ => false) := by split <;> rfl
    rw [z]
    exact bs_congr (fun t _ => by simp [hitR, o])
theorem rain_M {P : PL} {M : MM} {p : Nat} {s : SC} (h : DS P M p s) : q_X7_rainOf p M = some (bs (rainB P s), M) := by
  obtain ⟨hP, hC, hs, hR⟩ := id h
  have hW := hP.1
  have fin : orF (orF 0 (rtL s) 6) (rtM P s) (pW P) &&& 63 = bs (rainB P s) := by
    have h1 := orF_63 (z := 0) (t := rtL s) (q0 := fun _ => false) (q := lasR s) rfl 6 (fun j hj => las_63 hj (hs.2.2.1 j hj))
    have h2 := orF_63 (t := rtM P s) (q := hitR P s) h1 (pW P) (fun j hj => rtM_63 hP hs hj)
    rw [h2]
    refine bs_congr (fun t ht => ?_)
    rw [anyN_las ht]
    unfold rainB
    simp
  unfold q_X7_rainOf
  refine lp0 6 (fun f j => q_X7_rainOf_4 p f (orF 0 (rtL s) j) (nI j) M) _ (by decide) ?_ ?_
  · intro f
    rw [q_X7_rainOf_4, L6, if_pos (Int32.le_refl _)]
    refine lp0 (pW P) (fun f j => q_X7_rainOf_37 p f (orF (orF 0 (rtL s) 6) (rtM P s) j) (nI j) M) _ (by omega) ?_ ?_
    · intro f
      rw [q_X7_rainOf_37, hC.1, if_pos (Int32.le_refl _), fin]
    · intro f j hj
      rw [q_X7_rainOf_37, hC.1, if_neg (nge hj (by omega)), ogd_pos (by decide), c5, hR.2.1, hasM _ (by omega)]
      show _ = q_X7_rainOf_37 p f (orF (orF 0 (rtL s) 6) (rtM P s) j ||| rtM P s j) (nI (j + 1)) M
      have key : ∀ x : Int32, x = (if sO s j then (1 : Int32) <<< (nI (sP s j) &&& 31) else 0) → q_X7_rainOf_64 p (q_X7_rainOf_37 p f) (orF (orF 0 (rtL s) 6) (rtM P s) j) (nI j) x M = q_X7_rainOf_37 p f (orF (orF 0 (rtL s) 6) (rtM P s) j ||| rtM P s j) (nI (j + 1)) M := by
        intro x hx
        rw [q_X7_rainOf_64, ogd_pos (ib_nI (by omega) (by decide)), ncl (by omega), hC.2.2.1 j hj]
        unfold rtM
        by_cases q : nI (pS P j) = 3
        · rw [if_pos q, if_pos q, q_X7_rainOf_94, nI_1, hx]
        · rw [if_neg q, if_neg q, q_X7_rainOf_94, nI_1, hx]
      cases o : sO s j
      · rw [if_pos (by decide)]
        exact key _ (by rw [o]; rfl)
      · rw [if_neg (by decide), ogd_pos (ib_nI (by omega) (by decide)), ncl (by omega), hR.1 j hj]
        exact key _ (by rw [o]; rfl)
  · intro f j hj
    rw [q_X7_rainOf_4, L6, if_neg (nge hj (by decide)), ← L6, a6, ogd_pos (ib_nI (by omega) (by decide)), ncl (by omega), hR.2.2.1 j hj]
    show _ = q_X7_rainOf_4 p f (orF 0 (rtL s) j ||| rtL s j) (nI (j + 1)) M
    unfold rtL
    split
    · rw [q_X7_rainOf_27, nI_1]
    · rw [q_X7_rainOf_27, nI_1]
theorem openIn_M {P : PL} {M : MM} {p : Nat} {s : SC} (h : DS P M p s) {t : Nat} (ht : t < 6) : q_X7_openIn p (nI t) M = some (nI (cnt (atB s t) (pW P)), M) := by
  obtain ⟨hP, hC, hs, hR⟩ := id h
  have hW := hP.1
  unfold q_X7_openIn
  refine lp0 (pW P) (fun f j => q_X7_openIn_5 p (nI t) f (nI (cnt (atB s t) j)) (nI j) M) _ (by omega) ?_ ?_
  · intro f
    rw [q_X7_openIn_5, hC.1, if_pos (Int32.le_refl _)]
  · intro f j hj
    rw [q_X7_openIn_5, hC.1, if_neg (nge hj (by omega)), ogd_pos (by decide), c5, hR.2.1, hasM _ (by omega)]
    show _ = q_X7_openIn_5 p (nI t) f (nI (cnt (atB s t) (j + 1))) (nI (j + 1)) M
    rw [cnt_s]
    by_cases o : sO s j = true
    · have hp := hs.1 j hj
      rw [o, if_neg (by decide), ogd_pos (ib_nI (by omega) (by decide)), ncl (by omega), hR.1 j hj]
      by_cases e : sP s j = t
      · rw [if_pos (by rw [e]), q_X7_openIn_39, nI_1, nI_1]
        simp [atB, o, e]
      · rw [if_neg (fun q => e ((nI_eq (by omega) (by omega)).mp q)), q_X7_openIn_38, q_X7_openIn_39, nI_1]
        simp [atB, o, e]
    · have o2 : sO s j = false := by simpa using o
      rw [o2, if_pos (by decide), q_X7_openIn_38, q_X7_openIn_39, nI_1]
      simp [atB, o2]
def hailJ (P : PL) (s : SC) (n t : Nat) : Bool := decide (t < n) && hailB P s t
theorem setJ_s {q : Nat → Bool} {j : Nat} (o : Bool) (ho : q j = o) : bs (fun t => decide (t < j) && q t) ||| bs (fun t => t == j && o) = bs (fun t => decide (t < j + 1) && q t) := by
  rw [bs_or]
  refine bs_congr (fun t _ => ?_)
  by_cases e : t = j
  · subst e; rw [ho]; simp
  · have : (t == j) = false := by simpa using e
    rw [this]
    by_cases g : t < j
    · simp [g, show t < j + 1 by omega]
    · simp [g, show ¬ t < j + 1 by omega]
theorem hail_M {P : PL} {M : MM} {p : Nat} {s : SC} (h : DS P M p s) : q_X7_hailOf p M = some (bs (hailB P s), M) := by
  obtain ⟨hP, hC, hs, hR⟩ := id h
  unfold q_X7_hailOf
  refine lp0 6 (fun f j => q_X7_hailOf_4 p f (bs (fun t => decide (t < j) && hailB P s t)) (nI j) M) _ (by decide) ?_ ?_
  · intro f
    rw [q_X7_hailOf_4, L6, if_pos (Int32.le_refl _)]
    congr 2
  · intro f j hj
    have hc := cnt_le (atB s j) (pW P)
    have hW := hP.1
    rw [q_X7_hailOf_4, L6, if_neg (nge hj (by decide)), openIn_M h hj, obd_of rfl]
    by_cases g : cnt (atB s j) (pW P) ≤ 1
    · rw [if_pos ((leq1 (by omega)).mpr g), q_X7_hailOf_28, nI_1, ← setJ_s (j := j) false (by unfold hailB; simp; omega)]
      simp [bs_0]
    · rw [if_neg (fun q => g ((leq1 (by omega)).mp q)), q_X7_hailOf_28, nI_1, one_sh hj, ← setJ_s (j := j) true (by unfold hailB; simp; omega)]
      simp
theorem needs_M {P : PL} {M : MM} {p : Nat} {s : SC} (h : DS P M p s) {v : Nat} (hv : v < 3) : q_X7_needsThat p (nI v) M = some (bs (needB P s v), M) := by
  obtain ⟨hP, hC, hs, hR⟩ := id h
  have hn := hP.2.1
  unfold q_X7_needsThat
  refine (show q_X7_needsThat_5 p (nI v) FU 0 0 M = q_X7_needsThat_5 p (nI v) FU (bs (needJ s v 0)) (nI 0) M by rfl).trans ?_
  refine lp0 (pN P) (fun f j => q_X7_needsThat_5 p (nI v) f (bs (needJ s v j)) (nI j) M) _ (by omega) ?_ ?_
  · intro f
    rw [q_X7_needsThat_5, hC.2.1, if_pos (Int32.le_refl _)]
    rfl
  · intro f j hj
    have hf := hs.2.2.2.1 j (by omega)
    rw [q_X7_needsThat_5, hC.2.1, if_neg (nge hj (by omega)), a18, ogd_pos (ib_nI (by omega) (by decide)), ncl (by omega), hR.2.2.2.2.1 j (by omega)]
    show _ = q_X7_needsThat_5 p (nI v) f (bs (needJ s v (j + 1))) (nI (j + 1)) M
    by_cases e : sF s j = v
    · rw [if_pos (by rw [e]), q_X7_needsThat_34, nI_1, one_sh (by omega), ← needJ_s true (by simp [e])]
      simp
    · rw [if_neg (fun q => e ((nI_eq (by omega) (by omega)).mp q)), q_X7_needsThat_34, nI_1, ← needJ_s false (by simp [e])]
      simp [bs_0]
