-- the class: what it reads of a scene
def rtC (P : PL) (s : SC) (j : Nat) : Int32 := if sO s j then (if nI (pS P j) = 3 then ((((1 : Int32) <<< (nI (sP s j) &&& 31)) <<< ((1 : Int32) &&& 31)) ||| ((1 : Int32) <<< (nI (sP s j) &&& 31)) ||| (((1 : Int32) <<< (nI (sP s j) &&& 31)) >>> ((1 : Int32) &&& 31))) else ((1 : Int32) <<< (nI (sP s j) &&& 31))) else 0
def rtL (s : SC) (t : Nat) : Int32 := if nI (sL s t) ≤ 0 then (0 : Int32) else (1 : Int32) <<< (nI t &&& 31)
theorem hitR_eq {P : PL} {s : SC} (hP : WP P) (hs : WS P s) {j : Nat} (hj : j < pW P) {x : Int32} (h : umbF (sO s j) (sP s j) (pS P j == 3) x) : x &&& 63 = bs (hitR P s j) := h
theorem pS3 {P : PL} (hP : WP P) {j : Nat} (hj : j < pW P) : (nI (pS P j) = 3) ↔ (pS P j = 3) := nI_eq (b := 3) (by have := hP.2.2.1 j hj; omega) (by decide)
theorem rtC_63 {P : PL} {s : SC} (hP : WP P) (hs : WS P s) {j : Nat} (hj : j < 5) : rtC P s j &&& 63 = bs (hitR P s j) := by
  unfold rtC
  by_cases o : sO s j = true
  · have hw : j < pW P := by
      by_cases g : j < pW P
      · exact g
      · rw [hs.2.1 j (by omega)] at o; cases o
    rw [if_pos o]
    by_cases q : pS P j = 3
    · rw [if_pos ((pS3 hP hw).mpr q)]
      have h := umb_C (hs.1 j hw)
      unfold umbF at h
      rw [h]
      exact bs_congr (fun t _ => by simp [hitR, o, q])
    · rw [if_neg (fun e => q ((pS3 hP hw).mp e))]
      have h := umb_1 (hs.1 j hw)
      unfold umbF at h
      rw [h]
      exact bs_congr (fun t _ => by simp [hitR, o, q])
  · rw [if_neg o]
    exact (show (0 : Int32) &&& 63 = bs (fun _ => false) from rfl).trans (bs_congr (fun t _ => by simp [hitR, o]))
theorem rain_C {P : PL} {M : MM} {i : Nat} {s : SC} (h : CS P M i s) : q_X3_rainBits i M = some (bs (rainB P s), M) := by
  obtain ⟨hP, hC, hs, hR⟩ := id h
  have fin : orF (orF 0 (rtC P s) 5) (rtL s) 6 &&& 63 = bs (rainB P s) := by
    have h1 := orF_63 (z := 0) (t := rtC P s) (q0 := fun _ => false) (q := hitR P s) rfl 5 (fun j hj => rtC_63 hP hs hj)
    have h2 := orF_63 (t := rtL s) (q := lasR s) h1 6 (fun j hj => las_63 hj (hs.2.2.1 j hj))
    rw [h2]
    refine bs_congr (fun t ht => ?_)
    rw [anyN_las ht, anyN_out (m := pW P) (n := 5) hP.1 (fun j h1 _ => by simp [hitR, hs.2.1 j h1])]
    unfold rainB
    simp [Bool.or_comm]
  unfold q_X3_rainBits
  refine lp0 5 (fun f j => q_X3_rainBits_4 i f (orF 0 (rtC P s) j) (nI j) M) _ (by decide) ?_ ?_
  · intro f
    rw [q_X3_rainBits_4, if_pos (Int32.le_refl _)]
    refine lp0 6 (fun f j => q_X3_rainBits_69 i f (orF (orF 0 (rtC P s) 5) (rtL s) j) (nI j) M) _ (by decide) ?_ ?_
    · intro f
      rw [q_X3_rainBits_69, if_pos (Int32.le_refl _), fin]
    · intro f j hj
      rw [q_X3_rainBits_69, if_neg (nge hj (by decide)), ogd_pos (ib_nI hj (by decide)), ncl (by omega), hR.2.2.1 j hj]
      show _ = q_X3_rainBits_69 i f (orF (orF 0 (rtC P s) 5) (rtL s) j ||| rtL s j) (nI (j + 1)) M
      unfold rtL
      split
      · rw [q_X3_rainBits_95, nI_1]
      · rw [q_X3_rainBits_95, nI_1]
  · intro f j hj
    have hop : t_X6_has (M.1 (9 + i) 5) (nI j) = sO s j := by rw [hR.2.1, hasC _ (by omega)]
    rw [q_X3_rainBits_4, if_neg (nge hj (by decide)), hop]
    show _ = q_X3_rainBits_4 i f (orF 0 (rtC P s) j ||| rtC P s j) (nI (j + 1)) M
    by_cases o : sO s j = true
    · have hw : j < pW P := by
        by_cases g : j < pW P
        · exact g
        · rw [hs.2.1 j (by omega)] at o; cases o
      rw [o, if_neg (by decide), ogd_pos (ib_nI hj (by decide)), stuffOf_C hP.1 hC hw, ncl (by omega), Nat.zero_add, hR.1 j hw]
      unfold rtC
      rw [if_pos o]
      by_cases q : nI (pS P j) = 3
      · rw [if_pos q, if_pos q, q_X3_rainBits_59, q_X3_rainBits_61, nI_1]
      · rw [if_neg q, if_neg q, q_X3_rainBits_59, q_X3_rainBits_61, nI_1]
    · have o2 : sO s j = false := by simpa using o
      rw [o2, if_pos (by decide), q_X3_rainBits_61, nI_1]
      unfold rtC
      rw [if_neg o, or_0]
-- hail
def onceF (s : SC) (n t : Nat) : Bool := decide (1 ≤ cnt (atB s t) n)
def twiceF (s : SC) (n t : Nat) : Bool := decide (2 ≤ cnt (atB s t) n)
theorem cnt_s (p : Nat → Bool) (n : Nat) : cnt p (n + 1) = cnt p n + (if p n then 1 else 0) := rfl
theorem atB_out {P : PL} {s : SC} (hs : WS P s) {t : Nat} {n : Nat} (h : pW P ≤ n) : cnt (atB s t) n = cnt (atB s t) (pW P) := cnt_out h (fun j h1 _ => by simp [atB, hs.2.1 j h1])
theorem hail_C {P : PL} {M : MM} {i : Nat} {s : SC} (h : CS P M i s) : q_X3_hailBits i M = some (bs (hailB P s), M) := by
  obtain ⟨hP, hC, hs, hR⟩ := id h
  unfold q_X3_hailBits
  refine lp0 5 (fun f j => q_X3_hailBits_6 i f (bs (onceF s j)) (bs (twiceF s j)) (nI j) M) _ (by decide) ?_ ?_
  · intro f
    rw [q_X3_hailBits_6, if_pos (Int32.le_refl _)]
    congr 2
    refine bs_congr (fun t _ => ?_)
    unfold twiceF hailB
    rw [atB_out hs hP.1]
  · intro f j hj
    have hop : t_X6_has (M.1 (9 + i) 5) (nI j) = sO s j := by rw [hR.2.1, hasC _ (by omega)]
    rw [q_X3_hailBits_6, if_neg (nge hj (by decide)), hop]
    show _ = q_X3_hailBits_6 i f (bs (onceF s (j + 1))) (bs (twiceF s (j + 1))) (nI (j + 1)) M
    have key : ∀ x : Int32, x = bs (fun t => atB s t j) → q_X3_hailBits_38 i (q_X3_hailBits_6 i f) (bs (onceF s j)) (bs (twiceF s j)) (nI j) x M = q_X3_hailBits_6 i f (bs (onceF s (j + 1))) (bs (twiceF s (j + 1))) (nI (j + 1)) M := by
      intro x hx
      subst hx
      rw [q_X3_hailBits_38, nI_1, bs_or, bs_and, bs_or]
      congr 1
      · refine bs_congr (fun t _ => ?_)
        unfold onceF
        rw [cnt_s]
        cases atB s t j <;> simp
      · refine bs_congr (fun t _ => ?_)
        unfold twiceF onceF
        rw [cnt_s]
        cases atB s t j <;> simp
        omega
    by_cases o : sO s j = true
    · have hw : j < pW P := by
        by_cases g : j < pW P
        · exact g
        · rw [hs.2.1 j (by omega)] at o; cases o
      rw [o, if_neg (by decide), ogd_pos (ib_nI hj (by decide)), ncl (by omega), Nat.zero_add, hR.1 j hw]
      refine key _ ?_
      rw [one_sh (hs.1 j hw)]
      exact bs_congr (fun t _ => by simp [atB, o, Bool.beq_comm, eq_comm])
    · have o2 : sO s j = false := by simpa using o
      rw [o2, if_pos (by decide)]
      refine key _ ?_
      exact bs_0.symm.trans (bs_congr (fun t _ => by simp [atB, o2]))
theorem openIn_C {P : PL} {M : MM} {i : Nat} {s : SC} (h : CS P M i s) {t : Nat} (ht : t < 6) : q_X3_openIn i (nI t) M = some (nI (cnt (atB s t) (pW P)), M) := by
  obtain ⟨hP, hC, hs, hR⟩ := id h
  unfold q_X3_openIn
  refine lp0 5 (fun f j => q_X3_openIn_4 i (nI t) f (nI (cnt (atB s t) j)) (nI j) M) _ (by decide) ?_ ?_
  · intro f
    rw [q_X3_openIn_4, if_pos (Int32.le_refl _), atB_out hs hP.1]
  · intro f j hj
    have hop : t_X6_has (M.1 (9 + i) 5) (nI j) = sO s j := by rw [hR.2.1, hasC _ (by omega)]
    rw [q_X3_openIn_4, if_neg (nge hj (by decide)), hop]
    show _ = q_X3_openIn_4 i (nI t) f (nI (cnt (atB s t) (j + 1))) (nI (j + 1)) M
    rw [cnt_s]
    by_cases o : sO s j = true
    · have hw : j < pW P := by
        by_cases g : j < pW P
        · exact g
        · rw [hs.2.1 j (by omega)] at o; cases o
      have hp := hs.1 j hw
      rw [o, if_neg (by decide), ogd_pos (ib_nI hj (by decide)), ncl (by omega), Nat.zero_add, hR.1 j hw]
      by_cases e : sP s j = t
      · rw [if_pos (by rw [e]), q_X3_openIn_40, nI_1, nI_1]
        simp [atB, o, e]
      · rw [if_neg (fun q => e ((nI_eq (by omega) (by omega)).mp q)), q_X3_openIn_39, q_X3_openIn_40, nI_1]
        simp [atB, o, e]
    · have o2 : sO s j = false := by simpa using o
      rw [o2, if_pos (by decide), q_X3_openIn_39, q_X3_openIn_40, nI_1]
      simp [atB, o2]
-- needs by their fate
def needB (P : PL) (s : SC) (v k : Nat) : Bool := decide (k < pN P) && sF s k == v
def needJ (s : SC) (v n k : Nat) : Bool := decide (k < n) && sF s k == v
theorem fateOf_C {P : PL} {M : MM} {i : Nat} {s : SC} (h : CS P M i s) {k : Nat} (hk : k < 5) : t_X3_fateOf i (nI k) M = nI (sF s k) := by
  unfold t_X3_fateOf
  rw [at_in hk (by decide), h.2.2.2.2.2.2.2.1 k hk]
theorem needJ_s {s : SC} {v j : Nat} (o : Bool) (ho : (sF s j == v) = o) : bs (needJ s v j) ||| bs (fun t => t == j && o) = bs (needJ s v (j + 1)) := by
  rw [bs_or]
  refine bs_congr (fun t _ => ?_)
  unfold needJ
  by_cases e : t = j
  · subst e; rw [ho]; simp
  · have : (t == j) = false := by simpa using e
    rw [this]
    by_cases g : t < j
    · simp [g, show t < j + 1 by omega]
    · simp [g, show ¬ t < j + 1 by omega]
theorem needs_C {P : PL} {M : MM} {i : Nat} {s : SC} (h : CS P M i s) {v : Nat} (hv : v < 3) : q_X3_needBits i (nI v) M = some (bs (needB P s v), M) := by
  obtain ⟨hP, hC, hs, hR⟩ := id h
  have hn := hP.2.1
  unfold q_X3_needBits
  refine (show q_X3_needBits_4 i (nI v) FU 0 0 M = q_X3_needBits_4 i (nI v) FU (bs (needJ s v 0)) (nI 0) M by rfl).trans ?_
  refine lp0 (pN P) (fun f j => q_X3_needBits_4 i (nI v) f (bs (needJ s v j)) (nI j) M) _ (by omega) ?_ ?_
  · intro f
    rw [q_X3_needBits_4, t_X2_needCount, hC.2.1, if_pos (Int32.le_refl _)]
    rfl
  · intro f j hj
    have hf := hs.2.2.2.1 j (by omega)
    rw [q_X3_needBits_4, t_X2_needCount, hC.2.1, if_neg (nge hj (by omega)), fateOf_C h (by omega)]
    show _ = q_X3_needBits_4 i (nI v) f (bs (needJ s v (j + 1))) (nI (j + 1)) M
    by_cases e : sF s j = v
    · rw [if_pos (by rw [e]), q_X3_needBits_32, nI_1, one_sh (by omega), ← needJ_s true (by simp [e])]
      simp
    · rw [if_neg (fun q => e ((nI_eq (by omega) (by omega)).mp q)), q_X3_needBits_32, nI_1, ← needJ_s false (by simp [e])]
      simp [bs_0]
theorem kept_C {P : PL} {M : MM} {i : Nat} {s : SC} (h : CS P M i s) : q_X3_keptCount i M = some (nI (cnt (needB P s 1) 6), M) := by
  unfold q_X3_keptCount
  rw [show (1 : Int32) = nI 1 from rfl, needs_C h (by decide), obd_of rfl, bitC]
