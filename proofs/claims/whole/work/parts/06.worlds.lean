-- memories: rows of numbers, and a long; the two worlds over them
abbrev MM : Type := (Nat → Nat → Int32) × Int64
def mU (M : MM) (r c : Nat) (v : Int32) : MM := (fun r2 c2 => if r2 = r ∧ c2 = c then v else M.1 r2 c2, M.2)
def mL (M : MM) (v : Int64) : MM := (M.1, v)
def mR (M : MM) (r : Nat) (f : Nat → Int32) : MM := (fun r2 => if r2 = r then f else M.1 r2, M.2)
def aR (k : Nat) : Nat := if k = 2 then 1 else if k < 9 then k - 2 else if k < 16 then k - 7 else 9 + (k - 16) / 5
def aO (k : Nat) : Nat := if k < 16 then 0 else if (k - 16) % 5 = 1 then 0 else if (k - 16) % 5 = 2 then 6 else if (k - 16) % 5 = 3 then 12 else 18
def aN (k : Nat) : Nat := if k = 2 then 48 else if k < 9 then 5 else if k < 16 then 6 else if (k - 16) % 5 = 1 then 5 else if (k - 16) % 5 = 2 then 6 else if (k - 16) % 5 = 3 then 6 else 5
def aI (k : Nat) : Prop := k = 2 ∨ (4 ≤ k ∧ k < 9) ∨ k = 14 ∨ k = 15 ∨ (16 < k ∧ k < 106 ∧ (k - 16) % 5 ≠ 0)
-- object k of the class is an array of numbers: row, first column, length
def arr (k r o n : Nat) : Prop := aI k ∧ aR k = r ∧ aO k = o ∧ aN k = n
theorem arr_pl {i : Nat} (h : i < 18) : arr (16 + 5 * i + 1) (9 + i) 0 5 := by
  unfold arr aI aR aO aN
  rw [show 16 + 5 * i + 1 - 16 = 5 * i + 1 by omega, show (5 * i + 1) % 5 = 1 by omega, show (5 * i + 1) / 5 = i by omega]
  exact ⟨by omega, (if_neg (by omega)).trans ((if_neg (by omega)).trans (if_neg (by omega))), (if_neg (by omega)).trans (by decide), (if_neg (by omega)).trans ((if_neg (by omega)).trans ((if_neg (by omega)).trans (by decide)))⟩
theorem arr_la {i : Nat} (h : i < 18) : arr (16 + 5 * i + 2) (9 + i) 6 6 := by
  unfold arr aI aR aO aN
  rw [show 16 + 5 * i + 2 - 16 = 5 * i + 2 by omega, show (5 * i + 2) % 5 = 2 by omega, show (5 * i + 2) / 5 = i by omega]
  exact ⟨by omega, (if_neg (by omega)).trans ((if_neg (by omega)).trans (if_neg (by omega))), (if_neg (by omega)).trans (by decide), (if_neg (by omega)).trans ((if_neg (by omega)).trans ((if_neg (by omega)).trans (by decide)))⟩
theorem arr_we {i : Nat} (h : i < 18) : arr (16 + 5 * i + 3) (9 + i) 12 6 := by
  unfold arr aI aR aO aN
  rw [show 16 + 5 * i + 3 - 16 = 5 * i + 3 by omega, show (5 * i + 3) % 5 = 3 by omega, show (5 * i + 3) / 5 = i by omega]
  exact ⟨by omega, (if_neg (by omega)).trans ((if_neg (by omega)).trans (if_neg (by omega))), (if_neg (by omega)).trans (by decide), (if_neg (by omega)).trans ((if_neg (by omega)).trans ((if_neg (by omega)).trans (by decide)))⟩
theorem arr_fa {i : Nat} (h : i < 18) : arr (16 + 5 * i + 4) (9 + i) 18 5 := by
  unfold arr aI aR aO aN
  rw [show 16 + 5 * i + 4 - 16 = 5 * i + 4 by omega, show (5 * i + 4) % 5 = 4 by omega, show (5 * i + 4) / 5 = i by omega]
  exact ⟨by omega, (if_neg (by omega)).trans ((if_neg (by omega)).trans (if_neg (by omega))), (if_neg (by omega)).trans (by decide), (if_neg (by omega)).trans ((if_neg (by omega)).trans ((if_neg (by omega)).trans (by decide)))⟩
def cC (a : Nat → Nat) (cI cS : ClassId) (M : MM) (k : Nat) : va_E :=
  if k = 0 then .inr (6, [.ref (a 1), .ref (a 3), .ref (a 16), .ref (a 21), .ref (a 9), .ref (a 11), .ref (a 13), .long M.2])
  else if k = 1 then .inr (4, [.ref (a 2), .int (M.1 0 0)])
  else if k = 3 then .inr (2, [.int (M.1 0 1), .int (M.1 0 2), .ref (a 4), .ref (a 5), .ref (a 6), .ref (a 7), .ref (a 8)])
  else if k = 9 then .inr (1, [.ref (a 10), .int (M.1 0 3), .int (M.1 0 4)])
  else if k = 10 then .inl (cS, 14, .inr (.inr (.inr (.inr (fun j => some (a (16 + 5 * (2 + j))))))))
  else if k = 11 then .inr (5, [.ref (a 12), .int (M.1 0 5)])
  else if k = 12 then .inl (cS, 2, .inr (.inr (.inr (.inr (fun j => some (a (16 + 5 * (16 + j))))))))
  else if k = 13 then .inr (0, [.ref (a 14), .ref (a 15), .int (M.1 0 6), .int (M.1 0 7)])
  else if 16 ≤ k ∧ (k - 16) % 5 = 0 then .inr (3, [.ref (a 3), .ref (a (k + 1)), .ref (a (k + 2)), .ref (a (k + 3)), .ref (a (k + 4)), .int (M.1 (9 + (k - 16) / 5) 5), .int (M.1 (9 + (k - 16) / 5) 23)])
  else .inl (cI, aN k, .inl (fun j => M.1 (aR k) (aO k + j)))
theorem cC_arr {a : Nat → Nat} {cI cS : ClassId} {M : MM} {k r o n : Nat} (h : arr k r o n) : cC a cI cS M k = .inl (cI, n, .inl (fun j => M.1 r (o + j))) := by
  obtain ⟨h, rfl, rfl, rfl⟩ := h
  unfold aI at h
  unfold cC
  rw [if_neg (by omega), if_neg (by omega), if_neg (by omega), if_neg (by omega), if_neg (by omega), if_neg (by omega), if_neg (by omega), if_neg (by omega), if_neg (by omega)]
theorem cC_sc {a : Nat → Nat} {cI cS : ClassId} {M : MM} (i : Nat) : cC a cI cS M (16 + 5 * i) = .inr (3, [.ref (a 3), .ref (a (16 + 5 * i + 1)), .ref (a (16 + 5 * i + 2)), .ref (a (16 + 5 * i + 3)), .ref (a (16 + 5 * i + 4)), .int (M.1 (9 + i) 5), .int (M.1 (9 + i) 23)]) := by
  unfold cC
  rw [if_neg (by omega), if_neg (by omega), if_neg (by omega), if_neg (by omega), if_neg (by omega), if_neg (by omega), if_neg (by omega), if_neg (by omega), if_pos (by omega), show (16 + 5 * i - 16) / 5 = i by omega]
theorem cC_aN {k r o n : Nat} (h : arr k r o n) : k < 106 := by
  obtain ⟨h, -⟩ := h
  unfold aI at h
  omega
theorem ap_num {k k2 : Nat} (h : aI k) (h2 : aI k2) (hne : k2 ≠ k) (j j2 : Nat) (hj : j < aN k) (hj2 : j2 < aN k2) : ¬ (aR k2 = aR k ∧ aO k2 + j2 = aO k + j) := by
  unfold aI at h h2
  unfold aN at hj hj2
  unfold aR aO
  intro q
  obtain ⟨q1, q2⟩ := q
  by_cases g1 : k < 16 <;> by_cases g2 : k2 < 16
  · simp only [g1, g2, if_true] at q2
    repeat' split at q1
    all_goals first | omega | (simp only [g1, g2] at *; omega)
  · repeat' split at q1
    all_goals omega
  · repeat' split at q1
    all_goals omega
  · have e1 : (k - 16) / 5 = (k2 - 16) / 5 := by
      repeat' split at q1
      all_goals omega
    simp only [if_neg g1, if_neg g2] at q2
    have r1 : ¬ k = 2 := by omega
    have r2 : ¬ k < 9 := by omega
    have r3 : ¬ k2 = 2 := by omega
    have r4 : ¬ k2 < 9 := by omega
    simp only [if_neg g1, if_neg g2, if_neg r1, if_neg r2, if_neg r3, if_neg r4] at hj hj2
    have e2 : (k - 16) % 5 ≠ (k2 - 16) % 5 := by omega
    have b1 : (k - 16) % 5 < 5 := Nat.mod_lt _ (by omega)
    have b2 : (k2 - 16) % 5 < 5 := Nat.mod_lt _ (by omega)
    generalize (k - 16) % 5 = u at *
    generalize (k2 - 16) % 5 = v at *
    rcases (show u = 1 ∨ u = 2 ∨ u = 3 ∨ u = 4 by omega) with rfl | rfl | rfl | rfl <;> rcases (show v = 1 ∨ v = 2 ∨ v = 3 ∨ v = 4 by omega) with rfl | rfl | rfl | rfl <;> simp at * <;> omega
