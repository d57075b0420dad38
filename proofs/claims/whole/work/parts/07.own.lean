def own (i r c : Nat) : Prop := (i = 1 ∧ r = 0 ∧ c = 0) ∨ (i = 3 ∧ r = 0 ∧ (c = 1 ∨ c = 2)) ∨ (i = 9 ∧ r = 0 ∧ (c = 3 ∨ c = 4)) ∨ (i = 11 ∧ r = 0 ∧ c = 5) ∨ (i = 13 ∧ r = 0 ∧ (c = 6 ∨ c = 7)) ∨ (16 ≤ i ∧ (i - 16) % 5 = 0 ∧ r = 9 + (i - 16) / 5 ∧ (c = 5 ∨ c = 23)) ∨ (aI i ∧ r = aR i ∧ aO i ≤ c ∧ c < aO i + aN i)
theorem aR_pos {k : Nat} (h : aI k) : 1 ≤ aR k := by
  unfold aI at h
  unfold aR
  repeat' split
  all_goals omega
theorem own_as {i i2 r c : Nat} (h : aI i) (hr : r = aR i) (h1 : aO i ≤ c) (h2 : c < aO i + aN i) (g1 : 16 ≤ i2) (g2 : (i2 - 16) % 5 = 0) (g3 : r = 9 + (i2 - 16) / 5) (g4 : c = 5 ∨ c = 23) : False := by
  unfold aI at h
  have e : 16 ≤ i := by
    unfold aR at hr
    by_cases g : 16 ≤ i
    · exact g
    · repeat' split at hr
      all_goals omega
  unfold aO at h1 h2
  unfold aN at h2
  have r1 : ¬ i < 16 := by omega
  have r2 : ¬ i = 2 := by omega
  have r3 : ¬ i < 9 := by omega
  simp only [if_neg r1, if_neg r2, if_neg r3] at h1 h2
  have b1 : (i - 16) % 5 < 5 := Nat.mod_lt _ (by omega)
  have b2 : (i - 16) % 5 ≠ 0 := by omega
  generalize (i - 16) % 5 = u at *
  rcases (show u = 1 ∨ u = 2 ∨ u = 3 ∨ u = 4 by omega) with rfl | rfl | rfl | rfl <;> simp at * <;> omega
theorem own_one {i i2 r c : Nat} (h : own i r c) (h2 : own i2 r c) : i = i2 := by
  unfold own at h h2
  rcases h with h | h | h | h | h | h | ⟨h, hr, ha, hb⟩ <;> rcases h2 with g | g | g | g | g | g | ⟨g, gr, ga, gb⟩
  all_goals first
    | omega
    | (exfalso; have := aR_pos h; omega)
    | (exfalso; have := aR_pos g; omega)
    | (exact (own_as h hr ha hb g.1 g.2.1 g.2.2.1 g.2.2.2).elim)
    | (exact (own_as g gr ga gb h.1 h.2.1 h.2.2.1 h.2.2.2).elim)
    | skip
  by_cases e : i = i2
  · exact e
  · exact (ap_num h g (Ne.symm e) (c - aO i) (c - aO i2) (by omega) (by omega) ⟨by omega, by omega⟩).elim
theorem cC_arr0 {a : Nat → Nat} {cI cS : ClassId} {M : MM} {k : Nat} (h : aI k) : cC a cI cS M k = .inl (cI, aN k, .inl (fun j => M.1 (aR k) (aO k + j))) := cC_arr ⟨h, rfl, rfl, rfl⟩
theorem cC_ve {a : Nat → Nat} {cI cS : ClassId} {M M2 : MM} {i : Nat} (hi : i < 106) (hs : M2.2 = M.2 ∨ i ≠ 0) (h : ∀ r c, own i r c → M2.1 r c = M.1 r c) : ve (cC a cI cS M i) (cC a cI cS M2 i) := by
  by_cases ha : aI i
  · rw [cC_arr0 ha, cC_arr0 ha]
    exact ve_arr (fun j hj => (h _ _ (Or.inr (Or.inr (Or.inr (Or.inr (Or.inr (Or.inr ⟨ha, rfl, by omega, by omega⟩))))))).symm)
  · apply ve_eq
    unfold cC
    by_cases e0 : i = 0
    · rw [if_pos e0, if_pos e0]
      rcases hs with hs | hs
      · rw [hs]
      · exact absurd e0 hs
    rw [if_neg e0, if_neg e0]
    by_cases e1 : i = 1
    · rw [if_pos e1, if_pos e1, h 0 0 (by unfold own; omega)]
    rw [if_neg e1, if_neg e1]
    by_cases e3 : i = 3
    · rw [if_pos e3, if_pos e3, h 0 1 (by unfold own; omega), h 0 2 (by unfold own; omega)]
    rw [if_neg e3, if_neg e3]
    by_cases e9 : i = 9
    · rw [if_pos e9, if_pos e9, h 0 3 (by unfold own; omega), h 0 4 (by unfold own; omega)]
    rw [if_neg e9, if_neg e9]
    by_cases e10 : i = 10
    · rw [if_pos e10, if_pos e10]
    rw [if_neg e10, if_neg e10]
    by_cases e11 : i = 11
    · rw [if_pos e11, if_pos e11, h 0 5 (by unfold own; omega)]
    rw [if_neg e11, if_neg e11]
    by_cases e12 : i = 12
    · rw [if_pos e12, if_pos e12]
    rw [if_neg e12, if_neg e12]
    by_cases e13 : i = 13
    · rw [if_pos e13, if_pos e13, h 0 6 (by unfold own; omega), h 0 7 (by unfold own; omega)]
    rw [if_neg e13, if_neg e13]
    have es : 16 ≤ i ∧ (i - 16) % 5 = 0 := by unfold aI at ha; omega
    rw [if_pos es, if_pos es, h (9 + (i - 16) / 5) 5 (by unfold own; omega), h (9 + (i - 16) / 5) 23 (by unfold own; omega)]
theorem mU_at {M : MM} {r c : Nat} {v : Int32} : (mU M r c v).1 r c = v := if_pos ⟨rfl, rfl⟩
theorem mU_ne {M : MM} {r c r2 c2 : Nat} {v : Int32} (h : ¬ (r2 = r ∧ c2 = c)) : (mU M r c v).1 r2 c2 = M.1 r2 c2 := if_neg h
-- a put of a number into location (r, c) of object k
theorem cC_put {a : Nat → Nat} {cI cS : ClassId} {M : MM} {k r c : Nat} {v : Int32} {e : va_E} (ho : own k r c) (he : ve e (cC a cI cS (mU M r c v) k)) : ∀ i, i < 106 → ve (if i = k then e else cC a cI cS M i) (cC a cI cS (mU M r c v) i) := by
  intro i hi
  by_cases hik : i = k
  · subst hik; rw [if_pos rfl]; exact he
  · rw [if_neg hik]
    exact cC_ve hi (Or.inl rfl) (fun r2 c2 h2 => mU_ne (fun q => hik (own_one h2 (by rw [q.1, q.2]; exact ho))))
theorem cC_putL {a : Nat → Nat} {cI cS : ClassId} {M : MM} {v : Int64} {e : va_E} (he : ve e (cC a cI cS (mL M v) 0)) : ∀ i, i < 106 → ve (if i = 0 then e else cC a cI cS M i) (cC a cI cS (mL M v) i) := by
  intro i hi
  by_cases hik : i = 0
  · subst hik; rw [if_pos rfl]; exact he
  · rw [if_neg hik]
    exact cC_ve hi (Or.inr hik) (fun r2 c2 h2 => rfl)
-- the reference's world
def lnM (k : Nat) : Nat := if k = 1 then 48 else if k = 2 then 5 else if k = 3 then 15 else if k = 4 then 10 else if k = 5 then 15 else if k < 8 then 24 else if k = 8 then 336 else if k = 9 then 48 else if k = 10 then 2 else if k < 14 then 6 else if k = 14 then 8 else 32
def cD (a : Nat → Nat) (cI cZ : ClassId) (M : MM) (k : Nat) : va_E :=
  if k = 0 then .inr (7, [.int (M.1 0 0), .ref (a 1), .int (M.1 0 1), .int (M.1 0 2), .int (M.1 0 3), .ref (a 2), .int (M.1 0 4), .ref (a 3), .int (M.1 0 5), .ref (a 4), .int (M.1 0 6), .ref (a 5), .ref (a 6), .ref (a 7), .ref (a 8), .int (M.1 0 7), .ref (a 9), .ref (a 10), .int (M.1 0 8), .ref (a 11), .ref (a 12), .ref (a 13), .long M.2, .int (M.1 0 9), .int (M.1 0 10), .int (M.1 0 11), .int (M.1 0 12), .int (M.1 0 13), .int (M.1 0 14), .ref (a 14), .ref (a 15)])
  else .inl (if k = 10 then cZ else cI, lnM k, .inl (fun j => M.1 k j))
theorem cD_0 {a : Nat → Nat} {cI cZ : ClassId} {M : MM} : cD a cI cZ M 0 = .inr (7, [.int (M.1 0 0), .ref (a 1), .int (M.1 0 1), .int (M.1 0 2), .int (M.1 0 3), .ref (a 2), .int (M.1 0 4), .ref (a 3), .int (M.1 0 5), .ref (a 4), .int (M.1 0 6), .ref (a 5), .ref (a 6), .ref (a 7), .ref (a 8), .int (M.1 0 7), .ref (a 9), .ref (a 10), .int (M.1 0 8), .ref (a 11), .ref (a 12), .ref (a 13), .long M.2, .int (M.1 0 9), .int (M.1 0 10), .int (M.1 0 11), .int (M.1 0 12), .int (M.1 0 13), .int (M.1 0 14), .ref (a 14), .ref (a 15)]) := rfl
theorem cD_arr {a : Nat → Nat} {cI cZ : ClassId} {M : MM} {k : Nat} (h : 0 < k) (h2 : k ≠ 10) : cD a cI cZ M k = .inl (cI, lnM k, .inl (fun j => M.1 k j)) := by unfold cD; rw [if_neg (by omega), if_neg h2]
theorem cD_arrZ {a : Nat → Nat} {cI cZ : ClassId} {M : MM} : cD a cI cZ M 10 = .inl (cZ, 2, .inl (fun j => M.1 10 j)) := rfl
theorem cD_ve {a : Nat → Nat} {cI cZ : ClassId} {M M2 : MM} {i : Nat} (h0 : i = 0 → M2.2 = M.2 ∧ ∀ c, c < 15 → M2.1 0 c = M.1 0 c) (h : i ≠ 0 → ∀ c, c < lnM i → M2.1 i c = M.1 i c) : ve (cD a cI cZ M i) (cD a cI cZ M2 i) := by
  by_cases e : i = 0
  · subst e
    obtain ⟨h1, h2⟩ := h0 rfl
    apply ve_eq
    rw [cD_0, cD_0, h1, h2 0 (by omega), h2 1 (by omega), h2 2 (by omega), h2 3 (by omega), h2 4 (by omega), h2 5 (by omega), h2 6 (by omega), h2 7 (by omega), h2 8 (by omega), h2 9 (by omega), h2 10 (by omega), h2 11 (by omega), h2 12 (by omega), h2 13 (by omega), h2 14 (by omega)]
  · unfold cD
    rw [if_neg e, if_neg e]
    exact ve_arr (fun j hj => (h e j hj).symm)
theorem cD_put {a : Nat → Nat} {cI cZ : ClassId} {M : MM} {k c : Nat} {v : Int32} {e : va_E} (he : ve e (cD a cI cZ (mU M k c v) k)) : ∀ i, i < 16 → ve (if i = k then e else cD a cI cZ M i) (cD a cI cZ (mU M k c v) i) := by
  intro i hi
  by_cases hik : i = k
  · subst hik; rw [if_pos rfl]; exact he
  · rw [if_neg hik]
    exact cD_ve (fun e0 => ⟨rfl, fun c2 _ => mU_ne (fun q => hik (e0.trans q.1))⟩) (fun _ c2 _ => mU_ne (fun q => hik q.1))
theorem cD_putL {a : Nat → Nat} {cI cZ : ClassId} {M : MM} {v : Int64} {e : va_E} (he : ve e (cD a cI cZ (mL M v) 0)) : ∀ i, i < 16 → ve (if i = 0 then e else cD a cI cZ M i) (cD a cI cZ (mL M v) i) := by
  intro i hi
  by_cases hik : i = 0
  · subst hik; rw [if_pos rfl]; exact he
  · rw [if_neg hik]
    exact cD_ve (fun e0 => absurd e0 hik) (fun _ c2 _ => rfl)
