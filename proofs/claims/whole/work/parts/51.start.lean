-- the start
def M00 : MM := (fun _ _ => 0, 0)
theorem Rel_0 : Rel M00 M00 := by
  have hW := WT_0
  have no : ∀ {w : Nat} {C : Prop}, w < pW ts0.2 → C := fun h => absurd h (Nat.not_lt_zero _)
  have nn : ∀ {w : Nat} {C : Prop}, w < pN ts0.2 → C := fun h => absurd h (Nat.not_lt_zero _)
  refine ⟨ts0.2, s0 ts0.1, ⟨⟨hW.1, ⟨rfl, rfl, fun w hw => no hw, fun j hj => nn hj⟩, WS_0 hW, fun w hw => no hw, rfl, fun _ _ => rfl, fun _ _ => rfl, fun _ _ => rfl, rfl⟩, ⟨hW.1, ⟨rfl, rfl, fun w hw => no hw, fun j hj => nn hj⟩, WS_0 hW, fun w hw => no hw, rfl, fun _ _ => rfl, fun _ _ => rfl, fun _ _ => rfl, rfl⟩⟩, ⟨0, by omega, rfl, rfl, fun j hj => absurd hj (Nat.not_lt_zero _)⟩, ⟨0, 0, by omega, by omega, rfl, rfl, rfl, fun j hj => absurd hj (Nat.not_lt_zero _)⟩, ⟨nB, rfl, fun j hj => ⟨rfl, fun q => absurd (show false = true from q) (by decide)⟩⟩, ⟨0, nB, by omega, rfl, rfl, ?_, fun j hj => absurd hj (Nat.not_lt_zero _)⟩, rfl⟩
  exact (bs_z (fun t _ => Bool.and_false _)).symm
