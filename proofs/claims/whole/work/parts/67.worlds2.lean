-- the worlds that the constructors bring
theorem toF_P {D : va_G} {cl : List vw_C} {L : va_W} {n : Nat} {a : Nat → Nat} {g : Nat → va_E} {H : Heap} (h : ∀ k, k < n → ∃ (i : Nat) (e : va_E), L[i]? = some (a k, e) ∧ ve e (g k)) (hP : va_P D cl L H) : va_P D cl (wF n a g) H := by
  intro k q hq
  obtain ⟨hk, rfl⟩ := wF_inv hq
  obtain ⟨i, e, h1, h2⟩ := h k hk
  exact h2 D cl (a k) H (hP i _ h1)
theorem toF_D {L : va_W} {n : Nat} {a : Nat → Nat} {g : Nat → va_E} {A : Nat → Prop} (sg : Nat → Nat) (hj : ∀ i j, i < n → j < n → sg i = sg j → i = j) (h : ∀ k, k < n → ∃ e : va_E, L[sg k]? = some (a k, e)) (hD : va_D A L) : va_D A (wF n a g) := by
  refine ⟨fun i j x y hx hy hxy => ?_, fun k q hq => ?_⟩
  · obtain ⟨hi, rfl⟩ := wF_inv hx
    obtain ⟨hj2, rfl⟩ := wF_inv hy
    obtain ⟨e, h1⟩ := h i hi
    obtain ⟨e2, h2⟩ := h j hj2
    exact hj i j hi hj2 (hD.1 _ _ _ _ h1 h2 hxy)
  · obtain ⟨hk, rfl⟩ := wF_inv hq
    obtain ⟨e, h1⟩ := h k hk
    exact hD.2 _ (a k, e) h1
theorem ve_ref {cA : ClassId} {n : Nat} {f g : Nat → Option Nat} (h : ∀ j, j < n → f j = g j) : ve (.inl (cA, n, .inr (.inr (.inr (.inr f))))) (.inl (cA, n, .inr (.inr (.inr (.inr g))))) := by
  intro D cl q H hq
  have hq : H[q]? = some (arrV cA n (fun j => va_rf (f j))) := hq
  show H[q]? = some (arrV cA n (fun j => va_rf (g j)))
  rw [hq, arrV_congr (g := fun j => va_rf (g j)) (fun j hj => by rw [h j hj])]
def sgC (k : Nat) : Nat := if k < 9 then k else if k = 9 then 19 else if k = 10 then 20 else if k = 11 then 91 else if k = 12 then 92 else if k < 16 then k + 90 else if k < 26 then k - 7 else if k < 96 then k - 5 else k - 3
theorem sgC_inj : ∀ i j, i < 106 → j < 106 → sgC i = sgC j → i = j := by
  intro i j hi hj
  unfold sgC
  repeat' split
  all_goals omega
def aFU (cI cS : ClassId) (b : Nat) (u : UF) (k : Nat) : Nat := (((wFU cI cS b u)[sgC k]?).map (fun q => q.1)).getD 0
set_option maxRecDepth 100000 in
set_option maxHeartbeats 4000000 in
theorem fu_in (cI cS : ClassId) (b : Nat) (x4 x2 x3 y3 x0 : UN) (p1 p5 r1 r5 : Nat) (v0 v1 v2 v3 v4 v5 v6 v7 v8 v9 v10 v11 v12 v13 w0 w1 : Nat → Nat) (k : Nat) (hk : k < 106) : ∃ e : va_E, (wFU cI cS b (x4, x2, x3, y3, (p1, [v0, v1, v2, v3, v4, v5, v6, v7, v8, v9, v10, v11, v12, v13], r1), (p5, [w0, w1], r5), x0))[sgC k]? = some (aFU cI cS b (x4, x2, x3, y3, (p1, [v0, v1, v2, v3, v4, v5, v6, v7, v8, v9, v10, v11, v12, v13], r1), (p5, [w0, w1], r5), x0) k, e) ∧ ve e (cC (aFU cI cS b (x4, x2, x3, y3, (p1, [v0, v1, v2, v3, v4, v5, v6, v7, v8, v9, v10, v11, v12, v13], r1), (p5, [w0, w1], r5), x0)) cI cS M00 k) :=
  match k, hk with
  | 0, _ => ⟨_, rfl, ve_eq rfl⟩
  | 1, _ => ⟨_, rfl, ve_eq rfl⟩
  | 2, _ => ⟨_, rfl, ve_eq rfl⟩
  | 3, _ => ⟨_, rfl, ve_eq rfl⟩
  | 4, _ => ⟨_, rfl, ve_eq rfl⟩
  | 5, _ => ⟨_, rfl, ve_eq rfl⟩
  | 6, _ => ⟨_, rfl, ve_eq rfl⟩
  | 7, _ => ⟨_, rfl, ve_eq rfl⟩
  | 8, _ => ⟨_, rfl, ve_eq rfl⟩
  | 9, _ => ⟨_, rfl, ve_eq rfl⟩
  | 10, _ => ⟨_, rfl, ve_ref (fun j hj => match j, hj with | 0, _ => rfl | 1, _ => rfl | 2, _ => rfl | 3, _ => rfl | 4, _ => rfl | 5, _ => rfl | 6, _ => rfl | 7, _ => rfl | 8, _ => rfl | 9, _ => rfl | 10, _ => rfl | 11, _ => rfl | 12, _ => rfl | 13, _ => rfl | _ + 14, h => absurd h (by omega))⟩
  | 11, _ => ⟨_, rfl, ve_eq rfl⟩
  | 12, _ => ⟨_, rfl, ve_ref (fun j hj => match j, hj with | 0, _ => rfl | 1, _ => rfl | _ + 2, h => absurd h (by omega))⟩
  | 13, _ => ⟨_, rfl, ve_eq rfl⟩
  | 14, _ => ⟨_, rfl, ve_eq rfl⟩
  | 15, _ => ⟨_, rfl, ve_eq rfl⟩
  | 16, _ => ⟨_, rfl, ve_eq rfl⟩
  | 17, _ => ⟨_, rfl, ve_eq rfl⟩
  | 18, _ => ⟨_, rfl, ve_eq rfl⟩
  | 19, _ => ⟨_, rfl, ve_eq rfl⟩
  | 20, _ => ⟨_, rfl, ve_eq rfl⟩
  | 21, _ => ⟨_, rfl, ve_eq rfl⟩
  | 22, _ => ⟨_, rfl, ve_eq rfl⟩
  | 23, _ => ⟨_, rfl, ve_eq rfl⟩
  | 24, _ => ⟨_, rfl, ve_eq rfl⟩
  | 25, _ => ⟨_, rfl, ve_eq rfl⟩
  | 26, _ => ⟨_, rfl, ve_eq rfl⟩
  | 27, _ => ⟨_, rfl, ve_eq rfl⟩
  | 28, _ => ⟨_, rfl, ve_eq rfl⟩
  | 29, _ => ⟨_, rfl, ve_eq rfl⟩
  | 30, _ => ⟨_, rfl, ve_eq rfl⟩
  | 31, _ => ⟨_, rfl, ve_eq rfl⟩
  | 32, _ => ⟨_, rfl, ve_eq rfl⟩
  | 33, _ => ⟨_, rfl, ve_eq rfl⟩
  | 34, _ => ⟨_, rfl, ve_eq rfl⟩
  | 35, _ => ⟨_, rfl, ve_eq rfl⟩
  | 36, _ => ⟨_, rfl, ve_eq rfl⟩
  | 37, _ => ⟨_, rfl, ve_eq rfl⟩
  | 38, _ => ⟨_, rfl, ve_eq rfl⟩
  | 39, _ => ⟨_, rfl, ve_eq rfl⟩
  | 40, _ => ⟨_, rfl, ve_eq rfl⟩
  | 41, _ => ⟨_, rfl, ve_eq rfl⟩
  | 42, _ => ⟨_, rfl, ve_eq rfl⟩
  | 43, _ => ⟨_, rfl, ve_eq rfl⟩
  | 44, _ => ⟨_, rfl, ve_eq rfl⟩
  | 45, _ => ⟨_, rfl, ve_eq rfl⟩
  | 46, _ => ⟨_, rfl, ve_eq rfl⟩
  | 47, _ => ⟨_, rfl, ve_eq rfl⟩
  | 48, _ => ⟨_, rfl, ve_eq rfl⟩
  | 49, _ => ⟨_, rfl, ve_eq rfl⟩
  | 50, _ => ⟨_, rfl, ve_eq rfl⟩
  | 51, _ => ⟨_, rfl, ve_eq rfl⟩
  | 52, _ => ⟨_, rfl, ve_eq rfl⟩
  | 53, _ => ⟨_, rfl, ve_eq rfl⟩
  | 54, _ => ⟨_, rfl, ve_eq rfl⟩
  | 55, _ => ⟨_, rfl, ve_eq rfl⟩
  | 56, _ => ⟨_, rfl, ve_eq rfl⟩
  | 57, _ => ⟨_, rfl, ve_eq rfl⟩
  | 58, _ => ⟨_, rfl, ve_eq rfl⟩
  | 59, _ => ⟨_, rfl, ve_eq rfl⟩
  | 60, _ => ⟨_, rfl, ve_eq rfl⟩
  | 61, _ => ⟨_, rfl, ve_eq rfl⟩
  | 62, _ => ⟨_, rfl, ve_eq rfl⟩
  | 63, _ => ⟨_, rfl, ve_eq rfl⟩
  | 64, _ => ⟨_, rfl, ve_eq rfl⟩
  | 65, _ => ⟨_, rfl, ve_eq rfl⟩
  | 66, _ => ⟨_, rfl, ve_eq rfl⟩
  | 67, _ => ⟨_, rfl, ve_eq rfl⟩
  | 68, _ => ⟨_, rfl, ve_eq rfl⟩
  | 69, _ => ⟨_, rfl, ve_eq rfl⟩
  | 70, _ => ⟨_, rfl, ve_eq rfl⟩
  | 71, _ => ⟨_, rfl, ve_eq rfl⟩
  | 72, _ => ⟨_, rfl, ve_eq rfl⟩
  | 73, _ => ⟨_, rfl, ve_eq rfl⟩
  | 74, _ => ⟨_, rfl, ve_eq rfl⟩
  | 75, _ => ⟨_, rfl, ve_eq rfl⟩
  | 76, _ => ⟨_, rfl, ve_eq rfl⟩
  | 77, _ => ⟨_, rfl, ve_eq rfl⟩
  | 78, _ => ⟨_, rfl, ve_eq rfl⟩
  | 79, _ => ⟨_, rfl, ve_eq rfl⟩
  | 80, _ => ⟨_, rfl, ve_eq rfl⟩
  | 81, _ => ⟨_, rfl, ve_eq rfl⟩
  | 82, _ => ⟨_, rfl, ve_eq rfl⟩
  | 83, _ => ⟨_, rfl, ve_eq rfl⟩
  | 84, _ => ⟨_, rfl, ve_eq rfl⟩
  | 85, _ => ⟨_, rfl, ve_eq rfl⟩
  | 86, _ => ⟨_, rfl, ve_eq rfl⟩
  | 87, _ => ⟨_, rfl, ve_eq rfl⟩
  | 88, _ => ⟨_, rfl, ve_eq rfl⟩
  | 89, _ => ⟨_, rfl, ve_eq rfl⟩
  | 90, _ => ⟨_, rfl, ve_eq rfl⟩
  | 91, _ => ⟨_, rfl, ve_eq rfl⟩
  | 92, _ => ⟨_, rfl, ve_eq rfl⟩
  | 93, _ => ⟨_, rfl, ve_eq rfl⟩
  | 94, _ => ⟨_, rfl, ve_eq rfl⟩
  | 95, _ => ⟨_, rfl, ve_eq rfl⟩
  | 96, _ => ⟨_, rfl, ve_eq rfl⟩
  | 97, _ => ⟨_, rfl, ve_eq rfl⟩
  | 98, _ => ⟨_, rfl, ve_eq rfl⟩
  | 99, _ => ⟨_, rfl, ve_eq rfl⟩
  | 100, _ => ⟨_, rfl, ve_eq rfl⟩
  | 101, _ => ⟨_, rfl, ve_eq rfl⟩
  | 102, _ => ⟨_, rfl, ve_eq rfl⟩
  | 103, _ => ⟨_, rfl, ve_eq rfl⟩
  | 104, _ => ⟨_, rfl, ve_eq rfl⟩
  | 105, _ => ⟨_, rfl, ve_eq rfl⟩
  | _ + 106, h => absurd h (by omega)
