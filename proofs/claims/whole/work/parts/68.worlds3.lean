-- the two worlds at the start
theorem cons_of {α : Type} {n : Nat} : ∀ {l : List α}, l.length = n + 1 → ∃ (v : α) (t : List α), l = v :: t ∧ t.length = n
  | [], h => absurd h (by simp)
  | v :: t, h => ⟨v, t, rfl, by simpa using h⟩
theorem fu_all {cI cS : ClassId} {b : Nat} (u : UF) (h14 : u.2.2.2.2.1.2.1.length = 14) (h2 : u.2.2.2.2.2.1.2.1.length = 2) : ∀ k, k < 106 → ∃ e : va_E, (wFU cI cS b u)[sgC k]? = some (aFU cI cS b u k, e) ∧ ve e (cC (aFU cI cS b u) cI cS M00 k) := by
  obtain ⟨x4, x2, x3, y3, ⟨p1, vs, r1⟩, ⟨p5, ws, r5⟩, x0⟩ := u
  have h14 : vs.length = 14 := h14
  have h2 : ws.length = 2 := h2
  obtain ⟨v0, vs, rfl, h14⟩ := cons_of h14
  obtain ⟨v1, vs, rfl, h14⟩ := cons_of h14
  obtain ⟨v2, vs, rfl, h14⟩ := cons_of h14
  obtain ⟨v3, vs, rfl, h14⟩ := cons_of h14
  obtain ⟨v4, vs, rfl, h14⟩ := cons_of h14
  obtain ⟨v5, vs, rfl, h14⟩ := cons_of h14
  obtain ⟨v6, vs, rfl, h14⟩ := cons_of h14
  obtain ⟨v7, vs, rfl, h14⟩ := cons_of h14
  obtain ⟨v8, vs, rfl, h14⟩ := cons_of h14
  obtain ⟨v9, vs, rfl, h14⟩ := cons_of h14
  obtain ⟨v10, vs, rfl, h14⟩ := cons_of h14
  obtain ⟨v11, vs, rfl, h14⟩ := cons_of h14
  obtain ⟨v12, vs, rfl, h14⟩ := cons_of h14
  obtain ⟨v13, vs, rfl, h14⟩ := cons_of h14
  obtain rfl : vs = [] := List.eq_nil_of_length_eq_zero h14
  obtain ⟨w0, ws, rfl, h2⟩ := cons_of h2
  obtain ⟨w1, ws, rfl, h2⟩ := cons_of h2
  obtain rfl : ws = [] := List.eq_nil_of_length_eq_zero h2
  exact fun k hk => fu_in cI cS b x4 x2 x3 y3 x0 p1 p5 r1 r5 v0 v1 v2 v3 v4 v5 v6 v7 v8 v9 v10 v11 v12 v13 w0 w1 k hk
theorem fu_P {cI cS : ClassId} {b : Nat} (u : UF) (h14 : u.2.2.2.2.1.2.1.length = 14) (h2 : u.2.2.2.2.2.1.2.1.length = 2) {D : va_G} {cl : List vw_C} {H : Heap} (hP : va_P D cl (wFU cI cS b u) H) : va_P D cl (wC (aFU cI cS b u) cI cS M00) H := toF_P (fun k hk => by
  obtain ⟨e, e1, e2⟩ := fu_all u h14 h2 k hk
  exact ⟨_, e, e1, e2⟩) hP
theorem fu_D {cI cS : ClassId} {b : Nat} (u : UF) (h14 : u.2.2.2.2.1.2.1.length = 14) (h2 : u.2.2.2.2.2.1.2.1.length = 2) {A : Nat → Prop} (hD : va_D A (wFU cI cS b u)) : va_D A (wC (aFU cI cS b u) cI cS M00) := toF_D sgC sgC_inj (fun k hk => by
  obtain ⟨e, e1, _⟩ := fu_all u h14 h2 k hk
  exact ⟨e, e1⟩) hD
theorem fu_0 {cI cS : ClassId} {b : Nat} (u : UF) : aFU cI cS b u 0 = b := rfl
def aMO (b : Nat) (u : Nat → Nat) (k : Nat) : Nat := if k = 0 then b else u (k - 1)
set_option maxRecDepth 100000 in
theorem k_mo (l : Launch) {dC : Nat → ClassId} {dI : Nat → Nat → Nat} {cI cZ cS : ClassId} (b : Nat) : KN l (dC, dI) vwCl (tyW cI cZ cS) yX7_init cX7_init 1 1 40 15 585 [.ref b] [(b, .inr (7, [.int 0, .null, .int 0, .int 0, .int 0, .null, .int 0, .null, .int 0, .null, .int 0, .null, .null, .null, .null, .int 0, .null, .null, .int 0, .null, .null, .null, .long 0, .int 0, .int 0, .int 0, .int 0, .int 0, .int 0, .null, .null]))] (fun u : Nat → Nat => wD (aMO b u) cI cZ M00) := k_X7_init l b
