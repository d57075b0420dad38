-- the two worlds at the start
theorem cons_of {α : Type} {n : Nat} : ∀ {l : List α}, l.length = n + 1 → ∃ (v : α) (t : List α), l = v :: t ∧ t.length = n
  | [], h => absurd h (by simp)
  | v :: t, h => ⟨v, t, rfl, by simpa using h⟩
theorem fu_all {cI cS : ClassId} {b : Nat} (u : UF) (h14 : u.2.2.2.2.1.2.1.length = 14) (h2 : u.2.2.2.2.2.1.2.1.length = 2) : ∀ k, k < 106 → ∃ e : va_E, (wFU cI cS b u)[sgC k]? = some (aFU cI cS b u k, e) ∧ ve e (cC (aFU cI cS b u) cI cS M00 k) := by
  obtain ⟨x4, x2, x3, y3, ⟨p1, vs, r1⟩, ⟨p5, ws, r5⟩, x0⟩ := u
  have h14 : vs.length = 14 := h14
  have h2 : ws.length = 2 := h2
  obtain ⟨v0, t0, e0, g0⟩ := cons_of h14
  obtain ⟨v1, t1, e1, g1⟩ := cons_of g0
  obtain ⟨v2, t2, e2, g2⟩ := cons_of g1
  obtain ⟨v3, t3, e3, g3⟩ := cons_of g2
  obtain ⟨v4, t4, e4, g4⟩ := cons_of g3
  obtain ⟨v5, t5, e5, g5⟩ := cons_of g4
  obtain ⟨v6, t6, e6, g6⟩ := cons_of g5
  obtain ⟨v7, t7, e7, g7⟩ := cons_of g6
  obtain ⟨v8, t8, e8, g8⟩ := cons_of g7
  obtain ⟨v9, t9, e9, g9⟩ := cons_of g8
  obtain ⟨v10, t10, e10, g10⟩ := cons_of g9
  obtain ⟨v11, t11, e11, g11⟩ := cons_of g10
  obtain ⟨v12, t12, e12, g12⟩ := cons_of g11
  obtain ⟨v13, t13, e13, g13⟩ := cons_of g12
  have z14 : t13 = [] := List.eq_nil_of_length_eq_zero g13
  obtain ⟨w0, s0', f0, k0⟩ := cons_of h2
  obtain ⟨w1, s1', f1, k1⟩ := cons_of k0
  have z2 : s1' = [] := List.eq_nil_of_length_eq_zero k1
  clear h14 h2 g0 g1 g2 g3 g4 g5 g6 g7 g8 g9 g10 g11 g12 g13 k0 k1
  subst z14 e13 e12 e11 e10 e9 e8 e7 e6 e5 e4 e3 e2 e1 e0 z2 f1 f0
  exact fun k hk => fu_in cI cS b x4 x2 x3 y3 x0 p1 p5 r1 r5 v0 v1 v2 v3 v4 v5 v6 v7 v8 v9 v10 v11 v12 v13 w0 w1 k hk
theorem fu_P {cI cS : ClassId} {b : Nat} (u : UF) (h14 : u.2.2.2.2.1.2.1.length = 14) (h2 : u.2.2.2.2.2.1.2.1.length = 2) {D : va_G} {cl : List vw_C} {H : Heap} (hP : va_P D cl (wFU cI cS b u) H) : va_P D cl (wC (aFU cI cS b u) cI cS M00) H := toF_P (fun k hk => by
  obtain ⟨e, e1, e2⟩ := fu_all u h14 h2 k hk
  exact ⟨_, e, e1, e2⟩) hP
theorem fu_D {cI cS : ClassId} {b : Nat} (u : UF) (h14 : u.2.2.2.2.1.2.1.length = 14) (h2 : u.2.2.2.2.2.1.2.1.length = 2) {A : Nat → Prop} (hD : va_D A (wFU cI cS b u)) : va_D A (wC (aFU cI cS b u) cI cS M00) := toF_D sgC sgC_inj (fun k hk => by
  obtain ⟨e, e1, _⟩ := fu_all u h14 h2 k hk
  exact ⟨e, e1⟩) hD
theorem fu_0 {cI cS : ClassId} {b : Nat} (u : UF) : aFU cI cS b u 0 = b := rfl
def aMO (b : Nat) (u : Nat → Nat) (k : Nat) : Nat := if k = 0 then b else u (k - 1)
set_option maxRecDepth 100000 in
theorem k_mo (l : Launch) {dC : Nat → ClassId} {dI : Nat → Nat → Nat} {cI cZ cS : ClassId} (b : Nat) : KN l (dC, dI) vwCl (tyW cI cZ cS) yX7_init cX7_init 1 1 40 15 585 [.ref b] [(b, .inr (7, [.int 0, .null, .int 0, .int 0, .int 0, .null, .int 0, .null, .int 0, .null, .int 0, .null, .null, .null, .null, .int 0, .null, .null, .int 0, .null, .null, .null, .long 0, .int 0, .int 0, .int 0, .int 0, .int 0, .int 0, .null, .null]))] (fun u : Nat → Nat => wD (aMO b u) cI cZ M00) := k_X7_init l b
