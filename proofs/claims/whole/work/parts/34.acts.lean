-- acts
theorem OK2.q {A B A0 B0 : MM} (r : Int32) (h : Rel A0 B0) : OK2 A B (some (r, A0)) (some (r, B0)) := ⟨r, A0, B0, rfl, rfl, h⟩
theorem Rel.z {A B : MM} (h : Rel A B) : Rel A (mU B 0 0 0) := Rel_E h K.rfl z_0
theorem o_open {A B : MM} (h : Rel A B) (x : Int32) : OK2 A B (q_X6_open x A) (q_X7_open x B) := by
  have h := h.z
  unfold q_X6_open q_X7_open
  generalize mU B 0 0 0 = B0 at *
  have hR := h
  obtain ⟨P, s, ⟨h1, h2⟩, o1, hp, o2, o3, o4⟩ := h
  have h5 := h1.1.1
  rcases cases_n x (n := pW P) (by omega) with o | ⟨w, hw, rfl⟩
  · rw [hw_out h1.2.1 o, nw_out h2.2.1.1 h5 o, if_pos b2i_f, if_neg b1n]
    exact OK2.q _ hR
  · rw [hw_in h1.2.1 hw h5, nw_in h2.2.1.1 hw h5, if_neg b1n, if_pos b2i_f, isOpen_C h1 (by omega), ogd_pos (by decide), c5, h2.2.2.2.2.1, hasM _ (by omega)]
    cases ho : sO s w with
    | true =>
      rw [if_neg b1n, if_neg b1n]
      exact OK2.q _ hR
    | false =>
      rw [if_pos b2i_f, if_pos b2i_f]
      obtain ⟨A2, B2, e1, e2, hp2, fa, fb⟩ := note_2 h1 h2 hp
      have a1 := CS_A h1 fa
      have b1 := DS_B h2 fb
      have a2 : CS P (mR A2 (9 + 0) (openF P s w (A2.1 (9 + 0)))) 0 (openS P s w) := CS_row a1 (WS_open a1.2.2.1 hw) (RP_open h1.1 a1.2.2.1 a1.2.2.2 hw)
      have b2 : DS P (mR B2 6 (openF P s w (B2.1 6))) 6 (openS P s w) := DS_row (by omega) b1 (WS_open a1.2.2.1 hw) (RP_open h1.1 a1.2.2.1 b1.2.2.2 hw)
      rw [e1, obd_of rfl, raise_C a1 hw ho, obd_of rfl, placeOf_C a2 hw, openIn_C a2 (a2.2.2.1.1 w hw), obd_of rfl, e2, obd_of rfl, goOpen_M (Or.inl rfl) b1 hw, obd_of rfl, ogd_pos (ib_nI (by omega) (by decide)), ncl (by omega), b2.2.2.2.1 w hw, openIn_M b2 (a2.2.2.1.1 w hw), obd_of rfl]
      exact OK2.q _ (Rel_now h1 h2 ⟨o1, o2, o3, o4⟩ fa fb hp2 a2.2.2.1 (by have := a2.2.2.2; rwa [mR_at] at this) (by have := b2.2.2.2; rwa [mR_at] at this))
theorem o_shut {A B : MM} (h : Rel A B) (x : Int32) : OK2 A B (q_X6_shut x A) (q_X7_shut x B) := by
  have h := h.z
  unfold q_X6_shut q_X7_shut
  generalize mU B 0 0 0 = B0 at *
  have hR := h
  obtain ⟨P, s, ⟨h1, h2⟩, o1, hp, o2, o3, o4⟩ := h
  have h5 := h1.1.1
  rcases cases_n x (n := pW P) (by omega) with o | ⟨w, hw, rfl⟩
  · rw [hw_out h1.2.1 o, nw_out h2.2.1.1 h5 o, if_pos b2i_f, if_neg b1n]
    exact OK2.q _ hR
  · rw [hw_in h1.2.1 hw h5, nw_in h2.2.1.1 hw h5, if_neg b1n, if_pos b2i_f, isOpen_C h1 (by omega), ogd_pos (by decide), c5, h2.2.2.2.2.1, hasM _ (by omega)]
    cases ho : sO s w with
    | false =>
      rw [if_pos b2i_f, if_pos b2i_f]
      exact OK2.q _ hR
    | true =>
      rw [if_neg b1n, if_neg b1n]
      obtain ⟨A2, B2, e1, e2, hp2, fa, fb⟩ := note_2 h1 h2 hp
      have a1 := CS_A h1 fa
      have b1 := DS_B h2 fb
      have a2 : CS P (mR A2 (9 + 0) (shutF P s w (A2.1 (9 + 0)))) 0 (shutS P s w) := CS_row a1 (WS_shut a1.2.2.1 hw) (RP_shut h1.1 a1.2.2.1 a1.2.2.2 hw)
      have b2 : DS P (mR B2 6 (shutF P s w (B2.1 6))) 6 (shutS P s w) := DS_row (by omega) b1 (WS_shut a1.2.2.1 hw) (RP_shut h1.1 a1.2.2.1 b1.2.2.2 hw)
      rw [e1, obd_of rfl, lower_C a1 hw ho, obd_of rfl, placeOf_C a2 hw, openIn_C a2 (a2.2.2.1.1 w hw), obd_of rfl, e2, obd_of rfl, goShut_M (Or.inl rfl) b1 hw, obd_of rfl, ogd_pos (ib_nI (by omega) (by decide)), ncl (by omega), b2.2.2.2.1 w hw, openIn_M b2 (a2.2.2.1.1 w hw), obd_of rfl]
      exact OK2.q _ (Rel_now h1 h2 ⟨o1, o2, o3, o4⟩ fa fb hp2 a2.2.2.1 (by have := a2.2.2.2; rwa [mR_at] at this) (by have := b2.2.2.2; rwa [mR_at] at this))
theorem o_hour {A B : MM} (h : Rel A B) : OK2 A B (q_X6_hour A) (q_X7_hour B) := by
  have h := h.z
  unfold q_X6_hour q_X7_hour
  generalize mU B 0 0 0 = B0 at *
  obtain ⟨P, s, ⟨h1, h2⟩, o1, hp, o2, o3, o4⟩ := h
  obtain ⟨A2, B2, e1, e2, hp2, fa, fb⟩ := note_2 h1 h2 hp
  have a1 := CS_A h1 fa
  have b1 := DS_B h2 fb
  rw [e1, obd_of rfl, hour_C a1, obd_of rfl, e2, obd_of rfl, hour_M (Or.inl rfl) b1, obd_of rfl]
  exact OK2.q _ (Rel_now h1 h2 ⟨o1, o2, o3, o4⟩ fa fb hp2 (WS_hour h1.1 h1.2.2.1) (RP_hour h1.1 a1.2.2.2) (RP_hour h1.1 b1.2.2.2))
-- to walk
def dC (x : Int32) : Int32 := if x = 0 then -1 else 1
theorem canMove_C {P : PL} {M : MM} {i : Nat} {s : SC} (h : CS P M i s) {w : Nat} (hw : w < pW P) (x : Int32) : t_X3_canMove i (nI w) x M = (!sO s w && t_X6_isStreet (nI (sP s w) + dC x)) := by
  have h5 := h.1.1
  unfold t_X3_canMove
  rw [hw_in h.2.1 hw h5, if_neg b1n, isOpen_C h (by omega)]
  cases sO s w with
  | true => rw [if_neg b1n]; rfl
  | false =>
    rw [if_pos b2i_f, placeOf_C h hw]
    unfold dC t_X3_canMove_33
    by_cases e : x = 0
    · rw [if_pos e, if_pos e]
      cases t_X6_isStreet (nI (sP s w) + -1) <;> rfl
    · rw [if_neg e, if_neg e]
      cases t_X6_isStreet (nI (sP s w) + 1) <;> rfl
theorem move_C {P : PL} {M : MM} {i : Nat} {s : SC} (h : CS P M i s) {w : Nat} (hw : w < pW P) (x : Int32) (ho : sO s w = false) {t : Nat} (ht : t < 6) (e : nI (sP s w) + dC x = nI t) : q_X3_move i (nI w) x M = some (true, mR M (9 + i) (moveF w t (M.1 (9 + i)))) := by
  have h5 := h.1.1
  unfold q_X3_move
  rw [canMove_C h hw, ho, e, is_in ht, show (!false && true) = true from rfl, if_neg b1n, placeOf_C h hw]
  unfold q_X3_move_27
  unfold dC at e
  by_cases e2 : x = 0
  · rw [if_pos e2] at e
    rw [if_pos e2, e, place_C (by omega), obd_of rfl]
  · rw [if_neg e2] at e
    rw [if_neg e2, e, place_C (by omega), obd_of rfl]
theorem move_C0 {P : PL} {M : MM} {i : Nat} {s : SC} (h : CS P M i s) {w : Nat} (hw : w < pW P) (x : Int32) (ho : (!sO s w && t_X6_isStreet (nI (sP s w) + dC x)) = false) : q_X3_move i (nI w) x M = some (false, M) := by
  unfold q_X3_move
  rw [canMove_C h hw, ho, if_pos b2i_f]
theorem move_C1 {P : PL} {M : MM} {i : Nat} (hC : PC P M) {z x : Int32} (hz : z < 0 ∨ nI (pW P) ≤ z) : q_X3_move i z x M = some (false, M) := by
  unfold q_X3_move t_X3_canMove
  rw [hw_out hC hz, if_pos b2i_f, if_pos b2i_f]
theorem ns_is (z : Int32) : t_X7_noStreet z = !t_X6_isStreet z := by
  rcases cases_n z (n := 6) (by decide) with o | ⟨t, ht, rfl⟩
  · rw [ns_out o, is_out o]; rfl
  · rw [ns_in ht, is_in ht]; rfl
theorem canWalk_M {P : PL} {M : MM} {p : Nat} {s : SC} (h : DS P M p s) {w : Nat} (hw : w < pW P) (d : Int32) : q_X7_canWalk p (nI w) d M = some (!sO s w && t_X6_isStreet (nI (sP s w) + d), M) := by
  have h5 := h.1.1
  unfold q_X7_canWalk
  rw [ogd_pos (ib_nI (by omega) (by decide)), ncl (by omega), h.2.2.2.1 w hw, ns_is]
  cases t_X6_isStreet (nI (sP s w) + d) with
  | false => rw [show (!false) = true from rfl, if_neg b1n, Bool.and_false]
  | true =>
    rw [show (!true) = false from rfl, if_pos b2i_f, ogd_pos (by decide), c5, h.2.2.2.2.1, hasM _ (by omega)]
    cases sO s w
    · rw [if_pos b2i_f]; rfl
    · rw [if_neg b1n]; rfl
theorem o_walk {A B : MM} (h : Rel A B) (x1 x2 : Int32) : OK2 A B (q_X6_walk x1 x2 A) (q_X7_walk x1 x2 B) := by
  have h := h.z
  unfold q_X6_walk q_X7_walk
  generalize mU B 0 0 0 = B0 at *
  have hR := h
  obtain ⟨P, s, ⟨h1, h2⟩, o1, hp, o2, o3, o4⟩ := h
  have h5 := h1.1.1
  rcases cases_n x1 (n := pW P) (by omega) with o | ⟨w, hw, rfl⟩
  · rw [hw_out h1.2.1 o, nw_out h2.2.1.1 h5 o, if_pos b2i_f, if_neg b1n]
    exact OK2.q _ hR
  · rw [hw_in h1.2.1 hw h5, nw_in h2.2.1.1 hw h5, if_neg b1n, if_pos b2i_f, canMove_C h1 hw]
    have e0 : (if x2 = 0 then q_X7_walk_24 (nI w) x2 (-1) B0 else q_X7_walk_24 (nI w) x2 1 B0) = q_X7_walk_24 (nI w) x2 (dC x2) B0 := by
      unfold dC
      split <;> rfl
    rw [e0, q_X7_walk_24, canWalk_M h2 hw, obd_of rfl]
    cases g : (!sO s w && t_X6_isStreet (nI (sP s w) + dC x2)) with
    | false =>
      rw [if_pos b2i_f, if_pos b2i_f]
      exact OK2.q _ hR
    | true =>
      rw [if_neg b1n, if_neg b1n]
      rw [Bool.and_eq_true, Bool.not_eq_true'] at g
      obtain ⟨ho, g⟩ := g
      rcases cases_n (nI (sP s w) + dC x2) (n := 6) (by decide) with o | ⟨t, ht, e⟩
      · rw [is_out o] at g
        exact absurd g (by decide)
      · obtain ⟨A2, B2, e1, e2, hp2, fa, fb⟩ := note_2 h1 h2 hp
        have a1 := CS_A h1 fa
        have b1 := DS_B h2 fb
        have a2 : CS P (mR A2 (9 + 0) (moveF w t (A2.1 (9 + 0)))) 0 (moveS s w t) := CS_row a1 (WS_move a1.2.2.1 ht) (RP_move h1.1 a1.2.2.2 hw)
        have b2 : DS P (mR B2 6 (moveF w t (B2.1 6))) 6 (moveS s w t) := DS_row (by omega) b1 (WS_move a1.2.2.1 ht) (RP_move h1.1 b1.2.2.2 hw)
        have e3 : sP (moveS s w t) w = t := if_pos rfl
        have e4 : mU B2 6 w (nI t) = mR B2 6 (moveF w t (B2.1 6)) := mU_mR _ _ _ _
        rw [e1, obd_of rfl, move_C a1 hw x2 ho ht e, obd_of rfl, placeOf_C a2 hw, e3, e2, obd_of rfl, ogd_pos (ib_nI (by omega) (by decide)), ogd_pos (ib_nI (by omega) (by decide)), ogd_pos (ib_nI (by omega) (by decide)), ncl (by omega), b1.2.2.2.1 w hw, e, mU_at, e4]
        exact OK2.q _ (Rel_now h1 h2 ⟨o1, o2, o3, o4⟩ fa fb hp2 a2.2.2.1 (by have := a2.2.2.2; rwa [mR_at] at this) (by have := b2.2.2.2; rwa [mR_at] at this))
-- to undo
theorem o_undo {A B : MM} (h : Rel A B) : OK2 A B (q_X6_undo A) (q_X7_undo B) := by
  have h := h.z
  unfold q_X6_undo q_X7_undo
  generalize mU B 0 0 0 = B0 at *
  have hR := h
  obtain ⟨P, s, ⟨h1, h2⟩, o1, ⟨na, fi, p1, p2, p3, p4, p5, p6⟩, o2, o3, o4⟩ := h
  rw [show t_X1_size A = A.1 0 4 from rfl, p4, p5]
  by_cases e : na = 0
  · subst e
    rw [if_pos nI_0, if_pos nI_0]
    exact OK2.q _ hR
  · obtain ⟨n, rfl⟩ : ∃ n, na = n + 1 := ⟨na - 1, by omega⟩
    rw [if_neg (nI_ne0 (by omega) (by omega)), if_neg (nI_ne0 (by omega) (by omega)), nI_pred]
    unfold q_X1_takeLast
    rw [p4, if_neg (nI_nle (by omega) (by omega)), nI_pred, mU_0 (by omega), p3, mU_at, nI_add, rem14 (by omega), scAt_in (by omega) (by decide)]
    obtain ⟨u, u1, u2, u3⟩ := p6 n (by omega)
    have eA : ∀ f, (mR (mU A 0 4 (nI n)) (9 + 0) f).1 0 4 = nI n := by
      intro f
      rw [mR_ne _ _ (by omega), mU_at]
    have eB : q_X7_undo_27 FU 0 (mU B0 0 7 (nI n)) = some (nI n, mR (mU B0 0 7 (nI n)) 6 (ovr (B0.1 6) 0 24 (fun c => B0.1 8 (24 * n + c)))) := by
      refine (show q_X7_undo_27 FU 0 (mU B0 0 7 (nI n)) = q_X7_undo_27 FU (nI 0) (mR (mU B0 0 7 (nI n)) 6 (ovr (B0.1 6) 0 0 (fun c => B0.1 8 (24 * n + c)))) by rw [ovr_0, show B0.1 6 = (mU B0 0 7 (nI n)).1 6 from (mU_r (by omega)).symm, mR_self]; rfl).trans ?_
      refine lp0 24 (fun f j => q_X7_undo_27 f (nI j) (mR (mU B0 0 7 (nI n)) 6 (ovr (B0.1 6) 0 j (fun c => B0.1 8 (24 * n + c))))) _ (by decide) ?_ ?_
      · intro f
        rw [q_X7_undo_27, L24, if_pos (Int32.le_refl _), mR_ne _ _ (by decide), mU_at]
      · intro f j hj
        rw [q_X7_undo_27, L24, if_neg (nge hj (by decide)), mR_ne _ _ (by decide), mU_at, pk_mul, nI_add, ogd_pos (ib_nI (by omega) (by decide)), ogd_pos (ib_nI hj (by decide)), ncl (by omega), ncl (by omega), mR_ne _ _ (by decide), mU_r (M := B0) (by omega), mU_mR (mR _ _ _), mR_mR, mR_at, nI_1]
        congr 1
        refine mRf _ _ ?_
        have := ovr_s (f := B0.1 6) (o := 0) (j := j) (g := fun c => B0.1 8 (24 * n + c))
        rwa [Nat.zero_add] at this
    rw [eB]
    show OK2 A B (some (t_X1_size (mR (mU A 0 4 (nI n)) (9 + 0) ((mU A 0 4 (nI n)).1 (9 + (2 + (fi + n) % 14)))), mR (mU A 0 4 (nI n)) (9 + 0) ((mU A 0 4 (nI n)).1 (9 + (2 + (fi + n) % 14))))) _
    rw [show ∀ M, t_X1_size M = M.1 0 4 from fun _ => rfl, eA, mU_r (by omega)]
    refine OK2.q _ (Rel_now (s := s) h1 h2 ⟨o1, o2, o3, o4⟩ ⟨rfl, fun q h1 h2 => mU_r h1, fun c h1 h2 => mU_0 h2⟩ ⟨rfl, fun q h1 h2 => mU_r h1, fun c h1 => mU_0 h1⟩ ⟨n, fi, by omega, p2, by rw [mU_0 (by omega)]; exact p3, mU_at, mU_at, fun j hj => ?_⟩ u1 u2 (RP_p h1.1 (fun c hc => ?_) u3))
    · rw [mU_r (M := A) (by omega), mU_r (M := B0) (by omega)]
      exact p6 j (by omega)
    · have := ovr_in (f := B0.1 6) (o := 0) (n := 24) (g := fun c => B0.1 8 (24 * n + c)) (j := c) hc
      rwa [Nat.zero_add] at this
