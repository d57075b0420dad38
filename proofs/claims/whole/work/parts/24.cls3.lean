-- the class: what it does to a scene
def openF (P : PL) (s : SC) (w : Nat) (f : Nat → Int32) : Nat → Int32 := fun c => if c = 5 then bs (upN (sO s) w true) else if pS P w = 2 ∧ c = 6 + sP s w then nI (max (sL s (sP s w)) 7) else f c
def shutF (P : PL) (s : SC) (w : Nat) (f : Nat → Int32) : Nat → Int32 := fun c => if c = 5 then bs (upN (sO s) w false) else if pS P w = 1 ∧ c = 6 + sP s w then nI (max (sL s (sP s w)) 1) else f c
def moveF (w t : Nat) (f : Nat → Int32) : Nat → Int32 := fun c => if c = w then nI t else f c
def forgF (p : Nat → Bool) (f : Nat → Int32) : Nat → Int32 := fun c => if c = 5 then bs p else f c
theorem RP_open {P : PL} {s : SC} {f : Nat → Int32} (hP : WP P) (hs : WS P s) (h : RP P f s) {w : Nat} (hw : w < pW P) : RP P (openF P s w f) (openS P s w) := by
  obtain ⟨h1, h2, h3, h4, h5, h6⟩ := h
  have hn := hP.2.1
  have hW := hP.1
  have hp := hs.1 w hw
  refine ⟨fun v hv => ?_, ?_, fun t ht => ?_, fun t ht => ?_, fun k hk => ?_, ?_⟩
  · unfold openF; rw [if_neg (by omega), if_neg (by omega)]; exact h1 v hv
  · rfl
  · unfold openF openS
    rw [if_neg (by omega)]
    by_cases e : pS P w = 2
    · by_cases g : t = sP s w
      · subst g
        rw [if_pos ⟨e, rfl⟩]
        show _ = nI ((if pS P w = 2 then upN (sL s) (sP s w) (max (sL s (sP s w)) 7) else sL s) (sP s w))
        rw [if_pos e]
        unfold upN
        rw [if_pos rfl]
      · rw [if_neg (by omega)]
        show _ = nI ((if pS P w = 2 then upN (sL s) (sP s w) (max (sL s (sP s w)) 7) else sL s) t)
        rw [if_pos e]
        unfold upN
        rw [if_neg g]
        exact h3 t ht
    · rw [if_neg (fun q => e q.1)]
      show _ = nI ((if pS P w = 2 then upN (sL s) (sP s w) (max (sL s (sP s w)) 7) else sL s) t)
      rw [if_neg e]
      exact h3 t ht
  · unfold openF; rw [if_neg (by omega), if_neg (by omega)]; exact h4 t ht
  · unfold openF; rw [if_neg (by omega), if_neg (by omega)]; exact h5 k hk
  · unfold openF; rw [if_neg (by omega), if_neg (by omega)]; exact h6
theorem RP_shut {P : PL} {s : SC} {f : Nat → Int32} (hP : WP P) (hs : WS P s) (h : RP P f s) {w : Nat} (hw : w < pW P) : RP P (shutF P s w f) (shutS P s w) := by
  obtain ⟨h1, h2, h3, h4, h5, h6⟩ := h
  have hn := hP.2.1
  have hW := hP.1
  have hp := hs.1 w hw
  refine ⟨fun v hv => ?_, ?_, fun t ht => ?_, fun t ht => ?_, fun k hk => ?_, ?_⟩
  · unfold shutF; rw [if_neg (by omega), if_neg (by omega)]; exact h1 v hv
  · rfl
  · unfold shutF shutS
    rw [if_neg (by omega)]
    by_cases e : pS P w = 1
    · by_cases g : t = sP s w
      · subst g
        rw [if_pos ⟨e, rfl⟩]
        show _ = nI ((if pS P w = 1 then upN (sL s) (sP s w) (max (sL s (sP s w)) 1) else sL s) (sP s w))
        rw [if_pos e]
        unfold upN
        rw [if_pos rfl]
      · rw [if_neg (by omega)]
        show _ = nI ((if pS P w = 1 then upN (sL s) (sP s w) (max (sL s (sP s w)) 1) else sL s) t)
        rw [if_pos e]
        unfold upN
        rw [if_neg g]
        exact h3 t ht
    · rw [if_neg (fun q => e q.1)]
      show _ = nI ((if pS P w = 1 then upN (sL s) (sP s w) (max (sL s (sP s w)) 1) else sL s) t)
      rw [if_neg e]
      exact h3 t ht
  · unfold shutF; rw [if_neg (by omega), if_neg (by omega)]; exact h4 t ht
  · unfold shutF; rw [if_neg (by omega), if_neg (by omega)]; exact h5 k hk
  · unfold shutF; rw [if_neg (by omega), if_neg (by omega)]; exact h6
theorem RP_move {P : PL} {s : SC} {f : Nat → Int32} (hP : WP P) (h : RP P f s) {w t : Nat} (hw : w < pW P) : RP P (moveF w t f) (moveS s w t) := by
  obtain ⟨h1, h2, h3, h4, h5, h6⟩ := h
  have hW := hP.1
  refine ⟨fun v hv => ?_, ?_, fun u hu => ?_, fun u hu => ?_, fun k hk => ?_, ?_⟩
  · unfold moveF
    show _ = nI (upN (sP s) w t v)
    unfold upN
    by_cases e : v = w
    · rw [if_pos e, if_pos e]
    · rw [if_neg e, if_neg e]; exact h1 v hv
  · unfold moveF; rw [if_neg (by omega)]; exact h2
  · unfold moveF; rw [if_neg (by omega)]; exact h3 u hu
  · unfold moveF; rw [if_neg (by omega)]; exact h4 u hu
  · unfold moveF; rw [if_neg (by omega)]; exact h5 k hk
  · unfold moveF; rw [if_neg (by omega)]; exact h6
theorem RP_forg {P : PL} {s : SC} {f : Nat → Int32} (hP : WP P) (h : RP P f s) (p : Nat → Bool) : RP P (forgF p f) (forgS s p) := by
  obtain ⟨h1, h2, h3, h4, h5, h6⟩ := h
  have hW := hP.1
  refine ⟨fun v hv => ?_, ?_, fun u hu => ?_, fun u hu => ?_, fun k hk => ?_, ?_⟩
  · unfold forgF; rw [if_neg (by omega)]; exact h1 v hv
  · rfl
  · unfold forgF; rw [if_neg (by omega)]; exact h3 u hu
  · unfold forgF; rw [if_neg (by omega)]; exact h4 u hu
  · unfold forgF; rw [if_neg (by omega)]; exact h5 k hk
  · unfold forgF; rw [if_neg (by omega)]; exact h6
theorem WS_forg {P : PL} {s : SC} (hs : WS P s) {p : Nat → Bool} (hp : ∀ w, pW P ≤ w → p w = false) : WS P (forgS s p) := ⟨hs.1, hp, hs.2.2.1, hs.2.2.2.1, hs.2.2.2.2⟩
theorem pS2 {P : PL} (hP : WP P) {j : Nat} (hj : j < pW P) : (nI (pS P j) = 2) ↔ (pS P j = 2) := nI_eq (b := 2) (by have := hP.2.2.1 j hj; omega) (by decide)
theorem pS1 {P : PL} (hP : WP P) {j : Nat} (hj : j < pW P) : (nI (pS P j) = 1) ↔ (pS P j = 1) := nI_eq (b := 1) (by have := hP.2.2.1 j hj; omega) (by decide)
theorem mRf (M : MM) (r : Nat) {f g : Nat → Int32} (h : f = g) : mR M r f = mR M r g := by rw [h]
theorem upN_or {op : Nat → Bool} {w : Nat} (hw : w < 6) : bs op ||| ((1 : Int32) <<< (nI w &&& 31)) = bs (upN op w true) := by
  rw [one_sh hw, bs_or]
  refine bs_congr (fun t _ => ?_)
  unfold upN
  by_cases e : t = w
  · rw [if_pos e]; simp [e]
  · rw [if_neg e]; simp [e]
theorem not_one {w : Nat} (hw : w < 6) : ∀ a b c d e f : Bool, b6 a b c d e f &&& (((1 : Int32) <<< (nI w &&& 31)) ^^^ (-1 : Int32)) = bs (upN (fun t => if t = 0 then a else if t = 1 then b else if t = 2 then c else if t = 3 then d else if t = 4 then e else f) w false) := by
  rcases (show w = 0 ∨ w = 1 ∨ w = 2 ∨ w = 3 ∨ w = 4 ∨ w = 5 by omega) with rfl | rfl | rfl | rfl | rfl | rfl <;> decide +kernel
theorem upN_not {op : Nat → Bool} {w : Nat} (hw : w < 6) : bs op &&& (((1 : Int32) <<< (nI w &&& 31)) ^^^ (-1 : Int32)) = bs (upN op w false) := by
  refine (not_one hw (op 0) (op 1) (op 2) (op 3) (op 4) (op 5)).trans (bs_congr (fun t ht => ?_))
  unfold upN
  split
  · rfl
  · rcases (show t = 0 ∨ t = 1 ∨ t = 2 ∨ t = 3 ∨ t = 4 ∨ t = 5 by omega) with rfl | rfl | rfl | rfl | rfl | rfl <;> rfl
theorem last_C {P : PL} {M : MM} {i : Nat} {s : SC} (h : CS P M i s) {t v : Nat} (ht : t < 6) (hv : v ≤ 7) : q_X3_lastAtLeast i (nI t) (nI v) M = some ((), mR M (9 + i) (fun c => if c = 6 + t then nI (max (sL s t) v) else M.1 (9 + i) c)) := by
  have hl := h.2.2.1.2.2.1 t ht
  unfold q_X3_lastAtLeast
  rw [at_in ht (by decide), h.2.2.2.2.2.1 t ht]
  unfold t_put
  rw [if_pos (ib_nI ht (by decide)), ncl (by omega), mU_mR]
  congr 2
  refine mRf _ _ (funext fun c => ?_)
  by_cases e : c = 6 + t
  · rw [if_pos e, if_pos e]
    by_cases g : sL s t < v
    · rw [if_pos (nI_lt g (by omega))]; congr 1; omega
    · rw [if_neg (nI_nlt (by omega) (by omega))]; congr 1; omega
  · rw [if_neg e, if_neg e]
theorem raise_C {P : PL} {M : MM} {i : Nat} {s : SC} (h : CS P M i s) {w : Nat} (hw : w < pW P) (ho : sO s w = false) : q_X3_raise i (nI w) M = some (true, mR M (9 + i) (openF P s w (M.1 (9 + i)))) := by
  obtain ⟨hP, hC, hs, hR⟩ := id h
  have hW := hP.1
  have e1 : mU M (9 + i) 5 ((M.1 (9 + i) 5) ||| ((1 : Int32) <<< (nI w &&& 31))) = mR M (9 + i) (forgF (upN (sO s) w true) (M.1 (9 + i))) := by
    rw [mU_mR, hR.2.1, upN_or (by omega)]; rfl
  have h2 : CS P (mR M (9 + i) (forgF (upN (sO s) w true) (M.1 (9 + i)))) i (forgS s (upN (sO s) w true)) := CS_row h (WS_forg hs (fun v hv => by unfold upN; rw [if_neg (by omega)]; exact hs.2.1 v hv)) (RP_forg hP hR _)
  unfold q_X3_raise
  rw [hw_in hC hw hW, if_neg (by decide), isOpen_C h (by omega), ho, if_pos (by decide), e1, stuffOf_C hW h2.2.1 hw, placeOf_C h2 hw]
  by_cases e : pS P w = 2
  · rw [if_pos (by rw [e]; rfl), show (7 : Int32) = nI 7 from rfl, last_C h2 (t := sP (forgS s (upN (sO s) w true)) w) (hs.1 w hw) (by omega), obd_of rfl, mR_mR, mR_at]
    congr 2
    refine mRf _ _ (funext fun c => ?_)
    show (if c = 6 + sP s w then nI (max (sL s (sP s w)) 7) else if c = 5 then bs (upN (sO s) w true) else M.1 (9 + i) c) = (if c = 5 then bs (upN (sO s) w true) else if pS P w = 2 ∧ c = 6 + sP s w then nI (max (sL s (sP s w)) 7) else M.1 (9 + i) c)
    by_cases c5 : c = 5
    · rw [if_neg (show ¬ c = 6 + sP s w by omega), if_pos c5, if_pos c5]
    · by_cases g : c = 6 + sP s w
      · rw [if_pos g, if_neg c5, if_pos ⟨e, g⟩]
      · rw [if_neg g, if_neg c5, if_neg c5, if_neg (fun q => g q.2)]
  · rw [if_neg (fun q => e ((pS2 hP hw).mp q))]
    congr 2
    refine mRf _ _ (funext fun c => ?_)
    unfold openF forgF
    by_cases c5 : c = 5
    · rw [if_pos c5, if_pos c5]
    · rw [if_neg c5, if_neg c5, if_neg (fun q => e q.1)]
theorem raise_C0 {P : PL} {M : MM} {i : Nat} {s : SC} (h : CS P M i s) {w : Nat} (hw : w < 6) (ho : ¬ (w < pW P ∧ sO s w = false)) : q_X3_raise i (nI w) M = some (false, M) := by
  obtain ⟨hP, hC, hs, hR⟩ := id h
  unfold q_X3_raise
  by_cases g : w < pW P
  · have o : sO s w = true := by
      cases q : sO s w
      · exact absurd ⟨g, q⟩ ho
      · rfl
    rw [hw_in hC g hP.1, if_neg (by decide), isOpen_C h hw, o, if_neg (by decide)]
  · rw [hw_out hC (Or.inr (nI_le (by omega) (by omega))), if_pos (by decide)]
theorem raise_out {P : PL} {M : MM} (hC : PC P M) {i : Nat} {x : Int32} (hx : x < 0 ∨ nI (pW P) ≤ x) : q_X3_raise i x M = some (false, M) := by
  unfold q_X3_raise
  rw [hw_out hC hx, if_pos (by decide)]
theorem lower_C {P : PL} {M : MM} {i : Nat} {s : SC} (h : CS P M i s) {w : Nat} (hw : w < pW P) (ho : sO s w = true) : q_X3_lower i (nI w) M = some (true, mR M (9 + i) (shutF P s w (M.1 (9 + i)))) := by
  obtain ⟨hP, hC, hs, hR⟩ := id h
  have hW := hP.1
  have e1 : mU M (9 + i) 5 ((M.1 (9 + i) 5) &&& (((1 : Int32) <<< (nI w &&& 31)) ^^^ (-1 : Int32))) = mR M (9 + i) (forgF (upN (sO s) w false) (M.1 (9 + i))) := by
    rw [mU_mR, hR.2.1, upN_not (by omega)]; rfl
  have h2 : CS P (mR M (9 + i) (forgF (upN (sO s) w false) (M.1 (9 + i)))) i (forgS s (upN (sO s) w false)) := CS_row h (WS_forg hs (fun v hv => by unfold upN; rw [if_neg (by omega)]; exact hs.2.1 v hv)) (RP_forg hP hR _)
  unfold q_X3_lower
  rw [hw_in hC hw hW, if_neg (by decide), isOpen_C h (by omega), ho, if_neg (by decide), e1, stuffOf_C hW h2.2.1 hw, placeOf_C h2 hw]
  by_cases e : pS P w = 1
  · rw [if_pos (by rw [e]; rfl), show (1 : Int32) = nI 1 from rfl, last_C h2 (t := sP (forgS s (upN (sO s) w false)) w) (hs.1 w hw) (by omega), obd_of rfl, mR_mR, mR_at]
    congr 2
    refine mRf _ _ (funext fun c => ?_)
    show (if c = 6 + sP s w then nI (max (sL s (sP s w)) 1) else if c = 5 then bs (upN (sO s) w false) else M.1 (9 + i) c) = (if c = 5 then bs (upN (sO s) w false) else if pS P w = 1 ∧ c = 6 + sP s w then nI (max (sL s (sP s w)) 1) else M.1 (9 + i) c)
    by_cases c5 : c = 5
    · rw [if_neg (show ¬ c = 6 + sP s w by omega), if_pos c5, if_pos c5]
    · by_cases g : c = 6 + sP s w
      · rw [if_pos g, if_neg c5, if_pos ⟨e, g⟩]
      · rw [if_neg g, if_neg c5, if_neg c5, if_neg (fun q => g q.2)]
  · rw [if_neg (fun q => e ((pS1 hP hw).mp q))]
    congr 2
    refine mRf _ _ (funext fun c => ?_)
    unfold shutF forgF
    by_cases c5 : c = 5
    · rw [if_pos c5, if_pos c5]
    · rw [if_neg c5, if_neg c5, if_neg (fun q => e q.1)]
theorem lower_C0 {P : PL} {M : MM} {i : Nat} {s : SC} (h : CS P M i s) {w : Nat} (hw : w < 6) (ho : ¬ (w < pW P ∧ sO s w = true)) : q_X3_lower i (nI w) M = some (false, M) := by
  obtain ⟨hP, hC, hs, hR⟩ := id h
  unfold q_X3_lower
  by_cases g : w < pW P
  · have o : sO s w = false := by
      cases q : sO s w
      · rfl
      · exact absurd ⟨g, q⟩ ho
    rw [hw_in hC g hP.1, if_neg (by decide), isOpen_C h hw, o, if_pos (by decide)]
  · rw [hw_out hC (Or.inr (nI_le (by omega) (by omega))), if_pos (by decide)]
theorem lower_out {P : PL} {M : MM} (hC : PC P M) {i : Nat} {x : Int32} (hx : x < 0 ∨ nI (pW P) ≤ x) : q_X3_lower i x M = some (false, M) := by
  unfold q_X3_lower
  rw [hw_out hC hx, if_pos (by decide)]
theorem place_C {M : MM} {i : Nat} {w t : Nat} (hw : w < 5) : q_X3_place i (nI w) (nI t) M = some ((), mR M (9 + i) (moveF w t (M.1 (9 + i)))) := by
  unfold q_X3_place t_put
  rw [if_pos (ib_nI hw (by decide)), ncl (by omega), mU_mR, Nat.zero_add]
  rfl
