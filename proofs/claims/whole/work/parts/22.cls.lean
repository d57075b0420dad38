-- memories by rows
theorem mU_mR (M : MM) (r c : Nat) (v : Int32) : mU M r c v = mR M r (fun c2 => if c2 = c then v else M.1 r c2) := by
  unfold mU mR
  refine Prod.ext ?_ rfl
  funext r2 c2
  show (if r2 = r ∧ c2 = c then v else M.1 r2 c2) = (if r2 = r then (fun c2 => if c2 = c then v else M.1 r c2) else M.1 r2) c2
  by_cases h : r2 = r
  · subst h
    rw [if_pos rfl]
    by_cases h2 : c2 = c
    · rw [if_pos ⟨rfl, h2⟩]; show v = (if c2 = c then v else M.1 r2 c2); rw [if_pos h2]
    · rw [if_neg (fun q => h2 q.2)]; show M.1 r2 c2 = (if c2 = c then v else M.1 r2 c2); rw [if_neg h2]
  · rw [if_neg (fun q => h q.1), if_neg h]
theorem mR_at (M : MM) (r : Nat) (f : Nat → Int32) : (mR M r f).1 r = f := if_pos rfl
theorem mR_ne (M : MM) {r r2 : Nat} (f : Nat → Int32) (h : r2 ≠ r) : (mR M r f).1 r2 = M.1 r2 := if_neg h
theorem mR_mR (M : MM) (r : Nat) (f g : Nat → Int32) : mR (mR M r f) r g = mR M r g := by
  unfold mR
  refine Prod.ext ?_ rfl
  funext r2
  show (if r2 = r then g else if r2 = r then f else M.1 r2) = if r2 = r then g else M.1 r2
  split <;> rfl
theorem mR_self (M : MM) (r : Nat) : mR M r (M.1 r) = M := by
  unfold mR
  refine Prod.ext ?_ rfl
  funext r2
  show (if r2 = r then M.1 r else M.1 r2) = M.1 r2
  split
  · rename_i h; rw [h]
  · rfl
theorem mR_2 (M : MM) (r : Nat) (f : Nat → Int32) : (mR M r f).2 = M.2 := rfl
-- a stretch of a row written over
def ovr (f : Nat → Int32) (o n : Nat) (g : Nat → Int32) : Nat → Int32 := fun c => if o ≤ c ∧ c < o + n then g (c - o) else f c
theorem ovr_0 (f : Nat → Int32) (o : Nat) (g : Nat → Int32) : ovr f o 0 g = f := by funext c; unfold ovr; rw [if_neg (by omega)]
theorem ovr_in {f : Nat → Int32} {o n : Nat} {g : Nat → Int32} {j : Nat} (h : j < n) : ovr f o n g (o + j) = g j := by unfold ovr; rw [if_pos ⟨by omega, by omega⟩]; congr 1; omega
theorem ovr_out {f : Nat → Int32} {o n : Nat} {g : Nat → Int32} {c : Nat} (h : c < o ∨ o + n ≤ c) : ovr f o n g c = f c := by unfold ovr; rw [if_neg (by omega)]
theorem ovr_s {f : Nat → Int32} {o j : Nat} {g : Nat → Int32} : (fun c => if c = o + j then g j else ovr f o j g c) = ovr f o (j + 1) g := by
  funext c
  unfold ovr
  by_cases h : c = o + j
  · subst h
    rw [if_pos rfl, if_pos ⟨by omega, by omega⟩]
    congr 1
    omega
  · rw [if_neg h]
    by_cases h2 : o ≤ c ∧ c < o + j
    · rw [if_pos h2, if_pos ⟨h2.1, by omega⟩]
    · rw [if_neg h2, if_neg (by omega)]
theorem ovr_keep {f : Nat → Int32} {o j : Nat} {g : Nat → Int32} (h : f (o + j) = g j) : ovr f o (j + 1) g = ovr f o j g := by
  rw [← ovr_s]
  funext c
  by_cases e : c = o + j
  · subst e
    show (if o + j = o + j then g j else _) = _
    rw [if_pos rfl, ovr_out (by omega), h]
  · show (if c = o + j then g j else _) = _
    rw [if_neg e]
-- the row behind an hour
def hourF (P : PL) (s : SC) (f : Nat → Int32) : Nat → Int32 := fun c => if c = 23 then sT s + 1 else ovr (ovr (ovr f 12 6 (wetS P s)) 18 (pN P) (fun k => nI (fate2 P s k))) 6 6 (fun t => nI (sL s t - 1)) c
theorem RP_hour {P : PL} {s : SC} {f : Nat → Int32} (hP : WP P) (h : RP P f s) : RP P (hourF P s f) (hourS P s) := by
  obtain ⟨h1, h2, h3, h4, h5, h6⟩ := h
  have hn := hP.2.1
  have hw := hP.1
  unfold hourF
  refine ⟨fun w hw2 => ?_, ?_, fun t ht => ?_, fun t ht => ?_, fun k hk => ?_, rfl⟩
  · show (if w = 23 then _ else _) = _
    rw [if_neg (by omega), ovr_out (by omega), ovr_out (by omega), ovr_out (by omega)]
    exact h1 w hw2
  · show (if 5 = 23 then _ else _) = _
    rw [if_neg (by omega), ovr_out (by omega), ovr_out (by omega), ovr_out (by omega)]
    exact h2
  · show (if 6 + t = 23 then _ else _) = _
    rw [if_neg (by omega), ovr_in ht]
    rfl
  · show (if 12 + t = 23 then _ else _) = _
    rw [if_neg (by omega), ovr_out (by omega), ovr_out (by omega), ovr_in ht]
    rfl
  · show (if 18 + k = 23 then _ else _) = _
    rw [if_neg (by omega), ovr_out (by omega)]
    by_cases g : k < pN P
    · rw [ovr_in g]
      rfl
    · rw [ovr_out (by omega), ovr_out (by omega), h5 k hk]
      show nI (sF s k) = nI (fate2 P s k)
      unfold fate2
      rw [if_neg (fun q => g q.1)]
def hoursF (P : PL) (s : SC) (f : Nat → Int32) : Nat → Nat → Int32
  | 0 => f
  | n + 1 => hourF P (hoursS P s n) (hoursF P s f n)
theorem RP_hours {P : PL} {s : SC} {f : Nat → Int32} (hP : WP P) (h : RP P f s) : ∀ n, RP P (hoursF P s f n) (hoursS P s n)
  | 0 => h
  | n + 1 => RP_hour hP (RP_hours hP h n)
-- the class's scenes
def CS (P : PL) (M : MM) (i : Nat) (s : SC) : Prop := WP P ∧ PC P M ∧ WS P s ∧ RP P (M.1 (9 + i)) s
theorem CS_row {P : PL} {M : MM} {i : Nat} {s s2 : SC} {f : Nat → Int32} (h : CS P M i s) (hs : WS P s2) (hf : RP P f s2) : CS P (mR M (9 + i) f) i s2 := by
  refine ⟨h.1, ?_, hs, by rw [mR_at]; exact hf⟩
  unfold PC
  rw [mR_ne _ _ (by omega), mR_ne _ _ (by omega), mR_ne _ _ (by omega), mR_ne _ _ (by omega), mR_ne _ _ (by omega)]
  exact h.2.1
theorem at_in {r o n j : Nat} {M : MM} (h : j < n) (hn : n < 2 ^ 31) : t_at r o n (nI j) M = M.1 r (o + j) := by
  unfold t_at
  rw [if_pos (ib_nI h hn), ncl (by omega)]
theorem hw_in {P : PL} {M : MM} (h : PC P M) {w : Nat} (hw : w < pW P) (h5 : pW P ≤ 5) : t_X2_hasWalker (nI w) M = true := by
  unfold t_X2_hasWalker
  rw [if_neg (nI_pos (by omega)), h.1, if_neg (nge hw (by omega))]
theorem hw_out {P : PL} {M : MM} (h : PC P M) {x : Int32} (hx : x < 0 ∨ nI (pW P) ≤ x) : t_X2_hasWalker x M = false := by
  unfold t_X2_hasWalker
  rcases hx with hx | hx
  · rw [if_pos hx]
  · rw [h.1, if_pos hx]
    split <;> rfl
theorem isOpen_C {P : PL} {M : MM} {i : Nat} {s : SC} (h : CS P M i s) {w : Nat} (hw : w < 6) : t_X3_isOpen i (nI w) M = sO s w := by
  unfold t_X3_isOpen
  rw [h.2.2.2.2.1, hasC _ hw]
theorem placeOf_C {P : PL} {M : MM} {i : Nat} {s : SC} (h : CS P M i s) {w : Nat} (hw : w < pW P) : t_X3_placeOf i (nI w) M = nI (sP s w) := by
  unfold t_X3_placeOf
  have := h.1.1
  rw [at_in (by omega) (by decide), Nat.zero_add, h.2.2.2.1 w hw]
theorem stuffOf_C {P : PL} {M : MM} (h5 : pW P ≤ 5) (h : PC P M) {w : Nat} (hw : w < pW P) : t_X2_stuffOf (nI w) M = nI (pS P w) := by
  unfold t_X2_stuffOf
  rw [at_in (by omega) (by decide), Nat.zero_add, h.2.2.1 w hw]
-- rain
def orF (z : Int32) (t : Nat → Int32) : Nat → Int32
  | 0 => z
  | j + 1 => orF z t j ||| t j
theorem orF_63 {z : Int32} {t : Nat → Int32} {q0 : Nat → Bool} {q : Nat → Nat → Bool} (h0 : z &&& 63 = bs q0) : ∀ n, (∀ j, j < n → t j &&& 63 = bs (q j)) → orF z t n &&& 63 = bs (fun s => q0 s || anyN q n s)
  | 0, _ => h0.trans (bs_congr (fun s _ => by simp [anyN]))
  | n + 1, h => by
    show (orF z t n ||| t n) &&& 63 = _
    rw [and_or_r, orF_63 h0 n (fun j hj => h j (by omega)), h n (by omega), bs_or]
    exact bs_congr (fun s _ => by simp [anyN, Bool.or_assoc])
-- what an umbrella gives
def umbF (o : Bool) (pl : Nat) (st : Bool) (x : Int32) : Prop := x &&& 63 = bs (fun t => o && (t == pl || (st && (t == pl + 1 || t + 1 == pl))))
theorem umb_C {pl : Nat} (h : pl < 6) : umbF true pl true ((((1 : Int32) <<< (nI pl &&& 31)) <<< ((1 : Int32) &&& 31)) ||| ((1 : Int32) <<< (nI pl &&& 31)) ||| (((1 : Int32) <<< (nI pl &&& 31)) >>> ((1 : Int32) &&& 31))) := by
  unfold umbF
  rw [one_sh h, and_or_r, and_or_r, one_shl h, one_shr h, bs_63, bs_63, bs_or, bs_or]
  exact bs_congr (fun t _ => by simp only [Bool.true_and]; cases (t == pl + 1) <;> cases (t == pl) <;> cases (t + 1 == pl) <;> rfl)
theorem umb_M {pl : Nat} (h : pl < 6) : umbF true pl true ((((1 : Int32) <<< (nI pl &&& 31)) ||| (((1 : Int32) <<< (nI pl &&& 31)) <<< ((1 : Int32) &&& 31))) ||| (((1 : Int32) <<< (nI pl &&& 31)) >>> ((1 : Int32) &&& 31))) := by
  unfold umbF
  rw [one_sh h, and_or_r, and_or_r, one_shl h, one_shr h, bs_63, bs_63, bs_or, bs_or]
  exact bs_congr (fun t _ => by simp only [Bool.true_and]; cases (t == pl + 1) <;> cases (t == pl) <;> cases (t + 1 == pl) <;> rfl)
theorem umb_1 {pl : Nat} (h : pl < 6) : umbF true pl false ((1 : Int32) <<< (nI pl &&& 31)) := by
  unfold umbF
  rw [one_sh h, bs_63]
  exact bs_congr (fun t _ => by simp)
theorem umb_0 {pl : Nat} {st : Bool} : umbF false pl st 0 := by
  unfold umbF
  exact (show (0 : Int32) &&& 63 = bs (fun _ => false) from rfl).trans (bs_congr (fun t _ => by simp))
theorem anyN_congr {q q2 : Nat → Nat → Bool} {t : Nat} : ∀ {n : Nat}, (∀ j, j < n → q j t = q2 j t) → anyN q n t = anyN q2 n t
  | 0, _ => rfl
  | n + 1, h => by unfold anyN; rw [anyN_congr (fun j hj => h j (by omega)), h n (by omega)]
theorem anyN_out {q : Nat → Nat → Bool} {t m : Nat} : ∀ {n : Nat}, m ≤ n → (∀ j, m ≤ j → j < n → q j t = false) → anyN q n t = anyN q m t
  | 0, h, _ => by have : m = 0 := by omega
                  subst this; rfl
  | n + 1, h, hp => by
    by_cases e : m = n + 1
    · subst e; rfl
    · show (anyN q n t || q n t) = anyN q m t
      rw [hp n (by omega) (by omega), anyN_out (n := n) (by omega) (fun j h1 h2 => hp j h1 (by omega))]
      simp
def lasR (s : SC) (w t : Nat) : Bool := decide (0 < sL s w) && t == w
theorem anyN_las {s : SC} {t : Nat} (h : t < 6) : anyN (lasR s) 6 t = decide (0 < sL s t) := by
  rcases (show t = 0 ∨ t = 1 ∨ t = 2 ∨ t = 3 ∨ t = 4 ∨ t = 5 by omega) with rfl | rfl | rfl | rfl | rfl | rfl <;> simp [anyN, lasR]
theorem las_63 {s : SC} {t : Nat} (h : t < 6) (hl : sL s t ≤ 7) : (if nI (sL s t) ≤ 0 then (0 : Int32) else (1 : Int32) <<< (nI t &&& 31)) &&& 63 = bs (lasR s t) := by
  by_cases g : sL s t = 0
  · rw [g, if_pos (by decide)]
    exact (show (0 : Int32) &&& 63 = bs (fun _ => false) from rfl).trans (bs_congr (fun u _ => by simp [lasR, g]))
  · rw [if_neg (nI_nle (by omega) (by omega)), one_sh h, bs_63]
    exact bs_congr (fun u _ => by simp [lasR, show 0 < sL s t by omega])
