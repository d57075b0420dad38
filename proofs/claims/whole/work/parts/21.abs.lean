-- the town as mathematics: a plan (walkers, needs, stuffs, streets, sorts, figures), a scene (places, open, lasts, wet, fates, hour)
abbrev PL : Type := Nat × Nat × (Nat → Nat) × (Nat → Nat) × (Nat → Nat) × (Nat → Nat)
abbrev pW (P : PL) : Nat := P.1
abbrev pN (P : PL) : Nat := P.2.1
abbrev pS (P : PL) : Nat → Nat := P.2.2.1
abbrev pR (P : PL) : Nat → Nat := P.2.2.2.1
abbrev pT (P : PL) : Nat → Nat := P.2.2.2.2.1
abbrev pH (P : PL) : Nat → Nat := P.2.2.2.2.2
abbrev SC : Type := (Nat → Nat) × (Nat → Bool) × (Nat → Nat) × (Nat → Int32) × (Nat → Nat) × Int32
abbrev sP (s : SC) : Nat → Nat := s.1
abbrev sO (s : SC) : Nat → Bool := s.2.1
abbrev sL (s : SC) : Nat → Nat := s.2.2.1
abbrev sE (s : SC) : Nat → Int32 := s.2.2.2.1
abbrev sF (s : SC) : Nat → Nat := s.2.2.2.2.1
abbrev sT (s : SC) : Int32 := s.2.2.2.2.2
def WP (P : PL) : Prop := pW P ≤ 5 ∧ pN P ≤ 5 ∧ (∀ w, w < pW P → pS P w < 4) ∧ ∀ k, k < pN P → pR P k < 6 ∧ pT P k < 3 ∧ pH P k < 10
def WS (P : PL) (s : SC) : Prop := (∀ w, w < pW P → sP s w < 6) ∧ (∀ w, pW P ≤ w → sO s w = false) ∧ (∀ t, t < 6 → sL s t ≤ 7) ∧ (∀ k, k < 5 → sF s k ≤ 2) ∧ ∀ k, k < pN P → pT P k = 0 → sF s k = 0 → sT s ≤ nI (pH P k)
-- a row of 24 numbers that says a scene
def RP (P : PL) (f : Nat → Int32) (s : SC) : Prop := (∀ w, w < pW P → f w = nI (sP s w)) ∧ f 5 = bs (sO s) ∧ (∀ t, t < 6 → f (6 + t) = nI (sL s t)) ∧ (∀ t, t < 6 → f (12 + t) = sE s t) ∧ (∀ k, k < 5 → f (18 + k) = nI (sF s k)) ∧ f 23 = sT s
def PC (P : PL) (M : MM) : Prop := M.1 0 1 = nI (pW P) ∧ M.1 0 2 = nI (pN P) ∧ (∀ w, w < pW P → M.1 3 w = nI (pS P w)) ∧ ∀ k, k < pN P → M.1 4 k = nI (pR P k) ∧ M.1 5 k = nI (pT P k) ∧ M.1 6 k = nI (pH P k)
def PD (P : PL) (M : MM) : Prop := M.1 0 3 = nI (pW P) ∧ M.1 0 4 = nI (pN P) ∧ (∀ w, w < pW P → M.1 2 w = nI (pS P w)) ∧ ∀ k, k < pN P → M.1 3 (3 * k) = nI (pR P k) ∧ M.1 3 (3 * k + 1) = nI (pT P k) ∧ M.1 3 (3 * k + 2) = nI (pH P k)
-- rain, hail, an hour
def anyN (q : Nat → Nat → Bool) : Nat → Nat → Bool
  | 0, _ => false
  | n + 1, s => anyN q n s || q n s
def hitR (P : PL) (s : SC) (w t : Nat) : Bool := sO s w && (t == sP s w || (pS P w == 3 && (t == sP s w + 1 || t + 1 == sP s w)))
def rainB (P : PL) (s : SC) (t : Nat) : Bool := decide (0 < sL s t) || anyN (hitR P s) (pW P) t
def atB (s : SC) (t w : Nat) : Bool := sO s w && sP s w == t
def hailB (P : PL) (s : SC) (t : Nat) : Bool := decide (2 ≤ cnt (atB s t) (pW P))
def wetS (P : PL) (s : SC) (t : Nat) : Int32 := sE s t + (if rainB P s t then (if hailB P s t then 2 else 1) else 0)
def fateS (P : PL) (s : SC) (k : Nat) : Nat :=
  if pT P k = 1 then (if wetS P s (pR P k) < nI (pH P k) then 0 else 1)
  else if pT P k = 2 then (if sT s = nI (pH P k) then (if rainB P s (pR P k) then 2 else 1) else 0)
  else if rainB P s (pR P k) then 2 else if sT s = nI (pH P k) then 1 else 0
def fate2 (P : PL) (s : SC) (k : Nat) : Nat := if k < pN P ∧ sF s k = 0 then fateS P s k else sF s k
def hourS (P : PL) (s : SC) : SC := (sP s, sO s, fun t => sL s t - 1, wetS P s, fate2 P s, sT s + 1)
def hoursS (P : PL) (s : SC) : Nat → SC
  | 0 => s
  | n + 1 => hourS P (hoursS P s n)
def upN {α : Type} (f : Nat → α) (k : Nat) (v : α) : Nat → α := fun j => if j = k then v else f j
def openS (P : PL) (s : SC) (w : Nat) : SC := (sP s, upN (sO s) w true, if pS P w = 2 then upN (sL s) (sP s w) (max (sL s (sP s w)) 7) else sL s, sE s, sF s, sT s)
def shutS (P : PL) (s : SC) (w : Nat) : SC := (sP s, upN (sO s) w false, if pS P w = 1 then upN (sL s) (sP s w) (max (sL s (sP s w)) 1) else sL s, sE s, sF s, sT s)
def moveS (s : SC) (w t : Nat) : SC := (upN (sP s) w t, sO s, sL s, sE s, sF s, sT s)
def forgS (s : SC) (p : Nat → Bool) : SC := (sP s, p, sL s, sE s, sF s, sT s)
-- all of a set that are shut are opened, one after the other
def openAll (P : PL) (p : Nat → Bool) (s : SC) : Nat → SC
  | 0 => s
  | n + 1 => if p n && !sO (openAll P p s n) n then openS P (openAll P p s n) n else openAll P p s n
theorem hail_rain {P : PL} {s : SC} {t : Nat} (h : hailB P s t = true) : rainB P s t = true := by
  unfold hailB at h
  have h := of_decide_eq_true h
  have key : ∀ n, 1 ≤ cnt (atB s t) n → anyN (hitR P s) n t = true := by
    intro n
    induction n with
    | zero => intro h; exact absurd h (by simp [cnt])
    | succ n ih =>
      intro h
      unfold anyN
      unfold cnt at h
      by_cases q : atB s t n = true
      · have : hitR P s n t = true := by
          unfold atB at q
          unfold hitR
          simp only [Bool.and_eq_true, beq_iff_eq] at q
          rw [q.1, q.2]
          simp
        rw [this]; simp
      · simp only [q, Bool.false_eq_true, if_false] at h
        rw [ih h]; simp
  unfold rainB
  rw [key _ (by omega)]; simp
theorem WS_hour {P : PL} {s : SC} (hP : WP P) (h : WS P s) : WS P (hourS P s) := by
  obtain ⟨h1, h2, h3, h4, h5⟩ := h
  refine ⟨h1, h2, fun t ht => ?_, fun k hk => ?_, fun k hk hs hf => ?_⟩
  · have := h3 t ht
    show sL s t - 1 ≤ 7
    omega
  · show fate2 P s k ≤ 2
    unfold fate2
    split
    · unfold fateS
      repeat' split
      all_goals omega
    · exact h4 k hk
  · have hf : fate2 P s k = 0 := hf
    have hs : pT P k = 0 := hs
    show sT s + 1 ≤ nI (pH P k)
    unfold fate2 at hf
    by_cases g : sF s k = 0
    · have hle := h5 k hk hs g
      rw [if_pos ⟨hk, g⟩] at hf
      unfold fateS at hf
      rw [if_neg (by omega), if_neg (by omega)] at hf
      by_cases r : rainB P s (pR P k) = true
      · rw [if_pos r] at hf; omega
      · rw [if_neg r] at hf
        by_cases e : sT s = nI (pH P k)
        · rw [if_pos e] at hf; omega
        · have hh := (hP.2.2.2 k hk).2.2
          have e1 : (nI (pH P k)).toInt = (pH P k : Int) := nI_toInt (by omega)
          have e2 := Int32.le_iff_toInt_le.mp hle
          have e3 : sT s ≠ nI (pH P k) := e
          have e4 : (sT s).toInt ≠ (nI (pH P k)).toInt := fun q => e3 (Int32.toInt_inj.mp q)
          have e5 : -2147483648 ≤ (sT s).toInt := Int32.le_toInt _
          rw [Int32.le_iff_toInt_le, Int32.toInt_add]
          have e6 : ((1 : Int32).toInt) = 1 := rfl
          rw [e6, e1]
          rw [e1] at e2 e4
          have : ((sT s).toInt + 1).bmod (2 ^ 32) = (sT s).toInt + 1 := by
            rw [Int.bmod_eq_of_le (by omega) (by omega)]
          rw [this]
          omega
    · rw [if_neg (fun q => g q.2)] at hf
      exact absurd hf g
theorem WS_hours {P : PL} {s : SC} (hP : WP P) (h : WS P s) : ∀ n, WS P (hoursS P s n)
  | 0 => h
  | n + 1 => WS_hour hP (WS_hours hP h n)
theorem WS_open {P : PL} {s : SC} (h : WS P s) {w : Nat} (hw : w < pW P) : WS P (openS P s w) := by
  obtain ⟨h1, h2, h3, h4, h5⟩ := h
  refine ⟨h1, fun v hv => ?_, fun t ht => ?_, h4, h5⟩
  · show upN (sO s) w true v = false
    unfold upN; rw [if_neg (by omega)]; exact h2 v hv
  · show (if pS P w = 2 then upN (sL s) (sP s w) (max (sL s (sP s w)) 7) else sL s) t ≤ 7
    split
    · unfold upN
      split
      · have := h3 _ (h1 w hw); omega
      · exact h3 t ht
    · exact h3 t ht
theorem WS_shut {P : PL} {s : SC} (h : WS P s) {w : Nat} (hw : w < pW P) : WS P (shutS P s w) := by
  obtain ⟨h1, h2, h3, h4, h5⟩ := h
  refine ⟨h1, fun v hv => ?_, fun t ht => ?_, h4, h5⟩
  · show upN (sO s) w false v = false
    unfold upN; rw [if_neg (by omega)]; exact h2 v hv
  · show (if pS P w = 1 then upN (sL s) (sP s w) (max (sL s (sP s w)) 1) else sL s) t ≤ 7
    split
    · unfold upN
      split
      · have := h3 _ (h1 w hw); omega
      · exact h3 t ht
    · exact h3 t ht
theorem WS_move {P : PL} {s : SC} (h : WS P s) {w t : Nat} (ht : t < 6) : WS P (moveS s w t) := by
  obtain ⟨h1, h2, h3, h4, h5⟩ := h
  refine ⟨fun v hv => ?_, h2, h3, h4, h5⟩
  show upN (sP s) w t v < 6
  unfold upN
  split
  · exact ht
  · exact h1 v hv
theorem WS_openAll {P : PL} {s : SC} (h : WS P s) (p : Nat → Bool) : ∀ n, n ≤ pW P → WS P (openAll P p s n)
  | 0, _ => h
  | n + 1, hn => by
    unfold openAll
    split
    · exact WS_open (WS_openAll h p n (by omega)) (by omega)
    · exact WS_openAll h p n (by omega)
theorem sP_openAll {P : PL} {s : SC} (p : Nat → Bool) : ∀ n, sP (openAll P p s n) = sP s
  | 0 => rfl
  | n + 1 => by
    unfold openAll
    split
    · exact sP_openAll p n
    · exact sP_openAll p n
