-- steps of a trial: memories that differ in one row
def K (r : Nat) (M M2 : MM) : Prop := M2.2 = M.2 ∧ ∀ q, q ≠ r → M2.1 q = M.1 q
theorem K.rfl {r : Nat} {M : MM} : K r M M := ⟨Eq.refl _, fun _ _ => Eq.refl _⟩
theorem K.trans {r : Nat} {M M2 M3 : MM} (h : K r M M2) (g : K r M2 M3) : K r M M3 := ⟨g.1.trans h.1, fun q hq => (g.2 q hq).trans (h.2 q hq)⟩
theorem K_mR {r : Nat} {M : MM} {f : Nat → Int32} : K r M (mR M r f) := ⟨Eq.refl _, fun q hq => mR_ne _ _ hq⟩
theorem CS_K {P : PL} {M M2 : MM} {s : SC} {i : Nat} (h : CS P M i s) (k : K 10 M M2) (hi : 9 + i ≠ 10) : CS P M2 i s := by
  refine ⟨h.1, ?_, h.2.2.1, by rw [k.2 _ hi]; exact h.2.2.2⟩
  unfold PC
  rw [k.2 0 (by omega), k.2 3 (by omega), k.2 4 (by omega), k.2 5 (by omega), k.2 6 (by omega)]
  exact h.2.1
theorem DS_K {P : PL} {M M2 : MM} {s : SC} (h : DS P M 6 s) (k : K 7 M M2) : DS P M2 6 s := by
  refine ⟨h.1, ?_, h.2.2.1, by rw [k.2 6 (by omega)]; exact h.2.2.2⟩
  unfold PD
  rw [k.2 0 (by omega), k.2 2 (by omega), k.2 3 (by omega)]
  exact h.2.1
theorem bg_C {P : PL} {M : MM} {s : SC} (h : CS P M 0 s) : CS P (mR M (9 + 1) (M.1 (9 + 0))) 1 s ∧ K 10 M (mR M (9 + 1) (M.1 (9 + 0))) := ⟨⟨h.1, PC_row h.2.1 (by decide) _, h.2.2.1, by rw [mR_at]; exact h.2.2.2⟩, K_mR⟩
theorem bg_M {P : PL} {M : MM} {s : SC} (h : DS P M 6 s) : ∃ M2, q_X7_begin M = some ((), M2) ∧ DS P M2 7 s ∧ K 7 M M2 := by
  obtain ⟨f, hf, e⟩ := begin_M (M := M)
  exact ⟨_, e, ⟨h.1, PD_row h.2.1 (by omega) f, h.2.2.1, by rw [mR_at]; exact RP_congr h.1 (fun c hc _ => hf c hc) h.2.2.2⟩, K_mR⟩
section
variable {P : PL} {M : MM} {s : SC}
theorem c_hour (h : CS P M 1 s) : ∃ M2, q_X3_passHour 1 M = some (bs (rainB P s), M2) ∧ CS P M2 1 (hourS P s) ∧ K 10 M M2 := ⟨_, hour_C h, CS_row h (WS_hour h.1 h.2.2.1) (RP_hour h.1 h.2.2.2), K_mR⟩
theorem c_hours (h : CS P M 1 s) {n : Nat} (hn : n ≤ 20) : ∃ M2, q_X3_passHours 1 (nI n) M = some ((), M2) ∧ CS P M2 1 (hoursS P s n) ∧ K 10 M M2 := ⟨_, hours_C h hn, CS_row h (WS_hours h.1 h.2.2.1 n) (RP_hours h.1 h.2.2.2 n), K_mR⟩
theorem c_raise (h : CS P M 1 s) {w : Nat} (hw : w < pW P) (ho : sO s w = false) : ∃ M2, q_X3_raise 1 (nI w) M = some (true, M2) ∧ CS P M2 1 (openS P s w) ∧ K 10 M M2 := ⟨_, raise_C h hw ho, CS_row h (WS_open h.2.2.1 hw) (RP_open h.1 h.2.2.1 h.2.2.2 hw), K_mR⟩
theorem c_lower (h : CS P M 1 s) {w : Nat} (hw : w < pW P) (ho : sO s w = true) : ∃ M2, q_X3_lower 1 (nI w) M = some (true, M2) ∧ CS P M2 1 (shutS P s w) ∧ K 10 M M2 := ⟨_, lower_C h hw ho, CS_row h (WS_shut h.2.2.1 hw) (RP_shut h.1 h.2.2.1 h.2.2.2 hw), K_mR⟩
theorem c_place (h : CS P M 1 s) {w t : Nat} (hw : w < pW P) (ht : t < 6) : ∃ M2, q_X3_place 1 (nI w) (nI t) M = some ((), M2) ∧ CS P M2 1 (moveS s w t) ∧ K 10 M M2 := ⟨_, place_C (by have := h.1.1; omega), CS_row h (WS_move h.2.2.1 ht) (RP_move h.1 h.2.2.2 hw), K_mR⟩
theorem c_all (h : CS P M 1 s) (p : Nat → Bool) : ∃ M2, q_X3_raiseAll 1 (bs p) M = some ((), M2) ∧ CS P M2 1 (openAll P p s (pW P)) ∧ K 10 M M2 := ⟨_, raiseAll_C h p, CS_row h (WS_openAll h.2.2.1 p _ (Nat.le_refl _)) (RP_openAll h.1 h.2.2.1 h.2.2.2 p _ (Nat.le_refl _)), K_mR⟩
def keptN (P : PL) (s : SC) : Nat := cnt (needB P (hoursS P s 9) 1) 6
theorem c_kept (h : CS P M 1 s) : ∃ M2, (∀ {γ : Type} (F : Int32 → MM → Option γ), obd (q_X3_passHours 1 (9 : Int32) M) (fun _ m => obd (q_X3_keptCount 1 m) F) = F (nI (keptN P s)) M2) ∧ CS P M2 1 (hoursS P s 9) ∧ K 10 M M2 := by
  obtain ⟨M2, e, h2, k⟩ := c_hours h (n := 9) (by omega)
  refine ⟨M2, fun F => ?_, h2, k⟩
  rw [L9, e, obd_of rfl, kept_C h2, obd_of rfl]
  rfl
theorem m_hour (h : DS P M 7 s) : ∃ M2, q_X7_goHour 7 M = some (bs (rainB P s), M2) ∧ DS P M2 7 (hourS P s) ∧ K 7 M M2 := ⟨_, hour_M (Or.inr rfl) h, DS_row (by omega) h (WS_hour h.1 h.2.2.1) (RP_hour h.1 h.2.2.2), K_mR⟩
theorem m_hours (h : DS P M 7 s) {n : Nat} (hn : n ≤ 20) : ∃ M2, q_X7_goHours (nI n) M = some ((), M2) ∧ DS P M2 7 (hoursS P s n) ∧ K 7 M M2 := ⟨_, hours_M h hn, DS_row (by omega) h (WS_hours h.1 h.2.2.1 n) (RP_hours h.1 h.2.2.2 n), K_mR⟩
theorem m_open (h : DS P M 7 s) {w : Nat} (hw : w < pW P) : ∃ M2, q_X7_goOpen 7 (nI w) M = some ((), M2) ∧ DS P M2 7 (openS P s w) ∧ K 7 M M2 := ⟨_, goOpen_M (Or.inr rfl) h hw, DS_row (by omega) h (WS_open h.2.2.1 hw) (RP_open h.1 h.2.2.1 h.2.2.2 hw), K_mR⟩
theorem m_shut (h : DS P M 7 s) {w : Nat} (hw : w < pW P) : ∃ M2, q_X7_goShut 7 (nI w) M = some ((), M2) ∧ DS P M2 7 (shutS P s w) ∧ K 7 M M2 := ⟨_, goShut_M (Or.inr rfl) h hw, DS_row (by omega) h (WS_shut h.2.2.1 hw) (RP_shut h.1 h.2.2.1 h.2.2.2 hw), K_mR⟩
theorem m_place (h : DS P M 7 s) {w t : Nat} (hw : w < pW P) (ht : t < 6) : DS P (mU M 7 w (nI t)) 7 (moveS s w t) ∧ K 7 M (mU M 7 w (nI t)) := by
  rw [mU_mR]
  exact ⟨DS_row (by omega) h (WS_move h.2.2.1 ht) (RP_move h.1 h.2.2.2 hw), K_mR⟩
theorem m_all (h : DS P M 7 s) (p : Nat → Bool) (hp : ∀ w, w < pW P → p w = true → sO s w = false) : ∃ M2, q_X7_openAll (bs p) M = some ((), M2) ∧ DS P M2 7 (openAll P p s (pW P)) ∧ K 7 M M2 := ⟨_, openAll_M h p hp, DS_row (by omega) h (WS_openAll h.2.2.1 p _ (Nat.le_refl _)) (RP_openAll h.1 h.2.2.1 h.2.2.2 p _ (Nat.le_refl _)), K_mR⟩
theorem m_kept (h : DS P M 7 s) : ∃ M2, q_X7_keptThen M = some (nI (keptN P s), M2) ∧ DS P M2 7 (hoursS P s 9) ∧ K 7 M M2 := ⟨_, kept_M h, DS_row (by omega) h (WS_hours h.1 h.2.2.1 9) (RP_hours h.1 h.2.2.2 9), K_mR⟩
end
-- a loop with an invariant
theorem lpI {β R : Type} (N : Nat) (F : Nat → Nat → β → R) (Inv : Nat → β → Prop) (Q : R → Prop) (hN : ∀ f b, Inv N b → Q (F (f + 1) N b)) (hs : ∀ f j b, j < N → Inv j b → Q (F (f + 1) j b) ∨ ∃ b2, Inv (j + 1) b2 ∧ F (f + 1) j b = F f (j + 1) b2) : ∀ (d j f : Nat) (b : β), j + d = N → d < f → Inv j b → Q (F f j b) := by
  intro d
  induction d with
  | zero =>
    intro j f b hj hf hb
    obtain ⟨g, rfl⟩ : ∃ g, f = g + 1 := ⟨f - 1, by omega⟩
    have : j = N := by omega
    subst this
    exact hN g b hb
  | succ d ih =>
    intro j f b hj hf hb
    obtain ⟨g, rfl⟩ : ∃ g, f = g + 1 := ⟨f - 1, by omega⟩
    rcases hs g j b (by omega) hb with h | ⟨b2, h2, e⟩
    · exact h
    · rw [e]
      exact ih (j + 1) g b2 (by omega) (by omega) h2
theorem lpJ {β R : Type} {N j0 : Nat} {b : β} (F : Nat → Nat → β → R) (Inv : Nat → β → Prop) (Q : R → Prop) (h : N < 400) (h0 : j0 ≤ N) (hb : Inv j0 b) (hN : ∀ f b, Inv N b → Q (F (f + 1) N b)) (hs : ∀ f j b, j < N → Inv j b → Q (F (f + 1) j b) ∨ ∃ b2, Inv (j + 1) b2 ∧ F (f + 1) j b = F f (j + 1) b2) : Q (F FU j0 b) := lpI N F Inv Q hN hs (N - j0) j0 FU b (by omega) (by show N - j0 < 400; omega) hb
-- what an answer may leave changed
def kE (M M2 : MM) : Prop := M2.2 = M.2 ∧ (∀ q, q ≠ 0 → q ≠ 4 → q ≠ 5 → q ≠ 7 → q ≠ 14 → q ≠ 15 → M2.1 q = M.1 q) ∧ ∀ c, c = 1 ∨ c = 3 ∨ c = 4 ∨ c = 7 ∨ c = 8 → M2.1 0 c = M.1 0 c
theorem kE.rfl {M : MM} : kE M M := ⟨Eq.refl _, fun _ _ _ _ _ _ _ => Eq.refl _, fun _ _ => Eq.refl _⟩
theorem kE.trans {M M2 M3 : MM} (h : kE M M2) (g : kE M2 M3) : kE M M3 := ⟨g.1.trans h.1, fun q a b c d e f => (g.2.1 q a b c d e f).trans (h.2.1 q a b c d e f), fun c hc => (g.2.2 c hc).trans (h.2.2 c hc)⟩
theorem K.e {M M2 : MM} (h : K 7 M M2) : kE M M2 := ⟨h.1, fun q _ _ _ d _ _ => h.2 q d, fun c _ => by rw [h.2 0 (by omega)]⟩
theorem mU_0 {M : MM} {c d : Nat} {v : Int32} (h : d ≠ c) : (mU M 0 c v).1 0 d = M.1 0 d := if_neg (fun q => h q.2)
theorem mU_r {M : MM} {r c q : Nat} {v : Int32} (h : q ≠ r) : (mU M r c v).1 q = M.1 q := by funext d; exact if_neg (fun z => h z.1)
theorem mU_ats {M : MM} {r c : Nat} {v : Int32} : (mU M r c v).1 r c = v := if_pos ⟨rfl, rfl⟩
theorem mU_nc {M : MM} {r c d : Nat} {v : Int32} (h : d ≠ c) : (mU M r c v).1 r d = M.1 r d := if_neg (fun q => h q.2)
theorem kE_0 {M : MM} {c : Nat} {v : Int32} (h : c ≠ 1 ∧ c ≠ 3 ∧ c ≠ 4 ∧ c ≠ 7 ∧ c ≠ 8) : kE M (mU M 0 c v) := ⟨rfl, fun q a _ _ _ _ _ => mU_r a, fun d hd => mU_0 (by omega)⟩
theorem kE_r {M : MM} {r c : Nat} {v : Int32} (h : r = 4 ∨ r = 5 ∨ r = 7 ∨ r = 14 ∨ r = 15) : kE M (mU M r c v) := ⟨rfl, fun q _ _ _ _ _ _ => mU_r (by omega), fun d _ => by rw [mU_r (by omega)]⟩
theorem DS_e {P : PL} {M M2 : MM} {s : SC} (h : DS P M 6 s) (k : kE M M2) : DS P M2 6 s := by
  refine ⟨h.1, ?_, h.2.2.1, by rw [k.2.1 6 (by omega) (by omega) (by omega) (by omega) (by omega) (by omega)]; exact h.2.2.2⟩
  unfold PD
  rw [k.2.2 3 (by omega), k.2.2 4 (by omega), k.2.1 2 (by omega) (by omega) (by omega) (by omega) (by omega) (by omega), k.2.1 3 (by omega) (by omega) (by omega) (by omega) (by omega) (by omega)]
  exact h.2.1
theorem DS_u {P : PL} {M : MM} {s : SC} {c : Nat} {v : Int32} {p : Nat} (h : DS P M p s) (hc : c ≠ 3 ∧ c ≠ 4) (hp : p ≠ 0) : DS P (mU M 0 c v) p s := by
  refine ⟨h.1, ?_, h.2.2.1, by rw [mU_r hp]; exact h.2.2.2⟩
  unfold PD
  rw [mU_0 (by omega), mU_0 (by omega), mU_r (by omega), mU_r (by omega)]
  exact h.2.1
theorem DS_v {P : PL} {M : MM} {s : SC} {r c : Nat} {v : Int32} {p : Nat} (h : DS P M p s) (hc : r ≠ 0 ∧ r ≠ 2 ∧ r ≠ 3) (hp : p ≠ r) : DS P (mU M r c v) p s := by
  refine ⟨h.1, ?_, h.2.2.1, by rw [mU_r hp]; exact h.2.2.2⟩
  unfold PD
  rw [mU_r (by omega), mU_r (by omega), mU_r (by omega)]
  exact h.2.1
