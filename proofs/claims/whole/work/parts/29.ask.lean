-- questions: both answer the same
theorem b1n : ¬ b2i true = 0 := by decide
def TW (A B : MM) (x y : Option (Int32 × MM)) : Prop := ∃ r A2 B2, x = some (r, A2) ∧ y = some (r, B2) ∧ K 10 A A2 ∧ kE B B2
def RN (P : PL) (s : SC) (A B : MM) : Prop := CS P A 0 s ∧ DS P B 6 s
theorem TW.of {A B : MM} {x y : Option (Int32 × MM)} (r : Int32) (hx : ∃ A2, x = some (r, A2) ∧ K 10 A A2) (hy : ∃ B2, y = some (r, B2) ∧ kE B B2) : TW A B x y := by
  obtain ⟨A2, e, k⟩ := hx
  obtain ⟨B2, e2, k2⟩ := hy
  exact ⟨r, A2, B2, e, e2, k, k2⟩
theorem TW.q {A B : MM} (r : Int32) : TW A B (some (r, A)) (some (r, mU B 0 0 0)) := ⟨r, A, _, rfl, rfl, K.rfl, kE_0 (by omega)⟩
theorem z_0 {B : MM} : kE B (mU B 0 0 0) := kE_0 (by omega)
theorem z_D {P : PL} {B : MM} {s : SC} (h : DS P B 6 s) : DS P (mU B 0 0 0) 6 s := DS_u h (by omega) (by omega)
theorem inT {j : Nat} (n : Nat) {c : Int64} (hc : c = (nI n - 1).toInt64) (hn : n < 2 ^ 31) (h : j < n) : t_X7_in (nI j).toInt64 (0 : Int64) c = true := by rw [hc]; exact in_nI h hn
theorem inF {x : Int32} (n : Nat) {c : Int64} (hc : c = (nI n - 1).toInt64) (hn : n < 2 ^ 31) (h : x < 0 ∨ nI n ≤ x) : t_X7_in x.toInt64 (0 : Int64) c = false := by rw [hc]; exact in_out hn h
theorem rg_o1 {α : Type} {x : Int32} {n : Nat} {a b : α} (hn : n + 1 < 2 ^ 31) (h : x < 0 ∨ nI (n + 1) ≤ x) : (if x < 0 then a else if x ≤ nI n then b else a) = a := by
  rcases h with h | h
  · rw [if_pos h]
  · rw [if_neg (fun q => nge (show n < n + 1 by omega) hn (Int32.le_trans h q))]
    split <;> rfl
theorem rg_i1 {α : Type} {j n : Nat} {a b : α} (hn : n + 1 < 2 ^ 31) (h : j < n + 1) : (if nI j < 0 then a else if nI j ≤ nI n then b else a) = b := by
  rw [if_neg (nI_pos (by omega)), if_pos (nI_le (by omega) (by omega))]
theorem rg_o2 {α : Type} {x : Int32} {n : Nat} {a b : α} (hn : n + 1 < 2 ^ 31) (h : x < 0 ∨ nI (n + 1) ≤ x) : (if x < 0 then a else if nI n < x then a else b) = a := by
  rcases h with h | h
  · rw [if_pos h]
  · have : nI n < x := Int32.lt_of_lt_of_le (nI_lt (show n < n + 1 by omega) hn) h
    rw [if_pos this]
    split <;> rfl
theorem rg_i2 {α : Type} {j n : Nat} {a b : α} (hn : n + 1 < 2 ^ 31) (h : j < n + 1) : (if nI j < 0 then a else if nI n < nI j then a else b) = b := by
  rw [if_neg (nI_pos (by omega)), if_neg (nI_nlt (by omega) (by omega))]
theorem ch_in {c : Nat} (h : c < 2) : t_X6_isChoice (nI c) = true := by
  rcases (show c = 0 ∨ c = 1 by omega) with rfl | rfl <;> decide
theorem ch_out {x : Int32} (h : x < 0 ∨ nI 2 ≤ x) : t_X6_isChoice x = false := by
  have h0 : x ≠ 0 := by rintro rfl; revert h; decide
  have h1 : x ≠ 1 := by rintro rfl; revert h; decide
  unfold t_X6_isChoice
  rw [if_neg h0, if_neg h1]
theorem wetOf_C {P : PL} {M : MM} {i : Nat} {s : SC} (h : CS P M i s) {t : Nat} (ht : t < 6) : t_X3_wetnessOf i (nI t) M = sE s t := by
  unfold t_X3_wetnessOf
  rw [at_in ht (by decide)]
  exact h.2.2.2.2.2.2.1 t ht
theorem lastsOf_C {P : PL} {M : MM} {i : Nat} {s : SC} (h : CS P M i s) {t : Nat} (ht : t < 6) : t_X3_lastsIn i (nI t) M = nI (sL s t) := by
  unfold t_X3_lastsIn
  rw [at_in ht (by decide)]
  exact h.2.2.2.2.2.1 t ht
theorem time_C {P : PL} {M : MM} {i : Nat} {s : SC} (h : CS P M i s) : t_X3_time i M = sT s := h.2.2.2.2.2.2.2.2
theorem bits_C {P : PL} {M : MM} {i : Nat} {s : SC} (h : CS P M i s) : t_X3_openBits i M = bs (sO s) := h.2.2.2.2.1
section
variable {P : PL} {A B : MM} {s : SC}
theorem o_wet (h : RN P s A B) (x1 x2 : Int32) : TW A B (q_X6_wet x1 x2 A) (q_X7_wet x1 x2 B) := by
  unfold q_X6_wet q_X7_wet
  rcases cases_n x1 (n := 6) (by decide) with o | ⟨t, ht, rfl⟩
  · rw [is_out o, ns_out o, if_pos b2i_f, if_neg b1n]
    exact TW.q _
  · rw [is_in ht, ns_in ht, if_neg b1n, if_pos b2i_f, L20]
    rcases cases_n x2 (n := 21) (by decide) with o | ⟨n, hn, rfl⟩
    · rw [rg_o1 (by decide) o, inF 21 (by decide) (by decide) o, if_pos b2i_f]
      exact TW.q _
    · rw [rg_i1 (by decide) hn, inT 21 (by decide) (by decide) hn, if_neg b1n]
      obtain ⟨a1, a2⟩ := bg_C h.1
      obtain ⟨A2, e, a3, a4⟩ := c_hours a1 (n := n) (by omega)
      obtain ⟨B1, f, b1, b2⟩ := bg_M (z_D h.2)
      obtain ⟨B2, f2, b3, b4⟩ := m_hours b1 (n := n) (by omega)
      refine TW.of (sE (hoursS P s n) t) ⟨A2, ?_, a2.trans a4⟩ ⟨B2, ?_, z_0.trans (b2.trans b4).e⟩
      · rw [e, obd_of rfl, wetOf_C a3 ht]
      · rw [f, obd_of rfl, f2, obd_of rfl, a12, ogd_pos (ib_nI (by omega) (by decide)), ncl (by omega), b3.2.2.2.2.2.2.1 t ht]
theorem o_needs (h : RN P s A B) (x1 x2 : Int32) : TW A B (q_X6_needs x1 x2 A) (q_X7_needs x1 x2 B) := by
  unfold q_X6_needs q_X7_needs
  rw [L20]
  rcases cases_n x1 (n := 21) (by decide) with o | ⟨n, hn, rfl⟩
  · rw [rg_o2 (by decide) o, inF 21 (by decide) (by decide) o, if_pos b2i_f]
    exact TW.q _
  · rw [rg_i2 (by decide) hn, inT 21 (by decide) (by decide) hn, if_neg b1n]
    rcases cases_n x2 (n := 2) (by decide) with o | ⟨c, hc, rfl⟩
    · rw [ch_out o, inF 2 (by decide) (by decide) o, if_pos b2i_f, if_pos b2i_f]
      exact TW.q _
    · rw [ch_in hc, inT 2 (by decide) (by decide) hc, if_neg b1n, if_neg b1n]
      obtain ⟨a1, a2⟩ := bg_C h.1
      obtain ⟨A2, e, a3, a4⟩ := c_hours a1 (n := n) (by omega)
      obtain ⟨B1, f, b1, b2⟩ := bg_M (z_D h.2)
      obtain ⟨B2, f2, b3, b4⟩ := m_hours b1 (n := n) (by omega)
      refine TW.of (bs (needB P (hoursS P s n) (c + 1))) ⟨A2, ?_, a2.trans a4⟩ ⟨B2, ?_, z_0.trans (b2.trans b4).e⟩
      · rw [e, obd_of rfl]
        unfold q_X6_needs_52
        rcases (show c = 0 ∨ c = 1 by omega) with rfl | rfl
        · rw [if_pos nI_0, L1, needs_C a3 (by decide), obd_of rfl]
        · rw [if_neg (by decide), L2, needs_C a3 (by decide), obd_of rfl]
      · rw [f, obd_of rfl, f2, obd_of rfl, nI_1, needs_M b3 (by omega), obd_of rfl]
def dryA (P : PL) (s : SC) (t : Nat) : Nat → Nat → Int32
  | 0, _ => -9
  | d + 1, j => if rainB P (hoursS P s j) t then dryA P s t d (j + 1) else nI j
theorem o_dry (h : RN P s A B) (x1 : Int32) : TW A B (q_X6_dry x1 A) (q_X7_dry x1 B) := by
  unfold q_X6_dry q_X7_dry
  rcases cases_n x1 (n := 6) (by decide) with o | ⟨t, ht, rfl⟩
  · rw [is_out o, ns_out o, if_pos b2i_f, if_neg b1n]
    exact TW.q _
  · rw [is_in ht, ns_in ht, if_neg b1n, if_pos b2i_f]
    obtain ⟨a1, a2⟩ := bg_C h.1
    obtain ⟨B1, f, b1, b2⟩ := bg_M (z_D h.2)
    refine TW.of (dryA P s t 21 0) ?_ ?_
    · refine lpJ (N := 21) (fun f j M => q_X6_dry_22 (nI t) f (nI j) M) (fun j M => CS P M 1 (hoursS P s j) ∧ K 10 A M ∧ dryA P s t 21 0 = dryA P s t (21 - j) j) (fun r => ∃ A2, r = some (dryA P s t 21 0, A2) ∧ K 10 A A2) (by decide) (by decide) ⟨a1, a2, rfl⟩ ?_ ?_
      · rintro f M ⟨m1, m2, m3⟩
        refine ⟨M, ?_, m2⟩
        show q_X6_dry_22 (nI t) (f + 1) (nI 21) M = _
        rw [q_X6_dry_22, if_pos (by decide), m3]
        rfl
      · rintro f j M hj ⟨m1, m2, m3⟩
        show (∃ A2, q_X6_dry_22 (nI t) (f + 1) (nI j) M = _ ∧ _) ∨ ∃ M2, _ ∧ q_X6_dry_22 (nI t) (f + 1) (nI j) M = q_X6_dry_22 (nI t) f (nI (j + 1)) M2
        have m4 : dryA P s t (21 - j) j = (if rainB P (hoursS P s j) t then dryA P s t (21 - (j + 1)) (j + 1) else nI j) := by
          rw [show 21 - j = (21 - (j + 1)) + 1 by omega]; rfl
        rw [q_X6_dry_22, L20, if_neg (nI_nlt (by omega) (by omega)), rain_C m1, obd_of rfl, hasC _ ht]
        by_cases r : rainB P (hoursS P s j) t = true
        · right
          obtain ⟨M2, e, m5, m6⟩ := c_hour m1
          refine ⟨M2, ⟨m5, m2.trans m6, ?_⟩, ?_⟩
          · rw [m3, m4, if_pos r]
          · rw [r, if_neg b1n, e, obd_of rfl, nI_1]
        · left
          have r2 : rainB P (hoursS P s j) t = false := by simpa using r
          refine ⟨M, ?_, m2⟩
          rw [r2, if_pos b2i_f, m3, m4, if_neg r]
    · rw [f, obd_of rfl]
      refine lpJ (N := 21) (fun f j M => q_X7_dry_20 (nI t) f (nI j) M) (fun j M => DS P M 7 (hoursS P s j) ∧ K 7 (mU B 0 0 0) M ∧ dryA P s t 21 0 = dryA P s t (21 - j) j) (fun r => ∃ A2, r = some (dryA P s t 21 0, A2) ∧ kE B A2) (by decide) (by decide) ⟨b1, b2, rfl⟩ ?_ ?_
      · rintro f M ⟨m1, m2, m3⟩
        refine ⟨M, ?_, z_0.trans m2.e⟩
        show q_X7_dry_20 (nI t) (f + 1) (nI 21) M = _
        rw [q_X7_dry_20, if_pos (by decide), m3]
        rfl
      · rintro f j M hj ⟨m1, m2, m3⟩
        show (∃ A2, q_X7_dry_20 (nI t) (f + 1) (nI j) M = _ ∧ _) ∨ ∃ M2, _ ∧ q_X7_dry_20 (nI t) (f + 1) (nI j) M = q_X7_dry_20 (nI t) f (nI (j + 1)) M2
        have m4 : dryA P s t (21 - j) j = (if rainB P (hoursS P s j) t then dryA P s t (21 - (j + 1)) (j + 1) else nI j) := by
          rw [show 21 - j = (21 - (j + 1)) + 1 by omega]; rfl
        rw [q_X7_dry_20, L20, if_neg (nI_nlt (by omega) (by omega)), rain_M m1, obd_of rfl, hasM _ ht]
        by_cases r : rainB P (hoursS P s j) t = true
        · right
          obtain ⟨M2, e, m5, m6⟩ := m_hour m1
          refine ⟨M2, ⟨m5, m2.trans m6, ?_⟩, ?_⟩
          · rw [m3, m4, if_pos r]
          · rw [r, if_neg b1n, e, obd_of rfl, nI_1]
        · left
          have r2 : rainB P (hoursS P s j) t = false := by simpa using r
          refine ⟨M, ?_, z_0.trans m2.e⟩
          rw [r2, if_pos b2i_f, m3, m4, if_neg r]
end
