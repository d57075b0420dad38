-- the common divisor
theorem rem_i (a b : Int32) : (a - a / b * b).toInt = a.toInt.tmod b.toInt := by
  have e : (a % b).toInt = a.toInt.tmod b.toInt := Int32.toInt_mod a b
  have h1 := Int32.le_toInt (a % b)
  have h2 := Int32.toInt_lt (a % b)
  rw [Int32.toInt_sub, Int32.toInt_mul, Int32.toInt_div, Int.bmod_mul_bmod, Int.sub_bmod_bmod, Int.mul_comm (a.toInt.tdiv b.toInt), ← Int.tmod_def, ← e]
  exact Int.bmod_eq_of_le_mul_two (by omega) (by omega)
theorem i0 {b : Int32} : b.toInt.natAbs = 0 ↔ b = 0 := by
  rw [Int.natAbs_eq_zero]
  exact ⟨fun h => Int32.toInt_inj.mp (h.trans (show (0 : Int) = (0 : Int32).toInt from rfl)), fun h => by rw [h]; rfl⟩
theorem rem_a (a b : Int32) : (a - a / b * b).toInt.natAbs = a.toInt.natAbs % b.toInt.natAbs := by
  rw [rem_i]
  exact Int.natAbs_tmod _ _
def euN : Nat → Int32 → Int32 → Int32
  | 0, a, _ => a
  | n + 1, a, b => if b = 0 then a else euN n b (a - a / b * b)
theorem eu_0 (n : Nat) (a : Int32) : euN n a 0 = a := by
  cases n
  · rfl
  · exact if_pos rfl
theorem eu_s {n : Nat} {a b : Int32} (h : ¬ b = 0) : euN (n + 1) a b = euN n b (a - a / b * b) := if_neg h
theorem half {x r : Nat} (h0 : 0 < r) (h : r < x) : 2 * (x % r) < x := by
  have h1 := Nat.mod_lt x h0
  have h2 : x % r = (x - r) % r := Nat.mod_eq_sub_mod (by omega)
  have h3 : (x - r) % r ≤ x - r := Nat.mod_le _ _
  omega
theorem eu_M : ∀ (k : Nat) (a b : Int32), b.toInt.natAbs < 2 ^ k → (∀ n m, 2 * k + 1 ≤ n → 2 * k + 1 ≤ m → euN n a b = euN m a b) ∧ (∀ x y f M, 2 * k + 1 < f → q_X7_divisor_13 x y f a b M = some (euN (2 * k + 1) a b, M)) ∧ (¬ (a = 0 ∧ b = 0) → euN (2 * k + 1) a b ≠ 0) := by
  intro k
  induction k with
  | zero =>
    intro a b hb
    have b0 : b = 0 := i0.mp (by omega)
    subst b0
    refine ⟨fun n m _ _ => by rw [eu_0, eu_0], fun x y f M hf => ?_, fun h => ?_⟩
    · obtain ⟨g, rfl⟩ : ∃ g, f = g + 1 := ⟨f - 1, by omega⟩
      rw [q_X7_divisor_13, if_pos rfl, eu_0]
    · rw [eu_0]
      exact fun q => h ⟨q, rfl⟩
  | succ k ih =>
    intro a b hb
    by_cases b0 : b = 0
    · subst b0
      refine ⟨fun n m _ _ => by rw [eu_0, eu_0], fun x y f M hf => ?_, fun h => ?_⟩
      · obtain ⟨g, rfl⟩ : ∃ g, f = g + 1 := ⟨f - 1, by omega⟩
        rw [q_X7_divisor_13, if_pos rfl, eu_0]
      · rw [eu_0]
        exact fun q => h ⟨q, rfl⟩
    · have hbp : 0 < b.toInt.natAbs := Nat.pos_of_ne_zero (fun q => b0 (i0.mp q))
      by_cases r0 : a - a / b * b = 0
      · refine ⟨fun n m hn hm => ?_, fun x y f M hf => ?_, fun _ => ?_⟩
        · obtain ⟨n2, rfl⟩ : ∃ g, n = g + 1 := ⟨n - 1, by omega⟩
          obtain ⟨m2, rfl⟩ : ∃ g, m = g + 1 := ⟨m - 1, by omega⟩
          rw [eu_s b0, eu_s b0, r0, eu_0, eu_0]
        · obtain ⟨g, rfl⟩ : ∃ g, f = g + 1 + 1 := ⟨f - 2, by omega⟩
          rw [q_X7_divisor_13, if_neg b0, ogd_pos b0, q_X7_divisor_13, if_pos r0, eu_s b0, r0, eu_0]
        · rw [eu_s b0, r0, eu_0]
          exact b0
      · have hr : (a - a / b * b).toInt.natAbs = a.toInt.natAbs % b.toInt.natAbs := rem_a a b
        have hrl : (a - a / b * b).toInt.natAbs < b.toInt.natAbs := by rw [hr]; exact Nat.mod_lt _ hbp
        have hrp : 0 < (a - a / b * b).toInt.natAbs := Nat.pos_of_ne_zero (fun q => r0 (i0.mp q))
        have hh := half hrp hrl
        rw [Nat.pow_succ] at hb
        have hs := rem_a b (a - a / b * b)
        obtain ⟨i1, i2, i3⟩ := ih (a - a / b * b) (b - b / (a - a / b * b) * (a - a / b * b)) (by rw [hs]; omega)
        refine ⟨fun n m hn hm => ?_, fun x y f M hf => ?_, fun _ => ?_⟩
        · obtain ⟨n2, rfl⟩ : ∃ g, n = g + 1 + 1 := ⟨n - 2, by omega⟩
          obtain ⟨m2, rfl⟩ : ∃ g, m = g + 1 + 1 := ⟨m - 2, by omega⟩
          rw [eu_s b0, eu_s r0, eu_s b0, eu_s r0]
          exact i1 n2 m2 (by omega) (by omega)
        · obtain ⟨g, rfl⟩ : ∃ g, f = g + 1 + 1 := ⟨f - 2, by omega⟩
          rw [q_X7_divisor_13, if_neg b0, ogd_pos b0, q_X7_divisor_13, if_neg r0, ogd_pos r0, i2 _ _ _ _ (by omega), show 2 * (k + 1) + 1 = (2 * k + 1) + 1 + 1 by omega, eu_s b0, eu_s r0]
        · rw [show 2 * (k + 1) + 1 = (2 * k + 1) + 1 + 1 by omega, eu_s b0, eu_s r0]
          exact i3 (fun q => r0 q.1)
theorem eu_C (x y : Int32) (M : MM) : ∀ (d i f : Nat) (a b : Int32), i + d = 100 → d < f → q_X6_commonDivisor_7 x y f a b (nI i) M = some (euN d a b, M) := by
  intro d
  induction d with
  | zero =>
    intro i f a b hi hf
    obtain ⟨g, rfl⟩ : ∃ g, f = g + 1 := ⟨f - 1, by omega⟩
    have : i = 100 := by omega
    subst this
    rw [q_X6_commonDivisor_7, if_pos (by decide)]
    rfl
  | succ d ih =>
    intro i f a b hi hf
    obtain ⟨g, rfl⟩ : ∃ g, f = g + 1 := ⟨f - 1, by omega⟩
    rw [q_X6_commonDivisor_7, if_neg (show ¬ (100 : Int32) ≤ nI i from nge (show i < 100 by omega) (by decide))]
    by_cases b0 : b = 0
    · rw [if_pos b0, b0, eu_0]
    · rw [if_neg b0, ogd_pos b0, nI_1, ih (i + 1) g _ _ (by omega) (by omega), eu_s b0]
theorem ab31 (b : Int32) : b.toInt.natAbs < 2 ^ 32 := by
  have h1 := Int32.le_toInt b
  have h2 := Int32.toInt_lt b
  omega
-- a part of a whole
def frA (x0 x1 x2 : Int32) : Int32 := if x2 = 0 then x1 / euN 100 (if 0 ≤ x0 then x0 else 0 - x0) x1 else x0 / euN 100 (if 0 ≤ x0 then x0 else 0 - x0) x1
theorem part_C {x0 x1 : Int32} (h : ¬ x1 = 0) (x2 : Int32) (M : MM) : q_X6_partOf x0 x1 x2 M = some (frA x0 x1 x2, M) := by
  have nz : ¬ euN 100 (if 0 ≤ x0 then x0 else 0 - x0) x1 = 0 := by
    obtain ⟨e1, e2, e3⟩ := eu_M 32 (if 0 ≤ x0 then x0 else 0 - x0) x1 (ab31 _)
    rw [e1 100 (2 * 32 + 1) (by omega) (by omega)]
    exact e3 (fun q => h q.2)
  have ec : ∀ a b, q_X6_commonDivisor a b M = some (euN 100 a b, M) := fun a b => eu_C a b M 100 0 FU a b (by omega) (by show 100 < 400; omega)
  unfold q_X6_partOf
  rw [ec, obd_of rfl, if_neg nz]
  unfold frA
  by_cases z : x2 = 0
  · rw [if_pos z, ogd_pos nz, if_pos z]
  · rw [if_neg z, ogd_pos nz, if_neg z]
theorem frac_M {x0 x1 : Int32} (h : ¬ x1 = 0) (x2 : Int32) (M : MM) : q_X7_fraction x0 x1 x2 M = some (frA x0 x1 x2, M) := by
  obtain ⟨e1, e2, e3⟩ := eu_M 32 (if 0 ≤ x0 then x0 else 0 - x0) x1 (ab31 _)
  have nz : ¬ euN 100 (if 0 ≤ x0 then x0 else 0 - x0) x1 = 0 := by
    rw [e1 100 (2 * 32 + 1) (by omega) (by omega)]
    exact e3 (fun q => h q.2)
  have ed : q_X7_divisor x0 x1 M = some (euN 100 (if 0 ≤ x0 then x0 else 0 - x0) x1, M) := by
    rw [e1 100 (2 * 32 + 1) (by omega) (by omega)]
    unfold q_X7_divisor q_X7_divisor_10
    by_cases s0 : 0 ≤ x0
    · rw [if_pos s0] at e2 ⊢
      rw [if_pos s0]
      exact e2 _ _ FU M (by show 2 * 32 + 1 < 400; omega)
    · rw [if_neg s0] at e2 ⊢
      rw [if_neg s0, show -x0 = 0 - x0 by rw [Int32.sub_eq_add_neg, Int32.zero_add]]
      exact e2 _ _ FU M (by show 2 * 32 + 1 < 400; omega)
  unfold q_X7_fraction
  rw [ed, obd_of rfl]
  unfold frA
  by_cases z : x2 = 0
  · rw [if_pos z, ogd_pos nz, if_pos z]
  · rw [if_neg z, ogd_pos nz, if_neg z]
