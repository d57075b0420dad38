-- sums over sets of walkers
def sm (f : Nat → Nat) : Nat → Nat
  | 0 => 0
  | n + 1 => sm f n + f n
theorem sm_s (f : Nat → Nat) (n : Nat) : sm f (n + 1) = sm f n + f n := rfl
theorem sm_congr {f g : Nat → Nat} : ∀ n, (∀ j, j < n → f j = g j) → sm f n = sm g n
  | 0, _ => rfl
  | n + 1, h => by rw [sm_s, sm_s, sm_congr n (fun j hj => h j (by omega)), h n (by omega)]
theorem sm_add (f : Nat → Nat) (a : Nat) : ∀ b, sm f (a + b) = sm f a + sm (fun j => f (a + j)) b
  | 0 => rfl
  | b + 1 => by rw [show a + (b + 1) = (a + b) + 1 by omega, sm_s, sm_add f a b, sm_s]; omega
theorem sm_mul (c : Nat) (f : Nat → Nat) : ∀ n, sm (fun j => c * f j) n = c * sm f n
  | 0 => rfl
  | n + 1 => by rw [sm_s, sm_mul c f n, sm_s, Nat.mul_add]
theorem sm_0 {f : Nat → Nat} : ∀ n, (∀ j, j < n → f j = 0) → sm f n = 0
  | 0, _ => rfl
  | n + 1, h => by rw [sm_s, sm_0 n (fun j hj => h j (by omega)), h n (by omega)]
theorem bit_n0 : ∀ n, n < 5 → ∀ j, j < 32 → (!decide (j < 2 ^ n) || (decide (bcN (2 ^ n + j) = bcN j + 1) && decide (bcN j ≤ n))) = true := by decide +kernel
theorem bit_n {n j : Nat} (hn : n < 5) (hj : j < 2 ^ n) : bcN (2 ^ n + j) = bcN j + 1 ∧ bcN j ≤ n := by
  have := pw5 (W := n) (by omega)
  have h := bit_n0 n hn j (by omega)
  rw [decide_eq_true hj, Bool.not_true, Bool.false_or, Bool.and_eq_true] at h
  exact ⟨of_decide_eq_true h.1, of_decide_eq_true h.2⟩
theorem bit_t0 : ∀ n, n < 5 → ∀ j, j < 32 → ∀ t, t < 6 → (!decide (j < 2 ^ n) || decide ((2 ^ n + j).testBit t = (j.testBit t || t == n))) = true := by decide +kernel
theorem bit_t {n j t : Nat} (hn : n < 5) (hj : j < 2 ^ n) (ht : t < 6) : (2 ^ n + j).testBit t = (j.testBit t || t == n) := by
  have := pw5 (W := n) (by omega)
  have h := bit_t0 n hn j (by omega) t ht
  rw [decide_eq_true hj, Bool.not_true, Bool.false_or] at h
  exact of_decide_eq_true h
section
variable (P : PL) (s : SC) (H : (Nat → Bool) → Bool) (p q : Nat)
def rwT (n : Nat) (base : Nat → Bool) (j : Nat) : Nat := if H (fun t => j.testBit t || base t) then p ^ bcN j * q ^ (n - bcN j) else 0
def cwT (m : Nat) (base : Nat → Bool) (j : Nat) : Nat := if wiB P s j && H (fun t => j.testBit t || base t) then p ^ bcN j * q ^ (m - bcN j) else 0
end
theorem wi_s {P : PL} {s : SC} {n j : Nat} (hn : n < 5) (hj : j < 2 ^ n) : wiB P s (2 ^ n + j) = (shutB P s n && wiB P s j) := by
  unfold wiB
  rw [bs_congr (q := fun t => (j.testBit t && !shutB P s t) || (t == n && !shutB P s n)) (fun t ht => by
    rw [bit_t hn hj ht]
    by_cases e : t = n
    · subst e
      rw [beq_self_eq_true]
      cases j.testBit t <;> cases shutB P s t <;> rfl
    · have e2 : (t == n) = false := by simpa using e
      rw [e2]
      cases j.testBit t <;> cases shutB P s t <;> rfl)]
  cases hs : shutB P s n with
  | true =>
    rw [Bool.true_and, bs_congr (q := fun t => j.testBit t && !shutB P s t) (fun t _ => by rw [Bool.not_true, Bool.and_false, Bool.or_false])]
  | false =>
    rw [Bool.false_and]
    refine decide_eq_false (bs_nz (t := n) (by omega) ?_)
    show ((j.testBit n && !shutB P s n) || (n == n && !false)) = true
    rw [beq_self_eq_true]
    simp
theorem wi_bc {P : PL} {s : SC} : ∀ n, n ≤ 5 → ∀ j, j < 2 ^ n → wiB P s j = true → bcN j ≤ cnt (shutB P s) n := by
  intro n
  induction n with
  | zero =>
    intro _ j hj _
    have : j = 0 := by simpa using hj
    subst this
    exact Nat.le_of_eq (show bcN 0 = 0 by decide)
  | succ n ih =>
    intro hn j hj hw
    rw [cnt_s]
    by_cases g : j < 2 ^ n
    · have := ih (by omega) j g hw
      omega
    · obtain ⟨i, rfl⟩ : ∃ i, j = 2 ^ n + i := ⟨j - 2 ^ n, by omega⟩
      have hi : i < 2 ^ n := by rw [Nat.pow_succ] at hj; omega
      rw [wi_s (by omega) hi, Bool.and_eq_true] at hw
      have := ih (by omega) i hi hw.2
      rw [(bit_n (by omega) hi).1, hw.1, if_pos rfl]
      omega
theorem rw_s {H : (Nat → Bool) → Bool} {p q : Nat} {n : Nat} (hn : n < 5) (hH : ∀ a b, (∀ t, t < 6 → a t = b t) → H a = H b) (base : Nat → Bool) : sm (rwT H p q (n + 1) base) (2 ^ (n + 1)) = q * sm (rwT H p q n base) (2 ^ n) + p * sm (rwT H p q n (fun t => t == n || base t)) (2 ^ n) := by
  rw [show 2 ^ (n + 1) = 2 ^ n + 2 ^ n by rw [Nat.pow_succ]; omega, sm_add, ← sm_mul, ← sm_mul]
  congr 1
  · refine sm_congr _ (fun j hj => ?_)
    obtain ⟨b1, b2⟩ := bit_n hn hj
    unfold rwT
    split
    · rw [show n + 1 - bcN j = (n - bcN j) + 1 by omega, Nat.pow_succ, ← Nat.mul_assoc, Nat.mul_comm q]
    · rw [Nat.mul_zero]
  · refine sm_congr _ (fun j hj => ?_)
    obtain ⟨b1, b2⟩ := bit_n hn hj
    show (if H (fun t => (2 ^ n + j).testBit t || base t) then p ^ bcN (2 ^ n + j) * q ^ (n + 1 - bcN (2 ^ n + j)) else 0) = p * (if H (fun t => j.testBit t || (t == n || base t)) then p ^ bcN j * q ^ (n - bcN j) else 0)
    rw [hH (fun t => (2 ^ n + j).testBit t || base t) (fun t => j.testBit t || (t == n || base t)) (fun t ht => by rw [bit_t hn hj ht, Bool.or_assoc]), b1]
    split
    · rw [show n + 1 - (bcN j + 1) = n - bcN j by omega, Nat.pow_succ, Nat.mul_comm (p ^ bcN j) p, Nat.mul_assoc]
    · rw [Nat.mul_zero]
theorem cw_s1 {P : PL} {s : SC} {H : (Nat → Bool) → Bool} {p q : Nat} {n : Nat} (hn : n < 5) (hH : ∀ a b, (∀ t, t < 6 → a t = b t) → H a = H b) (base : Nat → Bool) (hs : shutB P s n = true) : sm (cwT P s H p q (cnt (shutB P s) (n + 1)) base) (2 ^ (n + 1)) = q * sm (cwT P s H p q (cnt (shutB P s) n) base) (2 ^ n) + p * sm (cwT P s H p q (cnt (shutB P s) n) (fun t => t == n || base t)) (2 ^ n) := by
  rw [show 2 ^ (n + 1) = 2 ^ n + 2 ^ n by rw [Nat.pow_succ]; omega, sm_add, ← sm_mul, ← sm_mul, cnt_s, hs, if_pos rfl]
  congr 1
  · refine sm_congr _ (fun j hj => ?_)
    unfold cwT
    cases hw : wiB P s j with
    | false => rw [Bool.false_and, if_neg (by decide), if_neg (by decide), Nat.mul_zero]
    | true =>
      have hb := wi_bc n (by omega) j hj hw
      rw [Bool.true_and]
      split
      · rw [show cnt (shutB P s) n + 1 - bcN j = (cnt (shutB P s) n - bcN j) + 1 by omega, Nat.pow_succ, ← Nat.mul_assoc, Nat.mul_comm q]
      · rw [Nat.mul_zero]
  · refine sm_congr _ (fun j hj => ?_)
    obtain ⟨b1, b2⟩ := bit_n hn hj
    show (if wiB P s (2 ^ n + j) && H (fun t => (2 ^ n + j).testBit t || base t) then p ^ bcN (2 ^ n + j) * q ^ (cnt (shutB P s) n + 1 - bcN (2 ^ n + j)) else 0) = p * (if wiB P s j && H (fun t => j.testBit t || (t == n || base t)) then p ^ bcN j * q ^ (cnt (shutB P s) n - bcN j) else 0)
    rw [hH (fun t => (2 ^ n + j).testBit t || base t) (fun t => j.testBit t || (t == n || base t)) (fun t ht => by rw [bit_t hn hj ht, Bool.or_assoc]), b1, wi_s hn hj, hs, Bool.true_and]
    split
    · rw [show cnt (shutB P s) n + 1 - (bcN j + 1) = cnt (shutB P s) n - bcN j by omega, Nat.pow_succ, Nat.mul_comm (p ^ bcN j) p, Nat.mul_assoc]
    · rw [Nat.mul_zero]
theorem cw_s0 {P : PL} {s : SC} {H : (Nat → Bool) → Bool} {p q : Nat} {n : Nat} (hn : n < 5) (base : Nat → Bool) (hs : shutB P s n = false) : sm (cwT P s H p q (cnt (shutB P s) (n + 1)) base) (2 ^ (n + 1)) = sm (cwT P s H p q (cnt (shutB P s) n) base) (2 ^ n) := by
  rw [show 2 ^ (n + 1) = 2 ^ n + 2 ^ n by rw [Nat.pow_succ]; omega, sm_add, cnt_s, hs, if_neg (by decide), Nat.add_zero, sm_0 (f := fun j => cwT P s H p q (cnt (shutB P s) n) base (2 ^ n + j)) _ (fun j hj => ?_), Nat.add_zero]
  show (if wiB P s (2 ^ n + j) && H (fun t => (2 ^ n + j).testBit t || base t) then _ else 0) = 0
  rw [wi_s hn hj, hs, Bool.false_and, Bool.false_and, if_neg (by decide)]
-- the two sums
theorem two_sums {P : PL} {s : SC} {H : (Nat → Bool) → Bool} {p q : Nat} (hpq : q + p = 10) (h5 : pW P ≤ 5) (hH : ∀ a b, (∀ t, t < 6 → a t = b t) → H a = H b) (hO : ∀ a b, (∀ t, t < pW P → (a t && !sO s t) = (b t && !sO s t)) → H a = H b) : ∀ n, n ≤ pW P → ∀ base, sm (rwT H p q n base) (2 ^ n) = 10 ^ (n - cnt (shutB P s) n) * sm (cwT P s H p q (cnt (shutB P s) n) base) (2 ^ n) ∧ sm (rwT H p q n base) (2 ^ n) ≤ 10 ^ n := by
  intro n
  induction n with
  | zero =>
    intro _ base
    have e : wiB P s 0 = true := decide_eq_true (bs_z (fun t _ => by rw [Nat.zero_testBit]; rfl))
    refine ⟨?_, ?_⟩
    · show 0 + rwT H p q 0 base 0 = 1 * (0 + cwT P s H p q 0 base 0)
      unfold rwT cwT
      rw [e, Bool.true_and, show bcN 0 = 0 by decide]
      omega
    · show 0 + rwT H p q 0 base 0 ≤ 1
      unfold rwT
      rw [show bcN 0 = 0 by decide]
      split
      · exact Nat.le_of_eq (by simp)
      · omega
  | succ n ih =>
    intro hn base
    obtain ⟨i1, i2⟩ := ih (by omega) base
    obtain ⟨j1, j2⟩ := ih (by omega) (fun t => t == n || base t)
    have hc := cnt_le (shutB P s) n
    refine ⟨?_, ?_⟩
    · rw [rw_s (by omega) hH]
      cases hs : shutB P s n with
      | true =>
        rw [cw_s1 (by omega) hH base hs, i1, j1, cnt_s, hs, if_pos rfl, show n + 1 - (cnt (shutB P s) n + 1) = n - cnt (shutB P s) n by omega, Nat.mul_add, Nat.mul_left_comm q, Nat.mul_left_comm p]
      | false =>
        have ho : sO s n = true := by
          unfold shutB at hs
          rw [decide_eq_true (show n < pW P by omega), Bool.true_and] at hs
          simpa using hs
        have e : sm (rwT H p q n (fun t => t == n || base t)) (2 ^ n) = sm (rwT H p q n base) (2 ^ n) := by
          refine sm_congr _ (fun j hj => ?_)
          unfold rwT
          rw [hO (fun t => j.testBit t || (t == n || base t)) (fun t => j.testBit t || base t) (fun t ht => by
            by_cases e : t = n
            · subst e
              show ((j.testBit t || (t == t || base t)) && !sO s t) = ((j.testBit t || base t) && !sO s t)
              rw [ho, Bool.not_true, Bool.and_false, Bool.and_false]
            · have e2 : (t == n) = false := by simpa using e
              show ((j.testBit t || (t == n || base t)) && !sO s t) = ((j.testBit t || base t) && !sO s t)
              rw [e2, Bool.false_or])]
        rw [cw_s0 (by omega) base hs, e, ← Nat.add_mul, hpq, i1, cnt_s, hs, if_neg (by decide), show n + 1 - (cnt (shutB P s) n + 0) = (n - cnt (shutB P s) n) + 1 by omega, Nat.pow_succ, Nat.mul_comm (10 ^ _) 10, Nat.mul_assoc]
    · rw [rw_s (by omega) hH]
      have h1 := Nat.mul_le_mul_left q i2
      have h2 := Nat.mul_le_mul_left p j2
      have h3 : q * 10 ^ n + p * 10 ^ n = 10 ^ (n + 1) := by rw [← Nat.add_mul, hpq, Nat.pow_succ, Nat.mul_comm]
      omega
-- the divisor of numbers
theorem eu_g : ∀ (k : Nat) (a b : Nat), b < 2 ^ k → a < 2 ^ 31 → b < 2 ^ 31 → ∀ n, 2 * k + 1 ≤ n → euN n (nI a) (nI b) = nI (Nat.gcd a b) := by
  intro k
  induction k with
  | zero =>
    intro a b hb _ _ n hn
    have : b = 0 := by omega
    subst this
    rw [Nat.gcd_zero_right]
    exact eu_0 n _
  | succ k ih =>
    intro a b hb ha hb2 n hn
    rcases Nat.eq_zero_or_pos b with rfl | hbp
    · rw [Nat.gcd_zero_right]
      exact eu_0 n _
    · obtain ⟨m, rfl⟩ : ∃ g, n = g + 1 + 1 := ⟨n - 2, by omega⟩
      have hrl := Nat.mod_lt a hbp
      have e1 : Nat.gcd a b = Nat.gcd b (a % b) := by rw [Nat.gcd_comm a b, Nat.gcd_rec b a, Nat.gcd_comm]
      rw [eu_s (nI_ne0 hbp (by omega)), pk_rem ha hbp hb2, e1]
      rcases Nat.eq_zero_or_pos (a % b) with r0 | rp
      · rw [r0, Nat.gcd_zero_right]
        exact eu_0 _ _
      · have hh := half rp hrl
        have hl := Nat.mod_lt b rp
        have e2 : Nat.gcd b (a % b) = Nat.gcd (a % b) (b % (a % b)) := by rw [Nat.gcd_comm b (a % b), Nat.gcd_rec (a % b) b, Nat.gcd_comm]
        rw [Nat.pow_succ] at hb
        rw [eu_s (nI_ne0 rp (by omega)), pk_rem hb2 rp (by omega), e2]
        exact ih _ _ (by omega) (by omega) (by omega) m (by omega)
theorem frA_n {c d : Nat} (hc : c < 2 ^ 31) (hd : d < 2 ^ 31) (h0 : 0 < d) (x2 : Int32) : frA (nI c) (nI d) x2 = if x2 = 0 then nI (d / Nat.gcd c d) else nI (c / Nat.gcd c d) := by
  have g0 : 0 < Nat.gcd c d := Nat.gcd_pos_of_pos_right _ h0
  have gl : Nat.gcd c d ≤ d := Nat.le_of_dvd h0 (Nat.gcd_dvd_right _ _)
  unfold frA
  rw [if_pos (nI_pos' (by omega)), eu_g 31 c d (by omega) hc hd 100 (by omega), pk_div hd g0 (by omega), pk_div hc g0 (by omega)]
theorem frA_k {c d k : Nat} (hk : 0 < k) (h0 : 0 < d) (hc : k * c < 2 ^ 31) (hd : k * d < 2 ^ 31) (x2 : Int32) : frA (nI (k * c)) (nI (k * d)) x2 = frA (nI c) (nI d) x2 := by
  have c1 : c ≤ k * c := Nat.le_mul_of_pos_left _ hk
  have d1 : d ≤ k * d := Nat.le_mul_of_pos_left _ hk
  rw [frA_n hc hd (Nat.mul_pos hk h0), frA_n (by omega) (by omega) h0, Nat.gcd_mul_left, Nat.mul_div_mul_left _ _ hk, Nat.mul_div_mul_left _ _ hk]
