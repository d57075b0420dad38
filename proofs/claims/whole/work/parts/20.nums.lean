-- numerals, loops, sets of bits
theorem L0 : (0 : Int32) = nI 0 := rfl
theorem L1 : (1 : Int32) = nI 1 := rfl
theorem L2 : (2 : Int32) = nI 2 := rfl
theorem L3 : (3 : Int32) = nI 3 := rfl
theorem L4 : (4 : Int32) = nI 4 := rfl
theorem L5 : (5 : Int32) = nI 5 := rfl
theorem L6 : (6 : Int32) = nI 6 := rfl
theorem L7 : (7 : Int32) = nI 7 := rfl
theorem L8 : (8 : Int32) = nI 8 := rfl
theorem L9 : (9 : Int32) = nI 9 := rfl
theorem L10 : (10 : Int32) = nI 10 := rfl
theorem L11 : (11 : Int32) = nI 11 := rfl
theorem L12 : (12 : Int32) = nI 12 := rfl
theorem L13 : (13 : Int32) = nI 13 := rfl
theorem L14 : (14 : Int32) = nI 14 := rfl
theorem L15 : (15 : Int32) = nI 15 := rfl
theorem L16 : (16 : Int32) = nI 16 := rfl
theorem L17 : (17 : Int32) = nI 17 := rfl
theorem L18 : (18 : Int32) = nI 18 := rfl
theorem L19 : (19 : Int32) = nI 19 := rfl
theorem L20 : (20 : Int32) = nI 20 := rfl
theorem L21 : (21 : Int32) = nI 21 := rfl
theorem L22 : (22 : Int32) = nI 22 := rfl
theorem L23 : (23 : Int32) = nI 23 := rfl
theorem L24 : (24 : Int32) = nI 24 := rfl
theorem L25 : (25 : Int32) = nI 25 := rfl
theorem L26 : (26 : Int32) = nI 26 := rfl
theorem L27 : (27 : Int32) = nI 27 := rfl
theorem L28 : (28 : Int32) = nI 28 := rfl
theorem L29 : (29 : Int32) = nI 29 := rfl
theorem L30 : (30 : Int32) = nI 30 := rfl
theorem L31 : (31 : Int32) = nI 31 := rfl
theorem L32 : (32 : Int32) = nI 32 := rfl
theorem L36 : (36 : Int32) = nI 36 := rfl
theorem L39 : (39 : Int32) = nI 39 := rfl
theorem L48 : (48 : Int32) = nI 48 := rfl
theorem L63 : (63 : Int32) = nI 63 := rfl
theorem L78 : (78 : Int32) = nI 78 := rfl
theorem L85 : (85 : Int32) = nI 85 := rfl
theorem L87 : (87 : Int32) = nI 87 := rfl
theorem L100 : (100 : Int32) = nI 100 := rfl
theorem L144 : (144 : Int32) = nI 144 := rfl
theorem L255 : (255 : Int32) = nI 255 := rfl
theorem L312 : (312 : Int32) = nI 312 := rfl
theorem L336 : (336 : Int32) = nI 336 := rfl
theorem L1000 : (1000 : Int32) = nI 1000 := rfl
theorem lp {α : Type} (N : Nat) (F : Nat → Nat → α) (r : α) (hN : ∀ f, F (f + 1) N = r) (hs : ∀ f j, j < N → F (f + 1) j = F f (j + 1)) : ∀ (d j f : Nat), j + d = N → d < f → F f j = r := by
  intro d
  induction d with
  | zero =>
    intro j f hj hf
    obtain ⟨g, rfl⟩ : ∃ g, f = g + 1 := ⟨f - 1, by omega⟩
    have : j = N := by omega
    subst this
    exact hN g
  | succ d ih =>
    intro j f hj hf
    obtain ⟨g, rfl⟩ : ∃ g, f = g + 1 := ⟨f - 1, by omega⟩
    rw [hs g j (by omega)]
    exact ih (j + 1) g (by omega) (by omega)
theorem lp0 {α : Type} (N : Nat) (F : Nat → Nat → α) (r : α) (h : N < 400) (hN : ∀ f, F (f + 1) N = r) (hs : ∀ f j, j < N → F (f + 1) j = F f (j + 1)) : F FU 0 = r := lp N F r hN hs N 0 FU (by omega) h
theorem nge {j n : Nat} (h : j < n) (hn : n < 2 ^ 31) : ¬ nI n ≤ nI j := nI_ge h hn
theorem ncl {j : Nat} (h : j < 2 ^ 31) : (nI j).toNatClampNeg = j := nI_clamp h
-- sets of at most six bits
def b6 (a b c d e f : Bool) : Int32 := (if a then 1 else 0) + (if b then 2 else 0) + (if c then 4 else 0) + (if d then 8 else 0) + (if e then 16 else 0) + (if f then 32 else 0)
def bs (p : Nat → Bool) : Int32 := b6 (p 0) (p 1) (p 2) (p 3) (p 4) (p 5)
theorem bs_congr {p q : Nat → Bool} (h : ∀ t, t < 6 → p t = q t) : bs p = bs q := by
  unfold bs
  rw [h 0 (by decide), h 1 (by decide), h 2 (by decide), h 3 (by decide), h 4 (by decide), h 5 (by decide)]
set_option maxRecDepth 100000 in
theorem b6_or : ∀ a b c d e f a' b' c' d' e' f' : Bool, b6 a b c d e f ||| b6 a' b' c' d' e' f' = b6 (a || a') (b || b') (c || c') (d || d') (e || e') (f || f') := by decide +kernel
set_option maxRecDepth 100000 in
theorem b6_and : ∀ a b c d e f a' b' c' d' e' f' : Bool, b6 a b c d e f &&& b6 a' b' c' d' e' f' = b6 (a && a') (b && b') (c && c') (d && d') (e && e') (f && f') := by decide +kernel
set_option maxRecDepth 100000 in
theorem b6_inj : ∀ a b c d e f a' b' c' d' e' f' : Bool, b6 a b c d e f = b6 a' b' c' d' e' f' → (a = a' ∧ b = b' ∧ c = c' ∧ d = d' ∧ e = e' ∧ f = f') := by decide +kernel
theorem bs_or (p q : Nat → Bool) : bs p ||| bs q = bs (fun t => p t || q t) := b6_or _ _ _ _ _ _ _ _ _ _ _ _
theorem bs_and (p q : Nat → Bool) : bs p &&& bs q = bs (fun t => p t && q t) := b6_and _ _ _ _ _ _ _ _ _ _ _ _
theorem bs_inj {p q : Nat → Bool} (h : bs p = bs q) : ∀ t, t < 6 → p t = q t := by
  obtain ⟨h0, h1, h2, h3, h4, h5⟩ := b6_inj _ _ _ _ _ _ _ _ _ _ _ _ h
  intro t ht
  rcases (show t = 0 ∨ t = 1 ∨ t = 2 ∨ t = 3 ∨ t = 4 ∨ t = 5 by omega) with rfl | rfl | rfl | rfl | rfl | rfl <;> assumption
theorem six {P : Nat → Prop} (h : ∀ t, t < 6 → P t) : P 0 ∧ P 1 ∧ P 2 ∧ P 3 ∧ P 4 ∧ P 5 := ⟨h 0 (by decide), h 1 (by decide), h 2 (by decide), h 3 (by decide), h 4 (by decide), h 5 (by decide)⟩
theorem b6_63 : ∀ a b c d e f : Bool, b6 a b c d e f &&& 63 = b6 a b c d e f := by decide +kernel
theorem bs_63 (p : Nat → Bool) : bs p &&& 63 = bs p := b6_63 _ _ _ _ _ _
theorem bs_0 : bs (fun _ => false) = 0 := rfl
theorem b6_hasC : ∀ a b c d e f : Bool, t_X6_has (b6 a b c d e f) 0 = a ∧ t_X6_has (b6 a b c d e f) 1 = b ∧ t_X6_has (b6 a b c d e f) 2 = c ∧ t_X6_has (b6 a b c d e f) 3 = d ∧ t_X6_has (b6 a b c d e f) 4 = e ∧ t_X6_has (b6 a b c d e f) 5 = f := by decide +kernel
theorem b6_hasM : ∀ a b c d e f : Bool, t_X7_has (b6 a b c d e f) 0 = a ∧ t_X7_has (b6 a b c d e f) 1 = b ∧ t_X7_has (b6 a b c d e f) 2 = c ∧ t_X7_has (b6 a b c d e f) 3 = d ∧ t_X7_has (b6 a b c d e f) 4 = e ∧ t_X7_has (b6 a b c d e f) 5 = f := by decide +kernel
theorem hasC (p : Nat → Bool) {t : Nat} (h : t < 6) : t_X6_has (bs p) (nI t) = p t := by
  obtain ⟨h0, h1, h2, h3, h4, h5⟩ := b6_hasC (p 0) (p 1) (p 2) (p 3) (p 4) (p 5)
  rcases (show t = 0 ∨ t = 1 ∨ t = 2 ∨ t = 3 ∨ t = 4 ∨ t = 5 by omega) with rfl | rfl | rfl | rfl | rfl | rfl <;> assumption
theorem hasM (p : Nat → Bool) {t : Nat} (h : t < 6) : t_X7_has (bs p) (nI t) = p t := by
  obtain ⟨h0, h1, h2, h3, h4, h5⟩ := b6_hasM (p 0) (p 1) (p 2) (p 3) (p 4) (p 5)
  rcases (show t = 0 ∨ t = 1 ∨ t = 2 ∨ t = 3 ∨ t = 4 ∨ t = 5 by omega) with rfl | rfl | rfl | rfl | rfl | rfl <;> assumption
theorem one_sh {t : Nat} (h : t < 6) : (1 : Int32) <<< (nI t &&& 31) = bs (fun s => s == t) := by
  rcases (show t = 0 ∨ t = 1 ∨ t = 2 ∨ t = 3 ∨ t = 4 ∨ t = 5 by omega) with rfl | rfl | rfl | rfl | rfl | rfl <;> decide
theorem one_shl {t : Nat} (h : t < 6) : (bs (fun s => s == t) <<< ((1 : Int32) &&& 31)) &&& 63 = bs (fun s => s == t + 1) := by
  rcases (show t = 0 ∨ t = 1 ∨ t = 2 ∨ t = 3 ∨ t = 4 ∨ t = 5 by omega) with rfl | rfl | rfl | rfl | rfl | rfl <;> decide
theorem one_shr {t : Nat} (h : t < 6) : (bs (fun s => s == t) >>> ((1 : Int32) &&& 31)) = bs (fun s => s + 1 == t) := by
  rcases (show t = 0 ∨ t = 1 ∨ t = 2 ∨ t = 3 ∨ t = 4 ∨ t = 5 by omega) with rfl | rfl | rfl | rfl | rfl | rfl <;> decide
theorem and_or_r (x y z : Int32) : (x ||| y) &&& z = (x &&& z) ||| (y &&& z) := by
  apply Int32.toBitVec_inj.mp
  simp only [Int32.toBitVec_and, Int32.toBitVec_or]
  apply BitVec.eq_of_getLsbD_eq
  intro i hi
  simp only [BitVec.getLsbD_and, BitVec.getLsbD_or]
  cases x.toBitVec.getLsbD i <;> cases y.toBitVec.getLsbD i <;> cases z.toBitVec.getLsbD i <;> rfl
theorem or_0 (x : Int32) : x ||| 0 = x := by
  apply Int32.toBitVec_inj.mp
  simp
theorem zero_or (x : Int32) : 0 ||| x = x := by
  apply Int32.toBitVec_inj.mp
  simp
-- counts
def cnt (p : Nat → Bool) : Nat → Nat
  | 0 => 0
  | n + 1 => cnt p n + (if p n then 1 else 0)
theorem cnt_le (p : Nat → Bool) : ∀ n, cnt p n ≤ n
  | 0 => Nat.le_refl 0
  | n + 1 => by have := cnt_le p n; unfold cnt; split <;> omega
theorem cnt_congr {p q : Nat → Bool} : ∀ {n : Nat}, (∀ j, j < n → p j = q j) → cnt p n = cnt q n
  | 0, _ => rfl
  | n + 1, h => by unfold cnt; rw [cnt_congr (fun j hj => h j (by omega)), h n (by omega)]
theorem cnt_out {p : Nat → Bool} {m : Nat} : ∀ {n : Nat}, m ≤ n → (∀ j, m ≤ j → j < n → p j = false) → cnt p n = cnt p m
  | 0, h, _ => by have : m = 0 := by omega
                  subst this; rfl
  | n + 1, h, hp => by
    by_cases e : m = n + 1
    · subst e; rfl
    · show cnt p n + (if p n then 1 else 0) = cnt p m
      rw [hp n (by omega) (by omega), cnt_out (n := n) (by omega) (fun j h1 h2 => hp j h1 (by omega))]
      rfl
theorem cnt6 (p : Nat → Bool) : cnt p 6 = (if p 0 then 1 else 0) + (if p 1 then 1 else 0) + (if p 2 then 1 else 0) + (if p 3 then 1 else 0) + (if p 4 then 1 else 0) + (if p 5 then 1 else 0) := by simp [cnt]
theorem b6_bc : ∀ a b c d e f : Bool, t_J6_bitCount_0f7a4 (b6 a b c d e f) = nI ((if a then 1 else 0) + (if b then 1 else 0) + (if c then 1 else 0) + (if d then 1 else 0) + (if e then 1 else 0) + (if f then 1 else 0)) := by decide +kernel
theorem bitC (p : Nat → Bool) : t_J6_bitCount_0f7a4 (bs p) = nI (cnt p 6) := by rw [cnt6]; exact b6_bc _ _ _ _ _ _
theorem b6_sb : ∀ a b c d e f : Bool, ((b6 a b c d e f >>> ((0 : Int32) &&& 31)) &&& 1 = if a then 1 else 0) ∧ ((b6 a b c d e f >>> ((1 : Int32) &&& 31)) &&& 1 = if b then 1 else 0) ∧ ((b6 a b c d e f >>> ((2 : Int32) &&& 31)) &&& 1 = if c then 1 else 0) ∧ ((b6 a b c d e f >>> ((3 : Int32) &&& 31)) &&& 1 = if d then 1 else 0) ∧ ((b6 a b c d e f >>> ((4 : Int32) &&& 31)) &&& 1 = if e then 1 else 0) ∧ ((b6 a b c d e f >>> ((5 : Int32) &&& 31)) &&& 1 = if f then 1 else 0) := by decide +kernel
theorem shb (p : Nat → Bool) {t : Nat} (h : t < 6) : (bs p >>> (nI t &&& 31)) &&& 1 = nI (if p t then 1 else 0) := by
  obtain ⟨h0, h1, h2, h3, h4, h5⟩ := b6_sb (p 0) (p 1) (p 2) (p 3) (p 4) (p 5)
  rcases (show t = 0 ∨ t = 1 ∨ t = 2 ∨ t = 3 ∨ t = 4 ∨ t = 5 by omega) with rfl | rfl | rfl | rfl | rfl | rfl
  · refine h0.trans ?_; split <;> rfl
  · refine h1.trans ?_; split <;> rfl
  · refine h2.trans ?_; split <;> rfl
  · refine h3.trans ?_; split <;> rfl
  · refine h4.trans ?_; split <;> rfl
  · refine h5.trans ?_; split <;> rfl
theorem manyM (p : Nat → Bool) (M : MM) : q_X7_many (bs p) M = some (nI (cnt p 6), M) := by
  unfold q_X7_many
  refine lp0 6 (fun f j => q_X7_many_4 (bs p) f (nI (cnt p j)) (nI j) M) _ (by decide) ?_ ?_
  · intro f
    rw [q_X7_many_4]
    exact if_pos (Int32.le_refl _)
  · intro f j hj
    rw [q_X7_many_4, L6, if_neg (nge hj (by decide)), shb p hj, nI_add, nI_1]
    rfl
theorem nIbs : ∀ m, m < 64 → nI m = bs (fun t => m.testBit t) := by
  intro m hm
  exact (show ∀ m, m < 64 → nI m = bs (fun t => m.testBit t) by decide +kernel) m hm
