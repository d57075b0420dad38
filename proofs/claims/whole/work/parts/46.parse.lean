-- the text of a town
abbrev TS : Type := (Nat → Nat) × PL
def fg (b : Nat → Int32) (k : Nat) (lo hi : Int32) : Bool := !decide (b k - 48 < lo) && !decide (hi < b k - 48)
def fnB (b : Nat → Int32) (k : Nat) : Nat := (b k - 48).toNatClampNeg
def loB (b : Nat → Int32) (k : Nat) : Int32 := if b k - 48 = 1 then 1 else 0
def tkW (b : Nat → Int32) (n k : Nat) : Nat := if k + 1 < n ∧ fg b (k + 1) 0 5 = true then (if k + 2 < n ∧ fg b (k + 2) 0 3 = true then 3 else 2) else 1
def tkN (b : Nat → Int32) (n k : Nat) : Nat := if k + 1 < n ∧ fg b (k + 1) 0 5 = true then (if k + 2 < n ∧ fg b (k + 2) 0 2 = true then (if k + 3 < n ∧ fg b (k + 3) (loB b (k + 2)) 9 = true then 4 else 3) else 2) else 1
def adW (b : Nat → Int32) (k : Nat) (st : TS) : TS := (upN st.1 (pW st.2) (fnB b (k + 1)), pW st.2 + 1, pN st.2, upN (pS st.2) (pW st.2) (fnB b (k + 2)), pR st.2, pT st.2, pH st.2)
def adN (b : Nat → Int32) (k : Nat) (st : TS) : TS := (st.1, pW st.2, pN st.2 + 1, pS st.2, upN (pR st.2) (pN st.2) (fnB b (k + 1)), upN (pT st.2) (pN st.2) (fnB b (k + 2)), upN (pH st.2) (pN st.2) (fnB b (k + 3)))
def prs (b : Nat → Int32) (n : Nat) : Nat → Nat → TS → Int32 × TS
  | 0, _, st => (-9, st)
  | d + 1, k, st => if n ≤ k then (-9, st) else if b k = 87 ∧ pW st.2 < 5 then (if tkW b n k = 3 then prs b n d (k + 3) (adW b k st) else (nI (k + tkW b n k), st)) else if b k = 78 ∧ pN st.2 < 5 then (if tkN b n k = 4 then prs b n d (k + 4) (adN b k st) else (nI (k + tkN b n k), st)) else (nI k, st)
theorem prs_s (b : Nat → Int32) (n d k : Nat) (st : TS) : prs b n (d + 1) k st = if n ≤ k then (-9, st) else if b k = 87 ∧ pW st.2 < 5 then (if tkW b n k = 3 then prs b n d (k + 3) (adW b k st) else (nI (k + tkW b n k), st)) else if b k = 78 ∧ pN st.2 < 5 then (if tkN b n k = 4 then prs b n d (k + 4) (adN b k st) else (nI (k + tkN b n k), st)) else (nI k, st) := rfl
theorem fg_67 (b : Nat → Int32) (k : Nat) (lo hi hi2 : Int32) (h : hi2.toInt = hi.toInt + 1) (x1 x2 : Int32) (M : MM) : t_X4_isFitting_67 x1 x2 (b k - 48) lo hi2 M = fg b k lo hi := by
  unfold t_X4_isFitting_67 fg
  by_cases g : b k - 48 < lo
  · rw [if_pos g, decide_eq_true g]; rfl
  · rw [if_neg g, decide_eq_false g]
    by_cases g2 : hi2 ≤ b k - 48
    · have : hi < b k - 48 := by
        rw [Int32.le_iff_toInt_le] at g2
        rw [Int32.lt_iff_toInt_lt]
        omega
      rw [if_pos g2, decide_eq_true this]; rfl
    · have : ¬ hi < b k - 48 := by
        rw [Int32.le_iff_toInt_le] at g2
        rw [Int32.lt_iff_toInt_lt]
        omega
      rw [if_neg g2, decide_eq_false this]; rfl
section
variable {A : MM} {b : Nat → Int32} {n : Nat}
def TA (A : MM) (b : Nat → Int32) (n : Nat) : Prop := n ≤ 48 ∧ A.1 0 0 = nI n ∧ ∀ j, j < n → A.1 1 j = b j
theorem by_C (h : TA A b n) {k : Nat} (hk : k < n) : t_X4_byteAt (nI k) A = b k := by
  have := h.1
  unfold t_X4_byteAt
  rw [at_in (show k < 48 by omega) (by decide), Nat.zero_add, h.2.2 k hk]
theorem fi_C (h : TA A b n) {k : Nat} (hk : k < n) : t_X4_figureAt (nI k) A = b k - 48 := by
  unfold t_X4_figureAt
  rw [by_C h hk]
theorem fit1 (h : TA A b n) {k : Nat} (hk : k + 1 < n) : t_X4_isFitting (nI k) (nI (k + 1) - nI k) A = fg b (k + 1) 0 5 := by
  have := h.1
  unfold t_X4_isFitting
  rw [pk_sub (by omega), show k + 1 - k = 1 by omega, if_neg (show ¬ nI 1 = (2 : Int32) by decide), if_neg (show ¬ nI 1 = (3 : Int32) by decide), nI_add, fi_C h hk]
  exact fg_67 b (k + 1) 0 5 6 (by decide) _ _ _
theorem fit2 (h : TA A b n) {k : Nat} (hk : k + 2 < n) : t_X4_isFitting (nI k) (nI (k + 2) - nI k) A = fg b (k + 2) 0 (if b k = 87 then 3 else 2) := by
  have := h.1
  unfold t_X4_isFitting
  rw [pk_sub (by omega), show k + 2 - k = 2 by omega, if_pos (show nI 2 = (2 : Int32) by decide), by_C h (show k < n by omega), nI_add, fi_C h hk]
  by_cases g : b k = 87
  · rw [if_pos g, if_pos g]
    exact fg_67 b (k + 2) 0 3 4 (by decide) _ _ _
  · rw [if_neg g, if_neg g]
    exact fg_67 b (k + 2) 0 2 3 (by decide) _ _ _
theorem fit3 (h : TA A b n) {k : Nat} (hk : k + 3 < n) : t_X4_isFitting (nI k) (nI (k + 3) - nI k) A = fg b (k + 3) (loB b (k + 2)) 9 := by
  have := h.1
  unfold t_X4_isFitting
  rw [pk_sub (by omega), show k + 3 - k = 3 by omega, if_neg (show ¬ nI 3 = (2 : Int32) by decide), if_pos (show nI 3 = (3 : Int32) by decide), p2, fi_C h (show k + 2 < n by omega), nI_add, fi_C h hk]
  unfold loB
  by_cases g : b (k + 2) - 48 = 1
  · rw [if_pos g, if_pos g]
    exact fg_67 b (k + 3) 1 9 10 (by decide) _ _ _
  · rw [if_neg g, if_neg g]
    exact fg_67 b (k + 3) 0 9 10 (by decide) _ _ _
-- one step of the class inside a thing
theorem st_C (h : TA A b n) {w m v3 : Int32} {i e : Nat} (hi : i ≤ n) (he : i < e) (he2 : e < 100) (fit : Bool) (hf : i < n → t_X4_isFitting v3 (nI i - v3) A = fit) (f : Nat) : q_X4_firstFault_31 (f + 1) w m v3 (nI e) (nI i) A = if i < n ∧ fit = true then q_X4_firstFault_31 f w m v3 (nI e) (nI (i + 1)) A else some (nI i, A) := by
  have h48 := h.1
  rw [q_X4_firstFault_31, h.2.1]
  by_cases g : i < n
  · rw [if_neg (nge g (by omega)), if_neg (fun q => by have := (nI_eq (by omega) (by omega)).mp q; omega), hf g]
    cases fit with
    | true => rw [if_neg b1n, if_pos ⟨g, rfl⟩, q_X4_firstFault_168, nI_1]
    | false => rw [if_pos b2i_f, if_neg (fun q => absurd q.2 (by decide))]
  · have : i = n := by omega
    subst this
    rw [if_pos (Int32.le_refl _), if_neg (fun q => by have := (nI_eq (by omega) (by omega)).mp q; omega), if_neg (fun q => g q.1)]
theorem th_W (h : TA A b n) {w m k : Nat} (hw : w ≤ 5) (hm : m ≤ 5) (hk : k < n) (hb : b k = 87) (v3 : Int32) (f : Nat) : q_X4_firstFault_31 (f + 1) (nI w) (nI m) v3 (nI k) (nI k) A = if w < 5 then q_X4_firstFault_31 f (nI (w + 1)) (nI m) (nI k) (nI (k + 3)) (nI (k + 1)) A else some (nI k, A) := by
  have h48 := h.1
  rw [q_X4_firstFault_31, h.2.1, if_neg (nge hk (by omega)), if_pos rfl, by_C h hk, hb, if_pos rfl, q_X4_firstFault_63, by_C h hk, hb, if_neg (by decide), q_X4_firstFault_81, if_neg (by decide), q_X4_firstFault_94, if_pos rfl, q_X4_firstFault_107, if_neg (by decide), q_X4_firstFault_119, nI_1, show nI m + (0 : Int32) = nI m from nI_add m 0]
  by_cases g : w < 5
  · rw [if_pos g, if_neg (show ¬ (5 : Int32) < nI (w + 1) from nI_nlt (a := 5) (by omega) (by omega)), if_pos (show nI m ≤ (5 : Int32) from nI_le (b := 5) hm (by omega)), if_neg (by decide), q_X4_firstFault_147, q_X4_firstFault_168, nI_1, p3]
  · rw [if_neg g, if_pos (show (5 : Int32) < nI (w + 1) from nI_lt (a := 5) (by omega) (by omega))]
theorem th_N (h : TA A b n) {w m k : Nat} (hw : w ≤ 5) (hm : m ≤ 5) (hk : k < n) (hb : b k = 78) (v3 : Int32) (f : Nat) : q_X4_firstFault_31 (f + 1) (nI w) (nI m) v3 (nI k) (nI k) A = if m < 5 then q_X4_firstFault_31 f (nI w) (nI (m + 1)) (nI k) (nI (k + 4)) (nI (k + 1)) A else some (nI k, A) := by
  have h48 := h.1
  rw [q_X4_firstFault_31, h.2.1, if_neg (nge hk (by omega)), if_pos rfl, by_C h hk, hb, if_neg (by decide), q_X4_firstFault_63, by_C h hk, hb, if_pos rfl, q_X4_firstFault_81, if_pos rfl, q_X4_firstFault_94, if_neg (by decide), q_X4_firstFault_107, if_pos rfl, if_neg (by decide), q_X4_firstFault_119, nI_1, show nI w + (0 : Int32) = nI w from nI_add w 0, if_neg (show ¬ (5 : Int32) < nI w from nI_nlt (a := 5) hw (by omega))]
  by_cases g : m < 5
  · rw [if_pos g, if_pos (show nI (m + 1) ≤ (5 : Int32) from nI_le (b := 5) (by omega) (by omega)), if_pos rfl, q_X4_firstFault_147, q_X4_firstFault_168, nI_1, show nI k + (4 : Int32) = nI (k + 4) from nI_add k 4]
  · rw [if_neg g, if_neg (show ¬ nI (m + 1) ≤ (5 : Int32) from nge (j := 5) (by omega) (by omega))]
theorem th_O (h : TA A b n) {w m : Int32} {k : Nat} (hk : k < n) (h1 : ¬ b k = 87) (h2 : ¬ b k = 78) (v3 : Int32) (f : Nat) : q_X4_firstFault_31 (f + 1) w m v3 (nI k) (nI k) A = some (nI k, A) := by
  have h48 := h.1
  rw [q_X4_firstFault_31, h.2.1, if_neg (nge hk (by omega)), if_pos rfl, by_C h hk, if_neg h1, q_X4_firstFault_63, by_C h hk, if_neg h2, q_X4_firstFault_81, if_pos rfl, q_X4_firstFault_94, if_pos rfl, q_X4_firstFault_107, if_pos rfl, if_pos rfl]
theorem prs_C (h : TA A b n) : ∀ (d k : Nat) (st : TS) (v3 : Int32) (f : Nat), k ≤ n → n < k + d → n < k + f → pW st.2 ≤ 5 → pN st.2 ≤ 5 → q_X4_firstFault_31 f (nI (pW st.2)) (nI (pN st.2)) v3 (nI k) (nI k) A = some ((prs b n d k st).1, A) := by
  have h48 := h.1
  intro d
  induction d with
  | zero => intro k st v3 f hk hd; omega
  | succ d ih =>
    intro k st v3 f hk hd hf hw hm
    obtain ⟨f, rfl⟩ : ∃ g, f = g + 1 := ⟨f - 1, by omega⟩
    rw [prs_s]
    by_cases g : n ≤ k
    · have : k = n := by omega
      subst this
      rw [if_pos g, q_X4_firstFault_31, h.2.1, if_pos (Int32.le_refl _), if_pos rfl]
    · rw [if_neg g]
      by_cases bw : b k = 87
      · rw [th_W h hw hm (by omega) bw]
        by_cases w5 : pW st.2 < 5
        · rw [if_pos w5, if_pos ⟨bw, w5⟩]
          obtain ⟨f, rfl⟩ : ∃ g, f = g + 1 := ⟨f - 1, by omega⟩
          rw [st_C h (show k + 1 ≤ n by omega) (by omega) (by omega) _ (fun q => fit1 h q)]
          unfold tkW
          by_cases c1 : k + 1 < n ∧ fg b (k + 1) 0 5 = true
          · rw [if_pos c1, if_pos c1]
            obtain ⟨f, rfl⟩ : ∃ g, f = g + 1 := ⟨f - 1, by omega⟩
            rw [st_C h (show k + 1 + 1 ≤ n by omega) (by omega) (by omega) _ (fun q => fit2 h q), if_pos bw]
            by_cases c2 : k + 2 < n ∧ fg b (k + 2) 0 3 = true
            · rw [if_pos (show k + 1 + 1 < n ∧ fg b (k + 2) 0 3 = true from c2), if_pos c2, if_pos rfl]
              exact ih (k + 3) (adW b k st) _ f (by omega) (by omega) (by omega) (by show pW st.2 + 1 ≤ 5; omega) hm
            · rw [if_neg (show ¬ (k + 1 + 1 < n ∧ fg b (k + 2) 0 3 = true) from c2), if_neg c2, if_neg (by decide)]
          · rw [if_neg c1, if_neg c1, if_neg (by decide)]
        · rw [if_neg w5, if_neg (fun q => w5 q.2), if_neg (fun q => by rw [bw] at q; exact absurd q.1 (by decide))]
      · rw [if_neg (fun q => bw q.1)]
        by_cases bn : b k = 78
        · rw [th_N h hw hm (by omega) bn]
          by_cases n5 : pN st.2 < 5
          · rw [if_pos n5, if_pos ⟨bn, n5⟩]
            obtain ⟨f, rfl⟩ : ∃ g, f = g + 1 := ⟨f - 1, by omega⟩
            rw [st_C h (show k + 1 ≤ n by omega) (by omega) (by omega) _ (fun q => fit1 h q)]
            unfold tkN
            by_cases c1 : k + 1 < n ∧ fg b (k + 1) 0 5 = true
            · rw [if_pos c1, if_pos c1]
              obtain ⟨f, rfl⟩ : ∃ g, f = g + 1 := ⟨f - 1, by omega⟩
              rw [st_C h (show k + 1 + 1 ≤ n by omega) (by omega) (by omega) _ (fun q => fit2 h q), if_neg bw]
              by_cases c2 : k + 2 < n ∧ fg b (k + 2) 0 2 = true
              · rw [if_pos (show k + 1 + 1 < n ∧ fg b (k + 2) 0 2 = true from c2), if_pos c2]
                obtain ⟨f, rfl⟩ : ∃ g, f = g + 1 := ⟨f - 1, by omega⟩
                rw [st_C h (show k + 1 + 1 + 1 ≤ n by omega) (by omega) (by omega) _ (fun q => fit3 h q)]
                by_cases c3 : k + 3 < n ∧ fg b (k + 3) (loB b (k + 2)) 9 = true
                · rw [if_pos (show k + 1 + 1 + 1 < n ∧ fg b (k + 3) (loB b (k + 2)) 9 = true from c3), if_pos c3, if_pos rfl]
                  exact ih (k + 4) (adN b k st) _ f (by omega) (by omega) (by omega) hw (by show pN st.2 + 1 ≤ 5; omega)
                · rw [if_neg (show ¬ (k + 1 + 1 + 1 < n ∧ fg b (k + 3) (loB b (k + 2)) 9 = true) from c3), if_neg c3, if_neg (by decide)]
              · rw [if_neg (show ¬ (k + 1 + 1 < n ∧ fg b (k + 2) 0 2 = true) from c2), if_neg c2, if_neg (by decide)]
            · rw [if_neg c1, if_neg c1, if_neg (by decide)]
          · rw [if_neg n5, if_neg (fun q => n5 q.2)]
        · rw [if_neg (fun q => bn q.1), th_O h (by omega) bw bn]
def ts0 : TS := (fun _ => 0, 0, 0, fun _ => 0, fun _ => 0, fun _ => 0, fun _ => 0)
def paR (b : Nat → Int32) (n : Nat) : Int32 × TS := if n = 0 then (0, ts0) else if b 0 = 85 then prs b n 50 1 ts0 else (0, ts0)
theorem fault_C (h : TA A b n) : q_X4_firstFault A = some ((paR b n).1, A) := by
  have h48 := h.1
  unfold q_X4_firstFault paR
  rw [h.2.1]
  by_cases n0 : n = 0
  · subst n0
    rw [if_pos nI_0, if_pos rfl]
  · rw [if_neg (nI_ne0 (by omega) (by omega)), if_neg n0, show t_X4_byteAt 0 A = b 0 from by_C (k := 0) h (by omega)]
    by_cases u : b 0 = 85
    · rw [if_pos u, if_pos u]
      exact prs_C h 50 1 ts0 _ FU (by omega) (by omega) (by show n < 1 + 400; omega) (by decide) (by decide)
    · rw [if_neg u, if_neg u]
end
