-- a new town
def DC (A : MM) (st : TS) : Prop := A.1 0 1 = nI (pW st.2) ∧ A.1 0 2 = nI (pN st.2) ∧ (∀ w, w < pW st.2 → A.1 2 w = nI (st.1 w) ∧ A.1 3 w = nI (pS st.2 w)) ∧ ∀ k, k < pN st.2 → A.1 4 k = nI (pR st.2 k) ∧ A.1 5 k = nI (pT st.2 k) ∧ A.1 6 k = nI (pH st.2 k)
def KC (A A2 : MM) : Prop := A2.2 = A.2 ∧ (∀ q, q = 1 ∨ 7 ≤ q → A2.1 q = A.1 q) ∧ ∀ c, c ≠ 1 → c ≠ 2 → A2.1 0 c = A.1 0 c
theorem KC.rfl {A : MM} : KC A A := ⟨Eq.refl _, fun _ _ => Eq.refl _, fun _ _ _ => Eq.refl _⟩
theorem KC.trans {A B C : MM} (h : KC A B) (g : KC B C) : KC A C := ⟨g.1.trans h.1, fun q hq => (g.2.1 q hq).trans (h.2.1 q hq), fun c a b => (g.2.2 c a b).trans (h.2.2 c a b)⟩
theorem KC_r {A : MM} {r c : Nat} {v : Int32} (h : 2 ≤ r ∧ r < 7) : KC A (mU A r c v) := ⟨rfl, fun q hq => mU_r (by omega), fun d _ _ => by rw [mU_r (by omega)]⟩
theorem KC_0 {A : MM} {c : Nat} {v : Int32} (h : c = 1 ∨ c = 2) : KC A (mU A 0 c v) := ⟨rfl, fun q hq => mU_r (by omega), fun d a b => mU_0 (by omega)⟩
theorem TA_k {A A2 : MM} {b : Nat → Int32} {n : Nat} (h : TA A b n) (k : KC A A2) : TA A2 b n := ⟨h.1, (k.2.2 0 (by omega) (by omega)).trans h.2.1, fun j hj => by rw [k.2.1 1 (by omega)]; exact h.2.2 j hj⟩
theorem dg {b : Nat → Int32} {k : Nat} {lo hi : Int32} {m : Nat} (hm : m ≤ 9) (hh : hi = nI m) (h0 : 0 ≤ lo) (h : fg b k lo hi = true) : ¬ b k = 87 ∧ ¬ b k = 78 := by
  subst hh
  obtain ⟨e, _, _⟩ := fg_n h0 h
  have l := fg_le (by omega) h0 h
  refine ⟨fun q => ?_, fun q => ?_⟩
  · rw [q] at e
    have := (nI_eq (a := 39) (by decide) (by omega)).mp (show nI 39 = nI (fnB b k) from e)
    omega
  · rw [q] at e
    have := (nI_eq (a := 30) (by decide) (by omega)).mp (show nI 30 = nI (fnB b k) from e)
    omega
section
variable {A : MM} {b : Nat → Int32} {n : Nat}
theorem rf_O (h : TA A b n) {k : Nat} (hk : k < n) (h1 : ¬ b k = 87 ∧ ¬ b k = 78) (f : Nat) : q_X2_readFrom_12 (f + 1) (nI k) A = q_X2_readFrom_12 f (nI (k + 1)) A := by
  have h48 := h.1
  rw [q_X2_readFrom_12, show t_X4_length A = A.1 0 0 from rfl, h.2.1, if_neg (nge hk (by omega)), by_C h hk, if_neg h1.1, if_neg h1.2, q_X2_readFrom_153, nI_1]
theorem put5 {r c : Nat} {v : Int32} (hc : c < 5) (M : MM) : t_put r 0 5 (nI c) v M = mU M r c v := by
  unfold t_put
  rw [if_pos (ib_nI hc (by decide)), ncl (by omega), Nat.zero_add]
theorem rf_W (h : TA A b n) {st : TS} (hd : DC A st) {k : Nat} (hk : k + 2 < n) (hb : b k = 87) (hw : pW st.2 < 5) (t1 : fg b (k + 1) 0 5 = true) (t2 : fg b (k + 2) 0 3 = true) (f : Nat) : ∃ A2, q_X2_readFrom_12 (f + 1) (nI k) A = q_X2_readFrom_12 f (nI (k + 1)) A2 ∧ KC A A2 ∧ DC A2 (adW b k st) := by
  have h48 := h.1
  obtain ⟨e1, _, _⟩ := fg_n (by decide) t1
  obtain ⟨e2, _, _⟩ := fg_n (by decide) t2
  have k1 : KC A (mU A 2 (pW st.2) (nI (fnB b (k + 1)))) := KC_r (by omega)
  have k2 : KC (mU A 2 (pW st.2) (nI (fnB b (k + 1)))) (mU (mU A 2 (pW st.2) (nI (fnB b (k + 1)))) 3 (pW st.2) (nI (fnB b (k + 2)))) := KC_r (by omega)
  refine ⟨mU (mU (mU A 2 (pW st.2) (nI (fnB b (k + 1)))) 3 (pW st.2) (nI (fnB b (k + 2)))) 0 1 (nI (pW st.2 + 1)), ?_, k1.trans (k2.trans (KC_0 (by omega))), mU_at, ?_, fun w hw2 => ?_, fun j hj => ?_⟩
  · rw [q_X2_readFrom_12, show t_X4_length A = A.1 0 0 from rfl, h.2.1, if_neg (nge (show k < n by omega) (by omega)), by_C h (show k < n by omega), if_pos hb, hd.1, nI_1, fi_C h (show k + 1 < n by omega), put5 hw, e1, mU_r (M := A) (r := 2) (by omega), hd.1, p2, fi_C (TA_k h k1) hk, put5 hw, e2, mU_r (M := mU A 2 _ _) (r := 3) (by omega), mU_r (M := A) (r := 2) (by omega), hd.1, nI_1, q_X2_readFrom_153, nI_1]
  · rw [mU_0 (by omega), mU_r (by omega), mU_r (by omega)]
    exact hd.2.1
  · have hw2 : w < pW st.2 + 1 := hw2
    show _ = nI (upN st.1 (pW st.2) (fnB b (k + 1)) w) ∧ _ = nI (upN (pS st.2) (pW st.2) (fnB b (k + 2)) w)
    unfold upN
    by_cases e : w = pW st.2
    · subst e
      rw [if_pos rfl, if_pos rfl]
      refine ⟨?_, ?_⟩
      · rw [mU_r (by omega), mU_r (by omega), mU_at]
      · rw [mU_r (by omega), mU_at]
    · rw [if_neg e, if_neg e]
      obtain ⟨z1, z2⟩ := hd.2.2.1 w (by omega)
      refine ⟨?_, ?_⟩
      · rw [mU_r (by omega), mU_r (by omega), mU_nc e]; exact z1
      · rw [mU_r (by omega), mU_nc e, mU_r (by omega)]; exact z2
  · obtain ⟨z1, z2, z3⟩ := hd.2.2.2 j hj
    refine ⟨?_, ?_, ?_⟩
    · rw [mU_r (by omega), mU_r (by omega), mU_r (by omega)]; exact z1
    · rw [mU_r (by omega), mU_r (by omega), mU_r (by omega)]; exact z2
    · rw [mU_r (by omega), mU_r (by omega), mU_r (by omega)]; exact z3
theorem rf_N (h : TA A b n) {st : TS} (hd : DC A st) {k : Nat} (hk : k + 3 < n) (hb : b k = 78) (hw : pN st.2 < 5) (t1 : fg b (k + 1) 0 5 = true) (t2 : fg b (k + 2) 0 2 = true) (t3 : fg b (k + 3) (loB b (k + 2)) 9 = true) (f : Nat) : ∃ A2, q_X2_readFrom_12 (f + 1) (nI k) A = q_X2_readFrom_12 f (nI (k + 1)) A2 ∧ KC A A2 ∧ DC A2 (adN b k st) := by
  have h48 := h.1
  obtain ⟨e1, _, _⟩ := fg_n (by decide) t1
  obtain ⟨e2, _, _⟩ := fg_n (by decide) t2
  obtain ⟨e3, _, _⟩ := fg_n (lo0 _ _) t3
  have k1 : KC A (mU A 4 (pN st.2) (nI (fnB b (k + 1)))) := KC_r (by omega)
  have k2 : KC (mU A 4 (pN st.2) (nI (fnB b (k + 1)))) (mU (mU A 4 (pN st.2) (nI (fnB b (k + 1)))) 5 (pN st.2) (nI (fnB b (k + 2)))) := KC_r (by omega)
  have k3 : KC (mU (mU A 4 (pN st.2) (nI (fnB b (k + 1)))) 5 (pN st.2) (nI (fnB b (k + 2)))) (mU (mU (mU A 4 (pN st.2) (nI (fnB b (k + 1)))) 5 (pN st.2) (nI (fnB b (k + 2)))) 6 (pN st.2) (nI (fnB b (k + 3)))) := KC_r (by omega)
  refine ⟨mU (mU (mU (mU A 4 (pN st.2) (nI (fnB b (k + 1)))) 5 (pN st.2) (nI (fnB b (k + 2)))) 6 (pN st.2) (nI (fnB b (k + 3)))) 0 2 (nI (pN st.2 + 1)), ?_, k1.trans (k2.trans (k3.trans (KC_0 (by omega)))), ?_, mU_at, fun w hw2 => ?_, fun j hj => ?_⟩
  · rw [q_X2_readFrom_12, show t_X4_length A = A.1 0 0 from rfl, h.2.1, if_neg (nge (show k < n by omega) (by omega)), by_C h (show k < n by omega), if_neg (show ¬ b k = 87 by rw [hb]; decide), if_pos hb, hd.2.1, nI_1, fi_C h (show k + 1 < n by omega), put5 hw, e1, mU_r (M := A) (r := 4) (by omega), hd.2.1, p2, fi_C (TA_k h k1) (show k + 2 < n by omega), put5 hw, e2, mU_r (M := mU A 4 _ _) (r := 5) (by omega), mU_r (M := A) (r := 4) (by omega), hd.2.1, p3, fi_C (TA_k h (k1.trans k2)) hk, put5 hw, e3, mU_r (M := mU (mU A 4 _ _) 5 _ _) (r := 6) (by omega), mU_r (M := mU A 4 _ _) (r := 5) (by omega), mU_r (M := A) (r := 4) (by omega), hd.2.1, nI_1, q_X2_readFrom_153, nI_1]
  · rw [mU_0 (by omega), mU_r (by omega), mU_r (by omega), mU_r (by omega)]
    exact hd.1
  · obtain ⟨z1, z2⟩ := hd.2.2.1 w hw2
    refine ⟨?_, ?_⟩
    · rw [mU_r (by omega), mU_r (by omega), mU_r (by omega), mU_r (by omega)]; exact z1
    · rw [mU_r (by omega), mU_r (by omega), mU_r (by omega), mU_r (by omega)]; exact z2
  · have hj : j < pN st.2 + 1 := hj
    show _ = nI (upN (pR st.2) (pN st.2) (fnB b (k + 1)) j) ∧ _ = nI (upN (pT st.2) (pN st.2) (fnB b (k + 2)) j) ∧ _ = nI (upN (pH st.2) (pN st.2) (fnB b (k + 3)) j)
    unfold upN
    by_cases e : j = pN st.2
    · subst e
      rw [if_pos rfl, if_pos rfl, if_pos rfl]
      refine ⟨?_, ?_, ?_⟩
      · rw [mU_r (by omega), mU_r (by omega), mU_r (by omega), mU_at]
      · rw [mU_r (by omega), mU_r (by omega), mU_at]
      · rw [mU_r (by omega), mU_at]
    · rw [if_neg e, if_neg e, if_neg e]
      obtain ⟨z1, z2, z3⟩ := hd.2.2.2 j (by omega)
      refine ⟨?_, ?_, ?_⟩
      · rw [mU_r (by omega), mU_r (by omega), mU_r (by omega), mU_nc e]; exact z1
      · rw [mU_r (by omega), mU_r (by omega), mU_nc e, mU_r (by omega)]; exact z2
      · rw [mU_r (by omega), mU_nc e, mU_r (by omega), mU_r (by omega)]; exact z3
end
theorem rf_C {b : Nat → Int32} {n : Nat} : ∀ (d k : Nat) (st : TS) (f : Nat) (A : MM), TA A b n → DC A st → k ≤ n → n < k + d → n < k + f → WT st → (prs b n d k st).1 = -9 → ∃ A2, q_X2_readFrom_12 f (nI k) A = some ((), A2) ∧ KC A A2 ∧ DC A2 (prs b n d k st).2 := by
  intro d
  induction d with
  | zero => intro k st f A _ _ hk hd; omega
  | succ d ih =>
    intro k st f A hA hD hk hd hf hW
    have h48 := hA.1
    rw [prs_s]
    by_cases g : n ≤ k
    · obtain ⟨f, rfl⟩ : ∃ g, f = g + 1 := ⟨f - 1, by omega⟩
      rw [if_pos g, q_X2_readFrom_12, show t_X4_length A = A.1 0 0 from rfl, hA.2.1, if_pos (nI_le g (by omega))]
      exact fun _ => ⟨A, rfl, KC.rfl, hD⟩
    · rw [if_neg g]
      by_cases c1 : b k = 87 ∧ pW st.2 < 5
      · rw [if_pos c1]
        by_cases t : tkW b n k = 3
        · rw [if_pos t]
          intro hr
          obtain ⟨t0, t1, t2⟩ := tkW_3 t
          obtain ⟨f, rfl⟩ : ∃ g, f = g + 1 + 1 + 1 := ⟨f - 3, by omega⟩
          obtain ⟨A2, e, k2, d2⟩ := rf_W hA hD t0 c1.1 c1.2 t1 t2 (f + 1 + 1)
          have hA2 := TA_k hA k2
          obtain ⟨A3, e3, k3, d3⟩ := ih (k + 3) (adW b k st) f A2 hA2 d2 (by omega) (by omega) (by omega) (WT_W hW c1.2 t) hr
          exact ⟨A3, by rw [e, rf_O hA2 (show k + 1 < n by omega) (dg (m := 5) (by omega) rfl (by decide) t1), rf_O hA2 (show k + 1 + 1 < n by omega) (dg (m := 3) (by omega) rfl (by decide) t2)]; exact e3, k2.trans k3, d3⟩
        · rw [if_neg t]
          have := tkW_le b n k
          exact fun q => absurd q (nI9 (by omega))
      · rw [if_neg c1]
        by_cases c2 : b k = 78 ∧ pN st.2 < 5
        · rw [if_pos c2]
          by_cases t : tkN b n k = 4
          · rw [if_pos t]
            intro hr
            obtain ⟨t0, t1, t2, t3⟩ := tkN_4 t
            obtain ⟨f, rfl⟩ : ∃ g, f = g + 1 + 1 + 1 + 1 := ⟨f - 4, by omega⟩
            obtain ⟨A2, e, k2, d2⟩ := rf_N hA hD t0 c2.1 c2.2 t1 t2 t3 (f + 1 + 1 + 1)
            have hA2 := TA_k hA k2
            obtain ⟨A3, e3, k3, d3⟩ := ih (k + 4) (adN b k st) f A2 hA2 d2 (by omega) (by omega) (by omega) (WT_N hW c2.2 t) hr
            exact ⟨A3, by rw [e, rf_O hA2 (show k + 1 < n by omega) (dg (m := 5) (by omega) rfl (by decide) t1), rf_O hA2 (show k + 1 + 1 < n by omega) (dg (m := 2) (by omega) rfl (by decide) t2), rf_O hA2 (show k + 1 + 1 + 1 < n by omega) (dg (m := 9) (by omega) rfl (lo0 _ _) t3)]; exact e3, k2.trans k3, d3⟩
          · rw [if_neg t]
            have := tkN_le b n k
            exact fun q => absurd q (nI9 (by omega))
        · rw [if_neg c2]
          exact fun q => absurd q (nI9 (by omega))
-- the first scene
theorem fill_C {r o n : Nat} (hn : n < 300) (M : MM) : q_J7_fill_53178 r o n 0 M = some ((), mR M r (ovr (M.1 r) o n (fun _ => 0))) := by
  unfold q_J7_fill_53178
  refine (show q_J7_fill_53178_5 r o n 0 FU 0 (nI n) M = q_J7_fill_53178_5 r o n 0 FU (nI 0) (nI n) (mR M r (ovr (M.1 r) o 0 (fun _ => 0))) by rw [ovr_0, mR_self]; rfl).trans ?_
  refine lp0 n (fun f j => q_J7_fill_53178_5 r o n 0 f (nI j) (nI n) (mR M r (ovr (M.1 r) o j (fun _ => 0)))) _ (by omega) ?_ ?_
  · intro f
    rw [q_J7_fill_53178_5, if_pos (Int32.le_refl _)]
  · intro f j hj
    rw [q_J7_fill_53178_5, if_neg (nge hj (by omega)), ogd_pos (ib_nI hj (by omega)), ncl (by omega), mU_mR, mR_mR, mR_at, nI_1]
    congr 1
    exact mRf _ _ ovr_s
def s0 (h : Nat → Nat) : SC := (h, fun _ => false, fun _ => 0, fun _ => 0, fun _ => 0, 0)
theorem WS_0 {st : TS} (h : WT st) : WS st.2 (s0 st.1) := ⟨h.2, fun _ _ => rfl, fun _ _ => by show 0 ≤ 7; omega, fun _ _ => by show 0 ≤ 2; omega, fun k hk _ _ => nI_pos' (by have := (h.1.2.2.2 k hk).2.2; omega)⟩
theorem begin_C {A : MM} {st : TS} (hW : WT st) (hd : DC A st) : ∃ f, q_X3_begin 0 A = some ((), mR A (9 + 0) f) ∧ RP st.2 f (s0 st.1) := by
  have h5 := hW.1.1
  refine ⟨fun c => if c = 23 then 0 else if c = 5 then 0 else ovr (ovr (ovr (ovr (A.1 (9 + 0)) 0 5 (A.1 2)) 6 6 (fun _ => 0)) 12 6 (fun _ => 0)) 18 5 (fun _ => 0) c, ?_, fun w hw => ?_, rfl, fun t ht => ?_, fun t ht => ?_, fun k hk => ?_, rfl⟩
  · unfold q_X3_begin
    refine (show q_X3_begin_2 0 FU 0 A = q_X3_begin_2 0 FU (nI 0) (mR A (9 + 0) (ovr (A.1 (9 + 0)) 0 0 (A.1 2))) by rw [ovr_0, mR_self]; rfl).trans ?_
    refine lp0 5 (fun f j => q_X3_begin_2 0 f (nI j) (mR A (9 + 0) (ovr (A.1 (9 + 0)) 0 j (A.1 2)))) _ (by decide) ?_ ?_
    · intro f
      rw [q_X3_begin_2, if_pos (Int32.le_refl _), fill_C (by decide), obd_of rfl, fill_C (by decide), obd_of rfl, fill_C (by decide), obd_of rfl, mR_mR, mR_mR, mR_mR, mR_at, mR_at, mR_at]
      simp only [mU_mR, mR_mR, mR_at]
    · intro f j hj
      rw [q_X3_begin_2, if_neg (nge hj (by decide)), ogd_pos (ib_nI hj (by decide)), show t_X2_homeOf (nI j) (mR A (9 + 0) (ovr (A.1 (9 + 0)) 0 j (A.1 2))) = A.1 2 j by
        unfold t_X2_homeOf
        rw [at_in hj (by decide), Nat.zero_add, mR_ne _ _ (by omega)], ncl (by omega), mU_mR, mR_mR, mR_at, nI_1]
      congr 1
      exact mRf _ _ ovr_s
  · show (if w = 23 then (0 : Int32) else if w = 5 then 0 else _) = _
    rw [if_neg (by omega), if_neg (by omega), ovr_out (by omega), ovr_out (by omega), ovr_out (by omega)]
    have := ovr_in (f := A.1 (9 + 0)) (o := 0) (n := 5) (g := A.1 2) (j := w) (by omega)
    rw [Nat.zero_add] at this
    rw [this]
    exact (hd.2.2.1 w hw).1
  · show (if 6 + t = 23 then (0 : Int32) else if 6 + t = 5 then 0 else _) = _
    rw [if_neg (by omega), if_neg (by omega), ovr_out (by omega), ovr_out (by omega), ovr_in ht]
    rfl
  · show (if 12 + t = 23 then (0 : Int32) else if 12 + t = 5 then 0 else _) = _
    rw [if_neg (by omega), if_neg (by omega), ovr_out (by omega), ovr_in ht]
    rfl
  · show (if 18 + k = 23 then (0 : Int32) else if 18 + k = 5 then 0 else _) = _
    rw [if_neg (by omega), if_neg (by omega), ovr_in hk]
    rfl
