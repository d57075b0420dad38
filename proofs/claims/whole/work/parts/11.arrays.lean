-- pure words of the literal functions; array rows of the two worlds; call rows with their words bundled
def b2i (b : Bool) : Int32 := if b then 1 else 0
theorem b2i_t : b2i true = 1 := rfl
theorem b2i_f : b2i false = 0 := rfl
theorem b2i_z (b : Bool) : b2i b = 0 ∨ b2i b = 1 := by cases b <;> simp [b2i]
theorem b2i_0 {b : Bool} : b2i b = 0 ↔ b = false := by cases b <;> simp [b2i]
theorem b2i_1 {b : Bool} : b2i b = 1 ↔ b = true := by cases b <;> simp [b2i]
theorem b2i_inj {b d : Bool} : b2i b = b2i d ↔ b = d := by cases b <;> cases d <;> simp [b2i]
def ib (i : Int32) (n : Nat) : Bool := decide (0 ≤ i.toInt ∧ i.toInt < n)
theorem vp_of_ib {i : Int32} {n : Nat} (h : ib i n = true) : vp_in i n := vp_in_iff.mpr (of_decide_eq_true h)
theorem ib_lt {i : Int32} {n : Nat} (h : ib i n = true) : i.toNatClampNeg < n := by
  have := of_decide_eq_true h
  show i.toInt.toNat < n
  omega
theorem ib_nI {j n : Nat} (h : j < n) (hn : n < 2 ^ 31) : ib (nI j) n = true := by
  unfold ib
  rw [nI_toInt (by omega)]
  simp
  exact h
theorem ib_iff {i : Int32} {n : Nat} : ib i n = true ↔ 0 ≤ i.toInt ∧ i.toInt < n := by unfold ib; simp
def ogd {α : Type} (c : Prop) (hc : Decidable c) (x : Option α) : Option α := @ite _ c hc x none
theorem ogd_some {α : Type} {c : Prop} {hc : Decidable c} {x : Option α} {y : α} (h : ogd c hc x = some y) : c ∧ x = some y := by
  unfold ogd at h
  by_cases g : c
  · rw [if_pos g] at h; exact ⟨g, h⟩
  · rw [if_neg g] at h; cases h
theorem ogd_pos {α : Type} {c : Prop} {hc : Decidable c} {x : Option α} (h : c) : ogd c hc x = x := if_pos h
def obd {α β γ : Type} (x : Option (α × β)) (f : α → β → Option γ) : Option γ := match x with
  | none => none
  | some z => f z.1 z.2
theorem obd_some {α β γ : Type} {x : Option (α × β)} {f : α → β → Option γ} {y : γ} (h : obd x f = some y) : ∃ r m, x = some (r, m) ∧ f r m = some y := by
  cases x with
  | none => cases h
  | some z => exact ⟨z.1, z.2, rfl, h⟩
theorem obd_of {α β γ : Type} {x : Option (α × β)} {f : α → β → Option γ} {r : α} {m : β} (h : x = some (r, m)) : obd x f = f r m := by subst h; rfl
theorem ip {α : Type} {c : Prop} {hc : Decidable c} {x y z : α} (h : c) (hq : @ite α c hc x y = z) : x = z := by rw [if_pos h] at hq; exact hq
theorem iq {α : Type} {c : Prop} {hc : Decidable c} {x y z : α} (h : ¬ c) (hq : @ite α c hc x y = z) : y = z := by rw [if_neg h] at hq; exact hq
theorem som2 {α β : Type} {a c : α} {b d : β} (h : some (a, b) = some (c, d)) : a = c ∧ b = d := by cases h; exact ⟨rfl, rfl⟩
abbrev FU : Nat := 400
theorem arr_2 : arr 2 1 0 48 := by unfold arr aI aR aO aN; decide
theorem arr_4 : arr 4 2 0 5 := by unfold arr aI aR aO aN; decide
theorem arr_5 : arr 5 3 0 5 := by unfold arr aI aR aO aN; decide
theorem arr_6 : arr 6 4 0 5 := by unfold arr aI aR aO aN; decide
theorem arr_7 : arr 7 5 0 5 := by unfold arr aI aR aO aN; decide
theorem arr_8 : arr 8 6 0 5 := by unfold arr aI aR aO aN; decide
theorem arr_14 : arr 14 7 0 6 := by unfold arr aI aR aO aN; decide
theorem arr_15 : arr 15 8 0 6 := by unfold arr aI aR aO aN; decide
def arD (k n : Nat) : Prop := 0 < k ∧ k < 16 ∧ k ≠ 10 ∧ lnM k = n
theorem arD_p {k : Nat} (h : k = 6 ∨ k = 7) : arD k 24 := by rcases h with rfl | rfl <;> exact ⟨by decide, by decide, by decide, by decide⟩
theorem cD_a {a : Nat → Nat} {cI cZ : ClassId} {M : MM} {k n : Nat} (h : arD k n) : cD a cI cZ M k = .inl (cI, n, .inl (fun j => M.1 k j)) := by rw [cD_arr h.1 h.2.2.1, h.2.2.2]
theorem cC_ast {a : Nat → Nat} {cI cS : ClassId} {M : MM} {k r o n j : Nat} {x : Int32} (h : arr k r o n) (hj : j < n) : ∀ i, i < 106 → ve (if i = k then .inl (cI, n, .inl (upd (fun c => M.1 r (o + c)) j x)) else cC a cI cS M i) (cC a cI cS (mU M r (o + j) x) i) := by
  refine cC_put ?_ ?_
  · obtain ⟨h1, rfl, rfl, rfl⟩ := h
    exact Or.inr (Or.inr (Or.inr (Or.inr (Or.inr (Or.inr ⟨h1, rfl, by omega, by omega⟩)))))
  · rw [cC_arr h]
    refine ve_arr (fun c hc => ?_)
    unfold upd
    by_cases e : c = j
    · subst e; rw [if_pos rfl, mU_at]
    · rw [if_neg e, mU_ne (by omega)]
theorem cD_ast {a : Nat → Nat} {cI cZ : ClassId} {M : MM} {k n j : Nat} {x : Int32} (h : arD k n) : ∀ i, i < 16 → ve (if i = k then .inl (cI, n, .inl (upd (fun c => M.1 k c) j x)) else cD a cI cZ M i) (cD a cI cZ (mU M k j x) i) := by
  refine cD_put ?_
  rw [cD_a h]
  refine ve_arr (fun c hc => ?_)
  unfold upd
  by_cases e : c = j
  · subst e; rw [if_pos rfl, mU_at]
  · rw [if_neg e, mU_ne (by omega)]
theorem cD_astZ {a : Nat → Nat} {cI cZ : ClassId} {M : MM} {j : Nat} {x : Int32} : ∀ i, i < 16 → ve (if i = 10 then .inl (cZ, 2, .inl (upd (fun c => M.1 10 c) j x)) else cD a cI cZ M i) (cD a cI cZ (mU M 10 j x) i) := by
  refine cD_put ?_
  rw [cD_arrZ]
  refine ve_arr (fun c hc => ?_)
  unfold upd
  by_cases e : c = j
  · subst e; rw [if_pos rfl, mU_at]
  · rw [if_neg e, mU_ne (by omega)]
def rcv (g : Nat → va_E) (n q : Nat) (cls : String) (cl : List vw_C) : Prop := q < n ∧ ∃ (ci : Nat) (fs : List Value) (rc : vw_C), g q = .inr (ci, fs) ∧ cl[ci]? = some rc ∧ rc.1 = cls
theorem rv_X0 {a : Nat → Nat} {cI cS : ClassId} {M : MM} : rcv (cC a cI cS M) 106 13 RX0 vwCl := ⟨by decide, 0, _, _, rfl, rfl, rfl⟩
theorem rv_X1 {a : Nat → Nat} {cI cS : ClassId} {M : MM} : rcv (cC a cI cS M) 106 9 RX1 vwCl := ⟨by decide, 1, _, _, rfl, rfl, rfl⟩
theorem rv_X2 {a : Nat → Nat} {cI cS : ClassId} {M : MM} : rcv (cC a cI cS M) 106 3 RX2 vwCl := ⟨by decide, 2, _, _, rfl, rfl, rfl⟩
theorem rv_X3 {a : Nat → Nat} {cI cS : ClassId} {M : MM} (i : Nat) (hi : i < 18) : rcv (cC a cI cS M) 106 (16 + 5 * i) RX3 vwCl := ⟨by omega, 3, _, _, cC_sc i, rfl, rfl⟩
theorem rv_X4 {a : Nat → Nat} {cI cS : ClassId} {M : MM} : rcv (cC a cI cS M) 106 1 RX4 vwCl := ⟨by decide, 4, _, _, rfl, rfl, rfl⟩
theorem rv_X5 {a : Nat → Nat} {cI cS : ClassId} {M : MM} : rcv (cC a cI cS M) 106 11 RX5 vwCl := ⟨by decide, 5, _, _, rfl, rfl, rfl⟩
theorem rv_X6 {a : Nat → Nat} {cI cS : ClassId} {M : MM} : rcv (cC a cI cS M) 106 0 RX6 vwCl := ⟨by decide, 6, _, _, rfl, rfl, rfl⟩
theorem rv_X7 {a : Nat → Nat} {cI cZ : ClassId} {M : MM} : rcv (cD a cI cZ M) 16 0 RX7 vwCl := ⟨by decide, 7, _, _, rfl, rfl, rfl⟩
def okV (y : MethodName) (bytes : ByteArray) (maxL : Nat) (rt : Option FieldType) (n : Nat) : Prop := Cond.instanceMethod y ∈ Wl ∧ Cond.selects y.cls y y ∈ Wl ∧ Cond.initialized y.cls ∈ Wl ∧ Cond.code y bytes maxL rt ∈ Wl ∧ y.cls ≠ "java/lang/invoke/MethodHandle" ∧ y.cls ≠ "java/lang/invoke/VarHandle" ∧ (parseMethodDescriptor y.desc).map (fun d => d.parameters.length) = some n
def okS (y : MethodName) (bytes : ByteArray) (maxL : Nat) (rt : Option FieldType) (n : Nat) : Prop := Cond.static y ∈ Wl ∧ Cond.initialized y.cls ∈ Wl ∧ Cond.code y bytes maxL rt ∈ Wl ∧ y.cls ≠ "java/lang/invoke/MethodHandle" ∧ y.cls ≠ "java/lang/invoke/VarHandle" ∧ (parseMethodDescriptor y.desc).map (fun d => d.parameters.length) = some n
section
variable {p : Program} {l : Launch} {e : Env} {R : Room} {s : State} {m : MethodId} {args : Array Value} {below : List Frame} {meth : Method} {c : Code} {cells slots : Nat} {Q : State → Prop} {dC : Nat → ClassId} {dI : Nat → Nat → Nat} {A0 : Nat → Prop} {H0 : Heap} {cc : ByteArray} {nL : Nat} {ret : Option FieldType} {own : String} {pc : Nat} {lv : List (Nat × Value)} {st : List Value} {a : Nat → Nat} {cI cZ cS : ClassId} {M : MM} {n : Nat} {g g2 : Nat → va_E}
theorem ga_ld (C : gC p s m args meth c cc nL ret own (dC, dI) vwCl (tyW cI cZ cS) A0 H0) {k r o N : Nat} (h : arr k r o N) {i : Int32} (hi : ib i N = true) (hd : decode cc pc = .ok (.iaload, 1)) (kk : gG p l e R s m args below meth c nL (dC, dI) vwCl A0 H0 cells slots Q (wC a cI cS M) (pc + 1) lv (.int (M.1 r (o + i.toNatClampNeg)) :: st)) : gG p l e R s m args below meth c nL (dC, dI) vwCl A0 H0 cells slots Q (wC a cI cS M) pc lv (.int i :: .ref (a k) :: st) :=
  g_iald C (t0 := 0) (cC_aN h) (cC_arr h) rfl (vp_of_ib hi) hd kk
theorem ga_st (C : gC p s m args meth c cc nL ret own (dC, dI) vwCl (tyW cI cZ cS) A0 H0) {k r o N : Nat} (h : arr k r o N) {i x : Int32} (hi : ib i N = true) (hd : decode cc pc = .ok (.iastore, 1)) (kk : gG p l e R s m args below meth c nL (dC, dI) vwCl A0 H0 cells slots Q (wC a cI cS (mU M r (o + i.toNatClampNeg) x)) (pc + 1) lv st) : gG p l e R s m args below meth c nL (dC, dI) vwCl A0 H0 cells slots Q (wC a cI cS M) pc lv (.int x :: .int i :: .ref (a k) :: st) :=
  g_iast C (t0 := 0) (cC_aN h) (cC_arr h) rfl (vp_of_ib hi) (cC_ast h (ib_lt hi)) hd kk
theorem ga_len (C : gC p s m args meth c cc nL ret own (dC, dI) vwCl (tyW cI cZ cS) A0 H0) {k r o N : Nat} (h : arr k r o N) (hd : decode cc pc = .ok (.arraylength, 1)) (kk : gG p l e R s m args below meth c nL (dC, dI) vwCl A0 H0 cells slots Q (wC a cI cS M) (pc + 1) lv (.int (nI N) :: st)) : gG p l e R s m args below meth c nL (dC, dI) vwCl A0 H0 cells slots Q (wC a cI cS M) pc lv (.ref (a k) :: st) :=
  g_alen C (t0 := 0) (x := (N, _)) (cC_aN h) (cC_arr h) rfl hd kk
theorem gb_ld (C : gC p s m args meth c cc nL ret own (dC, dI) vwCl (tyW cI cZ cS) A0 H0) {k N : Nat} (h : arD k N) {i : Int32} (hi : ib i N = true) (hd : decode cc pc = .ok (.iaload, 1)) (kk : gG p l e R s m args below meth c nL (dC, dI) vwCl A0 H0 cells slots Q (wD a cI cZ M) (pc + 1) lv (.int (M.1 k i.toNatClampNeg) :: st)) : gG p l e R s m args below meth c nL (dC, dI) vwCl A0 H0 cells slots Q (wD a cI cZ M) pc lv (.int i :: .ref (a k) :: st) :=
  g_iald C (t0 := 0) (h.2.1) (cD_a h) rfl (vp_of_ib hi) hd kk
theorem gb_st (C : gC p s m args meth c cc nL ret own (dC, dI) vwCl (tyW cI cZ cS) A0 H0) {k N : Nat} (h : arD k N) {i x : Int32} (hi : ib i N = true) (hd : decode cc pc = .ok (.iastore, 1)) (kk : gG p l e R s m args below meth c nL (dC, dI) vwCl A0 H0 cells slots Q (wD a cI cZ (mU M k i.toNatClampNeg x)) (pc + 1) lv st) : gG p l e R s m args below meth c nL (dC, dI) vwCl A0 H0 cells slots Q (wD a cI cZ M) pc lv (.int x :: .int i :: .ref (a k) :: st) :=
  g_iast C (t0 := 0) (h.2.1) (cD_a h) rfl (vp_of_ib hi) (cD_ast h) hd kk
theorem gb_len (C : gC p s m args meth c cc nL ret own (dC, dI) vwCl (tyW cI cZ cS) A0 H0) {k N : Nat} (h : arD k N) (hd : decode cc pc = .ok (.arraylength, 1)) (kk : gG p l e R s m args below meth c nL (dC, dI) vwCl A0 H0 cells slots Q (wD a cI cZ M) (pc + 1) lv (.int (nI N) :: st)) : gG p l e R s m args below meth c nL (dC, dI) vwCl A0 H0 cells slots Q (wD a cI cZ M) pc lv (.ref (a k) :: st) :=
  g_alen C (t0 := 0) (x := (N, _)) (h.2.1) (cD_a h) rfl hd kk
theorem gz_ld (C : gC p s m args meth c cc nL ret own (dC, dI) vwCl (tyW cI cZ cS) A0 H0) {i : Int32} (hi : ib i 2 = true) (hd : decode cc pc = .ok (.baload, 1)) (kk : gG p l e R s m args below meth c nL (dC, dI) vwCl A0 H0 cells slots Q (wD a cI cZ M) (pc + 1) lv (.int (M.1 10 i.toNatClampNeg) :: st)) : gG p l e R s m args below meth c nL (dC, dI) vwCl A0 H0 cells slots Q (wD a cI cZ M) pc lv (.int i :: .ref (a 10) :: st) :=
  g_zald C (k := 10) (t0 := 1) (by decide) cD_arrZ rfl (vp_of_ib hi) hd kk
theorem gz_st (C : gC p s m args meth c cc nL ret own (dC, dI) vwCl (tyW cI cZ cS) A0 H0) {i x : Int32} (hi : ib i 2 = true) (hd : decode cc pc = .ok (.bastore, 1)) (kk : gG p l e R s m args below meth c nL (dC, dI) vwCl A0 H0 cells slots Q (wD a cI cZ (mU M 10 i.toNatClampNeg (vp_nar .boolean x))) (pc + 1) lv st) : gG p l e R s m args below meth c nL (dC, dI) vwCl A0 H0 cells slots Q (wD a cI cZ M) pc lv (.int x :: .int i :: .ref (a 10) :: st) :=
  g_zast C (k := 10) (t0 := 1) (by decide) cD_arrZ rfl (vp_of_ib hi) cD_astZ hd kk
theorem gc_Vi (C : gC p s m args meth c cc nL ret own (dC, dI) vwCl (tyW cI cZ cS) A0 H0) {y : MethodName} {bytes : ByteArray} {maxL index fr lo : Nat} {rt : Option FieldType} {rest st0 : List Value} {As : List Value} {b : Nat} {q0 : Nat} {r : Int32} (hM : KQ l (dC, dI) vwCl (tyW cI cZ cS) y bytes maxL rt fr lo (.ref b :: As) (wF n a g) (qI (dC, dI) vwCl (wF n a g2) r)) (hlk : Cond.methodLink own index y ∈ Wl) (ok : okV y bytes maxL rt As.length) (hv : rcv g n q0 y.cls vwCl) (hb0 : b = a q0) (hR : fr + 1 ≤ R.frames ∧ 8 + (maxL + 11) + lo ≤ R.locals) (hf : cells + 0 ≤ R.cells ∧ slots + 0 ≤ R.slots) (hst : st0 = As.reverse ++ .ref b :: rest) (hro : (rest.map fun v => v.category).sum ≤ 8) (hd : decode cc pc = .ok (.invokevirtual index, 3)) (kk : gG p l e R s m args below meth c nL (dC, dI) vwCl A0 H0 cells slots Q (wF n a g2) (pc + 3) lv (.int r :: rest)) : gG p l e R s m args below meth c nL (dC, dI) vwCl A0 H0 cells slots Q (wF n a g) pc lv st0 :=
  (by obtain ⟨hk0, ci, fs, rc, hg0, hc0, hc1⟩ := hv; exact g_callV_i C (Cn := y.cls) (As := As) (b := b) (rest := rest) hM hlk ok.1 ok.2.1 ok.2.2.1 ok.2.2.2.1 ⟨rfl, ok.2.2.2.2.1, ok.2.2.2.2.2.1, ok.2.2.2.2.2.2⟩ hk0 hb0 hg0 hc0 hc1 hR hf hst hro hd kk)
theorem gc_Vl (C : gC p s m args meth c cc nL ret own (dC, dI) vwCl (tyW cI cZ cS) A0 H0) {y : MethodName} {bytes : ByteArray} {maxL index fr lo : Nat} {rt : Option FieldType} {rest st0 : List Value} {As : List Value} {b : Nat} {q0 : Nat} {r : Int64} (hM : KQ l (dC, dI) vwCl (tyW cI cZ cS) y bytes maxL rt fr lo (.ref b :: As) (wF n a g) (qL (dC, dI) vwCl (wF n a g2) r)) (hlk : Cond.methodLink own index y ∈ Wl) (ok : okV y bytes maxL rt As.length) (hv : rcv g n q0 y.cls vwCl) (hb0 : b = a q0) (hR : fr + 1 ≤ R.frames ∧ 8 + (maxL + 11) + lo ≤ R.locals) (hf : cells + 0 ≤ R.cells ∧ slots + 0 ≤ R.slots) (hst : st0 = As.reverse ++ .ref b :: rest) (hro : (rest.map fun v => v.category).sum ≤ 8) (hd : decode cc pc = .ok (.invokevirtual index, 3)) (kk : gG p l e R s m args below meth c nL (dC, dI) vwCl A0 H0 cells slots Q (wF n a g2) (pc + 3) lv (.long r :: rest)) : gG p l e R s m args below meth c nL (dC, dI) vwCl A0 H0 cells slots Q (wF n a g) pc lv st0 :=
  (by obtain ⟨hk0, ci, fs, rc, hg0, hc0, hc1⟩ := hv; exact g_callV_l C (Cn := y.cls) (As := As) (b := b) (rest := rest) hM hlk ok.1 ok.2.1 ok.2.2.1 ok.2.2.2.1 ⟨rfl, ok.2.2.2.2.1, ok.2.2.2.2.2.1, ok.2.2.2.2.2.2⟩ hk0 hb0 hg0 hc0 hc1 hR hf hst hro hd kk)
theorem gc_Vv (C : gC p s m args meth c cc nL ret own (dC, dI) vwCl (tyW cI cZ cS) A0 H0) {y : MethodName} {bytes : ByteArray} {maxL index fr lo : Nat} {rt : Option FieldType} {rest st0 : List Value} {As : List Value} {b : Nat} {q0 : Nat}  (hM : KQ l (dC, dI) vwCl (tyW cI cZ cS) y bytes maxL rt fr lo (.ref b :: As) (wF n a g) (qV (dC, dI) vwCl (wF n a g2))) (hlk : Cond.methodLink own index y ∈ Wl) (ok : okV y bytes maxL rt As.length) (hv : rcv g n q0 y.cls vwCl) (hb0 : b = a q0) (hR : fr + 1 ≤ R.frames ∧ 8 + (maxL + 11) + lo ≤ R.locals) (hf : cells + 0 ≤ R.cells ∧ slots + 0 ≤ R.slots) (hst : st0 = As.reverse ++ .ref b :: rest) (hro : (rest.map fun v => v.category).sum ≤ 8) (hd : decode cc pc = .ok (.invokevirtual index, 3)) (kk : gG p l e R s m args below meth c nL (dC, dI) vwCl A0 H0 cells slots Q (wF n a g2) (pc + 3) lv rest) : gG p l e R s m args below meth c nL (dC, dI) vwCl A0 H0 cells slots Q (wF n a g) pc lv st0 :=
  (by obtain ⟨hk0, ci, fs, rc, hg0, hc0, hc1⟩ := hv; exact g_callV_v C (Cn := y.cls) (As := As) (b := b) (rest := rest) hM hlk ok.1 ok.2.1 ok.2.2.1 ok.2.2.2.1 ⟨rfl, ok.2.2.2.2.1, ok.2.2.2.2.2.1, ok.2.2.2.2.2.2⟩ hk0 hb0 hg0 hc0 hc1 hR hf hst hro hd kk)
theorem gc_Si (C : gC p s m args meth c cc nL ret own (dC, dI) vwCl (tyW cI cZ cS) A0 H0) {y : MethodName} {bytes : ByteArray} {maxL index fr lo : Nat} {rt : Option FieldType} {rest st0 : List Value} {As : List Value} {r : Int32} (hM : KQ l (dC, dI) vwCl (tyW cI cZ cS) y bytes maxL rt fr lo As (wF n a g) (qI (dC, dI) vwCl (wF n a g2) r)) (hlk : Cond.methodLink own index y ∈ Wl) (ok : okS y bytes maxL rt As.length) (hR : fr + 1 ≤ R.frames ∧ 8 + (maxL + 11) + lo ≤ R.locals) (hf : cells + 0 ≤ R.cells ∧ slots + 0 ≤ R.slots) (hst : st0 = As.reverse ++ rest) (hro : (rest.map fun v => v.category).sum ≤ 8) (hd : decode cc pc = .ok (.invokestatic index, 3)) (kk : gG p l e R s m args below meth c nL (dC, dI) vwCl A0 H0 cells slots Q (wF n a g2) (pc + 3) lv (.int r :: rest)) : gG p l e R s m args below meth c nL (dC, dI) vwCl A0 H0 cells slots Q (wF n a g) pc lv st0 :=
  (g_callS_i C (As := As) (rest := rest) hM hlk ok.1 ok.2.1 ok.2.2.1 ⟨ok.2.2.2.1, ok.2.2.2.2.1, ok.2.2.2.2.2⟩ hR hf hst hro hd kk)
theorem gc_Sl (C : gC p s m args meth c cc nL ret own (dC, dI) vwCl (tyW cI cZ cS) A0 H0) {y : MethodName} {bytes : ByteArray} {maxL index fr lo : Nat} {rt : Option FieldType} {rest st0 : List Value} {As : List Value} {r : Int64} (hM : KQ l (dC, dI) vwCl (tyW cI cZ cS) y bytes maxL rt fr lo As (wF n a g) (qL (dC, dI) vwCl (wF n a g2) r)) (hlk : Cond.methodLink own index y ∈ Wl) (ok : okS y bytes maxL rt As.length) (hR : fr + 1 ≤ R.frames ∧ 8 + (maxL + 11) + lo ≤ R.locals) (hf : cells + 0 ≤ R.cells ∧ slots + 0 ≤ R.slots) (hst : st0 = As.reverse ++ rest) (hro : (rest.map fun v => v.category).sum ≤ 8) (hd : decode cc pc = .ok (.invokestatic index, 3)) (kk : gG p l e R s m args below meth c nL (dC, dI) vwCl A0 H0 cells slots Q (wF n a g2) (pc + 3) lv (.long r :: rest)) : gG p l e R s m args below meth c nL (dC, dI) vwCl A0 H0 cells slots Q (wF n a g) pc lv st0 :=
  (g_callS_l C (As := As) (rest := rest) hM hlk ok.1 ok.2.1 ok.2.2.1 ⟨ok.2.2.2.1, ok.2.2.2.2.1, ok.2.2.2.2.2⟩ hR hf hst hro hd kk)
theorem gc_Sv (C : gC p s m args meth c cc nL ret own (dC, dI) vwCl (tyW cI cZ cS) A0 H0) {y : MethodName} {bytes : ByteArray} {maxL index fr lo : Nat} {rt : Option FieldType} {rest st0 : List Value} {As : List Value}  (hM : KQ l (dC, dI) vwCl (tyW cI cZ cS) y bytes maxL rt fr lo As (wF n a g) (qV (dC, dI) vwCl (wF n a g2))) (hlk : Cond.methodLink own index y ∈ Wl) (ok : okS y bytes maxL rt As.length) (hR : fr + 1 ≤ R.frames ∧ 8 + (maxL + 11) + lo ≤ R.locals) (hf : cells + 0 ≤ R.cells ∧ slots + 0 ≤ R.slots) (hst : st0 = As.reverse ++ rest) (hro : (rest.map fun v => v.category).sum ≤ 8) (hd : decode cc pc = .ok (.invokestatic index, 3)) (kk : gG p l e R s m args below meth c nL (dC, dI) vwCl A0 H0 cells slots Q (wF n a g2) (pc + 3) lv rest) : gG p l e R s m args below meth c nL (dC, dI) vwCl A0 H0 cells slots Q (wF n a g) pc lv st0 :=
  (g_callS_v C (As := As) (rest := rest) hM hlk ok.1 ok.2.1 ok.2.2.1 ⟨ok.2.2.2.1, ok.2.2.2.2.1, ok.2.2.2.2.2⟩ hR hf hst hro hd kk)
theorem gc_Sq (C : gC p s m args meth c cc nL ret own (dC, dI) vwCl (tyW cI cZ cS) A0 H0) {y : MethodName} {bytes : ByteArray} {maxL index fr lo : Nat} {rt : Option FieldType} {rest st0 : List Value} {As : List Value} {r : Option Nat} (hM : KQ l (dC, dI) vwCl (tyW cI cZ cS) y bytes maxL rt fr lo As (wF n a g) (qR (dC, dI) vwCl (wF n a g2) r)) (hlk : Cond.methodLink own index y ∈ Wl) (ok : okS y bytes maxL rt As.length) (hR : fr + 1 ≤ R.frames ∧ 8 + (maxL + 11) + lo ≤ R.locals) (hf : cells + 0 ≤ R.cells ∧ slots + 0 ≤ R.slots) (hst : st0 = As.reverse ++ rest) (hro : (rest.map fun v => v.category).sum ≤ 8) (hd : decode cc pc = .ok (.invokestatic index, 3)) (kk : gG p l e R s m args below meth c nL (dC, dI) vwCl A0 H0 cells slots Q (wF n a g2) (pc + 3) lv (va_rf r :: rest)) : gG p l e R s m args below meth c nL (dC, dI) vwCl A0 H0 cells slots Q (wF n a g) pc lv st0 :=
  (g_callS_q C (As := As) (rest := rest) hM hlk ok.1 ok.2.1 ok.2.2.1 ⟨ok.2.2.2.1, ok.2.2.2.2.1, ok.2.2.2.2.2⟩ hR hf hst hro hd kk)
theorem gc_Ni (C : gC p s m args meth c cc nL ret own (dC, dI) vwCl (tyW cI cZ cS) A0 H0) {y : MethodName} {bytes : ByteArray} {maxL index fr lo : Nat} {rt : Option FieldType} {rest st0 : List Value} {As : List Value} {host : String} {r : Int32} (hM : KQ l (dC, dI) vwCl (tyW cI cZ cS) y bytes maxL rt fr lo As (wF n a g) (qI (dC, dI) vwCl (wF n a g2) r)) (hnl : Cond.methodLinkNest own index y host ∈ Nl) (ok : okS y bytes maxL rt As.length) (hR : fr + 1 ≤ R.frames ∧ 8 + (maxL + 11) + lo ≤ R.locals) (hf : cells + 0 ≤ R.cells ∧ slots + 0 ≤ R.slots) (hst : st0 = As.reverse ++ rest) (hro : (rest.map fun v => v.category).sum ≤ 8) (hd : decode cc pc = .ok (.invokestatic index, 3)) (kk : gG p l e R s m args below meth c nL (dC, dI) vwCl A0 H0 cells slots Q (wF n a g2) (pc + 3) lv (.int r :: rest)) : gG p l e R s m args below meth c nL (dC, dI) vwCl A0 H0 cells slots Q (wF n a g) pc lv st0 :=
  (g_callN_i C (As := As) (rest := rest) hM hnl ok.1 ok.2.1 ok.2.2.1 ⟨ok.2.2.2.1, ok.2.2.2.2.1, ok.2.2.2.2.2⟩ hR hf hst hro hd kk)
theorem gc_Nl (C : gC p s m args meth c cc nL ret own (dC, dI) vwCl (tyW cI cZ cS) A0 H0) {y : MethodName} {bytes : ByteArray} {maxL index fr lo : Nat} {rt : Option FieldType} {rest st0 : List Value} {As : List Value} {host : String} {r : Int64} (hM : KQ l (dC, dI) vwCl (tyW cI cZ cS) y bytes maxL rt fr lo As (wF n a g) (qL (dC, dI) vwCl (wF n a g2) r)) (hnl : Cond.methodLinkNest own index y host ∈ Nl) (ok : okS y bytes maxL rt As.length) (hR : fr + 1 ≤ R.frames ∧ 8 + (maxL + 11) + lo ≤ R.locals) (hf : cells + 0 ≤ R.cells ∧ slots + 0 ≤ R.slots) (hst : st0 = As.reverse ++ rest) (hro : (rest.map fun v => v.category).sum ≤ 8) (hd : decode cc pc = .ok (.invokestatic index, 3)) (kk : gG p l e R s m args below meth c nL (dC, dI) vwCl A0 H0 cells slots Q (wF n a g2) (pc + 3) lv (.long r :: rest)) : gG p l e R s m args below meth c nL (dC, dI) vwCl A0 H0 cells slots Q (wF n a g) pc lv st0 :=
  (g_callN_l C (As := As) (rest := rest) hM hnl ok.1 ok.2.1 ok.2.2.1 ⟨ok.2.2.2.1, ok.2.2.2.2.1, ok.2.2.2.2.2⟩ hR hf hst hro hd kk)
theorem gc_Nv (C : gC p s m args meth c cc nL ret own (dC, dI) vwCl (tyW cI cZ cS) A0 H0) {y : MethodName} {bytes : ByteArray} {maxL index fr lo : Nat} {rt : Option FieldType} {rest st0 : List Value} {As : List Value} {host : String}  (hM : KQ l (dC, dI) vwCl (tyW cI cZ cS) y bytes maxL rt fr lo As (wF n a g) (qV (dC, dI) vwCl (wF n a g2))) (hnl : Cond.methodLinkNest own index y host ∈ Nl) (ok : okS y bytes maxL rt As.length) (hR : fr + 1 ≤ R.frames ∧ 8 + (maxL + 11) + lo ≤ R.locals) (hf : cells + 0 ≤ R.cells ∧ slots + 0 ≤ R.slots) (hst : st0 = As.reverse ++ rest) (hro : (rest.map fun v => v.category).sum ≤ 8) (hd : decode cc pc = .ok (.invokestatic index, 3)) (kk : gG p l e R s m args below meth c nL (dC, dI) vwCl A0 H0 cells slots Q (wF n a g2) (pc + 3) lv rest) : gG p l e R s m args below meth c nL (dC, dI) vwCl A0 H0 cells slots Q (wF n a g) pc lv st0 :=
  (g_callN_v C (As := As) (rest := rest) hM hnl ok.1 ok.2.1 ok.2.2.1 ⟨ok.2.2.2.1, ok.2.2.2.2.1, ok.2.2.2.2.2⟩ hR hf hst hro hd kk)
theorem gc_Nq (C : gC p s m args meth c cc nL ret own (dC, dI) vwCl (tyW cI cZ cS) A0 H0) {y : MethodName} {bytes : ByteArray} {maxL index fr lo : Nat} {rt : Option FieldType} {rest st0 : List Value} {As : List Value} {host : String} {r : Option Nat} (hM : KQ l (dC, dI) vwCl (tyW cI cZ cS) y bytes maxL rt fr lo As (wF n a g) (qR (dC, dI) vwCl (wF n a g2) r)) (hnl : Cond.methodLinkNest own index y host ∈ Nl) (ok : okS y bytes maxL rt As.length) (hR : fr + 1 ≤ R.frames ∧ 8 + (maxL + 11) + lo ≤ R.locals) (hf : cells + 0 ≤ R.cells ∧ slots + 0 ≤ R.slots) (hst : st0 = As.reverse ++ rest) (hro : (rest.map fun v => v.category).sum ≤ 8) (hd : decode cc pc = .ok (.invokestatic index, 3)) (kk : gG p l e R s m args below meth c nL (dC, dI) vwCl A0 H0 cells slots Q (wF n a g2) (pc + 3) lv (va_rf r :: rest)) : gG p l e R s m args below meth c nL (dC, dI) vwCl A0 H0 cells slots Q (wF n a g) pc lv st0 :=
  (g_callN_q C (As := As) (rest := rest) hM hnl ok.1 ok.2.1 ok.2.2.1 ⟨ok.2.2.2.1, ok.2.2.2.2.1, ok.2.2.2.2.2⟩ hR hf hst hro hd kk)
end
theorem ok_X0_size : okV yX0_size cX0_size 1 (some .int) 0 := ⟨wl_329, wl_330, wl_39, wl_331, by decide, by decide, by decide +kernel⟩
theorem ok_X0_clear : okV yX0_clear cX0_clear 1 none 0 := ⟨wl_588, wl_589, wl_39, wl_590, by decide, by decide, by decide +kernel⟩
theorem ok_X0_add : okV yX0_add cX0_add 4 (some .boolean) 3 := ⟨wl_579, wl_580, wl_39, wl_581, by decide, by decide, by decide +kernel⟩
theorem ok_X0_isSo : okV yX0_isSo cX0_isSo 5 (some .boolean) 3 := ⟨wl_596, wl_597, wl_39, wl_598, by decide, by decide, by decide +kernel⟩
theorem ok_X0_isWetAt : okS yX0_isWetAt cX0_isWetAt 7 (some .boolean) 5 := ⟨wl_601, wl_39, wl_602, by decide, by decide, by decide +kernel⟩
theorem ok_X1_size : okV yX1_size cX1_size 1 (some .int) 0 := ⟨wl_325, wl_326, wl_37, wl_327, by decide, by decide, by decide +kernel⟩
theorem ok_X1_clear : okV yX1_clear cX1_clear 1 none 0 := ⟨wl_272, wl_273, wl_37, wl_274, by decide, by decide, by decide +kernel⟩
theorem ok_X1_add : okV yX1_add cX1_add 3 none 1 := ⟨wl_394, wl_395, wl_37, wl_396, by decide, by decide, by decide +kernel⟩
theorem ok_X1_takeLast : okV yX1_takeLast cX1_takeLast 3 none 1 := ⟨wl_471, wl_472, wl_37, wl_473, by decide, by decide, by decide +kernel⟩
theorem ok_X2_readFrom : okV yX2_readFrom cX2_readFrom 3 none 1 := ⟨wl_252, wl_253, wl_35, wl_254, by decide, by decide, by decide +kernel⟩
theorem ok_X2_walkerCount : okV yX2_walkerCount cX2_walkerCount 1 (some .int) 0 := ⟨wl_280, wl_281, wl_35, wl_282, by decide, by decide, by decide +kernel⟩
theorem ok_X2_needCount : okV yX2_needCount cX2_needCount 1 (some .int) 0 := ⟨wl_284, wl_285, wl_35, wl_286, by decide, by decide, by decide +kernel⟩
theorem ok_X2_hasWalker : okV yX2_hasWalker cX2_hasWalker 2 (some .boolean) 1 := ⟨wl_337, wl_338, wl_35, wl_339, by decide, by decide, by decide +kernel⟩
theorem ok_X2_hasNeed : okV yX2_hasNeed cX2_hasNeed 2 (some .boolean) 1 := ⟨wl_354, wl_355, wl_35, wl_356, by decide, by decide, by decide +kernel⟩
theorem ok_X2_homeOf : okV yX2_homeOf cX2_homeOf 2 (some .int) 1 := ⟨wl_264, wl_265, wl_35, wl_266, by decide, by decide, by decide +kernel⟩
theorem ok_X2_stuffOf : okV yX2_stuffOf cX2_stuffOf 2 (some .int) 1 := ⟨wl_307, wl_308, wl_35, wl_309, by decide, by decide, by decide +kernel⟩
theorem ok_X2_streetOfNeed : okV yX2_streetOfNeed cX2_streetOfNeed 2 (some .int) 1 := ⟨wl_358, wl_359, wl_35, wl_360, by decide, by decide, by decide +kernel⟩
theorem ok_X2_sortOfNeed : okV yX2_sortOfNeed cX2_sortOfNeed 2 (some .int) 1 := ⟨wl_362, wl_363, wl_35, wl_364, by decide, by decide, by decide +kernel⟩
theorem ok_X2_figureOfNeed : okV yX2_figureOfNeed cX2_figureOfNeed 2 (some .int) 1 := ⟨wl_366, wl_367, wl_35, wl_368, by decide, by decide, by decide +kernel⟩
theorem ok_X3_begin : okV yX3_begin cX3_begin 2 none 0 := ⟨wl_260, wl_261, wl_36, wl_262, by decide, by decide, by decide +kernel⟩
theorem ok_X3_copy : okV yX3_copy cX3_copy 2 none 1 := ⟨wl_401, wl_402, wl_36, wl_403, by decide, by decide, by decide +kernel⟩
theorem ok_X3_time : okV yX3_time cX3_time 1 (some .int) 0 := ⟨wl_292, wl_293, wl_36, wl_294, by decide, by decide, by decide +kernel⟩
theorem ok_X3_placeOf : okV yX3_placeOf cX3_placeOf 2 (some .int) 1 := ⟨wl_341, wl_342, wl_36, wl_343, by decide, by decide, by decide +kernel⟩
theorem ok_X3_lastsIn : okV yX3_lastsIn cX3_lastsIn 2 (some .int) 1 := ⟨wl_382, wl_383, wl_36, wl_384, by decide, by decide, by decide +kernel⟩
theorem ok_X3_wetnessOf : okV yX3_wetnessOf cX3_wetnessOf 2 (some .int) 1 := ⟨wl_378, wl_379, wl_36, wl_380, by decide, by decide, by decide +kernel⟩
theorem ok_X3_fateOf : okV yX3_fateOf cX3_fateOf 2 (some .int) 1 := ⟨wl_320, wl_321, wl_36, wl_322, by decide, by decide, by decide +kernel⟩
theorem ok_X3_openBits : okV yX3_openBits cX3_openBits 1 (some .int) 0 := ⟨wl_296, wl_297, wl_36, wl_298, by decide, by decide, by decide +kernel⟩
theorem ok_X3_shutBits : okV yX3_shutBits cX3_shutBits 1 (some .int) 0 := ⟨wl_521, wl_522, wl_36, wl_523, by decide, by decide, by decide +kernel⟩
theorem ok_X3_isOpen : okV yX3_isOpen cX3_isOpen 2 (some .boolean) 1 := ⟨wl_346, wl_347, wl_36, wl_348, by decide, by decide, by decide +kernel⟩
theorem ok_X3_openIn : okV yX3_openIn cX3_openIn 4 (some .int) 1 := ⟨wl_386, wl_387, wl_36, wl_388, by decide, by decide, by decide +kernel⟩
theorem ok_X3_rainBits : okV yX3_rainBits cX3_rainBits 4 (some .int) 0 := ⟨wl_300, wl_301, wl_36, wl_302, by decide, by decide, by decide +kernel⟩
theorem ok_X3_hailBits : okV yX3_hailBits cX3_hailBits 5 (some .int) 0 := ⟨wl_311, wl_312, wl_36, wl_313, by decide, by decide, by decide +kernel⟩
theorem ok_X3_needBits : okV yX3_needBits cX3_needBits 4 (some .int) 1 := ⟨wl_315, wl_316, wl_36, wl_317, by decide, by decide, by decide +kernel⟩
theorem ok_X3_keptCount : okV yX3_keptCount cX3_keptCount 1 (some .int) 0 := ⟨wl_510, wl_511, wl_36, wl_512, by decide, by decide, by decide +kernel⟩
theorem ok_X3_raise : okV yX3_raise cX3_raise 2 (some .boolean) 1 := ⟨wl_408, wl_409, wl_36, wl_410, by decide, by decide, by decide +kernel⟩
theorem ok_X3_raiseAll : okV yX3_raiseAll cX3_raiseAll 3 none 1 := ⟨wl_505, wl_506, wl_36, wl_507, by decide, by decide, by decide +kernel⟩
theorem ok_X3_lower : okV yX3_lower cX3_lower 2 (some .boolean) 1 := ⟨wl_427, wl_428, wl_36, wl_429, by decide, by decide, by decide +kernel⟩
theorem ok_X3_forget : okV yX3_forget cX3_forget 2 none 1 := ⟨wl_559, wl_560, wl_36, wl_561, by decide, by decide, by decide +kernel⟩
theorem ok_X3_lastAtLeast : okV yX3_lastAtLeast cX3_lastAtLeast 3 none 2 := ⟨wl_416, wl_1, wl_36, wl_417, by decide, by decide, by decide +kernel⟩
theorem ok_X3_place : okV yX3_place cX3_place 3 none 2 := ⟨wl_445, wl_446, wl_36, wl_447, by decide, by decide, by decide +kernel⟩
theorem ok_X3_canMove : okV yX3_canMove cX3_canMove 3 (some .boolean) 2 := ⟨wl_435, wl_436, wl_36, wl_437, by decide, by decide, by decide +kernel⟩
theorem ok_X3_move : okV yX3_move cX3_move 3 (some .boolean) 2 := ⟨wl_440, wl_441, wl_36, wl_442, by decide, by decide, by decide +kernel⟩
theorem ok_X3_passHours : okV yX3_passHours cX3_passHours 3 none 1 := ⟨wl_480, wl_481, wl_36, wl_482, by decide, by decide, by decide +kernel⟩
theorem ok_X3_passHour : okV yX3_passHour cX3_passHour 4 (some .int) 0 := ⟨wl_453, wl_454, wl_36, wl_455, by decide, by decide, by decide +kernel⟩
theorem ok_X3_fateInHour : okV yX3_fateInHour cX3_fateInHour 5 (some .int) 2 := ⟨wl_461, wl_2, wl_36, wl_462, by decide, by decide, by decide +kernel⟩
theorem ok_X4_length : okV yX4_length cX4_length 1 (some .int) 0 := ⟨wl_213, wl_214, wl_34, wl_215, by decide, by decide, by decide +kernel⟩
theorem ok_X4_clear : okV yX4_clear cX4_clear 1 none 0 := ⟨wl_221, wl_222, wl_34, wl_223, by decide, by decide, by decide +kernel⟩
theorem ok_X4_append : okV yX4_append cX4_append 2 (some .boolean) 1 := ⟨wl_206, wl_207, wl_34, wl_208, by decide, by decide, by decide +kernel⟩
theorem ok_X4_byteAt : okV yX4_byteAt cX4_byteAt 2 (some .int) 1 := ⟨wl_233, wl_234, wl_34, wl_235, by decide, by decide, by decide +kernel⟩
theorem ok_X4_figureAt : okV yX4_figureAt cX4_figureAt 2 (some .int) 1 := ⟨wl_244, wl_245, wl_34, wl_246, by decide, by decide, by decide +kernel⟩
theorem ok_X4_firstFault : okV yX4_firstFault cX4_firstFault 8 (some .int) 0 := ⟨wl_229, wl_230, wl_34, wl_231, by decide, by decide, by decide +kernel⟩
theorem ok_X4_isFitting : okV yX4_isFitting cX4_isFitting 6 (some .boolean) 2 := ⟨wl_241, wl_0, wl_34, wl_242, by decide, by decide, by decide +kernel⟩
theorem ok_X5_clear : okV yX5_clear cX5_clear 1 none 0 := ⟨wl_276, wl_277, wl_38, wl_278, by decide, by decide, by decide +kernel⟩
theorem ok_X5_store : okV yX5_store cX5_store 4 none 2 := ⟨wl_648, wl_649, wl_38, wl_650, by decide, by decide, by decide +kernel⟩
theorem ok_X5_fetch : okV yX5_fetch cX5_fetch 4 (some .boolean) 2 := ⟨wl_658, wl_659, wl_38, wl_660, by decide, by decide, by decide +kernel⟩
theorem ok_X6_write : okV yX6_write cX6_write 2 (some .int) 1 := ⟨wl_202, wl_203, wl_33, wl_204, by decide, by decide, by decide +kernel⟩
theorem ok_X6_wipe : okV yX6_wipe cX6_wipe 2 (some .int) 0 := ⟨wl_217, wl_218, wl_33, wl_219, by decide, by decide, by decide +kernel⟩
theorem ok_X6_fault : okV yX6_fault cX6_fault 1 (some .int) 0 := ⟨wl_225, wl_226, wl_33, wl_227, by decide, by decide, by decide +kernel⟩
theorem ok_X6_town : okV yX6_town cX6_town 1 (some .int) 0 := ⟨wl_248, wl_249, wl_33, wl_250, by decide, by decide, by decide +kernel⟩
theorem ok_X6_about : okV yX6_about cX6_about 2 (some .int) 1 := ⟨wl_288, wl_289, wl_33, wl_290, by decide, by decide, by decide +kernel⟩
theorem ok_X6_walker : okV yX6_walker cX6_walker 3 (some .int) 2 := ⟨wl_333, wl_334, wl_33, wl_335, by decide, by decide, by decide +kernel⟩
theorem ok_X6_need : okV yX6_need cX6_need 3 (some .int) 2 := ⟨wl_350, wl_351, wl_33, wl_352, by decide, by decide, by decide +kernel⟩
theorem ok_X6_street : okV yX6_street cX6_street 3 (some .int) 2 := ⟨wl_371, wl_372, wl_33, wl_373, by decide, by decide, by decide +kernel⟩
theorem ok_X6_open : okV yX6_open cX6_open 2 (some .int) 1 := ⟨wl_390, wl_391, wl_33, wl_392, by decide, by decide, by decide +kernel⟩
theorem ok_X6_shut : okV yX6_shut cX6_shut 2 (some .int) 1 := ⟨wl_423, wl_424, wl_33, wl_425, by decide, by decide, by decide +kernel⟩
theorem ok_X6_walk : okV yX6_walk cX6_walk 3 (some .int) 2 := ⟨wl_431, wl_432, wl_33, wl_433, by decide, by decide, by decide +kernel⟩
theorem ok_X6_hour : okV yX6_hour cX6_hour 1 (some .int) 0 := ⟨wl_449, wl_450, wl_33, wl_451, by decide, by decide, by decide +kernel⟩
theorem ok_X6_undo : okV yX6_undo cX6_undo 1 (some .int) 0 := ⟨wl_467, wl_468, wl_33, wl_469, by decide, by decide, by decide +kernel⟩
theorem ok_X6_wet : okV yX6_wet cX6_wet 3 (some .int) 2 := ⟨wl_475, wl_476, wl_33, wl_477, by decide, by decide, by decide +kernel⟩
theorem ok_X6_needs : okV yX6_needs cX6_needs 3 (some .int) 2 := ⟨wl_485, wl_486, wl_33, wl_487, by decide, by decide, by decide +kernel⟩
theorem ok_X6_dry : okV yX6_dry cX6_dry 3 (some .int) 1 := ⟨wl_492, wl_493, wl_33, wl_494, by decide, by decide, by decide +kernel⟩
theorem ok_X6_asked : okV yX6_asked cX6_asked 7 (some .int) 1 := ⟨wl_497, wl_498, wl_33, wl_499, by decide, by decide, by decide +kernel⟩
theorem ok_X6_sent : okV yX6_sent cX6_sent 7 (some .int) 2 := ⟨wl_530, wl_531, wl_33, wl_532, by decide, by decide, by decide +kernel⟩
theorem ok_X6_judge : okV yX6_judge cX6_judge 6 (some .int) 2 := ⟨wl_539, wl_540, wl_33, wl_541, by decide, by decide, by decide +kernel⟩
theorem ok_X6_share : okV yX6_share cX6_share 8 (some .int) 2 := ⟨wl_551, wl_552, wl_33, wl_553, by decide, by decide, by decide +kernel⟩
theorem ok_X6_feel : okV yX6_feel cX6_feel 4 (some .int) 3 := ⟨wl_575, wl_576, wl_33, wl_577, by decide, by decide, by decide +kernel⟩
theorem ok_X6_unfeel : okV yX6_unfeel cX6_unfeel 2 (some .int) 0 := ⟨wl_584, wl_585, wl_33, wl_586, by decide, by decide, by decide +kernel⟩
theorem ok_X6_may : okV yX6_may cX6_may 7 (some .int) 1 := ⟨wl_592, wl_593, wl_33, wl_594, by decide, by decide, by decide +kernel⟩
theorem ok_X6_rests : okV yX6_rests cX6_rests 9 (some .int) 3 := ⟨wl_607, wl_608, wl_33, wl_609, by decide, by decide, by decide +kernel⟩
theorem ok_X6_sudden : okV yX6_sudden cX6_sudden 10 (some .int) 4 := ⟨wl_619, wl_620, wl_33, wl_621, by decide, by decide, by decide +kernel⟩
theorem ok_X6_seed : okV yX6_seed cX6_seed 5 (some .long) 1 := ⟨wl_626, wl_627, wl_33, wl_628, by decide, by decide, by decide +kernel⟩
theorem ok_X6_weeks : okV yX6_weeks cX6_weeks 4 (some .int) 1 := ⟨wl_630, wl_631, wl_33, wl_632, by decide, by decide, by decide +kernel⟩
theorem ok_X6_keep : okV yX6_keep cX6_keep 2 (some .int) 1 := ⟨wl_641, wl_642, wl_33, wl_643, by decide, by decide, by decide +kernel⟩
theorem ok_X6_again : okV yX6_again cX6_again 2 (some .int) 1 := ⟨wl_654, wl_655, wl_33, wl_656, by decide, by decide, by decide +kernel⟩
theorem ok_X6_keptIfOpened : okV yX6_keptIfOpened cX6_keptIfOpened 2 (some .int) 1 := ⟨wl_502, wl_3, wl_33, wl_503, by decide, by decide, by decide +kernel⟩
theorem ok_X6_keptIfSent : okV yX6_keptIfSent cX6_keptIfSent 3 (some .int) 2 := ⟨wl_535, wl_4, wl_33, wl_536, by decide, by decide, by decide +kernel⟩
theorem ok_X6_keptIfCome : okV yX6_keptIfCome cX6_keptIfCome 2 (some .int) 1 := ⟨wl_556, wl_6, wl_33, wl_557, by decide, by decide, by decide +kernel⟩
theorem ok_X6_comesTrue : okV yX6_comesTrue cX6_comesTrue 4 (some .boolean) 3 := ⟨wl_548, wl_5, wl_33, wl_549, by decide, by decide, by decide +kernel⟩
theorem ok_X6_doByChance : okV yX6_doByChance cX6_doByChance 2 none 1 := ⟨wl_638, wl_9, wl_33, wl_639, by decide, by decide, by decide +kernel⟩
theorem ok_X6_isContent : okV yX6_isContent cX6_isContent 5 (some .boolean) 4 := ⟨wl_612, wl_7, wl_33, wl_613, by decide, by decide, by decide +kernel⟩
theorem ok_X6_gain : okV yX6_gain cX6_gain 8 (some .int) 4 := ⟨wl_616, wl_8, wl_33, wl_617, by decide, by decide, by decide +kernel⟩
theorem ok_X6_isStreet : okS yX6_isStreet cX6_isStreet 1 (some .boolean) 1 := ⟨wl_375, wl_33, wl_376, by decide, by decide, by decide +kernel⟩
theorem ok_X6_isSlot : okS yX6_isSlot cX6_isSlot 1 (some .boolean) 1 := ⟨wl_645, wl_33, wl_646, by decide, by decide, by decide +kernel⟩
theorem ok_X6_isChoice : okS yX6_isChoice cX6_isChoice 1 (some .boolean) 1 := ⟨wl_489, wl_33, wl_490, by decide, by decide, by decide +kernel⟩
theorem ok_X6_has : okS yX6_has cX6_has 2 (some .boolean) 2 := ⟨wl_304, wl_33, wl_305, by decide, by decide, by decide +kernel⟩
theorem ok_X6_isWithin : okS yX6_isWithin cX6_isWithin 2 (some .boolean) 2 := ⟨wl_526, wl_33, wl_527, by decide, by decide, by decide +kernel⟩
theorem ok_X6_at : okS yX6_at cX6_at 2 (some .int) 2 := ⟨wl_237, wl_33, wl_238, by decide, by decide, by decide +kernel⟩
theorem ok_X6_put : okS yX6_put cX6_put 3 none 3 := ⟨wl_210, wl_33, wl_211, by decide, by decide, by decide +kernel⟩
theorem ok_X6_withoutLast : okS yX6_withoutLast cX6_withoutLast 6 (some .long) 2 := ⟨wl_543, wl_33, wl_544, by decide, by decide, by decide +kernel⟩
theorem ok_X6_ordersOf : okS yX6_ordersOf cX6_ordersOf 3 (some .int) 1 := ⟨wl_563, wl_33, wl_564, by decide, by decide, by decide +kernel⟩
theorem ok_X6_power : okS yX6_power cX6_power 4 (some .int) 2 := ⟨wl_623, wl_33, wl_624, by decide, by decide, by decide +kernel⟩
theorem ok_X6_partOf : okS yX6_partOf cX6_partOf 4 (some .int) 3 := ⟨wl_566, wl_33, wl_567, by decide, by decide, by decide +kernel⟩
theorem ok_X6_commonDivisor : okS yX6_commonDivisor cX6_commonDivisor 6 (some .int) 2 := ⟨wl_572, wl_33, wl_573, by decide, by decide, by decide +kernel⟩
theorem ok_X6_scenes : okS yX6_scenes cX6_scenes 4 (some (.array (.object "FirstUmbrella$Scene"))) 2 := ⟨wl_130, wl_33, wl_131, by decide, by decide, by decide +kernel⟩
theorem ok_X6_sceneAt : okS yX6_sceneAt cX6_sceneAt 2 (some (.object "FirstUmbrella$Scene")) 2 := ⟨wl_398, wl_33, wl_399, by decide, by decide, by decide +kernel⟩
theorem ok_X7_in : okS yX7_in cX7_in 6 (some .boolean) 3 := ⟨wl_769, wl_40, wl_770, by decide, by decide, by decide +kernel⟩
theorem ok_X7_has : okS yX7_has cX7_has 2 (some .boolean) 2 := ⟨wl_812, wl_40, wl_813, by decide, by decide, by decide +kernel⟩
theorem ok_X7_many : okS yX7_many cX7_many 3 (some .int) 1 := ⟨wl_927, wl_40, wl_928, by decide, by decide, by decide +kernel⟩
theorem ok_X7_power : okS yX7_power cX7_power 4 (some .int) 2 := ⟨wl_994, wl_40, wl_995, by decide, by decide, by decide +kernel⟩
theorem ok_X7_noWalker : okV yX7_noWalker cX7_noWalker 2 (some .boolean) 1 := ⟨wl_832, wl_19, wl_40, wl_833, by decide, by decide, by decide +kernel⟩
theorem ok_X7_noStreet : okS yX7_noStreet cX7_noStreet 1 (some .boolean) 1 := ⟨wl_844, wl_40, wl_845, by decide, by decide, by decide +kernel⟩
theorem ok_X7_write : okV yX7_write cX7_write 2 (some .int) 1 := ⟨wl_764, wl_765, wl_40, wl_766, by decide, by decide, by decide +kernel⟩
theorem ok_X7_wipe : okV yX7_wipe cX7_wipe 2 (some .int) 0 := ⟨wl_772, wl_773, wl_40, wl_774, by decide, by decide, by decide +kernel⟩
theorem ok_X7_figure : okV yX7_figure cX7_figure 3 (some .int) 2 := ⟨wl_793, wl_13, wl_40, wl_794, by decide, by decide, by decide +kernel⟩
theorem ok_X7_readOneWalker : okV yX7_readOneWalker cX7_readOneWalker 3 (some .boolean) 0 := ⟨wl_789, wl_12, wl_40, wl_790, by decide, by decide, by decide +kernel⟩
theorem ok_X7_readOneNeed : okV yX7_readOneNeed cX7_readOneNeed 4 (some .boolean) 0 := ⟨wl_797, wl_14, wl_40, wl_798, by decide, by decide, by decide +kernel⟩
theorem ok_X7_readThing : okV yX7_readThing cX7_readThing 2 (some .boolean) 0 := ⟨wl_785, wl_11, wl_40, wl_786, by decide, by decide, by decide +kernel⟩
theorem ok_X7_readTown : okV yX7_readTown cX7_readTown 1 (some .int) 0 := ⟨wl_781, wl_10, wl_40, wl_782, by decide, by decide, by decide +kernel⟩
theorem ok_X7_fault : okV yX7_fault cX7_fault 1 (some .int) 0 := ⟨wl_776, wl_777, wl_40, wl_778, by decide, by decide, by decide +kernel⟩
theorem ok_X7_town : okV yX7_town cX7_town 2 (some .int) 0 := ⟨wl_800, wl_801, wl_40, wl_802, by decide, by decide, by decide +kernel⟩
theorem ok_X7_openIn : okV yX7_openIn cX7_openIn 5 (some .int) 2 := ⟨wl_820, wl_17, wl_40, wl_821, by decide, by decide, by decide +kernel⟩
theorem ok_X7_rainOf : okV yX7_rainOf cX7_rainOf 5 (some .int) 1 := ⟨wl_809, wl_15, wl_40, wl_810, by decide, by decide, by decide +kernel⟩
theorem ok_X7_hailOf : okV yX7_hailOf cX7_hailOf 4 (some .int) 1 := ⟨wl_816, wl_16, wl_40, wl_817, by decide, by decide, by decide +kernel⟩
theorem ok_X7_greater : okS yX7_greater cX7_greater 2 (some .int) 2 := ⟨wl_860, wl_40, wl_861, by decide, by decide, by decide +kernel⟩
theorem ok_X7_goOpen : okV yX7_goOpen cX7_goOpen 4 none 2 := ⟨wl_857, wl_21, wl_40, wl_858, by decide, by decide, by decide +kernel⟩
theorem ok_X7_goShut : okV yX7_goShut cX7_goShut 4 none 2 := ⟨wl_868, wl_22, wl_40, wl_869, by decide, by decide, by decide +kernel⟩
theorem ok_X7_stateThen : okV yX7_stateThen cX7_stateThen 7 (some .int) 3 := ⟨wl_887, wl_24, wl_40, wl_888, by decide, by decide, by decide +kernel⟩
theorem ok_X7_goHour : okV yX7_goHour cX7_goHour 5 (some .int) 1 := ⟨wl_883, wl_23, wl_40, wl_884, by decide, by decide, by decide +kernel⟩
theorem ok_X7_goHours : okV yX7_goHours cX7_goHours 3 none 1 := ⟨wl_904, wl_26, wl_40, wl_905, by decide, by decide, by decide +kernel⟩
theorem ok_X7_needsThat : okV yX7_needsThat cX7_needsThat 5 (some .int) 2 := ⟨wl_824, wl_18, wl_40, wl_825, by decide, by decide, by decide +kernel⟩
theorem ok_X7_about : okV yX7_about cX7_about 2 (some .int) 1 := ⟨wl_804, wl_805, wl_40, wl_806, by decide, by decide, by decide +kernel⟩
theorem ok_X7_walker : okV yX7_walker cX7_walker 3 (some .int) 2 := ⟨wl_827, wl_828, wl_40, wl_829, by decide, by decide, by decide +kernel⟩
theorem ok_X7_need : okV yX7_need cX7_need 3 (some .int) 2 := ⟨wl_835, wl_836, wl_40, wl_837, by decide, by decide, by decide +kernel⟩
theorem ok_X7_street : okV yX7_street cX7_street 3 (some .int) 2 := ⟨wl_840, wl_841, wl_40, wl_842, by decide, by decide, by decide +kernel⟩
theorem ok_X7_note : okV yX7_note cX7_note 2 none 0 := ⟨wl_853, wl_20, wl_40, wl_854, by decide, by decide, by decide +kernel⟩
theorem ok_X7_open : okV yX7_open cX7_open 2 (some .int) 1 := ⟨wl_848, wl_849, wl_40, wl_850, by decide, by decide, by decide +kernel⟩
theorem ok_X7_shut : okV yX7_shut cX7_shut 2 (some .int) 1 := ⟨wl_863, wl_864, wl_40, wl_865, by decide, by decide, by decide +kernel⟩
theorem ok_X7_canWalk : okS yX7_canWalk cX7_canWalk 3 (some .boolean) 3 := ⟨wl_875, wl_40, wl_876, by decide, by decide, by decide +kernel⟩
theorem ok_X7_walk : okV yX7_walk cX7_walk 4 (some .int) 2 := ⟨wl_871, wl_872, wl_40, wl_873, by decide, by decide, by decide +kernel⟩
theorem ok_X7_hour : okV yX7_hour cX7_hour 1 (some .int) 0 := ⟨wl_878, wl_879, wl_40, wl_880, by decide, by decide, by decide +kernel⟩
theorem ok_X7_undo : okV yX7_undo cX7_undo 2 (some .int) 0 := ⟨wl_890, wl_891, wl_40, wl_892, by decide, by decide, by decide +kernel⟩
theorem ok_X7_begin : okV yX7_begin cX7_begin 2 none 0 := ⟨wl_900, wl_25, wl_40, wl_901, by decide, by decide, by decide +kernel⟩
theorem ok_X7_wet : okV yX7_wet cX7_wet 3 (some .int) 2 := ⟨wl_894, wl_895, wl_40, wl_896, by decide, by decide, by decide +kernel⟩
theorem ok_X7_needs : okV yX7_needs cX7_needs 3 (some .int) 2 := ⟨wl_907, wl_908, wl_40, wl_909, by decide, by decide, by decide +kernel⟩
theorem ok_X7_dry : okV yX7_dry cX7_dry 3 (some .int) 1 := ⟨wl_911, wl_912, wl_40, wl_913, by decide, by decide, by decide +kernel⟩
theorem ok_X7_keptThen : okV yX7_keptThen cX7_keptThen 1 (some .int) 0 := ⟨wl_924, wl_28, wl_40, wl_925, by decide, by decide, by decide +kernel⟩
theorem ok_X7_openAll : okV yX7_openAll cX7_openAll 3 none 1 := ⟨wl_920, wl_27, wl_40, wl_921, by decide, by decide, by decide +kernel⟩
theorem ok_X7_asked : okV yX7_asked cX7_asked 4 (some .int) 1 := ⟨wl_915, wl_916, wl_40, wl_917, by decide, by decide, by decide +kernel⟩
theorem ok_X7_sent : okV yX7_sent cX7_sent 5 (some .int) 2 := ⟨wl_930, wl_931, wl_40, wl_932, by decide, by decide, by decide +kernel⟩
theorem ok_X7_longPower : okS yX7_longPower cX7_longPower 6 (some .long) 2 := ⟨wl_940, wl_40, wl_941, by decide, by decide, by decide +kernel⟩
theorem ok_X7_does : okV yX7_does cX7_does 5 (some .boolean) 1 := ⟨wl_944, wl_29, wl_40, wl_945, by decide, by decide, by decide +kernel⟩
theorem ok_X7_judge : okV yX7_judge cX7_judge 5 (some .int) 2 := ⟨wl_934, wl_935, wl_40, wl_936, by decide, by decide, by decide +kernel⟩
theorem ok_X7_ways : okS yX7_ways cX7_ways 3 (some .int) 1 := ⟨wl_951, wl_40, wl_952, by decide, by decide, by decide +kernel⟩
theorem ok_X7_divisor : okS yX7_divisor cX7_divisor 5 (some .int) 2 := ⟨wl_957, wl_40, wl_958, by decide, by decide, by decide +kernel⟩
theorem ok_X7_fraction : okS yX7_fraction cX7_fraction 4 (some .int) 3 := ⟨wl_954, wl_40, wl_955, by decide, by decide, by decide +kernel⟩
theorem ok_X7_share : okV yX7_share cX7_share 6 (some .int) 2 := ⟨wl_947, wl_948, wl_40, wl_949, by decide, by decide, by decide +kernel⟩
theorem ok_X7_feel : okV yX7_feel cX7_feel 4 (some .int) 3 := ⟨wl_960, wl_961, wl_40, wl_962, by decide, by decide, by decide +kernel⟩
theorem ok_X7_unfeel : okV yX7_unfeel cX7_unfeel 2 (some .int) 0 := ⟨wl_965, wl_966, wl_40, wl_967, by decide, by decide, by decide +kernel⟩
theorem ok_X7_rainsBy : okS yX7_rainsBy cX7_rainsBy 6 (some .boolean) 5 := ⟨wl_977, wl_40, wl_978, by decide, by decide, by decide +kernel⟩
theorem ok_X7_findMay : okV yX7_findMay cX7_findMay 7 none 0 := ⟨wl_974, wl_30, wl_40, wl_975, by decide, by decide, by decide +kernel⟩
theorem ok_X7_may : okV yX7_may cX7_may 2 (some .int) 1 := ⟨wl_969, wl_970, wl_40, wl_971, by decide, by decide, by decide +kernel⟩
theorem ok_X7_gainOf : okV yX7_gainOf cX7_gainOf 4 (some .int) 2 := ⟨wl_986, wl_31, wl_40, wl_987, by decide, by decide, by decide +kernel⟩
theorem ok_X7_rests : okV yX7_rests cX7_rests 6 (some .int) 3 := ⟨wl_981, wl_982, wl_40, wl_983, by decide, by decide, by decide +kernel⟩
theorem ok_X7_sudden : okV yX7_sudden cX7_sudden 9 (some .int) 4 := ⟨wl_989, wl_990, wl_40, wl_991, by decide, by decide, by decide +kernel⟩
theorem ok_X7_seed : okV yX7_seed cX7_seed 5 (some .long) 1 := ⟨wl_997, wl_998, wl_40, wl_999, by decide, by decide, by decide +kernel⟩
theorem ok_X7_weeks : okV yX7_weeks cX7_weeks 5 (some .int) 1 := ⟨wl_1001, wl_1002, wl_40, wl_1003, by decide, by decide, by decide +kernel⟩
theorem ok_X7_keep : okV yX7_keep cX7_keep 3 (some .int) 1 := ⟨wl_1009, wl_1010, wl_40, wl_1011, by decide, by decide, by decide +kernel⟩
theorem ok_X7_again : okV yX7_again cX7_again 3 (some .int) 1 := ⟨wl_1013, wl_1014, wl_40, wl_1015, by decide, by decide, by decide +kernel⟩
theorem ok_J6_bitCount_0f7a4 : okS yJ6_bitCount_0f7a4 cJ6_bitCount_0f7a4 1 (some .int) 1 := ⟨wl_515, wl_44, wl_516, by decide, by decide, by decide +kernel⟩
theorem ok_J9_abs_0f7a4 : okS yJ9_abs_0f7a4 cJ9_abs_0f7a4 1 (some .int) 1 := ⟨wl_569, wl_43, wl_570, by decide, by decide, by decide +kernel⟩
theorem ok_J9_max_7cf53 : okS yJ9_max_7cf53 cJ9_max_7cf53 2 (some .int) 2 := ⟨wl_419, wl_43, wl_420, by decide, by decide, by decide +kernel⟩
theorem ok_J7_fill_53178 : okS yJ7_fill_53178 cJ7_fill_53178 4 none 2 := ⟨wl_269, wl_41, wl_270, by decide, by decide, by decide +kernel⟩
