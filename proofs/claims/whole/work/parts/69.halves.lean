-- a call on the left half of the world; the halves change places
theorem left_1 {n : Nat} {a : Nat → Nat} {g : Nat → va_E} (wr : va_W) : (List.range n).map (fun i => (wF n a g ++ wr)[i]?) = (wF n a g).map some := by
  have hl : (wF n a g).length = n := by simp [wF]
  apply List.ext_getElem?
  intro i
  by_cases h : i < n
  · simp [h]
    rw [List.getElem?_append_left (by rw [hl]; exact h), wF_get h]
    rfl
  · simp [h, wF]
theorem left_2 {n : Nat} {a : Nat → Nat} {g : Nat → va_E} (wr : va_W) : (List.range' n wr.length).map (fun i => (wF n a g ++ wr)[i]?) = wr.map some := by
  have hl : (wF n a g).length = n := by simp [wF]
  apply List.ext_getElem?
  intro i
  by_cases h : i < wr.length
  · simp [h]
    rw [List.getElem?_append_right (by rw [hl]; omega), hl, Nat.add_sub_cancel_left, List.getElem?_eq_getElem h]
  · simp [h]
theorem left_3 (n k : Nat) : ∀ i ∈ List.range' n k, i ∉ List.range n := by
  intro i hi
  simp at hi ⊢
  omega
section
variable {p : Program} {l : Launch} {e : Env} {R : Room} {s : State} {m : MethodId} {args : Array Value} {below : List Frame} {meth : Method} {c : Code} {cells slots : Nat} {Q : State → Prop} {D : va_G} {cl : List vw_C} {tys : List (ClassId × FieldType)} {A0 : Nat → Prop} {H0 : Heap} {cc : ByteArray} {nL : Nat} {ret : Option FieldType} {own : String} {wr : va_W} {pc : Nat} {lv : List (Nat × Value)} {st : List Value} {n : Nat} {a : Nat → Nat} {g g2 : Nat → va_E}
theorem g_half_i (C : gC p s m args meth c cc nL ret own D cl tys A0 H0) {y : MethodName} {bytes : ByteArray} {maxL index fr lo : Nat} {rt : Option FieldType} {rest st0 : List Value} {As : List Value} {b : Nat} {q0 ci : Nat} {fs : List Value} {rc : vw_C} {r : Int32} (hM : KQ l D cl tys y bytes maxL rt fr lo (.ref b :: As) (wF n a g) (qI D cl (wF n a g2) r)) (hlk : Cond.methodLink own index y ∈ Wl) (hin : Cond.instanceMethod y ∈ Wl) (hse : Cond.selects y.cls y y ∈ Wl) (hini : Cond.initialized y.cls ∈ Wl) (hco : Cond.code y bytes maxL rt ∈ Wl) (hdd : y.cls = y.cls ∧ y.cls ≠ "java/lang/invoke/MethodHandle" ∧ y.cls ≠ "java/lang/invoke/VarHandle" ∧ (parseMethodDescriptor y.desc).map (fun d => d.parameters.length) = some As.length) (hk0 : q0 < n) (hb0 : b = a q0) (hg0 : g q0 = .inr (ci, fs)) (hc0 : cl[ci]? = some rc) (hc1 : rc.1 = y.cls) (hR : fr + 1 ≤ R.frames ∧ 8 + (maxL + 11) + lo ≤ R.locals) (hf : cells + 0 ≤ R.cells ∧ slots + 0 ≤ R.slots) (hst : st0 = As.reverse ++ .ref b :: rest) (hro : (rest.map fun v => v.category).sum ≤ 8) (hd : decode cc pc = .ok (.invokevirtual index, 3)) (kk : gG p l e R s m args below meth c nL D cl A0 H0 cells slots Q (wr ++ wF n a g2) (pc + 3) lv (.int r :: rest)) : gG p l e R s m args below meth c nL D cl A0 H0 cells slots Q (wF n a g ++ wr) pc lv st0 := by
  intro H locs ls hP hD hS hl
  have hFc := va_free (wc := wF n a g) hD hS C.2.2.2.2.2.2.2.2 (List.range n) (left_1 wr)
  have hPc := pick_P hP (List.range n) (left_1 wr)
  have hDc := hD.sub (List.range n) (nd_range _ List.nodup_range) (left_1 wr)
  refine va_calli (va_runV (As := As) (rest := rest) ⟨C.1, C.2.1, C.2.2.2.2.2.2.1, C.2.2.2.2.1, C.2.2.2.1⟩ (hM H.size) (cwV As.length C.2.2.2.1 (gV_good hlk hin hse hini hco) rfl rfl rfl hdd hR) ⟨gPre_blind, by subst hb0; rw [← hc1]; exact va_recv C.2.2.2.2.2.2.2.1.1 hPc hc0 (by rw [wF_get hk0, hg0]), gPre_of C hPc hDc⟩ rfl rfl hl.1 hst (lv_room hro) hd hf) hS (fun q _ h => hFc q h) hFc (fun r2 u t H1 locs1 ht hvm hw hB hz1 hk1 hS1 => ?_)
  cases hw
  rw [ht] at hB
  obtain ⟨hP2, hD2⟩ := va_join (wr := wr) (w1 := wF n a g2) hP hD (List.range n) (List.range' n wr.length) (left_1 wr) (left_2 wr) (nd_range _ List.nodup_range') (left_3 n _) hk1 hFc hB (wF_D (hDc.self (sz := H.size)))
  exact kk H1 locs1 ls hP2 hD2 hS1 hl
theorem g_half_l (C : gC p s m args meth c cc nL ret own D cl tys A0 H0) {y : MethodName} {bytes : ByteArray} {maxL index fr lo : Nat} {rt : Option FieldType} {rest st0 : List Value} {As : List Value} {b : Nat} {q0 ci : Nat} {fs : List Value} {rc : vw_C} {r : Int64} (hM : KQ l D cl tys y bytes maxL rt fr lo (.ref b :: As) (wF n a g) (qL D cl (wF n a g2) r)) (hlk : Cond.methodLink own index y ∈ Wl) (hin : Cond.instanceMethod y ∈ Wl) (hse : Cond.selects y.cls y y ∈ Wl) (hini : Cond.initialized y.cls ∈ Wl) (hco : Cond.code y bytes maxL rt ∈ Wl) (hdd : y.cls = y.cls ∧ y.cls ≠ "java/lang/invoke/MethodHandle" ∧ y.cls ≠ "java/lang/invoke/VarHandle" ∧ (parseMethodDescriptor y.desc).map (fun d => d.parameters.length) = some As.length) (hk0 : q0 < n) (hb0 : b = a q0) (hg0 : g q0 = .inr (ci, fs)) (hc0 : cl[ci]? = some rc) (hc1 : rc.1 = y.cls) (hR : fr + 1 ≤ R.frames ∧ 8 + (maxL + 11) + lo ≤ R.locals) (hf : cells + 0 ≤ R.cells ∧ slots + 0 ≤ R.slots) (hst : st0 = As.reverse ++ .ref b :: rest) (hro : (rest.map fun v => v.category).sum ≤ 8) (hd : decode cc pc = .ok (.invokevirtual index, 3)) (kk : gG p l e R s m args below meth c nL D cl A0 H0 cells slots Q (wr ++ wF n a g2) (pc + 3) lv (.long r :: rest)) : gG p l e R s m args below meth c nL D cl A0 H0 cells slots Q (wF n a g ++ wr) pc lv st0 := by
  intro H locs ls hP hD hS hl
  have hFc := va_free (wc := wF n a g) hD hS C.2.2.2.2.2.2.2.2 (List.range n) (left_1 wr)
  have hPc := pick_P hP (List.range n) (left_1 wr)
  have hDc := hD.sub (List.range n) (nd_range _ List.nodup_range) (left_1 wr)
  refine va_calll (va_runV (As := As) (rest := rest) ⟨C.1, C.2.1, C.2.2.2.2.2.2.1, C.2.2.2.2.1, C.2.2.2.1⟩ (hM H.size) (cwV As.length C.2.2.2.1 (gV_good hlk hin hse hini hco) rfl rfl rfl hdd hR) ⟨gPre_blind, by subst hb0; rw [← hc1]; exact va_recv C.2.2.2.2.2.2.2.1.1 hPc hc0 (by rw [wF_get hk0, hg0]), gPre_of C hPc hDc⟩ rfl rfl hl.1 hst (lv_room hro) hd hf) hS (fun q _ h => hFc q h) hFc (fun r2 u t H1 locs1 ht hvm hw hB hz1 hk1 hS1 => ?_)
  cases hw
  rw [ht] at hB
  obtain ⟨hP2, hD2⟩ := va_join (wr := wr) (w1 := wF n a g2) hP hD (List.range n) (List.range' n wr.length) (left_1 wr) (left_2 wr) (nd_range _ List.nodup_range') (left_3 n _) hk1 hFc hB (wF_D (hDc.self (sz := H.size)))
  exact kk H1 locs1 ls hP2 hD2 hS1 hl
end
