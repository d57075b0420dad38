-- worlds as functions of an index; the judgement gG: the machine, its heap and its frame's locals bound inside
def wF (n : Nat) (a : Nat → Nat) (g : Nat → va_E) : va_W := (List.range n).map (fun k => (a k, g k))
theorem wF_get {n : Nat} {a : Nat → Nat} {g : Nat → va_E} {k : Nat} (h : k < n) : (wF n a g)[k]? = some (a k, g k) := by simp [wF, h]
theorem wF_inv {n : Nat} {a : Nat → Nat} {g : Nat → va_E} {k : Nat} {q : Nat × va_E} (h : (wF n a g)[k]? = some q) : k < n ∧ q = (a k, g k) := by
  by_cases hk : k < n
  · rw [wF_get hk] at h; cases h; exact ⟨hk, rfl⟩
  · have : (wF n a g)[k]? = none := by simp [wF]; omega
    rw [this] at h; cases h
def ve (x y : va_E) : Prop := ∀ (D : va_G) (cl : List vw_C) (q : Nat) (H : Heap), va_at D cl (q, x) H → va_at D cl (q, y) H
theorem ve_rf (x : va_E) : ve x x := fun _ _ _ _ h => h
theorem ve_eq {x y : va_E} (h : x = y) : ve x y := fun _ _ _ _ q => h ▸ q
theorem arrV_congr {cA : ClassId} {n : Nat} {f g : Nat → Value} (h : ∀ j, j < n → f j = g j) : arrV cA n f = arrV cA n g := by
  unfold arrV
  congr 1
  congr 1
  funext j
  exact h j.val j.isLt
theorem ve_arr {cA : ClassId} {n : Nat} {f g : Nat → Int32} (h : ∀ j, j < n → f j = g j) : ve (.inl (cA, n, .inl f)) (.inl (cA, n, .inl g)) := by
  intro D cl q H hq
  have hq : H[q]? = some (vp_cell cA (n, .inl f)) := hq
  show H[q]? = some (vp_cell cA (n, .inl g))
  rw [hq, vp_cell_i, vp_cell_i, arrV_congr (g := fun j => .int (g j)) (fun j hj => by rw [h j hj])]
theorem wF_set {D : va_G} {cl : List vw_C} {n : Nat} {a : Nat → Nat} {g g' : Nat → va_E} {k : Nat} {e : va_E} {H : Heap} (hP : va_P D cl ((wF n a g).set k (a k, e)) H) (h : ∀ i, i < n → ve (if i = k then e else g i) (g' i)) : va_P D cl (wF n a g') H := by
  intro i q hq
  obtain ⟨hi, rfl⟩ := wF_inv hq
  refine h i hi D cl (a i) H ?_
  by_cases hik : i = k
  · subst hik
    rw [if_pos rfl]
    refine hP i _ ?_
    rw [List.getElem?_set_self (by simp [wF]; exact hi)]
  · rw [if_neg hik]
    refine hP i _ ?_
    rw [List.getElem?_set_ne (Ne.symm hik), wF_get hi]
theorem wF_D {A : Nat → Prop} {n : Nat} {a : Nat → Nat} {g g' : Nat → va_E} (hD : va_D A (wF n a g)) : va_D A (wF n a g') := by
  refine ⟨fun i j x y hx hy hxy => ?_, fun k q hq => ?_⟩
  · obtain ⟨hi, rfl⟩ := wF_inv hx
    obtain ⟨hj, rfl⟩ := wF_inv hy
    exact hD.1 i j _ _ (wF_get hi) (wF_get hj) hxy
  · obtain ⟨hk, rfl⟩ := wF_inv hq
    exact hD.2 k (a k, g k) (wF_get hk)
theorem wF_A {n : Nat} {a : Nat → Nat} {g g' : Nat → va_E} {sz q : Nat} (h : va_A (wF n a g) sz q) : va_A (wF n a g') sz q := by
  rcases h with ⟨k, e, h⟩ | h
  · obtain ⟨hk, e1⟩ := wF_inv h
    exact Or.inl ⟨k, g' k, by rw [wF_get hk]; cases e1; rfl⟩
  · exact Or.inr h
-- the nest words
def isNest : Cond → Bool
  | .methodLinkNest _ _ _ _ => true
  | _ => false
def Nl : List Cond := lw_tbl.filter isNest
theorem nl_of {w : Cond} (i : Nat) (h : lw_tbl[i]? = some w) (hg : isNest w = true) : w ∈ Nl := List.mem_filter.mpr ⟨List.mem_of_getElem? h, hg⟩
def gK (D : va_G) (cl : List vw_C) (tys : List (ClassId × FieldType)) (U : State) : Prop := va_K D cl tys U ∧ ∀ w ∈ Nl, va_Nw w U
theorem gK.warm {D : va_G} {cl : List vw_C} {tys : List (ClassId × FieldType)} {s U : State} (hW : s.WarmedH U.vm) (h : gK D cl tys s) : gK D cl tys U := by
  refine ⟨va_K.moved hW.alike h.1, fun w hw => ?_⟩
  have h1 := h.2 w hw
  have h2 := (List.mem_filter.mp hw).2
  cases w <;> first | exact va_Nw.warmM hW h1 | cases h2
theorem gK.blind {D : va_G} {cl : List vw_C} {tys : List (ClassId × FieldType)} {U : State} {g : JFrame} {mk : MethodId} {a : Array Value} (h : gK D cl tys U) : gK D cl tys (U.calling g mk a) := by
  refine ⟨va_K.moved (u := U) (U := U.calling g mk a) (Vm.Alike.refl U.vm) h.1, fun w hw => ?_⟩
  have h1 := h.2 w hw
  have h2 := (List.mem_filter.mp hw).2
  cases w <;> first | exact va_Nw.same (u := U) (U := U.calling g mk a) rfl rfl h1 | cases h2
def gC (p : Program) (s : State) (m : MethodId) (args : Array Value) (meth : Method) (c : Code) (cc : ByteArray) (nL : Nat) (ret : Option FieldType) (own : String) (D : va_G) (cl : List vw_C) (tys : List (ClassId × FieldType)) (A0 : Nat → Prop) (H0 : Heap) : Prop :=
  p.tables.exec = Jvm.exec ∧ c.code = cc ∧ meth.sig.returnType = ret ∧ (∀ w ∈ Wl, w.before args s = true) ∧ s.vm.findClass own = some m.cls ∧ meth.locks = false ∧ c.maxLocals = nL ∧ gK D cl tys s ∧ (∀ q : Nat, H0.size ≤ q → A0 q)
def gG (p : Program) (l : Launch) (e : Env) (R : Room) (s : State) (m : MethodId) (args : Array Value) (below : List Frame) (meth : Method) (c : Code) (nL : Nat) (D : va_G) (cl : List vw_C) (A0 : Nat → Prop) (H0 : Heap) (cells slots : Nat) (Q : State → Prop) (w : va_W) (pc : Nat) (lv : List (Nat × Value)) (st : List Value) : Prop :=
  ∀ (H : Heap) (locs : List Loc) (ls : Array Slot), va_P D cl w H → va_D A0 w → va_S A0 H0 H locs → lv_has ls nL lv → W p l e R s m args below meth c H locs cells slots Q (F0 m pc ls st)
section
variable {p : Program} {l : Launch} {e : Env} {R : Room} {s : State} {m : MethodId} {args : Array Value} {below : List Frame} {meth : Method} {c : Code} {cells slots : Nat} {Q : State → Prop} {D : va_G} {cl : List vw_C} {tys : List (ClassId × FieldType)} {A0 : Nat → Prop} {H0 : Heap} {cc : ByteArray} {nL : Nat} {ret : Option FieldType} {own : String} {w : va_W} {pc : Nat} {lv : List (Nat × Value)} {st : List Value}
theorem g_iconst (C : gC p s m args meth c cc nL ret own D cl tys A0 H0) {n : Int} {v : Int32} (hd : decode cc pc = .ok (.iconst n, 1)) (hv : Int32.ofInt n = v) (k : gG p l e R s m args below meth c nL D cl A0 H0 cells slots Q w (pc + 1) lv (.int v :: st)) : gG p l e R s m args below meth c nL D cl A0 H0 cells slots Q w pc lv st :=
  fun H locs ls hP hD hS hl => lv_iconst C.1 C.2.1 hd hv (k H locs ls hP hD hS hl)
theorem g_bipush (C : gC p s m args meth c cc nL ret own D cl tys A0 H0) {n : Int} {v : Int32} (hd : decode cc pc = .ok (.bipush n, 2)) (hv : (Int8.ofInt n).toInt32 = v) (k : gG p l e R s m args below meth c nL D cl A0 H0 cells slots Q w (pc + 2) lv (.int v :: st)) : gG p l e R s m args below meth c nL D cl A0 H0 cells slots Q w pc lv (st) :=
  fun H locs ls hP hD hS hl => lv_bipush C.1 C.2.1 hd hv (k H locs ls hP hD hS hl)
theorem g_sipush (C : gC p s m args meth c cc nL ret own D cl tys A0 H0) {n : Int} {v : Int32} (hd : decode cc pc = .ok (.sipush n, 3)) (hv : (Int16.ofInt n).toInt32 = v) (k : gG p l e R s m args below meth c nL D cl A0 H0 cells slots Q w (pc + 3) lv (.int v :: st)) : gG p l e R s m args below meth c nL D cl A0 H0 cells slots Q w pc lv (st) :=
  fun H locs ls hP hD hS hl => lv_sipush C.1 C.2.1 hd hv (k H locs ls hP hD hS hl)
theorem g_lconst (C : gC p s m args meth c cc nL ret own D cl tys A0 H0) {n : Fin 2} {v : Int64} (hd : decode cc pc = .ok (.lconst n, 1)) (hv : Int64.ofNat (n : Nat) = v) (k : gG p l e R s m args below meth c nL D cl A0 H0 cells slots Q w (pc + 1) lv (.long v :: st)) : gG p l e R s m args below meth c nL D cl A0 H0 cells slots Q w pc lv (st) :=
  fun H locs ls hP hD hS hl => lv_lconst C.1 C.2.1 hd hv (k H locs ls hP hD hS hl)
theorem g_iload_n (C : gC p s m args meth c cc nL ret own D cl tys A0 H0) {k4 : Fin 4} {i : Nat} {x : Int32} (hd : decode cc pc = .ok (.iload_n k4, 1)) (j : Nat) (hi : (k4 : Nat) = i) (hj : lv[j]? = some (i, .int x)) (k : gG p l e R s m args below meth c nL D cl A0 H0 cells slots Q w (pc + 1) lv (.int x :: st)) : gG p l e R s m args below meth c nL D cl A0 H0 cells slots Q w pc lv (st) :=
  fun H locs ls hP hD hS hl => lv_iload_n C.1 C.2.1 hd hi (lv_at hl j hj) (k H locs ls hP hD hS hl)
theorem g_iload (C : gC p s m args meth c cc nL ret own D cl tys A0 H0) {i : Nat} {x : Int32} (hd : decode cc pc = .ok (.iload i, 2)) (j : Nat) (hj : lv[j]? = some (i, .int x)) (k : gG p l e R s m args below meth c nL D cl A0 H0 cells slots Q w (pc + 2) lv (.int x :: st)) : gG p l e R s m args below meth c nL D cl A0 H0 cells slots Q w pc lv (st) :=
  fun H locs ls hP hD hS hl => lv_iload C.1 C.2.1 hd (lv_at hl j hj) (k H locs ls hP hD hS hl)
theorem g_lload_n (C : gC p s m args meth c cc nL ret own D cl tys A0 H0) {k4 : Fin 4} {i : Nat} {x : Int64} (hd : decode cc pc = .ok (.lload_n k4, 1)) (j : Nat) (hi : (k4 : Nat) = i) (hj : lv[j]? = some (i, .long x)) (k : gG p l e R s m args below meth c nL D cl A0 H0 cells slots Q w (pc + 1) lv (.long x :: st)) : gG p l e R s m args below meth c nL D cl A0 H0 cells slots Q w pc lv (st) :=
  fun H locs ls hP hD hS hl => lv_lload_n C.1 C.2.1 hd hi (lv_at hl j hj) (k H locs ls hP hD hS hl)
theorem g_lload (C : gC p s m args meth c cc nL ret own D cl tys A0 H0) {i : Nat} {x : Int64} (hd : decode cc pc = .ok (.lload i, 2)) (j : Nat) (hj : lv[j]? = some (i, .long x)) (k : gG p l e R s m args below meth c nL D cl A0 H0 cells slots Q w (pc + 2) lv (.long x :: st)) : gG p l e R s m args below meth c nL D cl A0 H0 cells slots Q w pc lv (st) :=
  fun H locs ls hP hD hS hl => lv_lload C.1 C.2.1 hd (lv_at hl j hj) (k H locs ls hP hD hS hl)
theorem g_aload_n (C : gC p s m args meth c cc nL ret own D cl tys A0 H0) {k4 : Fin 4} {i : Nat} {x : Nat} (hd : decode cc pc = .ok (.aload_n k4, 1)) (j : Nat) (hi : (k4 : Nat) = i) (hj : lv[j]? = some (i, .ref x)) (k : gG p l e R s m args below meth c nL D cl A0 H0 cells slots Q w (pc + 1) lv (.ref x :: st)) : gG p l e R s m args below meth c nL D cl A0 H0 cells slots Q w pc lv (st) :=
  fun H locs ls hP hD hS hl => lv_aload_n C.1 C.2.1 hd hi (lv_at hl j hj) (k H locs ls hP hD hS hl)
theorem g_aload (C : gC p s m args meth c cc nL ret own D cl tys A0 H0) {i : Nat} {x : Nat} (hd : decode cc pc = .ok (.aload i, 2)) (j : Nat) (hj : lv[j]? = some (i, .ref x)) (k : gG p l e R s m args below meth c nL D cl A0 H0 cells slots Q w (pc + 2) lv (.ref x :: st)) : gG p l e R s m args below meth c nL D cl A0 H0 cells slots Q w pc lv (st) :=
  fun H locs ls hP hD hS hl => lv_aload C.1 C.2.1 hd (lv_at hl j hj) (k H locs ls hP hD hS hl)
theorem g_istore_n (C : gC p s m args meth c cc nL ret own D cl tys A0 H0) {k4 : Fin 4} {i : Nat} {x : Int32} {lv2 : List (Nat × Value)} (hd : decode cc pc = .ok (.istore_n k4, 1)) (hi : (k4 : Nat) = i) (hn : i < nL) (he : (i, Value.int x) :: lv.filter (fun q => !(q.1 == i) && !(q.1 + 1 == i && q.2.category == 2)) = lv2) (k : gG p l e R s m args below meth c nL D cl A0 H0 cells slots Q w (pc + 1) lv2 st) : gG p l e R s m args below meth c nL D cl A0 H0 cells slots Q w pc lv (Value.int x :: st) :=
  fun H locs ls hP hD hS hl => lv_istore_n C.1 C.2.1 hd hi hl hn he (fun ls2 hl2 => k H locs ls2 hP hD hS hl2)
theorem g_istore (C : gC p s m args meth c cc nL ret own D cl tys A0 H0) {i : Nat} {x : Int32} {lv2 : List (Nat × Value)} (hd : decode cc pc = .ok (.istore i, 2))  (hn : i < nL) (he : (i, Value.int x) :: lv.filter (fun q => !(q.1 == i) && !(q.1 + 1 == i && q.2.category == 2)) = lv2) (k : gG p l e R s m args below meth c nL D cl A0 H0 cells slots Q w (pc + 2) lv2 st) : gG p l e R s m args below meth c nL D cl A0 H0 cells slots Q w pc lv (Value.int x :: st) :=
  fun H locs ls hP hD hS hl => lv_istore C.1 C.2.1 hd  hl hn he (fun ls2 hl2 => k H locs ls2 hP hD hS hl2)
theorem g_lstore_n (C : gC p s m args meth c cc nL ret own D cl tys A0 H0) {k4 : Fin 4} {i : Nat} {x : Int64} {lv2 : List (Nat × Value)} (hd : decode cc pc = .ok (.lstore_n k4, 1)) (hi : (k4 : Nat) = i) (hn : i + 1 < nL) (he : (i, Value.long x) :: lv.filter (fun q => !(q.1 == i) && (!(q.1 == i + 1) && !(q.1 + 1 == i && q.2.category == 2))) = lv2) (k : gG p l e R s m args below meth c nL D cl A0 H0 cells slots Q w (pc + 1) lv2 st) : gG p l e R s m args below meth c nL D cl A0 H0 cells slots Q w pc lv (Value.long x :: st) :=
  fun H locs ls hP hD hS hl => lv_lstore_n C.1 C.2.1 hd hi hl hn he (fun ls2 hl2 => k H locs ls2 hP hD hS hl2)
theorem g_lstore (C : gC p s m args meth c cc nL ret own D cl tys A0 H0) {i : Nat} {x : Int64} {lv2 : List (Nat × Value)} (hd : decode cc pc = .ok (.lstore i, 2))  (hn : i + 1 < nL) (he : (i, Value.long x) :: lv.filter (fun q => !(q.1 == i) && (!(q.1 == i + 1) && !(q.1 + 1 == i && q.2.category == 2))) = lv2) (k : gG p l e R s m args below meth c nL D cl A0 H0 cells slots Q w (pc + 2) lv2 st) : gG p l e R s m args below meth c nL D cl A0 H0 cells slots Q w pc lv (Value.long x :: st) :=
  fun H locs ls hP hD hS hl => lv_lstore C.1 C.2.1 hd  hl hn he (fun ls2 hl2 => k H locs ls2 hP hD hS hl2)
theorem g_astore_n (C : gC p s m args meth c cc nL ret own D cl tys A0 H0) {k4 : Fin 4} {i : Nat} {x : Nat} {lv2 : List (Nat × Value)} (hd : decode cc pc = .ok (.astore_n k4, 1)) (hi : (k4 : Nat) = i) (hn : i < nL) (he : (i, Value.ref x) :: lv.filter (fun q => !(q.1 == i) && !(q.1 + 1 == i && q.2.category == 2)) = lv2) (k : gG p l e R s m args below meth c nL D cl A0 H0 cells slots Q w (pc + 1) lv2 st) : gG p l e R s m args below meth c nL D cl A0 H0 cells slots Q w pc lv (Value.ref x :: st) :=
  fun H locs ls hP hD hS hl => lv_astore_n C.1 C.2.1 hd hi hl hn he (fun ls2 hl2 => k H locs ls2 hP hD hS hl2)
theorem g_astore (C : gC p s m args meth c cc nL ret own D cl tys A0 H0) {i : Nat} {x : Nat} {lv2 : List (Nat × Value)} (hd : decode cc pc = .ok (.astore i, 2))  (hn : i < nL) (he : (i, Value.ref x) :: lv.filter (fun q => !(q.1 == i) && !(q.1 + 1 == i && q.2.category == 2)) = lv2) (k : gG p l e R s m args below meth c nL D cl A0 H0 cells slots Q w (pc + 2) lv2 st) : gG p l e R s m args below meth c nL D cl A0 H0 cells slots Q w pc lv (Value.ref x :: st) :=
  fun H locs ls hP hD hS hl => lv_astore C.1 C.2.1 hd  hl hn he (fun ls2 hl2 => k H locs ls2 hP hD hS hl2)
theorem g_iinc (C : gC p s m args meth c cc nL ret own D cl tys A0 H0) {i : Nat} {n : Int} {x v : Int32} {lv2 : List (Nat × Value)} (hd : decode cc pc = .ok (.iinc i n, 3)) (j : Nat) (hj : lv[j]? = some (i, .int x)) (hv : x + Int32.ofInt n = v) (hn : i < nL) (he : (i, Value.int v) :: lv.filter (fun q => !(q.1 == i) && !(q.1 + 1 == i && q.2.category == 2)) = lv2) (k : gG p l e R s m args below meth c nL D cl A0 H0 cells slots Q w (pc + 3) lv2 st) : gG p l e R s m args below meth c nL D cl A0 H0 cells slots Q w pc lv st :=
  fun H locs ls hP hD hS hl => lv_iinc C.1 C.2.1 hd hl hj hv hn he (fun ls2 hl2 => k H locs ls2 hP hD hS hl2)
theorem g_iadd (C : gC p s m args meth c cc nL ret own D cl tys A0 H0) {x y : Int32} (hd : decode cc pc = .ok (.iadd, 1))  (k : gG p l e R s m args below meth c nL D cl A0 H0 cells slots Q w (pc + 1) lv (.int (x + y) :: st)) : gG p l e R s m args below meth c nL D cl A0 H0 cells slots Q w pc lv (.int y :: .int x :: st) :=
  fun H locs ls hP hD hS hl => lv_iadd C.1 C.2.1 hd (k H locs ls hP hD hS hl)
theorem g_isub (C : gC p s m args meth c cc nL ret own D cl tys A0 H0) {x y : Int32} (hd : decode cc pc = .ok (.isub, 1))  (k : gG p l e R s m args below meth c nL D cl A0 H0 cells slots Q w (pc + 1) lv (.int (x - y) :: st)) : gG p l e R s m args below meth c nL D cl A0 H0 cells slots Q w pc lv (.int y :: .int x :: st) :=
  fun H locs ls hP hD hS hl => lv_isub C.1 C.2.1 hd (k H locs ls hP hD hS hl)
theorem g_imul (C : gC p s m args meth c cc nL ret own D cl tys A0 H0) {x y : Int32} (hd : decode cc pc = .ok (.imul, 1))  (k : gG p l e R s m args below meth c nL D cl A0 H0 cells slots Q w (pc + 1) lv (.int (x * y) :: st)) : gG p l e R s m args below meth c nL D cl A0 H0 cells slots Q w pc lv (.int y :: .int x :: st) :=
  fun H locs ls hP hD hS hl => lv_imul C.1 C.2.1 hd (k H locs ls hP hD hS hl)
theorem g_iand (C : gC p s m args meth c cc nL ret own D cl tys A0 H0) {x y : Int32} (hd : decode cc pc = .ok (.iand, 1))  (k : gG p l e R s m args below meth c nL D cl A0 H0 cells slots Q w (pc + 1) lv (.int (x &&& y) :: st)) : gG p l e R s m args below meth c nL D cl A0 H0 cells slots Q w pc lv (.int y :: .int x :: st) :=
  fun H locs ls hP hD hS hl => lv_iand C.1 C.2.1 hd (k H locs ls hP hD hS hl)
theorem g_ior (C : gC p s m args meth c cc nL ret own D cl tys A0 H0) {x y : Int32} (hd : decode cc pc = .ok (.ior, 1))  (k : gG p l e R s m args below meth c nL D cl A0 H0 cells slots Q w (pc + 1) lv (.int (x ||| y) :: st)) : gG p l e R s m args below meth c nL D cl A0 H0 cells slots Q w pc lv (.int y :: .int x :: st) :=
  fun H locs ls hP hD hS hl => lv_ior C.1 C.2.1 hd (k H locs ls hP hD hS hl)
theorem g_ixor (C : gC p s m args meth c cc nL ret own D cl tys A0 H0) {x y : Int32} (hd : decode cc pc = .ok (.ixor, 1))  (k : gG p l e R s m args below meth c nL D cl A0 H0 cells slots Q w (pc + 1) lv (.int (x ^^^ y) :: st)) : gG p l e R s m args below meth c nL D cl A0 H0 cells slots Q w pc lv (.int y :: .int x :: st) :=
  fun H locs ls hP hD hS hl => lv_ixor C.1 C.2.1 hd (k H locs ls hP hD hS hl)
theorem g_ladd (C : gC p s m args meth c cc nL ret own D cl tys A0 H0) {x y : Int64} (hd : decode cc pc = .ok (.ladd, 1))  (k : gG p l e R s m args below meth c nL D cl A0 H0 cells slots Q w (pc + 1) lv (.long (x + y) :: st)) : gG p l e R s m args below meth c nL D cl A0 H0 cells slots Q w pc lv (.long y :: .long x :: st) :=
  fun H locs ls hP hD hS hl => lv_ladd C.1 C.2.1 hd (k H locs ls hP hD hS hl)
theorem g_lsub (C : gC p s m args meth c cc nL ret own D cl tys A0 H0) {x y : Int64} (hd : decode cc pc = .ok (.lsub, 1))  (k : gG p l e R s m args below meth c nL D cl A0 H0 cells slots Q w (pc + 1) lv (.long (x - y) :: st)) : gG p l e R s m args below meth c nL D cl A0 H0 cells slots Q w pc lv (.long y :: .long x :: st) :=
  fun H locs ls hP hD hS hl => lv_lsub C.1 C.2.1 hd (k H locs ls hP hD hS hl)
theorem g_lmul (C : gC p s m args meth c cc nL ret own D cl tys A0 H0) {x y : Int64} (hd : decode cc pc = .ok (.lmul, 1))  (k : gG p l e R s m args below meth c nL D cl A0 H0 cells slots Q w (pc + 1) lv (.long (x * y) :: st)) : gG p l e R s m args below meth c nL D cl A0 H0 cells slots Q w pc lv (.long y :: .long x :: st) :=
  fun H locs ls hP hD hS hl => lv_lmul C.1 C.2.1 hd (k H locs ls hP hD hS hl)
theorem g_land (C : gC p s m args meth c cc nL ret own D cl tys A0 H0) {x y : Int64} (hd : decode cc pc = .ok (.land, 1))  (k : gG p l e R s m args below meth c nL D cl A0 H0 cells slots Q w (pc + 1) lv (.long (x &&& y) :: st)) : gG p l e R s m args below meth c nL D cl A0 H0 cells slots Q w pc lv (.long y :: .long x :: st) :=
  fun H locs ls hP hD hS hl => lv_land C.1 C.2.1 hd (k H locs ls hP hD hS hl)
theorem g_lor (C : gC p s m args meth c cc nL ret own D cl tys A0 H0) {x y : Int64} (hd : decode cc pc = .ok (.lor, 1))  (k : gG p l e R s m args below meth c nL D cl A0 H0 cells slots Q w (pc + 1) lv (.long (x ||| y) :: st)) : gG p l e R s m args below meth c nL D cl A0 H0 cells slots Q w pc lv (.long y :: .long x :: st) :=
  fun H locs ls hP hD hS hl => lv_lor C.1 C.2.1 hd (k H locs ls hP hD hS hl)
theorem g_idiv (C : gC p s m args meth c cc nL ret own D cl tys A0 H0) {x y : Int32} (hd : decode cc pc = .ok (.idiv, 1)) (hne : ¬ y = 0) (k : gG p l e R s m args below meth c nL D cl A0 H0 cells slots Q w (pc + 1) lv (.int (x / y) :: st)) : gG p l e R s m args below meth c nL D cl A0 H0 cells slots Q w pc lv (.int y :: .int x :: st) :=
  fun H locs ls hP hD hS hl => lv_idiv C.1 C.2.1 hd hne (k H locs ls hP hD hS hl)
theorem g_irem (C : gC p s m args meth c cc nL ret own D cl tys A0 H0) {x y : Int32} (hd : decode cc pc = .ok (.irem, 1)) (hne : ¬ y = 0) (k : gG p l e R s m args below meth c nL D cl A0 H0 cells slots Q w (pc + 1) lv (.int (x - x / y * y) :: st)) : gG p l e R s m args below meth c nL D cl A0 H0 cells slots Q w pc lv (.int y :: .int x :: st) :=
  fun H locs ls hP hD hS hl => lv_irem C.1 C.2.1 hd hne (k H locs ls hP hD hS hl)
theorem g_ldiv (C : gC p s m args meth c cc nL ret own D cl tys A0 H0) {x y : Int64} (hd : decode cc pc = .ok (.ldiv, 1)) (hne : ¬ y = 0) (k : gG p l e R s m args below meth c nL D cl A0 H0 cells slots Q w (pc + 1) lv (.long (x / y) :: st)) : gG p l e R s m args below meth c nL D cl A0 H0 cells slots Q w pc lv (.long y :: .long x :: st) :=
  fun H locs ls hP hD hS hl => lv_ldiv C.1 C.2.1 hd hne (k H locs ls hP hD hS hl)
theorem g_lrem (C : gC p s m args meth c cc nL ret own D cl tys A0 H0) {x y : Int64} (hd : decode cc pc = .ok (.lrem, 1)) (hne : ¬ y = 0) (k : gG p l e R s m args below meth c nL D cl A0 H0 cells slots Q w (pc + 1) lv (.long (x - x / y * y) :: st)) : gG p l e R s m args below meth c nL D cl A0 H0 cells slots Q w pc lv (.long y :: .long x :: st) :=
  fun H locs ls hP hD hS hl => lv_lrem C.1 C.2.1 hd hne (k H locs ls hP hD hS hl)
theorem g_ineg (C : gC p s m args meth c cc nL ret own D cl tys A0 H0) {x : Int32} (hd : decode cc pc = .ok (.ineg, 1))  (k : gG p l e R s m args below meth c nL D cl A0 H0 cells slots Q w (pc + 1) lv (.int (-x) :: st)) : gG p l e R s m args below meth c nL D cl A0 H0 cells slots Q w pc lv (.int x :: st) :=
  fun H locs ls hP hD hS hl => lv_ineg C.1 C.2.1 hd (k H locs ls hP hD hS hl)
theorem g_ishl (C : gC p s m args meth c cc nL ret own D cl tys A0 H0) {x y : Int32} (hd : decode cc pc = .ok (.ishl, 1))  (k : gG p l e R s m args below meth c nL D cl A0 H0 cells slots Q w (pc + 1) lv (.int (x <<< (y &&& 31)) :: st)) : gG p l e R s m args below meth c nL D cl A0 H0 cells slots Q w pc lv (.int y :: .int x :: st) :=
  fun H locs ls hP hD hS hl => lv_ishl C.1 C.2.1 hd (k H locs ls hP hD hS hl)
theorem g_ishr (C : gC p s m args meth c cc nL ret own D cl tys A0 H0) {x y : Int32} (hd : decode cc pc = .ok (.ishr, 1))  (k : gG p l e R s m args below meth c nL D cl A0 H0 cells slots Q w (pc + 1) lv (.int (x >>> (y &&& 31)) :: st)) : gG p l e R s m args below meth c nL D cl A0 H0 cells slots Q w pc lv (.int y :: .int x :: st) :=
  fun H locs ls hP hD hS hl => lv_ishr C.1 C.2.1 hd (k H locs ls hP hD hS hl)
theorem g_iushr (C : gC p s m args meth c cc nL ret own D cl tys A0 H0) {x y v : Int32} (hd : decode cc pc = .ok (.iushr, 1)) (hv : (x.toUInt32 >>> (y.toUInt32 &&& Int32.toUInt32 31)).toInt32 = v) (k : gG p l e R s m args below meth c nL D cl A0 H0 cells slots Q w (pc + 1) lv (.int v :: st)) : gG p l e R s m args below meth c nL D cl A0 H0 cells slots Q w pc lv (.int y :: .int x :: st) :=
  fun H locs ls hP hD hS hl => lv_iushr C.1 C.2.1 hd hv (k H locs ls hP hD hS hl)
theorem g_lushr (C : gC p s m args meth c cc nL ret own D cl tys A0 H0) {x v : Int64} {y : Int32} (hd : decode cc pc = .ok (.lushr, 1)) (hv : (x.toUInt64 >>> (y.toInt64.toUInt64 &&& Int64.toUInt64 63)).toInt64 = v) (k : gG p l e R s m args below meth c nL D cl A0 H0 cells slots Q w (pc + 1) lv (.long v :: st)) : gG p l e R s m args below meth c nL D cl A0 H0 cells slots Q w pc lv (.int y :: .long x :: st) :=
  fun H locs ls hP hD hS hl => lv_lushr C.1 C.2.1 hd hv (k H locs ls hP hD hS hl)
theorem g_lshl (C : gC p s m args meth c cc nL ret own D cl tys A0 H0) {x v : Int64} {y : Int32} (hd : decode cc pc = .ok (.lshl, 1)) (hv : x <<< (y.toInt64 &&& 63) = v) (k : gG p l e R s m args below meth c nL D cl A0 H0 cells slots Q w (pc + 1) lv (.long v :: st)) : gG p l e R s m args below meth c nL D cl A0 H0 cells slots Q w pc lv (.int y :: .long x :: st) :=
  fun H locs ls hP hD hS hl => lv_lshl C.1 C.2.1 hd hv (k H locs ls hP hD hS hl)
theorem g_i2l (C : gC p s m args meth c cc nL ret own D cl tys A0 H0) {x : Int32} {v : Int64} (hd : decode cc pc = .ok (.i2l, 1)) (hv : x.toInt64 = v) (k : gG p l e R s m args below meth c nL D cl A0 H0 cells slots Q w (pc + 1) lv (.long v :: st)) : gG p l e R s m args below meth c nL D cl A0 H0 cells slots Q w pc lv (.int x :: st) :=
  fun H locs ls hP hD hS hl => lv_i2l C.1 C.2.1 hd hv (k H locs ls hP hD hS hl)
theorem g_l2i (C : gC p s m args meth c cc nL ret own D cl tys A0 H0) {x : Int64} {v : Int32} (hd : decode cc pc = .ok (.l2i, 1)) (hv : x.toInt32 = v) (k : gG p l e R s m args below meth c nL D cl A0 H0 cells slots Q w (pc + 1) lv (.int v :: st)) : gG p l e R s m args below meth c nL D cl A0 H0 cells slots Q w pc lv (.long x :: st) :=
  fun H locs ls hP hD hS hl => lv_l2i C.1 C.2.1 hd hv (k H locs ls hP hD hS hl)
theorem g_lcmp (C : gC p s m args meth c cc nL ret own D cl tys A0 H0) {x y : Int64} (hd : decode cc pc = .ok (.lcmp, 1)) (k : gG p l e R s m args below meth c nL D cl A0 H0 cells slots Q w (pc + 1) lv (.int (lg_cmp x y) :: st)) : gG p l e R s m args below meth c nL D cl A0 H0 cells slots Q w pc lv (.long y :: .long x :: st) :=
  fun H locs ls hP hD hS hl => W.lcmp C.1 C.2.1 hd (k H locs ls hP hD hS hl)
theorem g_dup (C : gC p s m args meth c cc nL ret own D cl tys A0 H0) {va : Value} (hd : decode cc pc = .ok (.dup, 1)) (ha : va.category = 1) (k : gG p l e R s m args below meth c nL D cl A0 H0 cells slots Q w (pc + 1) lv (va :: va :: st)) : gG p l e R s m args below meth c nL D cl A0 H0 cells slots Q w pc lv (va :: st) :=
  fun H locs ls hP hD hS hl => lv_dup C.1 C.2.1 hd ha (k H locs ls hP hD hS hl)
theorem g_pop (C : gC p s m args meth c cc nL ret own D cl tys A0 H0) {va : Value} (hd : decode cc pc = .ok (.pop, 1)) (ha : va.category = 1) (k : gG p l e R s m args below meth c nL D cl A0 H0 cells slots Q w (pc + 1) lv (st)) : gG p l e R s m args below meth c nL D cl A0 H0 cells slots Q w pc lv (va :: st) :=
  fun H locs ls hP hD hS hl => lv_pop C.1 C.2.1 hd ha (k H locs ls hP hD hS hl)
theorem g_dup_x1 (C : gC p s m args meth c cc nL ret own D cl tys A0 H0) {va vb : Value} (hd : decode cc pc = .ok (.dup_x1, 1)) (ha : va.category = 1) (hb : vb.category = 1) (k : gG p l e R s m args below meth c nL D cl A0 H0 cells slots Q w (pc + 1) lv (va :: vb :: va :: st)) : gG p l e R s m args below meth c nL D cl A0 H0 cells slots Q w pc lv (va :: vb :: st) :=
  fun H locs ls hP hD hS hl => lv_dup_x1 C.1 C.2.1 hd ha hb (k H locs ls hP hD hS hl)
theorem g_dup_x2 (C : gC p s m args meth c cc nL ret own D cl tys A0 H0) {va vb vd : Value} (hd : decode cc pc = .ok (.dup_x2, 1)) (ha : va.category = 1) (hb : vb.category = 1) (hc : vd.category = 1) (k : gG p l e R s m args below meth c nL D cl A0 H0 cells slots Q w (pc + 1) lv (va :: vb :: vd :: va :: st)) : gG p l e R s m args below meth c nL D cl A0 H0 cells slots Q w pc lv (va :: vb :: vd :: st) :=
  fun H locs ls hP hD hS hl => lv_dup_x2 C.1 C.2.1 hd ha hb hc (k H locs ls hP hD hS hl)
theorem g_dup2_11 (C : gC p s m args meth c cc nL ret own D cl tys A0 H0) {va vb : Value} (hd : decode cc pc = .ok (.dup2, 1)) (ha : va.category = 1) (hb : vb.category = 1) (k : gG p l e R s m args below meth c nL D cl A0 H0 cells slots Q w (pc + 1) lv (va :: vb :: va :: vb :: st)) : gG p l e R s m args below meth c nL D cl A0 H0 cells slots Q w pc lv (va :: vb :: st) :=
  fun H locs ls hP hD hS hl => lv_dup2_11 C.1 C.2.1 hd ha hb (k H locs ls hP hD hS hl)
theorem g_goto (C : gC p s m args meth c cc nL ret own D cl tys A0 H0) {off : Int} {tgt : Nat} (hd : decode cc pc = .ok (.goto off, 3)) (ht : (pc : Int) + off = (tgt : Int)) (k : gG p l e R s m args below meth c nL D cl A0 H0 cells slots Q w tgt lv st) : gG p l e R s m args below meth c nL D cl A0 H0 cells slots Q w pc lv st :=
  fun H locs ls hP hD hS hl => lv_goto C.1 C.2.1 hd ht (k H locs ls hP hD hS hl)
theorem g_if_eq (C : gC p s m args meth c cc nL ret own D cl tys A0 H0) {x : Int32} {off : Int} {tgt : Nat} (hd : decode cc pc = .ok (.ifCond .eq off, 3)) (ht : (pc : Int) + off = (tgt : Int)) (kt : x = 0 → gG p l e R s m args below meth c nL D cl A0 H0 cells slots Q w tgt lv st) (kf : ¬ (x = 0) → gG p l e R s m args below meth c nL D cl A0 H0 cells slots Q w (pc + 3) lv st) : gG p l e R s m args below meth c nL D cl A0 H0 cells slots Q w pc lv (.int x :: st) :=
  fun H locs ls hP hD hS hl => lv_if_eq C.1 C.2.1 hd ht (fun h => kt h H locs ls hP hD hS hl) (fun h => kf h H locs ls hP hD hS hl)
theorem g_icmp_eq (C : gC p s m args meth c cc nL ret own D cl tys A0 H0) {x y : Int32} {off : Int} {tgt : Nat} (hd : decode cc pc = .ok (.if_icmp .eq off, 3)) (ht : (pc : Int) + off = (tgt : Int)) (kt : x = y → gG p l e R s m args below meth c nL D cl A0 H0 cells slots Q w tgt lv st) (kf : ¬ (x = y) → gG p l e R s m args below meth c nL D cl A0 H0 cells slots Q w (pc + 3) lv st) : gG p l e R s m args below meth c nL D cl A0 H0 cells slots Q w pc lv (.int y :: .int x :: st) :=
  fun H locs ls hP hD hS hl => lv_icmp_eq C.1 C.2.1 hd ht (fun h => kt h H locs ls hP hD hS hl) (fun h => kf h H locs ls hP hD hS hl)
theorem g_if_ne (C : gC p s m args meth c cc nL ret own D cl tys A0 H0) {x : Int32} {off : Int} {tgt : Nat} (hd : decode cc pc = .ok (.ifCond .ne off, 3)) (ht : (pc : Int) + off = (tgt : Int)) (kt : ¬ x = 0 → gG p l e R s m args below meth c nL D cl A0 H0 cells slots Q w tgt lv st) (kf : x = 0 → gG p l e R s m args below meth c nL D cl A0 H0 cells slots Q w (pc + 3) lv st) : gG p l e R s m args below meth c nL D cl A0 H0 cells slots Q w pc lv (.int x :: st) :=
  fun H locs ls hP hD hS hl => lv_if_ne C.1 C.2.1 hd ht (fun h => kt h H locs ls hP hD hS hl) (fun h => kf h H locs ls hP hD hS hl)
theorem g_icmp_ne (C : gC p s m args meth c cc nL ret own D cl tys A0 H0) {x y : Int32} {off : Int} {tgt : Nat} (hd : decode cc pc = .ok (.if_icmp .ne off, 3)) (ht : (pc : Int) + off = (tgt : Int)) (kt : ¬ x = y → gG p l e R s m args below meth c nL D cl A0 H0 cells slots Q w tgt lv st) (kf : x = y → gG p l e R s m args below meth c nL D cl A0 H0 cells slots Q w (pc + 3) lv st) : gG p l e R s m args below meth c nL D cl A0 H0 cells slots Q w pc lv (.int y :: .int x :: st) :=
  fun H locs ls hP hD hS hl => lv_icmp_ne C.1 C.2.1 hd ht (fun h => kt h H locs ls hP hD hS hl) (fun h => kf h H locs ls hP hD hS hl)
theorem g_if_lt (C : gC p s m args meth c cc nL ret own D cl tys A0 H0) {x : Int32} {off : Int} {tgt : Nat} (hd : decode cc pc = .ok (.ifCond .lt off, 3)) (ht : (pc : Int) + off = (tgt : Int)) (kt : x < 0 → gG p l e R s m args below meth c nL D cl A0 H0 cells slots Q w tgt lv st) (kf : ¬ (x < 0) → gG p l e R s m args below meth c nL D cl A0 H0 cells slots Q w (pc + 3) lv st) : gG p l e R s m args below meth c nL D cl A0 H0 cells slots Q w pc lv (.int x :: st) :=
  fun H locs ls hP hD hS hl => lv_if_lt C.1 C.2.1 hd ht (fun h => kt h H locs ls hP hD hS hl) (fun h => kf h H locs ls hP hD hS hl)
theorem g_icmp_lt (C : gC p s m args meth c cc nL ret own D cl tys A0 H0) {x y : Int32} {off : Int} {tgt : Nat} (hd : decode cc pc = .ok (.if_icmp .lt off, 3)) (ht : (pc : Int) + off = (tgt : Int)) (kt : x < y → gG p l e R s m args below meth c nL D cl A0 H0 cells slots Q w tgt lv st) (kf : ¬ (x < y) → gG p l e R s m args below meth c nL D cl A0 H0 cells slots Q w (pc + 3) lv st) : gG p l e R s m args below meth c nL D cl A0 H0 cells slots Q w pc lv (.int y :: .int x :: st) :=
  fun H locs ls hP hD hS hl => lv_icmp_lt C.1 C.2.1 hd ht (fun h => kt h H locs ls hP hD hS hl) (fun h => kf h H locs ls hP hD hS hl)
theorem g_if_ge (C : gC p s m args meth c cc nL ret own D cl tys A0 H0) {x : Int32} {off : Int} {tgt : Nat} (hd : decode cc pc = .ok (.ifCond .ge off, 3)) (ht : (pc : Int) + off = (tgt : Int)) (kt : 0 ≤ x → gG p l e R s m args below meth c nL D cl A0 H0 cells slots Q w tgt lv st) (kf : ¬ (0 ≤ x) → gG p l e R s m args below meth c nL D cl A0 H0 cells slots Q w (pc + 3) lv st) : gG p l e R s m args below meth c nL D cl A0 H0 cells slots Q w pc lv (.int x :: st) :=
  fun H locs ls hP hD hS hl => lv_if_ge C.1 C.2.1 hd ht (fun h => kt h H locs ls hP hD hS hl) (fun h => kf h H locs ls hP hD hS hl)
theorem g_icmp_ge (C : gC p s m args meth c cc nL ret own D cl tys A0 H0) {x y : Int32} {off : Int} {tgt : Nat} (hd : decode cc pc = .ok (.if_icmp .ge off, 3)) (ht : (pc : Int) + off = (tgt : Int)) (kt : y ≤ x → gG p l e R s m args below meth c nL D cl A0 H0 cells slots Q w tgt lv st) (kf : ¬ (y ≤ x) → gG p l e R s m args below meth c nL D cl A0 H0 cells slots Q w (pc + 3) lv st) : gG p l e R s m args below meth c nL D cl A0 H0 cells slots Q w pc lv (.int y :: .int x :: st) :=
  fun H locs ls hP hD hS hl => lv_icmp_ge C.1 C.2.1 hd ht (fun h => kt h H locs ls hP hD hS hl) (fun h => kf h H locs ls hP hD hS hl)
theorem g_if_gt (C : gC p s m args meth c cc nL ret own D cl tys A0 H0) {x : Int32} {off : Int} {tgt : Nat} (hd : decode cc pc = .ok (.ifCond .gt off, 3)) (ht : (pc : Int) + off = (tgt : Int)) (kt : 0 < x → gG p l e R s m args below meth c nL D cl A0 H0 cells slots Q w tgt lv st) (kf : ¬ (0 < x) → gG p l e R s m args below meth c nL D cl A0 H0 cells slots Q w (pc + 3) lv st) : gG p l e R s m args below meth c nL D cl A0 H0 cells slots Q w pc lv (.int x :: st) :=
  fun H locs ls hP hD hS hl => lv_if_gt C.1 C.2.1 hd ht (fun h => kt h H locs ls hP hD hS hl) (fun h => kf h H locs ls hP hD hS hl)
theorem g_icmp_gt (C : gC p s m args meth c cc nL ret own D cl tys A0 H0) {x y : Int32} {off : Int} {tgt : Nat} (hd : decode cc pc = .ok (.if_icmp .gt off, 3)) (ht : (pc : Int) + off = (tgt : Int)) (kt : y < x → gG p l e R s m args below meth c nL D cl A0 H0 cells slots Q w tgt lv st) (kf : ¬ (y < x) → gG p l e R s m args below meth c nL D cl A0 H0 cells slots Q w (pc + 3) lv st) : gG p l e R s m args below meth c nL D cl A0 H0 cells slots Q w pc lv (.int y :: .int x :: st) :=
  fun H locs ls hP hD hS hl => lv_icmp_gt C.1 C.2.1 hd ht (fun h => kt h H locs ls hP hD hS hl) (fun h => kf h H locs ls hP hD hS hl)
theorem g_if_le (C : gC p s m args meth c cc nL ret own D cl tys A0 H0) {x : Int32} {off : Int} {tgt : Nat} (hd : decode cc pc = .ok (.ifCond .le off, 3)) (ht : (pc : Int) + off = (tgt : Int)) (kt : x ≤ 0 → gG p l e R s m args below meth c nL D cl A0 H0 cells slots Q w tgt lv st) (kf : ¬ (x ≤ 0) → gG p l e R s m args below meth c nL D cl A0 H0 cells slots Q w (pc + 3) lv st) : gG p l e R s m args below meth c nL D cl A0 H0 cells slots Q w pc lv (.int x :: st) :=
  fun H locs ls hP hD hS hl => lv_if_le C.1 C.2.1 hd ht (fun h => kt h H locs ls hP hD hS hl) (fun h => kf h H locs ls hP hD hS hl)
theorem g_icmp_le (C : gC p s m args meth c cc nL ret own D cl tys A0 H0) {x y : Int32} {off : Int} {tgt : Nat} (hd : decode cc pc = .ok (.if_icmp .le off, 3)) (ht : (pc : Int) + off = (tgt : Int)) (kt : x ≤ y → gG p l e R s m args below meth c nL D cl A0 H0 cells slots Q w tgt lv st) (kf : ¬ (x ≤ y) → gG p l e R s m args below meth c nL D cl A0 H0 cells slots Q w (pc + 3) lv st) : gG p l e R s m args below meth c nL D cl A0 H0 cells slots Q w pc lv (.int y :: .int x :: st) :=
  fun H locs ls hP hD hS hl => lv_icmp_le C.1 C.2.1 hd ht (fun h => kt h H locs ls hP hD hS hl) (fun h => kf h H locs ls hP hD hS hl)
theorem g_ldc2 (C : gC p s m args meth c cc nL ret own D cl tys A0 H0) {index : Nat} {v : Int64} (hc : Cond.constantLong own index v ∈ Wl) (hd : decode cc pc = .ok (.ldc2_w index, 3)) (k : gG p l e R s m args below meth c nL D cl A0 H0 cells slots Q w (pc + 3) lv (.long v :: st)) : gG p l e R s m args below meth c nL D cl A0 H0 cells slots Q w pc lv st :=
  fun H locs ls hP hD hS hl => lv_ldc2 C.1 C.2.1 C.2.2.2.2.1 (C.2.2.2.1 _ hc) hd (k H locs ls hP hD hS hl)
theorem g_ldcw (C : gC p s m args meth c cc nL ret own D cl tys A0 H0) {index : Nat} {v : Int32} (hc : Cond.constant own index v ∈ Wl) (hd : decode cc pc = .ok (.ldc_w index, 3)) (k : gG p l e R s m args below meth c nL D cl A0 H0 cells slots Q w (pc + 3) lv (.int v :: st)) : gG p l e R s m args below meth c nL D cl A0 H0 cells slots Q w pc lv st :=
  fun H locs ls hP hD hS hl => lv_ldcw C.1 C.2.1 C.2.2.2.2.1 (C.2.2.2.1 _ hc) hd (k H locs ls hP hD hS hl)
theorem g_sub {lv2 : List (Nat × Value)} (ks : List Nat) (h : lv_pick lv ks = lv2) (k : gG p l e R s m args below meth c nL D cl A0 H0 cells slots Q w pc lv2 st) : gG p l e R s m args below meth c nL D cl A0 H0 cells slots Q w pc lv st := fun H locs ls hP hD hS hl => k H locs ls hP hD hS (lv_sub hl ks h)
theorem g_eq {w2 : va_W} {st2 : List Value} (hw : w = w2) (hs : st = st2) (k : gG p l e R s m args below meth c nL D cl A0 H0 cells slots Q w2 pc lv st2) : gG p l e R s m args below meth c nL D cl A0 H0 cells slots Q w pc lv st := by subst hw; subst hs; exact k
theorem g_mmax (C : gC p s m args meth c cc nL ret own D cl tys A0 H0) {index : Nat} {x y : Int32} (hlk : Cond.methodLink own index Lib.Math.max.name ∈ Wl) (hst : Cond.static Lib.Math.max.name ∈ Wl) (hin : Cond.initialized "java/lang/Math" ∈ Wl) (hco : Cond.code Lib.Math.max.name Lib.Math.max.code 2 (some .int) ∈ Wl) (hR : 1 ≤ R.frames ∧ (st.map fun v => v.category).sum + 13 ≤ R.locals ∧ cells ≤ R.cells ∧ slots ≤ R.slots) (hd : decode cc pc = .ok (.invokestatic index, 3)) (k : gG p l e R s m args below meth c nL D cl A0 H0 cells slots Q w (pc + 3) lv (.int (if x < y then y else x) :: st)) : gG p l e R s m args below meth c nL D cl A0 H0 cells slots Q w pc lv (.int y :: .int x :: st) :=
  fun H locs ls hP hD hS hl => va_mmax C.1 C.2.1 (C.2.2.2.2.2.2.1.trans hl.1.symm) C.2.2.2.2.1 (C.2.2.2.1 _ hlk) (C.2.2.2.1 _ hst) (C.2.2.2.1 _ hin) (C.2.2.2.1 _ hco) hR.1 hR.2.1 hR.2.2.1 hR.2.2.2 hd (k H locs ls hP hD hS hl)
theorem g_mabs (C : gC p s m args meth c cc nL ret own D cl tys A0 H0) {index : Nat} {x : Int32} (hlk : Cond.methodLink own index Lib.Math.abs.name ∈ Wl) (hst : Cond.static Lib.Math.abs.name ∈ Wl) (hin : Cond.initialized "java/lang/Math" ∈ Wl) (hco : Cond.code Lib.Math.abs.name Lib.Math.abs.code 1 (some .int) ∈ Wl) (hR : 1 ≤ R.frames ∧ (st.map fun v => v.category).sum + 13 ≤ R.locals ∧ cells ≤ R.cells ∧ slots ≤ R.slots) (hd : decode cc pc = .ok (.invokestatic index, 3)) (k : gG p l e R s m args below meth c nL D cl A0 H0 cells slots Q w (pc + 3) lv (.int (if 0 ≤ x then x else 0 - x) :: st)) : gG p l e R s m args below meth c nL D cl A0 H0 cells slots Q w pc lv (.int x :: st) :=
  fun H locs ls hP hD hS hl => va_mabs C.1 C.2.1 (C.2.2.2.2.2.2.1.trans hl.1.symm) C.2.2.2.2.1 (C.2.2.2.1 _ hlk) (C.2.2.2.1 _ hst) (C.2.2.2.1 _ hin) (C.2.2.2.1 _ hco) hR.1 hR.2.1 hR.2.2.1 hR.2.2.2 hd (k H locs ls hP hD hS hl)
end
