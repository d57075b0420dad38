-- contracts of constructors: what is made comes with the world
def qN {U : Type} (D : va_G) (cl : List vw_C) (w2 : U → va_W) (A : Nat → Prop) : Array Value → State → Outcome → State → Prop := va_Qv (fun (_ : U) => True) (fun u t => va_P D cl (w2 u) t.heap ∧ va_D A (w2 u)) A
def KN {U : Type} (l : Launch) (D : va_G) (cl : List vw_C) (tys : List (ClassId × FieldType)) (y : MethodName) (cc : ByteArray) (nL fr lo mc ms : Nat) (av : List Value) (w : va_W) (w2 : U → va_W) : Prop :=
  ∀ sz : Nat, Met l y (Cond.code y cc nL none :: Wl) ({ frames := fr, cells := mc, slots := ms, locals := lo }) (va_Pc av (gPre D cl tys w sz)) (qN D cl w2 (va_A w sz)) mc ms (va_A w sz)
section
variable {p : Program} {l : Launch} {e : Env} {R : Room} {s : State} {m : MethodId} {args : Array Value} {below : List Frame} {meth : Method} {c : Code} {cells slots : Nat} {Q : State → Prop} {D : va_G} {cl : List vw_C} {tys : List (ClassId × FieldType)} {A0 : Nat → Prop} {H0 : Heap} {cc : ByteArray} {nL : Nat} {ret : Option FieldType} {own : String} {w : va_W} {pc : Nat} {lv : List (Nat × Value)} {st : List Value} {U : Type} {w2 : U → va_W}
theorem KN.of {y : MethodName} {fr lo mc ms : Nat} {av : List Value} {lv0 : List (Nat × Value)} (hy : plainName y.cls = true) (hlen : (lg_sl av).length ≤ nL) (hlv : lv_args 0 av = lv0)
    (body : ∀ (p : Program) (e : Env) (s : State) (m : MethodId) (args : Array Value) (below : List Frame) (meth : Method) (c : Code) (A0 : Nat → Prop), gC p s m args meth c cc nL none y.cls D cl tys A0 s.heap → meth.name = y.name → gG p l e ({ frames := fr, cells := mc, slots := ms, locals := lo }) s m args below meth c nL D cl A0 s.heap 0 0 (MQ below (qN D cl w2 A0) args s mc ms A0) w 0 lv0 []) : KN l D cl tys y cc nL fr lo mc ms av w w2 := by
  intro sz
  refine Met.ofW (cc := cc) (maxL := nL) (ret := none) hy rfl ?_
  intro p e s m args below meth c s₁ B hml hv
  obtain ⟨rfl, hsz, hP, hK, hD0⟩ := hv
  have hts := atoms_spec (ws := Cond.code y cc nL none :: Wl) B.pre
  subst hsz
  have hD := hD0.self (sz := s.heap.size)
  have hC : gC p s m av.toArray meth c cc nL none y.cls D cl tys (va_A w s.heap.size) s.heap := ⟨B.exec, B.bytes, B.returns, fun w hw => hts w (List.mem_cons_of_mem _ hw), findClass_of_methodNamed B.named, B.notSynchronized, hml, hK, fun q h => Or.inr h⟩
  have hb := body p e s m av.toArray below meth c (va_A w s.heap.size) hC (name_of_methodNamed B.named B.method).1
  have hl := lv_entry av (n := nL) hlen
  rw [lg_entry_eq]
  rw [hlv] at hl
  exact hb s.heap [] _ hP hD va_S.rf hl
theorem g_widen {k n : Nat} (h1 : cells ≤ k) (h2 : slots ≤ n) (kk : gG p l e R s m args below meth c nL D cl A0 H0 k n Q w pc lv st) : gG p l e R s m args below meth c nL D cl A0 H0 cells slots Q w pc lv st :=
  fun H locs ls hP hD hS hl => W.widen (k := k) (n := n) h1 h2 (kk H locs ls hP hD hS hl)
theorem g_nret {mc ms : Nat} (C : gC p s m args meth c cc nL none own D cl tys A0 s.heap) (u : U) (hw : w = w2 u) (hd : decode cc pc = .ok (.return_, 1)) (h1 : cells ≤ mc) (h2 : slots ≤ ms) : gG p l e R s m args below meth c nL D cl A0 s.heap cells slots (MQ below (qN D cl w2 A0) args s mc ms A0) w pc lv [] :=
  g_widen h1 h2 (fun H locs ls hP hD hS hl => W.vret C.1 C.2.1 C.2.2.1 (fun t ht hW => ⟨⟨u, rfl, trivial, by show va_P D cl (w2 u) t.heap; rw [ht, ← hw]; exact hP, hw ▸ hD⟩, hS.F ht⟩) hS.2.2 hd C.2.2.2.2.2.1)
theorem g_callN0 (C : gC p s m args meth c cc nL ret own D cl tys A0 H0) {y : MethodName} {bytes : ByteArray} {maxL index fr lo mc ms : Nat} {rest st0 : List Value} {As : List Value} {b : Nat} {wc wr : va_W} (isC isR : List Nat) (hM : KN l D cl tys y bytes maxL fr lo mc ms (.ref b :: As) wc w2) (hWc : isC.map (fun i => w[i]?) = wc.map some) (hWr : isR.map (fun i => w[i]?) = wr.map some) (hnd : va_nd isR = true) (hndC : va_nd isC = true) (hdis : ∀ i ∈ isR, i ∉ isC) (hlk : Cond.methodLink own index y ∈ Wl) (hin : Cond.instanceMethod y ∈ Wl) (hini : Cond.initialized y.cls ∈ Wl) (hco : Cond.code y bytes maxL none ∈ Wl) (hnm : y.name = "<init>") (hdd : y.cls ≠ "java/lang/invoke/MethodHandle" ∧ y.cls ≠ "java/lang/invoke/VarHandle" ∧ (parseMethodDescriptor y.desc).map (fun d => d.parameters.length) = some As.length) (hR : fr + 1 ≤ R.frames ∧ 8 + (maxL + 11) + lo ≤ R.locals) (hf : cells + mc ≤ R.cells ∧ slots + ms ≤ R.slots) (hst : st0 = As.reverse ++ .ref b :: rest) (hro : (rest.map fun v => v.category).sum ≤ 8) (hd : decode cc pc = .ok (.invokespecial index, 3)) (kk : ∀ u : U, gG p l e R s m args below meth c nL D cl A0 H0 (cells + mc) (slots + ms) Q (wr ++ w2 u) (pc + 3) lv rest) : gG p l e R s m args below meth c nL D cl A0 H0 cells slots Q w pc lv st0 := by
  intro H locs ls hP hD hS hl
  have hFc := va_free (wc := wc) hD hS C.2.2.2.2.2.2.2.2 isC hWc
  have hPc : va_P D cl wc H := fun k q hq => by
    have h1 : (isC.map (fun i => w[i]?))[k]? = some (some q) := by rw [hWc, List.getElem?_map, hq]; rfl
    rw [List.getElem?_map] at h1
    cases hi : isC[k]? with
    | none => rw [hi] at h1; cases h1
    | some i => rw [hi] at h1; exact hP i q (Option.some.inj h1)
  have hDc := hD.sub isC hndC hWc
  refine va_callv (va_runI (As := As) (rest := rest) ⟨C.1, C.2.1, C.2.2.2.2.2.2.1, C.2.2.2.2.1, C.2.2.2.1⟩ (hM H.size) (cwI As.length C.2.2.2.1 (gW_good hco) rfl rfl rfl (C.2.2.2.1 _ hini) (C.2.2.2.1 _ hlk) (C.2.2.2.1 _ hin) hnm hdd hR) ⟨gPre_blind, gPre_of C hPc hDc⟩ rfl rfl hl.1 hst (lv_room hro) hd hf) hS (fun q _ h => hFc q h) hFc (fun u t H1 locs1 ht hvm h5 hB hz1 hk1 hS1 => ?_)
  obtain ⟨hP1, hD1⟩ := hB
  rw [ht] at hP1
  obtain ⟨hP2, hD2⟩ := va_join (wr := wr) (w1 := w2 u) hP hD isC isR hWc hWr hnd hdis hk1 hFc hP1 hD1
  exact kk u H1 locs1 ls hP2 hD2 hS1 hl
theorem g_callNN (C : gC p s m args meth c cc nL ret own D cl tys A0 H0) {y : MethodName} {bytes : ByteArray} {maxL index fr lo mc ms : Nat} {rest st0 : List Value} {As : List Value} {b : Nat} {wc wr : va_W} (isC isR : List Nat) (hM : KN l D cl tys y bytes maxL fr lo mc ms (.ref b :: As) wc w2) (hWc : isC.map (fun i => w[i]?) = wc.map some) (hWr : isR.map (fun i => w[i]?) = wr.map some) (hnd : va_nd isR = true) (hndC : va_nd isC = true) (hdis : ∀ i ∈ isR, i ∉ isC) {host : String} (hlk : Cond.methodLinkNest own index y host ∈ Nl) (hin : Cond.instanceMethod y ∈ Wl) (hini : Cond.initialized y.cls ∈ Wl) (hco : Cond.code y bytes maxL none ∈ Wl) (hnm : y.name = "<init>") (hdd : y.cls ≠ "java/lang/invoke/MethodHandle" ∧ y.cls ≠ "java/lang/invoke/VarHandle" ∧ (parseMethodDescriptor y.desc).map (fun d => d.parameters.length) = some As.length) (hR : fr + 1 ≤ R.frames ∧ 8 + (maxL + 11) + lo ≤ R.locals) (hf : cells + mc ≤ R.cells ∧ slots + ms ≤ R.slots) (hst : st0 = As.reverse ++ .ref b :: rest) (hro : (rest.map fun v => v.category).sum ≤ 8) (hd : decode cc pc = .ok (.invokespecial index, 3)) (kk : ∀ u : U, gG p l e R s m args below meth c nL D cl A0 H0 (cells + mc) (slots + ms) Q (wr ++ w2 u) (pc + 3) lv rest) : gG p l e R s m args below meth c nL D cl A0 H0 cells slots Q w pc lv st0 := by
  intro H locs ls hP hD hS hl
  have hFc := va_free (wc := wc) hD hS C.2.2.2.2.2.2.2.2 isC hWc
  have hPc : va_P D cl wc H := fun k q hq => by
    have h1 : (isC.map (fun i => w[i]?))[k]? = some (some q) := by rw [hWc, List.getElem?_map, hq]; rfl
    rw [List.getElem?_map] at h1
    cases hi : isC[k]? with
    | none => rw [hi] at h1; cases h1
    | some i => rw [hi] at h1; exact hP i q (Option.some.inj h1)
  have hDc := hD.sub isC hndC hWc
  refine va_callv (va_runIN (As := As) (rest := rest) ⟨C.1, C.2.1, C.2.2.2.2.2.2.1, C.2.2.2.2.1, C.2.2.2.1⟩ (hM H.size) ⟨va_cnB As.length C.2.2.2.1 (gW_good hco) rfl rfl rfl (C.2.2.2.2.2.2.2.1.2 _ hlk) (C.2.2.2.1 _ hini) hdd hR, hnm, C.2.2.2.1 _ hin⟩ ⟨gPre_blind, gPre_of C hPc hDc⟩ rfl rfl hl.1 hst (lv_room hro) hd hf) hS (fun q _ h => hFc q h) hFc (fun u t H1 locs1 ht hvm h5 hB hz1 hk1 hS1 => ?_)
  obtain ⟨hP1, hD1⟩ := hB
  rw [ht] at hP1
  obtain ⟨hP2, hD2⟩ := va_join (wr := wr) (w1 := w2 u) hP hD isC isR hWc hWr hnd hdis hk1 hFc hP1 hD1
  exact kk u H1 locs1 ls hP2 hD2 hS1 hl
end
