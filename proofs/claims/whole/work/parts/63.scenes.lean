-- contracts that also say that an array of scenes may be made
abbrev SCN : String := "FirstUmbrella$Scene"
def KA {U : Type} (l : Launch) (D : va_G) (cl : List vw_C) (tys : List (ClassId × FieldType)) (y : MethodName) (cc : ByteArray) (nL fr lo mc ms : Nat) (av : List Value) (w : va_W) (post : U → Prop) (w2 : U → va_W) : Prop :=
  ∀ sz : Nat, Met l y (Cond.code y cc nL none :: Wl) ({ frames := fr, cells := mc, slots := ms, locals := lo }) (va_Pc av (fun S => gPre D cl tys w sz S ∧ va_AO SCN S)) (va_Qv post (fun u t => va_P D cl (w2 u) t.heap ∧ va_D (va_A w sz) (w2 u)) (va_A w sz)) mc ms (va_A w sz)
def KR {U : Type} (l : Launch) (D : va_G) (cl : List vw_C) (tys : List (ClassId × FieldType)) (y : MethodName) (cc : ByteArray) (nL : Nat) (rt : Option FieldType) (fr lo mc ms : Nat) (av : List Value) (w : va_W) (post : U → Prop) (w2 : U → Nat → va_W) : Prop :=
  ∀ sz : Nat, Met l y (Cond.code y cc nL rt :: Wl) ({ frames := fr, cells := mc, slots := ms, locals := lo }) (va_Pc av (fun S => gPre D cl tys w sz S ∧ va_AO SCN S)) (va_Qr post (fun u q t => va_P D cl (w2 u q) t.heap ∧ va_D (va_A w sz) (w2 u q)) (va_A w sz)) mc ms (va_A w sz)
section
variable {p : Program} {l : Launch} {e : Env} {R : Room} {s : State} {m : MethodId} {args : Array Value} {below : List Frame} {meth : Method} {c : Code} {cells slots : Nat} {Q : State → Prop} {D : va_G} {cl : List vw_C} {tys : List (ClassId × FieldType)} {A0 : Nat → Prop} {H0 : Heap} {cc : ByteArray} {nL : Nat} {ret : Option FieldType} {own : String} {w : va_W} {pc : Nat} {lv : List (Nat × Value)} {st : List Value} {U : Type}
theorem gPreA_blind {av : List Value} {sz : Nat} : FrameBlind (va_Pc av (fun S => gPre D cl tys w sz S ∧ va_AO SCN S)) := fun a S g mk q => ⟨q.1, ⟨q.2.1.1, q.2.1.2.1, q.2.1.2.2.1.blind, q.2.1.2.2.2⟩, va_AO.moved (u := S) (U := S.calling g mk a) (Vm.Alike.refl S.vm) q.2.2⟩
theorem gPreA_of {H : Heap} {av : List Value} (C : gC p s m args meth c cc nL ret own D cl tys A0 H0) (ho : va_AO SCN s) (hP : va_P D cl w H) (hD : va_D A0 w) : ∀ S : State, S.heap = H → s.WarmedH S.vm → va_Pc av (fun S => gPre D cl tys w H.size S ∧ va_AO SCN S) av.toArray S := fun S hU hW => ⟨rfl, (gPre_of (av := av) C hP hD S hU hW).2, va_AO.moved hW.alike ho⟩
theorem KA.of {y : MethodName} {fr lo mc ms : Nat} {av : List Value} {lv0 : List (Nat × Value)} {post : U → Prop} {w2 : U → va_W} (hy : plainName y.cls = true) (hlen : (lg_sl av).length ≤ nL) (hlv : lv_args 0 av = lv0)
    (body : ∀ (p : Program) (e : Env) (s : State) (m : MethodId) (args : Array Value) (below : List Frame) (meth : Method) (c : Code) (A0 : Nat → Prop), gC p s m args meth c cc nL none y.cls D cl tys A0 s.heap → meth.name = y.name → va_AO SCN s → gG p l e ({ frames := fr, cells := mc, slots := ms, locals := lo }) s m args below meth c nL D cl A0 s.heap 0 0 (MQ below (va_Qv post (fun u t => va_P D cl (w2 u) t.heap ∧ va_D A0 (w2 u)) A0) args s mc ms A0) w 0 lv0 []) : KA l D cl tys y cc nL fr lo mc ms av w post w2 := by
  intro sz
  refine Met.ofW (cc := cc) (maxL := nL) (ret := none) hy rfl ?_
  intro p e s m args below meth c s₁ B hml hv
  obtain ⟨rfl, ⟨hsz, hP, hK, hD0⟩, ho⟩ := hv
  have hts := atoms_spec (ws := Cond.code y cc nL none :: Wl) B.pre
  subst hsz
  have hD := hD0.self (sz := s.heap.size)
  have hC : gC p s m av.toArray meth c cc nL none y.cls D cl tys (va_A w s.heap.size) s.heap := ⟨B.exec, B.bytes, B.returns, fun w hw => hts w (List.mem_cons_of_mem _ hw), findClass_of_methodNamed B.named, B.notSynchronized, hml, hK, fun q h => Or.inr h⟩
  have hb := body p e s m av.toArray below meth c (va_A w s.heap.size) hC (name_of_methodNamed B.named B.method).1 ho
  have hl := lv_entry av (n := nL) hlen
  rw [lg_entry_eq]
  rw [hlv] at hl
  exact hb s.heap [] _ hP hD va_S.rf hl
theorem KR.of {y : MethodName} {rt : Option FieldType} {fr lo mc ms : Nat} {av : List Value} {lv0 : List (Nat × Value)} {post : U → Prop} {w2 : U → Nat → va_W} (hy : plainName y.cls = true) (hlen : (lg_sl av).length ≤ nL) (hlv : lv_args 0 av = lv0)
    (body : ∀ (p : Program) (e : Env) (s : State) (m : MethodId) (args : Array Value) (below : List Frame) (meth : Method) (c : Code) (A0 : Nat → Prop), gC p s m args meth c cc nL rt y.cls D cl tys A0 s.heap → va_AO SCN s → gG p l e ({ frames := fr, cells := mc, slots := ms, locals := lo }) s m args below meth c nL D cl A0 s.heap 0 0 (MQ below (va_Qr post (fun u q t => va_P D cl (w2 u q) t.heap ∧ va_D A0 (w2 u q)) A0) args s mc ms A0) w 0 lv0 []) : KR l D cl tys y cc nL rt fr lo mc ms av w post w2 := by
  intro sz
  refine Met.ofW (cc := cc) (maxL := nL) (ret := rt) hy rfl ?_
  intro p e s m args below meth c s₁ B hml hv
  obtain ⟨rfl, ⟨hsz, hP, hK, hD0⟩, ho⟩ := hv
  have hts := atoms_spec (ws := Cond.code y cc nL rt :: Wl) B.pre
  subst hsz
  have hD := hD0.self (sz := s.heap.size)
  have hC : gC p s m av.toArray meth c cc nL rt y.cls D cl tys (va_A w s.heap.size) s.heap := ⟨B.exec, B.bytes, B.returns, fun w hw => hts w (List.mem_cons_of_mem _ hw), findClass_of_methodNamed B.named, B.notSynchronized, hml, hK, fun q h => Or.inr h⟩
  have hb := body p e s m av.toArray below meth c (va_A w s.heap.size) hC ho
  have hl := lv_entry av (n := nL) hlen
  rw [lg_entry_eq]
  rw [hlv] at hl
  exact hb s.heap [] _ hP hD va_S.rf hl
theorem g_anew (C : gC p s m args meth c cc nL ret own D cl tys A0 H0) (ho : va_AO SCN s) {t0 index : Nat} {cS : ClassId} (ht : tys[t0]? = some (cS, .object SCN)) {n : Int32} {N : Nat} (hlk : Cond.classLink own index SCN ∈ Wl) (hn : ¬ n < 0) (hN : n.toNatClampNeg = N) (hb : N * 4 ≤ 536870912) (hc : cells + 1 ≤ R.cells) (hs : slots + N ≤ R.slots) (hd : decode cc pc = .ok (.anewarray index, 3)) (kk : ∀ q : Nat, gG p l e R s m args below meth c nL D cl A0 H0 (cells + 1) (slots + N) Q (w ++ [(q, .inl (cS, N, .inr (.inr (.inr (.inr (fun _ => none))))))]) (pc + 3) lv (.ref q :: st)) : gG p l e R s m args below meth c nL D cl A0 H0 cells slots Q w pc lv (.int n :: st) :=
  fun H locs ls hP hD hS hl => va_newq C.1 C.2.1 C.2.2.2.2.1 (C.2.2.2.1 _ hlk) ho C.2.2.2.2.2.2.2.1.1 hP hD hS C.2.2.2.2.2.2.2.2 hn hN hb hc hs hd (fun q cA H1 hK1 hP1 hD1 hS1 => by
    have e0 : cA = cS := ra_O (last_K hK1) (C.2.2.2.2.2.2.2.1.1.2 t0 _ ht).2
    subst e0
    exact kk q H1 locs ls hP1 hD1 hS1 hl)
theorem g_astq (C : gC p s m args meth c cc nL ret own D cl tys A0 H0) (q0 t0 qk ci : Nat) {a : Nat} {cA : ClassId} {r : vw_C} {n v : Nat} {vs : List Value} {f : Nat → Option Nat} (ha : w[q0]? = some (a, .inl (cA, n, .inr (.inr (.inr (.inr f)))))) (ht : tys[t0]? = some (cA, .object r.1)) (hv : w[qk]? = some (v, .inr (ci, vs))) (hc : cl[ci]? = some r) {i : Int32} (hin : vp_in i n) (hd : decode cc pc = .ok (.aastore, 1)) {w2 : va_W} (hw : w.set q0 (a, .inl (cA, n, .inr (.inr (.inr (.inr (va_up f i.toNatClampNeg (some v))))))) = w2) (kk : gG p l e R s m args below meth c nL D cl A0 H0 cells slots Q w2 (pc + 1) lv st) : gG p l e R s m args below meth c nL D cl A0 H0 cells slots Q w pc lv (.ref v :: .int i :: .ref a :: st) := by
  subst hw
  exact fun H locs ls hP hD hS hl => va_astq C.1 C.2.1 C.2.2.2.2.2.2.2.1.1 hP hD hS q0 t0 qk ci ha ht hv hc hin hd (fun H1 locs1 hP1 hD1 hS1 => kk H1 locs1 ls hP1 hD1 hS1 hl)
theorem g_alenw (C : gC p s m args meth c cc nL ret own D cl tys A0 H0) (q0 t0 : Nat) {a : Nat} {cA : ClassId} {x : vp_A} {ty : FieldType} (ha : w[q0]? = some (a, .inl (cA, x))) (ht : tys[t0]? = some (cA, ty)) (hd : decode cc pc = .ok (.arraylength, 1)) (kk : gG p l e R s m args below meth c nL D cl A0 H0 cells slots Q w (pc + 1) lv (.int (nI x.1) :: st)) : gG p l e R s m args below meth c nL D cl A0 H0 cells slots Q w pc lv (.ref a :: st) :=
  fun H locs ls hP hD hS hl => va_alen C.1 C.2.1 C.2.2.2.2.2.2.2.1.1 hP q0 t0 ha ht rfl hd (kk H locs ls hP hD hS hl)
theorem nd_range : ∀ (l : List Nat), l.Nodup → va_nd l = true
  | [], _ => rfl
  | a :: l, h => by
    rw [List.nodup_cons] at h
    show (decide (a ∉ l) && va_nd l) = true
    rw [decide_eq_true h.1, nd_range l h.2]
    rfl
theorem last_1 (wr : va_W) (x : Nat × va_E) : [wr.length].map (fun i => (wr ++ [x])[i]?) = [x].map some := by simp
theorem last_2 (wr : va_W) (x : Nat × va_E) : (List.range wr.length).map (fun i => (wr ++ [x])[i]?) = wr.map some := by
  apply List.ext_getElem?
  intro i
  by_cases h : i < wr.length
  · simp [h]
    rw [List.getElem?_append_left h, List.getElem?_eq_getElem h]
  · simp [h]
theorem last_3 (wr : va_W) : ∀ i ∈ List.range wr.length, i ∉ [wr.length] := by
  intro i hi
  simp at hi ⊢
  omega
end
