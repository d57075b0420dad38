-- calls that bring scenes; Past and Slots
section
variable {p : Program} {l : Launch} {e : Env} {R : Room} {s : State} {m : MethodId} {args : Array Value} {below : List Frame} {meth : Method} {c : Code} {cells slots : Nat} {Q : State → Prop} {D : va_G} {cl : List vw_C} {tys : List (ClassId × FieldType)} {A0 : Nat → Prop} {H0 : Heap} {cc : ByteArray} {nL : Nat} {ret : Option FieldType} {own : String} {w : va_W} {pc : Nat} {lv : List (Nat × Value)} {st : List Value} {U : Type}
theorem pick_P {wc : va_W} {H : Heap} (hP : va_P D cl w H) (isC : List Nat) (hWc : isC.map (fun i => w[i]?) = wc.map some) : va_P D cl wc H := fun k q hq => by
  have h1 : (isC.map (fun i => w[i]?))[k]? = some (some q) := by rw [hWc, List.getElem?_map, hq]; rfl
  rw [List.getElem?_map] at h1
  cases hi : isC[k]? with
  | none => rw [hi] at h1; cases h1
  | some i => rw [hi] at h1; exact hP i q (Option.some.inj h1)
theorem g_callSR (C : gC p s m args meth c cc nL ret own D cl tys A0 H0) (ho : va_AO SCN s) {y : MethodName} {bytes : ByteArray} {rt : Option FieldType} {maxL index fr lo mc ms : Nat} {rest st0 : List Value} {As : List Value} {wc wr : va_W} {post : U → Prop} {w2 : U → Nat → va_W} (isC isR : List Nat) (hM : KR l D cl tys y bytes maxL rt fr lo mc ms As wc post w2) (hWc : isC.map (fun i => w[i]?) = wc.map some) (hWr : isR.map (fun i => w[i]?) = wr.map some) (hnd : va_nd isR = true) (hndC : va_nd isC = true) (hdis : ∀ i ∈ isR, i ∉ isC) {host : String} (hlk : Cond.methodLinkNest own index y host ∈ Nl) (hsa : Cond.static y ∈ Wl) (hini : Cond.initialized y.cls ∈ Wl) (hco : Cond.code y bytes maxL rt ∈ Wl) (hdd : y.cls ≠ "java/lang/invoke/MethodHandle" ∧ y.cls ≠ "java/lang/invoke/VarHandle" ∧ (parseMethodDescriptor y.desc).map (fun d => d.parameters.length) = some As.length) (hR : fr + 1 ≤ R.frames ∧ 8 + (maxL + 11) + lo ≤ R.locals) (hf : cells + mc ≤ R.cells ∧ slots + ms ≤ R.slots) (hst : st0 = As.reverse ++ rest) (hro : (rest.map fun v => v.category).sum ≤ 8) (hd : decode cc pc = .ok (.invokestatic index, 3)) (kk : ∀ (u : U) (q : Nat), post u → gG p l e R s m args below meth c nL D cl A0 H0 (cells + mc) (slots + ms) Q (wr ++ w2 u q) (pc + 3) lv (.ref q :: rest)) : gG p l e R s m args below meth c nL D cl A0 H0 cells slots Q w pc lv st0 := by
  intro H locs ls hP hD hS hl
  have hFc := va_free (wc := wc) hD hS C.2.2.2.2.2.2.2.2 isC hWc
  have hPc := pick_P hP isC hWc
  have hDc := hD.sub isC hndC hWc
  refine va_callr (va_runSN (As := As) (rest := rest) ⟨C.1, C.2.1, C.2.2.2.2.2.2.1, C.2.2.2.2.1, C.2.2.2.1⟩ (hM H.size) ⟨va_cnB As.length C.2.2.2.1 (gW_good hco) rfl rfl rfl (C.2.2.2.2.2.2.2.1.2 _ hlk) (C.2.2.2.1 _ hini) hdd hR, C.2.2.2.1 _ hsa, trivial⟩ ⟨gPreA_blind, gPreA_of C ho hPc hDc⟩ rfl rfl hl.1 hst (lv_room hro) hd hf) hS (fun q _ h => hFc q h) hFc (fun u ra t H1 locs1 ht hvm h5 hB hz1 hk1 hS1 => ?_)
  obtain ⟨hP1, hD1⟩ := hB
  rw [ht] at hP1
  obtain ⟨hP2, hD2⟩ := va_join (wr := wr) (w1 := w2 u ra) hP hD isC isR hWc hWr hnd hdis hk1 hFc hP1 hD1
  exact kk u ra h5 H1 locs1 ls hP2 hD2 hS1 hl
theorem g_callA0 (C : gC p s m args meth c cc nL ret own D cl tys A0 H0) (ho : va_AO SCN s) {y : MethodName} {bytes : ByteArray} {maxL index fr lo mc ms : Nat} {rest st0 : List Value} {As : List Value} {b : Nat} {wc wr : va_W} {post : U → Prop} {w2 : U → va_W} (isC isR : List Nat) (hM : KA l D cl tys y bytes maxL fr lo mc ms (.ref b :: As) wc post w2) (hWc : isC.map (fun i => w[i]?) = wc.map some) (hWr : isR.map (fun i => w[i]?) = wr.map some) (hnd : va_nd isR = true) (hndC : va_nd isC = true) (hdis : ∀ i ∈ isR, i ∉ isC) (hlk : Cond.methodLink own index y ∈ Wl) (hin : Cond.instanceMethod y ∈ Wl) (hini : Cond.initialized y.cls ∈ Wl) (hco : Cond.code y bytes maxL none ∈ Wl) (hnm : y.name = "<init>") (hdd : y.cls ≠ "java/lang/invoke/MethodHandle" ∧ y.cls ≠ "java/lang/invoke/VarHandle" ∧ (parseMethodDescriptor y.desc).map (fun d => d.parameters.length) = some As.length) (hR : fr + 1 ≤ R.frames ∧ 8 + (maxL + 11) + lo ≤ R.locals) (hf : cells + mc ≤ R.cells ∧ slots + ms ≤ R.slots) (hst : st0 = As.reverse ++ .ref b :: rest) (hro : (rest.map fun v => v.category).sum ≤ 8) (hd : decode cc pc = .ok (.invokespecial index, 3)) (kk : ∀ u : U, post u → gG p l e R s m args below meth c nL D cl A0 H0 (cells + mc) (slots + ms) Q (wr ++ w2 u) (pc + 3) lv rest) : gG p l e R s m args below meth c nL D cl A0 H0 cells slots Q w pc lv st0 := by
  intro H locs ls hP hD hS hl
  have hFc := va_free (wc := wc) hD hS C.2.2.2.2.2.2.2.2 isC hWc
  have hPc := pick_P hP isC hWc
  have hDc := hD.sub isC hndC hWc
  refine va_callv (va_runI (As := As) (rest := rest) ⟨C.1, C.2.1, C.2.2.2.2.2.2.1, C.2.2.2.2.1, C.2.2.2.1⟩ (hM H.size) (cwI As.length C.2.2.2.1 (gW_good hco) rfl rfl rfl (C.2.2.2.1 _ hini) (C.2.2.2.1 _ hlk) (C.2.2.2.1 _ hin) hnm hdd hR) ⟨gPreA_blind, gPreA_of C ho hPc hDc⟩ rfl rfl hl.1 hst (lv_room hro) hd hf) hS (fun q _ h => hFc q h) hFc (fun u t H1 locs1 ht hvm h5 hB hz1 hk1 hS1 => ?_)
  obtain ⟨hP1, hD1⟩ := hB
  rw [ht] at hP1
  obtain ⟨hP2, hD2⟩ := va_join (wr := wr) (w1 := w2 u) hP hD isC isR hWc hWr hnd hdis hk1 hFc hP1 hD1
  exact kk u h5 H1 locs1 ls hP2 hD2 hS1 hl
theorem g_aretA {mc ms : Nat} {post : U → Prop} {w2 : U → va_W} (C : gC p s m args meth c cc nL none own D cl tys A0 s.heap) (u : U) (hu : post u) (hw : w = w2 u) (hd : decode cc pc = .ok (.return_, 1)) (h1 : cells ≤ mc) (h2 : slots ≤ ms) : gG p l e R s m args below meth c nL D cl A0 s.heap cells slots (MQ below (va_Qv post (fun u t => va_P D cl (w2 u) t.heap ∧ va_D A0 (w2 u)) A0) args s mc ms A0) w pc lv [] :=
  g_widen h1 h2 (fun H locs ls hP hD hS hl => W.vret C.1 C.2.1 C.2.2.1 (fun t ht hW => ⟨⟨u, rfl, hu, by show va_P D cl (w2 u) t.heap; rw [ht, ← hw]; exact hP, hw ▸ hD⟩, hS.F ht⟩) hS.2.2 hd C.2.2.2.2.2.1)
theorem g_getw (C : gC p s m args meth c cc nL ret own D cl tys A0 H0) (q0 : Nat) {a ci : Nat} {fs : List Value} (hq : w[q0]? = some (a, .inr (ci, fs))) {Cn : String} {T : u_T} {N : Nat} (hc : cl[ci]? = some (Cn, T, N)) (j : Nat) (hj : j < N) (hin : ∀ w ∈ u_ws Cn T N, w ∈ Wl) {index : Nat} (hlk : Cond.fieldLink own index (T j).1 (T j).2.1 (T j).2.2.1 ∈ Wl) {v : Value} (hv : fs[j]? = some v) (hd : decode cc pc = .ok (.getfield index, 3)) (kk : gG p l e R s m args below meth c nL D cl A0 H0 cells slots Q w (pc + 3) lv (v :: st)) : gG p l e R s m args below meth c nL D cl A0 H0 cells slots Q w pc lv (.ref a :: st) :=
  fun H locs ls hP hD hS hl => va_get C.1 C.2.1 C.2.2.2.1 hin C.2.2.2.2.1 C.2.2.2.2.2.2.2.1.1 hP q0 hq hc j hj (C.2.2.2.1 _ hlk) (fun x hx => hx) hv hd (kk H locs ls hP hD hS hl)
end
theorem nl_past : Cond.methodLinkNest RX1 9 yX6_scenes RX6 ∈ Nl := nl_of 129 (by decide +kernel) rfl
theorem nl_slots : Cond.methodLinkNest RX5 9 yX6_scenes RX6 ∈ Nl := nl_of 149 (by decide +kernel) rfl
theorem nl_x4 : Cond.methodLinkNest RX6 11 yX4_init RX6 ∈ Nl := nl_of 55 (by decide +kernel) rfl
theorem nl_x2 : Cond.methodLinkNest RX6 18 yX2_init RX6 ∈ Nl := nl_of 69 (by decide +kernel) rfl
theorem nl_x0 : Cond.methodLinkNest RX6 51 yX0_init RX6 ∈ Nl := nl_of 159 (by decide +kernel) rfl
theorem k_X1_init (l : Launch) {dC : Nat → ClassId} {dI : Nat → Nat → Nat} {cI cZ cS : ClassId} (b pl : Nat) : KA l (dC, dI) vwCl (tyW cI cZ cS) yX1_init cX1_init 2 3 130 71 420 [.ref b, .ref pl] [(b, .inr (1, [.null, .int 0, .int 0]))] (fun u : List (Nat → Nat) × Nat => u.1.length = 14) (fun u => (b, .inr (1, [.ref u.2, .int 0, .int 0])) :: scW cI cS pl u.2 14 u.1) := by
  refine KA.of rfl (Nat.le_of_ble_eq_true rfl) rfl (fun p e s m args below meth c A0 C hi ho => ?_)
  refine g_aload_n C dX1_init_0 0 rfl rfl ?_
  refine g_obj C wl_128 dX1_init_1 (Nat.le_of_ble_eq_true rfl) (Nat.le_of_ble_eq_true rfl) ?_
  refine g_aload_n C dX1_init_4 0 rfl rfl ?_
  refine g_aload_n C dX1_init_5 1 rfl rfl ?_
  refine g_bipush C dX1_init_6 (v := 14) rfl ?_
  refine g_callSR C ho (U := List (Nat → Nat)) (As := [.ref pl, .int (nI 14)]) (rest := [.ref b]) (wr := [(b, .inr (1, [.null, .int 0, .int 0]))]) [] [0] (k_X6_scenes l pl 14 (by omega)) rfl rfl rfl rfl (by decide) nl_past wl_130 wl_33 wl_131 ⟨by decide +kernel, by decide +kernel, show (parseMethodDescriptor yX6_scenes.desc).map (fun d => d.parameters.length) = some 2 by decide +kernel⟩ ⟨Nat.le_of_ble_eq_true rfl, Nat.le_of_ble_eq_true rfl⟩ ⟨Nat.le_of_ble_eq_true rfl, Nat.le_of_ble_eq_true rfl⟩ rfl (Nat.le_of_ble_eq_true rfl) dX1_init_8 (fun vs q hv => ?_)
  refine g_putFw C hi 0 rfl rfl tyX1 tyX1_ok nmX1 0 (by decide) wu_X1 wl_133 rfl rfl (ty := .array (.object "FirstUmbrella$Scene")) rfl rfl rfl (Nat.le_of_ble_eq_true rfl) (w2 := (b, .inr (1, [.ref q, .int 0, .int 0])) :: scW cI cS pl q 14 vs) rfl dX1_init_11 ?_
  exact g_aretA C (vs, q) hv rfl dX1_init_14 (Nat.le_of_ble_eq_true rfl) (Nat.le_of_ble_eq_true rfl)
theorem k_X5_init (l : Launch) {dC : Nat → ClassId} {dI : Nat → Nat → Nat} {cI cZ cS : ClassId} (b pl : Nat) : KA l (dC, dI) vwCl (tyW cI cZ cS) yX5_init cX5_init 2 3 130 11 60 [.ref b, .ref pl] [(b, .inr (5, [.null, .int 0]))] (fun u : List (Nat → Nat) × Nat => u.1.length = 2) (fun u => (b, .inr (5, [.ref u.2, .int 0])) :: scW cI cS pl u.2 2 u.1) := by
  refine KA.of rfl (Nat.le_of_ble_eq_true rfl) rfl (fun p e s m args below meth c A0 C hi ho => ?_)
  refine g_aload_n C dX5_init_0 0 rfl rfl ?_
  refine g_obj C wl_148 dX5_init_1 (Nat.le_of_ble_eq_true rfl) (Nat.le_of_ble_eq_true rfl) ?_
  refine g_aload_n C dX5_init_4 0 rfl rfl ?_
  refine g_aload_n C dX5_init_5 1 rfl rfl ?_
  refine g_iconst C dX5_init_6 (v := 2) rfl ?_
  refine g_callSR C ho (U := List (Nat → Nat)) (As := [.ref pl, .int (nI 2)]) (rest := [.ref b]) (wr := [(b, .inr (5, [.null, .int 0]))]) [] [0] (k_X6_scenes l pl 2 (by omega)) rfl rfl rfl rfl (by decide) nl_slots wl_130 wl_33 wl_131 ⟨by decide +kernel, by decide +kernel, show (parseMethodDescriptor yX6_scenes.desc).map (fun d => d.parameters.length) = some 2 by decide +kernel⟩ ⟨Nat.le_of_ble_eq_true rfl, Nat.le_of_ble_eq_true rfl⟩ ⟨Nat.le_of_ble_eq_true rfl, Nat.le_of_ble_eq_true rfl⟩ rfl (Nat.le_of_ble_eq_true rfl) dX5_init_7 (fun vs q hv => ?_)
  refine g_putFw C hi 0 rfl rfl tyX5 tyX5_ok nmX5 0 (by decide) wu_X5 wl_150 rfl rfl (ty := .array (.object "FirstUmbrella$Scene")) rfl rfl rfl (Nat.le_of_ble_eq_true rfl) (w2 := (b, .inr (5, [.ref q, .int 0])) :: scW cI cS pl q 2 vs) rfl dX5_init_10 ?_
  exact g_aretA C (vs, q) hv rfl dX5_init_13 (Nat.le_of_ble_eq_true rfl) (Nat.le_of_ble_eq_true rfl)
