section
variable {p : Program} {l : Launch} {e : Env} {R : Room} {s : State} {m : MethodId} {args : Array Value} {below : List Frame} {meth : Method} {c : Code} {cells slots : Nat} {Q : State → Prop} {D : va_G} {cl : List vw_C} {tys : List (ClassId × FieldType)} {A0 : Nat → Prop} {H0 : Heap} {cc : ByteArray} {nL : Nat} {ret : Option FieldType} {own : String} {w : va_W} {pc : Nat} {lv : List (Nat × Value)} {st : List Value} {n : Nat} {a : Nat → Nat} {g g2 : Nat → va_E}
theorem g_ve (hu : ∀ i, i < n → ve (g i) (g2 i)) (k : gG p l e R s m args below meth c nL D cl A0 H0 cells slots Q (wF n a g2) pc lv st) : gG p l e R s m args below meth c nL D cl A0 H0 cells slots Q (wF n a g) pc lv st := by
  intro H locs ls hP hD hS hl
  refine k H locs ls ?_ (wF_D hD) hS hl
  intro i q hq
  obtain ⟨hi, rfl⟩ := wF_inv hq
  exact hu i hi D cl (a i) H (hP i _ (wF_get hi))
theorem g_aload_n_null (C : gC p s m args meth c cc nL ret own D cl tys A0 H0) {k4 : Fin 4} {i : Nat} (hd : decode cc pc = .ok (.aload_n k4, 1)) (j : Nat) (hi : (k4 : Nat) = i) (hj : lv[j]? = some (i, .null)) (k : gG p l e R s m args below meth c nL D cl A0 H0 cells slots Q w (pc + 1) lv (.null :: st)) : gG p l e R s m args below meth c nL D cl A0 H0 cells slots Q w pc lv st :=
  fun H locs ls hP hD hS hl => lv_aload_nN C.1 C.2.1 hd hi (lv_at hl j hj) (k H locs ls hP hD hS hl)
theorem g_astore_n_null (C : gC p s m args meth c cc nL ret own D cl tys A0 H0) {k4 : Fin 4} {i : Nat} {lv2 : List (Nat × Value)} (hd : decode cc pc = .ok (.astore_n k4, 1)) (hi : (k4 : Nat) = i) (hn : i < nL) (he : (i, Value.null) :: lv.filter (fun q => !(q.1 == i) && !(q.1 + 1 == i && q.2.category == 2)) = lv2) (k : gG p l e R s m args below meth c nL D cl A0 H0 cells slots Q w (pc + 1) lv2 st) : gG p l e R s m args below meth c nL D cl A0 H0 cells slots Q w pc lv (.null :: st) :=
  fun H locs ls hP hD hS hl => lv_astore_nN C.1 C.2.1 hd hi hl hn he (fun ls2 hl2 => k H locs ls2 hP hD hS hl2)
theorem g_ifnull_null (C : gC p s m args meth c cc nL ret own D cl tys A0 H0) {off : Int} {tgt : Nat} (hd : decode cc pc = .ok (.ifnull off, 3)) (ht : (pc : Int) + off = (tgt : Int)) (k : gG p l e R s m args below meth c nL D cl A0 H0 cells slots Q w tgt lv st) : gG p l e R s m args below meth c nL D cl A0 H0 cells slots Q w pc lv (.null :: st) :=
  fun H locs ls hP hD hS hl => lv_ifnullN C.1 C.2.1 hd ht (k H locs ls hP hD hS hl)
theorem g_ifnull_ref (C : gC p s m args meth c cc nL ret own D cl tys A0 H0) {off : Int} {x : Nat} (hd : decode cc pc = .ok (.ifnull off, 3)) (k : gG p l e R s m args below meth c nL D cl A0 H0 cells slots Q w (pc + 3) lv st) : gG p l e R s m args below meth c nL D cl A0 H0 cells slots Q w pc lv (.ref x :: st) :=
  fun H locs ls hP hD hS hl => lv_ifnull C.1 C.2.1 hd (k H locs ls hP hD hS hl)
end
-- array copies
def mC (M : MM) (rd od rs os n : Nat) : MM := (fun r c => if r = rd ∧ od ≤ c ∧ c < od + n then M.1 rs (os + (c - od)) else M.1 r c, M.2)
theorem cC_mC {a : Nat → Nat} {cI cS : ClassId} {M : MM} {k r o n rs os : Nat} (h : arr k r o n) : ∀ i, i < 106 → ve (if i = k then .inl (cI, n, .inl (va_cpy (fun c => M.1 rs (os + c)) (fun c => M.1 r (o + c)) 0 0 n)) else cC a cI cS M i) (cC a cI cS (mC M r o rs os n) i) := by
  intro i hi
  by_cases hik : i = k
  · subst hik
    rw [if_pos rfl, cC_arr h]
    refine ve_arr (fun c hc => ?_)
    show va_cpy _ _ 0 0 n c = (if r = r ∧ o ≤ o + c ∧ o + c < o + n then M.1 rs (os + (o + c - o)) else M.1 r (o + c))
    rw [if_pos ⟨rfl, by omega, by omega⟩, pk_cpy_in (by omega) (by omega)]
    exact congrArg (M.1 rs) (by omega)
  · rw [if_neg hik]
    refine cC_ve hi (Or.inl rfl) (fun r2 c2 h2 => ?_)
    refine if_neg (fun q => hik (own_one h2 ?_))
    obtain ⟨h1, rfl, rfl, rfl⟩ := h
    exact Or.inr (Or.inr (Or.inr (Or.inr (Or.inr (Or.inr ⟨h1, q.1, by omega, by omega⟩)))))
theorem arr_n {k r o n : Nat} (h : arr k r o n) : n ≤ 48 := by
  obtain ⟨-, -, -, h⟩ := h
  unfold aN at h
  repeat' split at h
  all_goals omega
section
variable {p : Program} {l : Launch} {e : Env} {R : Room} {s : State} {m : MethodId} {args : Array Value} {below : List Frame} {meth : Method} {c : Code} {cells slots : Nat} {Q : State → Prop} {dC : Nat → ClassId} {dI : Nat → Nat → Nat} {A0 : Nat → Prop} {H0 : Heap} {cc : ByteArray} {nL : Nat} {ret : Option FieldType} {own : String} {pc : Nat} {lv : List (Nat × Value)} {st : List Value} {a : Nat → Nat} {cI cZ cS : ClassId} {M : MM}
theorem ga_copy (C : gC p s m args meth c cc nL ret own (dC, dI) vwCl (tyW cI cZ cS) A0 H0) {index k0 r0 o0 n0 k1 r1 o1 n1 : Nat} (hlk : Cond.methodLink own index arraycopyName ∈ Wl) (hna : Cond.native arraycopyName ∈ Wl) (hst : Cond.static arraycopyName ∈ Wl) (hini : Cond.initialized "java/lang/System" ∈ Wl) (h0 : arr k0 r0 o0 n0) (h1 : arr k1 r1 o1 n1) (hn : n1 ≤ n0) (hR : 1 ≤ R.frames ∧ (st.map fun v => v.category).sum + (nativeFrameWords "java/lang/System" "arraycopy" 5 + 11) ≤ R.locals) (hd : decode cc pc = .ok (.invokestatic index, 3)) (kk : gG p l e R s m args below meth c nL (dC, dI) vwCl A0 H0 cells slots Q (wC a cI cS (mC M r1 o1 r0 o0 n1)) (pc + 3) lv st) : gG p l e R s m args below meth c nL (dC, dI) vwCl A0 H0 cells slots Q (wC a cI cS M) pc lv (.int (nI n1) :: .int 0 :: .ref (a k1) :: .int 0 :: .ref (a k0) :: st) := by
  have hb := arr_n h1
  refine g_copyi C (t0 := 0) (t1 := 0) hlk hna hst hini (cC_aN h0) (cC_aN h1) (cC_arr h0) (cC_arr h1) rfl rfl (by decide) (by decide) (nI_pos (by omega)) ?_ ?_ hR ?_ hd kk
  · rw [nI_clamp (by omega)]; show 0 + n1 ≤ n0; omega
  · rw [nI_clamp (by omega)]; show 0 + n1 ≤ n1; omega
  · rw [nI_clamp (by omega)]; exact cC_mC h1
end
-- a scene out of a row of scenes
abbrev sA (k N b : Nat) : Prop := (k = 10 ∧ N = 14 ∧ b = 2) ∨ (k = 12 ∧ N = 2 ∧ b = 16)
def scAt (N b : Nat) (x : Int32) : Option Nat := if ib x N = true then some (b + x.toNatClampNeg) else none
def osc {β : Type} (x : Option Nat) (f : β) (h : Nat → β) : β := match x with
  | none => f
  | some j => h j
theorem scAt_lt {N b : Nat} {x : Int32} {j : Nat} (h : scAt N b x = some j) (hb : b + N ≤ 18) : j < 18 := by
  unfold scAt at h
  by_cases q : ib x N = true
  · rw [if_pos q] at h
    have := ib_lt q
    cases h
    omega
  · rw [if_neg q] at h; cases h
theorem ib_neg {x : Int32} {n : Nat} (h : x < 0) : ib x n = false := by
  unfold ib
  have := Int32.lt_iff_toInt_lt.mp h
  simp at this ⊢
  omega
theorem ib_big {x : Int32} {n : Nat} (hn : n < 2 ^ 31) (h : nI n ≤ x) : ib x n = false := by
  unfold ib
  have := Int32.le_iff_toInt_le.mp h
  rw [nI_toInt hn] at this
  simp
  omega
theorem ib_mid {x : Int32} {n : Nat} (hn : n < 2 ^ 31) (h0 : ¬ x < 0) (h : ¬ nI n ≤ x) : ib x n = true := by
  unfold ib
  have h1 := Int32.not_lt.mp h0
  have h1 := Int32.le_iff_toInt_le.mp h1
  have h2 := Int32.lt_iff_toInt_lt.mp (Int32.not_le.mp h)
  rw [nI_toInt hn] at h2
  simp at h1 ⊢
  omega
set_option maxHeartbeats 4000000 in
set_option maxRecDepth 100000 in
theorem k_X6_sceneAt {l : Launch} {dC : Nat → ClassId} {dI : Nat → Nat → Nat} {a : Nat → Nat} {cI cZ cS : ClassId} (k N b : Nat) (hS : sA k N b) (x1 : Int32) (M : MM) : KQ l (dC, dI) vwCl (tyW cI cZ cS) yX6_sceneAt cX6_sceneAt 2 (some (.object "FirstUmbrella$Scene")) 0 0 [.ref (a k), .int x1] (wC a cI cS M) (qR (dC, dI) vwCl (wC a cI cS M) ((scAt N b x1).map (fun j => a (16 + 5 * j)))) := by
  have hg : cC a cI cS M k = .inl (cS, N, .inr (.inr (.inr (.inr (fun j => some (a (16 + 5 * (b + j)))))))) := by rcases hS with ⟨rfl, rfl, rfl⟩ | ⟨rfl, rfl, rfl⟩ <;> rfl
  have hk : k < 106 := by omega
  have hN : N < 2 ^ 31 := by omega
  refine KQ.of (by decide) (Nat.le_of_ble_eq_true rfl) rfl ?_
  intro p e s m args below meth c A0 C
  refine g_iload_n C dX6_sceneAt_0 1 rfl rfl ?_
  refine g_if_lt C (tgt := 16) dX6_sceneAt_1 (by decide) (fun c1 => ?_) (fun c1 => ?_)
  · refine g_null C dX6_sceneAt_16 ?_
    refine g_aret C (v := none) dX6_sceneAt_17 ?_ rfl
    unfold scAt
    rw [ib_neg c1]; rfl
  · refine g_iload_n C dX6_sceneAt_4 1 rfl rfl ?_
    refine g_aload_n C dX6_sceneAt_5 0 rfl rfl ?_
    refine g_alen C (t0 := 2) hk hg rfl dX6_sceneAt_6 ?_
    refine g_icmp_ge C (tgt := 16) dX6_sceneAt_7 (by decide) (fun c2 => ?_) (fun c2 => ?_)
    · refine g_null C dX6_sceneAt_16 ?_
      refine g_aret C (v := none) dX6_sceneAt_17 ?_ rfl
      unfold scAt
      rw [ib_big hN c2]; rfl
    · have hi := ib_mid hN c1 c2
      refine g_aload_n C dX6_sceneAt_10 0 rfl rfl ?_
      refine g_iload_n C dX6_sceneAt_11 1 rfl rfl ?_
      refine g_aldq C (t0 := 2) hk hg rfl (vp_of_ib hi) dX6_sceneAt_12 ?_
      refine g_goto C (tgt := 17) dX6_sceneAt_13 (by decide) ?_
      refine g_aret C dX6_sceneAt_17 ?_ rfl
      unfold scAt
      rw [if_pos hi]; rfl

def q_X6_at (r0 : Nat) (o0 : Nat) (n0 : Nat) (x1 : Int32) (M : MM) : Option (Int32 × MM) := (if x1 < 0 then (some ((0 : Int32), M)) else (if (nI n0) ≤ x1 then (some ((0 : Int32), M)) else (ogd (ib x1 n0 = true) inferInstance (some ((M.1 r0 (o0 + x1.toNatClampNeg)), M)))))
set_option maxHeartbeats 4000000 in
set_option maxRecDepth 100000 in
theorem k_X6_at {l : Launch} {dC : Nat → ClassId} {dI : Nat → Nat → Nat} {a : Nat → Nat} {cI cZ cS : ClassId} (k0 r0 o0 n0 : Nat) (hA0 : arr k0 r0 o0 n0) (x1 : Int32) (M M2 : MM) (r : Int32) (hq : q_X6_at r0 o0 n0 x1 M = some (r, M2)) : KQ l (dC, dI) vwCl (tyW cI cZ cS) yX6_at cX6_at 2 (some .int) 0 0 [.ref (a k0), .int x1] (wC a cI cS M) (qI (dC, dI) vwCl (wC a cI cS M2) r) := by
  refine KQ.of (by decide) (Nat.le_of_ble_eq_true rfl) rfl ?_
  intro p e s m args below meth c A0 C
  unfold q_X6_at at hq
  refine g_iload_n C dX6_at_0 1 rfl rfl ?_
  refine g_if_lt C (tgt := 16) dX6_at_1 (by decide) (fun c7 => ?_) (fun c7 => ?_)
  · have hq := ip c7 hq
    refine g_iconst C dX6_at_16 (v := 0) (by decide) ?_
    exact g_iret C dX6_at_17 (som2 hq).1 (congrArg (wC a cI cS) (som2 hq).2)
  · have hq := iq c7 hq
    refine g_iload_n C dX6_at_4 1 rfl rfl ?_
    refine g_aload_n C dX6_at_5 0 rfl rfl ?_
    refine ga_len C hA0 dX6_at_6 ?_
    refine g_icmp_ge C (tgt := 16) dX6_at_7 (by decide) (fun c8 => ?_) (fun c8 => ?_)
    · have hq := ip c8 hq
      refine g_iconst C dX6_at_16 (v := 0) (by decide) ?_
      exact g_iret C dX6_at_17 (som2 hq).1 (congrArg (wC a cI cS) (som2 hq).2)
    · have hq := iq c8 hq
      refine g_aload_n C dX6_at_10 0 rfl rfl ?_
      refine g_iload_n C dX6_at_11 1 rfl rfl ?_
      obtain ⟨h9, hq⟩ := ogd_some hq
      refine ga_ld C hA0 h9 dX6_at_12 ?_
      refine g_goto C (tgt := 17) dX6_at_13 (by decide) ?_
      exact g_iret C dX6_at_17 (som2 hq).1 (congrArg (wC a cI cS) (som2 hq).2)

def q_X6_put (r0 : Nat) (o0 : Nat) (n0 : Nat) (x1 : Int32) (x2 : Int32) (M : MM) : Option (Unit × MM) := (if x1 < 0 then (some ((), M)) else (if (nI n0) ≤ x1 then (some ((), M)) else (ogd (ib x1 n0 = true) inferInstance (some ((), (mU M r0 (o0 + x1.toNatClampNeg) x2))))))
set_option maxHeartbeats 4000000 in
set_option maxRecDepth 100000 in
theorem k_X6_put {l : Launch} {dC : Nat → ClassId} {dI : Nat → Nat → Nat} {a : Nat → Nat} {cI cZ cS : ClassId} (k0 r0 o0 n0 : Nat) (hA0 : arr k0 r0 o0 n0) (x1 : Int32) (x2 : Int32) (M M2 : MM) (r : Unit) (hq : q_X6_put r0 o0 n0 x1 x2 M = some (r, M2)) : KQ l (dC, dI) vwCl (tyW cI cZ cS) yX6_put cX6_put 3 none 0 0 [.ref (a k0), .int x1, .int x2] (wC a cI cS M) (qV (dC, dI) vwCl (wC a cI cS M2)) := by
  refine KQ.of (by decide) (Nat.le_of_ble_eq_true rfl) rfl ?_
  intro p e s m args below meth c A0 C
  unfold q_X6_put at hq
  refine g_iload_n C dX6_put_0 1 rfl rfl ?_
  refine g_if_lt C (tgt := 14) dX6_put_1 (by decide) (fun c7 => ?_) (fun c7 => ?_)
  · have hq := ip c7 hq
    exact g_vret C dX6_put_14 (congrArg (wC a cI cS) (som2 hq).2)
  · have hq := iq c7 hq
    refine g_iload_n C dX6_put_4 1 rfl rfl ?_
    refine g_aload_n C dX6_put_5 0 rfl rfl ?_
    refine ga_len C hA0 dX6_put_6 ?_
    refine g_icmp_ge C (tgt := 14) dX6_put_7 (by decide) (fun c8 => ?_) (fun c8 => ?_)
    · have hq := ip c8 hq
      exact g_vret C dX6_put_14 (congrArg (wC a cI cS) (som2 hq).2)
    · have hq := iq c8 hq
      refine g_aload_n C dX6_put_10 0 rfl rfl ?_
      refine g_iload_n C dX6_put_11 1 rfl rfl ?_
      refine g_iload_n C dX6_put_12 2 rfl rfl ?_
      obtain ⟨h9, hq⟩ := ogd_some hq
      refine ga_st C hA0 h9 dX6_put_13 ?_
      exact g_vret C dX6_put_14 (congrArg (wC a cI cS) (som2 hq).2)

def t_at (r o n : Nat) (x : Int32) (M : MM) : Int32 := if ib x n = true then M.1 r (o + x.toNatClampNeg) else 0
def t_put (r o n : Nat) (x v : Int32) (M : MM) : MM := if ib x n = true then mU M r (o + x.toNatClampNeg) v else M
theorem n_X6_at {r o n : Nat} (hn : n < 2 ^ 31) (x : Int32) (M : MM) : q_X6_at r o n x M = some (t_at r o n x M, M) := by
  unfold q_X6_at t_at
  by_cases h0 : x < 0
  · rw [if_pos h0, ib_neg h0]; rfl
  · rw [if_neg h0]
    by_cases h1 : nI n ≤ x
    · rw [if_pos h1, ib_big hn h1]; rfl
    · have h := ib_mid hn h0 h1
      rw [if_neg h1, if_pos h, ogd_pos h]
theorem n_X6_put {r o n : Nat} (hn : n < 2 ^ 31) (x v : Int32) (M : MM) : q_X6_put r o n x v M = some ((), t_put r o n x v M) := by
  unfold q_X6_put t_put
  by_cases h0 : x < 0
  · rw [if_pos h0, ib_neg h0]; rfl
  · rw [if_neg h0]
    by_cases h1 : nI n ≤ x
    · rw [if_pos h1, ib_big hn h1]; rfl
    · have h := ib_mid hn h0 h1
      rw [if_neg h1, if_pos h, ogd_pos h]
theorem kn_X6_at {l : Launch} {dC : Nat → ClassId} {dI : Nat → Nat → Nat} {a : Nat → Nat} {cI cZ cS : ClassId} (k0 r0 o0 n0 : Nat) (hA0 : arr k0 r0 o0 n0) (x1 : Int32) (M : MM) : KQ l (dC, dI) vwCl (tyW cI cZ cS) yX6_at cX6_at 2 (some .int) 0 0 [.ref (a k0), .int x1] (wC a cI cS M) (qI (dC, dI) vwCl (wC a cI cS M) (t_at r0 o0 n0 x1 M)) := k_X6_at k0 r0 o0 n0 hA0 x1 M M _ (n_X6_at (by have := arr_n hA0; omega) x1 M)
theorem kn_X6_put {l : Launch} {dC : Nat → ClassId} {dI : Nat → Nat → Nat} {a : Nat → Nat} {cI cZ cS : ClassId} (k0 r0 o0 n0 : Nat) (hA0 : arr k0 r0 o0 n0) (x1 : Int32) (x2 : Int32) (M : MM) : KQ l (dC, dI) vwCl (tyW cI cZ cS) yX6_put cX6_put 3 none 0 0 [.ref (a k0), .int x1, .int x2] (wC a cI cS M) (qV (dC, dI) vwCl (wC a cI cS (t_put r0 o0 n0 x1 x2 M))) := k_X6_put k0 r0 o0 n0 hA0 x1 x2 M _ _ (n_X6_put (by have := arr_n hA0; omega) x1 x2 M)
