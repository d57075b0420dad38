set_option maxHeartbeats 4000000 in
set_option maxRecDepth 100000 in
theorem k_X7_may {l : Launch} {dC : Nat → ClassId} {dI : Nat → Nat → Nat} {a : Nat → Nat} {cI cZ cS : ClassId} (x1 : Int32) (M M2 : MM) (r : Int32) (hq : q_X7_may x1 M = some (r, M2)) : KQ l (dC, dI) vwCl (tyW cI cZ cS) yX7_may cX7_may 2 (some .int) 3 76 [.ref (a 0), .int x1] (wD a cI cZ M) (qI (dC, dI) vwCl (wD a cI cZ M2) r) := by
  refine KQ.of (by decide) (Nat.le_of_ble_eq_true rfl) rfl ?_
  intro p e s m args below meth c A0 C
  unfold q_X7_may at hq
  refine g_aload_n C dX7_may_0 0 rfl rfl ?_
  refine g_iconst C dX7_may_1 (v := 0) (by decide) ?_
  refine rp_X7_thrown C dX7_may_2 ?_
  refine g_iload_n C dX7_may_5 1 rfl rfl ?_
  refine g_i2l C dX7_may_6 rfl ?_
  refine g_lconst C dX7_may_7 (v := 0) (by decide) ?_
  refine g_lconst C dX7_may_8 (v := 1) (by decide) ?_
  refine gc_Si C (k_X7_in (x1.toInt64) (0 : Int64) (1 : Int64) (mU M 0 0 (0 : Int32))) wl_768 ok_X7_in ⟨Nat.le_of_ble_eq_true rfl, Nat.le_of_ble_eq_true rfl⟩ ⟨Nat.le_of_ble_eq_true rfl, Nat.le_of_ble_eq_true rfl⟩ rfl (Nat.le_of_ble_eq_true rfl) dX7_may_9 ?_
  refine g_if_ne C (tgt := 18) dX7_may_12 (by decide) (fun c9 => ?_) (fun c9 => ?_)
  · have hq := iq c9 hq
    refine g_aload_n C dX7_may_18 0 rfl rfl ?_
    obtain ⟨z10, Mz10, h11, hq⟩ := obd_some hq
    refine gc_Vv C (k_X7_findMay  (mU M 0 0 (0 : Int32)) Mz10 z10 h11) wl_972 ok_X7_findMay rv_X7 rfl ⟨Nat.le_of_ble_eq_true rfl, Nat.le_of_ble_eq_true rfl⟩ ⟨Nat.le_of_ble_eq_true rfl, Nat.le_of_ble_eq_true rfl⟩ rfl (Nat.le_of_ble_eq_true rfl) dX7_may_19 ?_
    refine g_iload_n C dX7_may_22 1 rfl rfl ?_
    refine g_if_ne C (tgt := 33) dX7_may_23 (by decide) (fun c12 => ?_) (fun c12 => ?_)
    · have hq := iq c12 hq
      refine g_aload_n C dX7_may_33 0 rfl rfl ?_
      refine rg_X7_mayFirst C dX7_may_34 ?_
      exact g_iret C dX7_may_37 (som2 hq).1 (congrArg (wD a cI cZ) (som2 hq).2)
    · have hq := ip c12 hq
      refine g_aload_n C dX7_may_26 0 rfl rfl ?_
      refine rg_X7_mayMany C dX7_may_27 ?_
      refine g_goto C (tgt := 37) dX7_may_30 (by decide) ?_
      exact g_iret C dX7_may_37 (som2 hq).1 (congrArg (wD a cI cZ) (som2 hq).2)
  · have hq := ip c9 hq
    refine g_bipush C dX7_may_15 (v := -2) (by decide) ?_
    exact g_iret C dX7_may_17 (som2 hq).1 (congrArg (wD a cI cZ) (som2 hq).2)
set_option maxHeartbeats 4000000 in
set_option maxRecDepth 100000 in
theorem k_X7_gainOf {l : Launch} {dC : Nat → ClassId} {dI : Nat → Nat → Nat} {a : Nat → Nat} {cI cZ cS : ClassId} (x1 : Int32) (x2 : Int32) (M M2 : MM) (r : Int32) (hq : q_X7_gainOf x1 x2 M = some (r, M2)) : KQ l (dC, dI) vwCl (tyW cI cZ cS) yX7_gainOf cX7_gainOf 4 (some .int) 3 68 [.ref (a 0), .int x1, .int x2] (wD a cI cZ M) (qI (dC, dI) vwCl (wD a cI cZ M2) r) := by
  refine KQ.of (by decide) (Nat.le_of_ble_eq_true rfl) rfl ?_
  intro p e s m args below meth c A0 C
  have J_50 : ∀ (s0 : Int32) (M : MM), q_X7_gainOf_50 x1 x2  s0 M = some (r, M2) → gG p l e ({ frames := 3, cells := 0, slots := 0, locals := 68 }) s m args below meth c 4 (dC, dI) vwCl A0 s.heap 0 0 (MQ below ((qI (dC, dI) vwCl (wD a cI cZ M2) r) A0) args s 0 0 A0) (wD a cI cZ M) 50 [(2, .int x2)] [.int s0] := by
    intro s0 M hq
    unfold q_X7_gainOf_50 at hq
    refine g_istore_n C (lv2 := [(3, _), (2, _)]) dX7_gainOf_50 rfl (by decide) rfl ?_
    refine g_iload_n C dX7_gainOf_51 1 rfl rfl ?_
    refine g_if_eq C (tgt := 61) dX7_gainOf_52 (by decide) (fun c11 => ?_) (fun c11 => ?_)
    · have hq := ip c11 hq
      refine g_iload_n C dX7_gainOf_61 0 rfl rfl ?_
      exact g_iret C dX7_gainOf_62 (som2 hq).1 (congrArg (wD a cI cZ) (som2 hq).2)
    · have hq := iq c11 hq
      refine g_iload_n C dX7_gainOf_55 0 rfl rfl ?_
      refine g_iconst C dX7_gainOf_56 (v := 1) (by decide) ?_
      refine g_isub C dX7_gainOf_57 ?_
      refine g_goto C (tgt := 62) dX7_gainOf_58 (by decide) ?_
      exact g_iret C dX7_gainOf_62 (som2 hq).1 (congrArg (wD a cI cZ) (som2 hq).2)
  unfold q_X7_gainOf at hq
  refine g_aload_n C dX7_gainOf_0 0 rfl rfl ?_
  refine g_aload_n C dX7_gainOf_1 0 rfl rfl ?_
  refine rg_X7_trial C dX7_gainOf_2 ?_
  obtain ⟨z20, Mz20, h21, hq⟩ := obd_some hq
  refine gc_Vi C (k_X7_hailOf 7 (Or.inr rfl) M Mz20 z20 h21) wl_814 ok_X7_hailOf rv_X7 rfl ⟨Nat.le_of_ble_eq_true rfl, Nat.le_of_ble_eq_true rfl⟩ ⟨Nat.le_of_ble_eq_true rfl, Nat.le_of_ble_eq_true rfl⟩ rfl (Nat.le_of_ble_eq_true rfl) dX7_gainOf_5 ?_
  refine g_aload_n C dX7_gainOf_8 0 rfl rfl ?_
  refine rg_X7_trial C dX7_gainOf_9 ?_
  refine g_iload_n C dX7_gainOf_12 1 rfl rfl ?_
  obtain ⟨h22, hq⟩ := ogd_some hq
  refine gb_ld C (show arD 7 24 from ⟨by decide, by decide, by decide, by decide⟩) h22 dX7_gainOf_13 ?_
  refine gc_Si C (k_X7_has z20 (Mz20.1 7 x1.toNatClampNeg) Mz20) wl_811 ok_X7_has ⟨Nat.le_of_ble_eq_true rfl, Nat.le_of_ble_eq_true rfl⟩ ⟨Nat.le_of_ble_eq_true rfl, Nat.le_of_ble_eq_true rfl⟩ rfl (Nat.le_of_ble_eq_true rfl) dX7_gainOf_14 ?_
  refine g_if_eq C (tgt := 25) dX7_gainOf_17 (by decide) (fun c23 => ?_) (fun c23 => ?_)
  · have hq := ip c23 hq
    refine g_aload_n C dX7_gainOf_25 0 rfl rfl ?_
    refine g_aload_n C dX7_gainOf_26 0 rfl rfl ?_
    refine rg_X7_trial C dX7_gainOf_27 ?_
    obtain ⟨z24, Mz24, h25, hq⟩ := obd_some hq
    refine gc_Vi C (k_X7_rainOf 7 (Or.inr rfl) Mz20 Mz24 z24 h25) wl_807 ok_X7_rainOf rv_X7 rfl ⟨Nat.le_of_ble_eq_true rfl, Nat.le_of_ble_eq_true rfl⟩ ⟨Nat.le_of_ble_eq_true rfl, Nat.le_of_ble_eq_true rfl⟩ rfl (Nat.le_of_ble_eq_true rfl) dX7_gainOf_30 ?_
    refine g_aload_n C dX7_gainOf_33 0 rfl rfl ?_
    refine rg_X7_trial C dX7_gainOf_34 ?_
    refine g_iload_n C dX7_gainOf_37 1 rfl rfl ?_
    obtain ⟨h26, hq⟩ := ogd_some hq
    refine gb_ld C (show arD 7 24 from ⟨by decide, by decide, by decide, by decide⟩) h26 dX7_gainOf_38 ?_
    refine gc_Si C (k_X7_has z24 (Mz24.1 7 x1.toNatClampNeg) Mz24) wl_811 ok_X7_has ⟨Nat.le_of_ble_eq_true rfl, Nat.le_of_ble_eq_true rfl⟩ ⟨Nat.le_of_ble_eq_true rfl, Nat.le_of_ble_eq_true rfl⟩ rfl (Nat.le_of_ble_eq_true rfl) dX7_gainOf_39 ?_
    refine g_if_eq C (tgt := 49) dX7_gainOf_42 (by decide) (fun c27 => ?_) (fun c27 => ?_)
    · have hq := ip c27 hq
      refine g_iconst C dX7_gainOf_49 (v := 0) (by decide) ?_
      exact g_sub [2] rfl (J_50 (0 : Int32) Mz24 hq)
    · have hq := iq c27 hq
      refine g_iconst C dX7_gainOf_45 (v := 2) (by decide) ?_
      refine g_goto C (tgt := 50) dX7_gainOf_46 (by decide) ?_
      exact g_sub [2] rfl (J_50 (2 : Int32) Mz24 hq)
  · have hq := iq c23 hq
    refine g_bipush C dX7_gainOf_20 (v := -3) (by decide) ?_
    refine g_goto C (tgt := 50) dX7_gainOf_22 (by decide) ?_
    exact g_sub [2] rfl (J_50 (-3 : Int32) Mz20 hq)
set_option maxHeartbeats 4000000 in
set_option maxRecDepth 100000 in
theorem k_X7_rests {l : Launch} {dC : Nat → ClassId} {dI : Nat → Nat → Nat} {a : Nat → Nat} {cI cZ cS : ClassId} (x1 : Int32) (x2 : Int32) (x3 : Int32) (M M2 : MM) (r : Int32) (hq : q_X7_rests x1 x2 x3 M = some (r, M2)) : KQ l (dC, dI) vwCl (tyW cI cZ cS) yX7_rests cX7_rests 6 (some .int) 4 91 [.ref (a 0), .int x1, .int x2, .int x3] (wD a cI cZ M) (qI (dC, dI) vwCl (wD a cI cZ M2) r) := by
  refine KQ.of (by decide) (Nat.le_of_ble_eq_true rfl) rfl ?_
  intro p e s m args below meth c A0 C
  have L_190 : ∀ (f : Nat) (v4 : Int32) (M : MM), q_X7_rests_190 x1 x2 x3  f v4 M = some (r, M2) → gG p l e ({ frames := 4, cells := 0, slots := 0, locals := 91 }) s m args below meth c 6 (dC, dI) vwCl A0 s.heap 0 0 (MQ below ((qI (dC, dI) vwCl (wD a cI cZ M2) r) A0) args s 0 0 A0) (wD a cI cZ M) 190 [(0, .ref (a 0)), (3, .int x3), (4, .int v4)] [] := by
    intro f
    induction f with
    | zero => intro v4 M hq; cases hq
    | succ f_190 ih_190 =>
      have J_303 : ∀ (v4 : Int32) (s1 : Int32) (s2 : Int32) (M : MM), q_X7_rests_303 x1 x2 x3 (q_X7_rests_190 x1 x2 x3  f_190) v4 s1 s2 M = some (r, M2) → gG p l e ({ frames := 4, cells := 0, slots := 0, locals := 91 }) s m args below meth c 6 (dC, dI) vwCl A0 s.heap 0 0 (MQ below ((qI (dC, dI) vwCl (wD a cI cZ M2) r) A0) args s 0 0 A0) (wD a cI cZ M) 303 [(0, .ref (a 0)), (3, .int x3), (4, .int v4)] [.int s2, .int s1, .ref (a 0)] := by
        intro v4 s1 s2 M hq
        unfold q_X7_rests_303 at hq
        refine g_iadd C dX7_rests_303 ?_
        refine rp_X7_restMany C dX7_rests_304 ?_
        refine g_iinc C (v := (v4 + (1 : Int32))) (lv2 := [(4, _), (0, _), (3, _)]) dX7_rests_307 2 rfl rfl (by decide) rfl ?_
        refine g_goto C (tgt := 190) dX7_rests_310 (by decide) ?_
        exact g_sub [1, 2, 0] rfl (ih_190 (v4 + (1 : Int32)) (mU M 0 13 (s1 + s2)) hq)
      have J_285 : ∀ (v4 : Int32) (v5 : Int32) (s1 : Int32) (M : MM), q_X7_rests_285 x1 x2 x3 (q_X7_rests_190 x1 x2 x3  f_190) v4 v5 s1 M = some (r, M2) → gG p l e ({ frames := 4, cells := 0, slots := 0, locals := 91 }) s m args below meth c 6 (dC, dI) vwCl A0 s.heap 0 0 (MQ below ((qI (dC, dI) vwCl (wD a cI cZ M2) r) A0) args s 0 0 A0) (wD a cI cZ M) 285 [(0, .ref (a 0)), (3, .int x3), (4, .int v4), (5, .int v5)] [.int s1, .ref (a 0)] := by
        intro v4 v5 s1 M hq
        unfold q_X7_rests_285 at hq
        refine rp_X7_restFirst C dX7_rests_285 ?_
        refine g_aload_n C dX7_rests_288 0 rfl rfl ?_
        refine g_dup C dX7_rests_289 rfl ?_
        refine rg_X7_restMany C dX7_rests_290 ?_
        refine g_iload C dX7_rests_293 3 rfl ?_
        refine g_if_eq C (tgt := 302) dX7_rests_295 (by decide) (fun c36 => ?_) (fun c36 => ?_)
        · have hq := ip c36 hq
          refine g_iconst C dX7_rests_302 (v := 0) (by decide) ?_
          exact g_sub [0, 1, 2] rfl (J_303 v4 ((mU M 0 14 s1).1 0 13) (0 : Int32) (mU M 0 14 s1) hq)
        · have hq := iq c36 hq
          refine g_iconst C dX7_rests_298 (v := 1) (by decide) ?_
          refine g_goto C (tgt := 303) dX7_rests_299 (by decide) ?_
          exact g_sub [0, 1, 2] rfl (J_303 v4 ((mU M 0 14 s1).1 0 13) (1 : Int32) (mU M 0 14 s1) hq)
      have J_281 : ∀ (v4 : Int32) (v5 : Int32) (M : MM), q_X7_rests_281 x1 x2 x3 (q_X7_rests_190 x1 x2 x3  f_190) v4 v5 M = some (r, M2) → gG p l e ({ frames := 4, cells := 0, slots := 0, locals := 91 }) s m args below meth c 6 (dC, dI) vwCl A0 s.heap 0 0 (MQ below ((qI (dC, dI) vwCl (wD a cI cZ M2) r) A0) args s 0 0 A0) (wD a cI cZ M) 281 [(0, .ref (a 0)), (3, .int x3), (4, .int v4), (5, .int v5)] [.ref (a 0)] := by
        intro v4 v5 M hq
        unfold q_X7_rests_281 at hq
        refine g_aload_n C dX7_rests_281 0 rfl rfl ?_
        refine rg_X7_restFirst C dX7_rests_282 ?_
        exact g_sub [0, 1, 2, 3] rfl (J_285 v4 v5 (M.1 0 14) M hq)
      have J_251 : ∀ (v4 : Int32) (s0 : Int32) (M : MM), q_X7_rests_251 x1 x2 x3 (q_X7_rests_190 x1 x2 x3  f_190) v4 s0 M = some (r, M2) → gG p l e ({ frames := 4, cells := 0, slots := 0, locals := 91 }) s m args below meth c 6 (dC, dI) vwCl A0 s.heap 0 0 (MQ below ((qI (dC, dI) vwCl (wD a cI cZ M2) r) A0) args s 0 0 A0) (wD a cI cZ M) 251 [(0, .ref (a 0)), (3, .int x3), (4, .int v4)] [.int s0] := by
        intro v4 s0 M hq
        unfold q_X7_rests_251 at hq
        refine g_istore C (lv2 := [(5, _), (0, _), (3, _), (4, _)]) dX7_rests_251 (by decide) rfl ?_
        refine g_aload_n C dX7_rests_253 1 rfl rfl ?_
        refine g_iload C dX7_rests_254 0 rfl ?_
        refine g_if_eq C (tgt := 281) dX7_rests_256 (by decide) (fun c39 => ?_) (fun c39 => ?_)
        · have hq := ip c39 hq
          exact g_sub [1, 2, 3, 0] rfl (J_281 v4 s0 M hq)
        · have hq := iq c39 hq
          refine g_aload_n C dX7_rests_259 1 rfl rfl ?_
          refine rg_X7_restMany C dX7_rests_260 ?_
          refine g_if_ne C (tgt := 281) dX7_rests_263 (by decide) (fun c40 => ?_) (fun c40 => ?_)
          · have hq := iq c40 hq
            exact g_sub [1, 2, 3, 0] rfl (J_281 v4 s0 M hq)
          · have hq := ip c40 hq
            refine g_bipush C dX7_rests_266 (v := 10) (by decide) ?_
            refine g_iload C dX7_rests_268 3 rfl ?_
            refine g_iconst C dX7_rests_270 (v := 2) (by decide) ?_
            refine g_idiv C dX7_rests_271 (by decide) ?_
            refine g_imul C dX7_rests_272 ?_
            refine g_iload C dX7_rests_273 3 rfl ?_
            refine g_iconst C dX7_rests_275 (v := 2) (by decide) ?_
            refine g_irem C dX7_rests_276 (by decide) ?_
            refine g_iadd C dX7_rests_277 ?_
            refine g_goto C (tgt := 285) dX7_rests_278 (by decide) ?_
            exact g_sub [1, 2, 3, 0] rfl (J_285 v4 s0 (((10 : Int32) * (v4 / (2 : Int32))) + (v4 - v4 / (2 : Int32) * (2 : Int32))) M hq)
      have J_250 : ∀ (v4 : Int32) (M : MM), q_X7_rests_250 x1 x2 x3 (q_X7_rests_190 x1 x2 x3  f_190) v4 M = some (r, M2) → gG p l e ({ frames := 4, cells := 0, slots := 0, locals := 91 }) s m args below meth c 6 (dC, dI) vwCl A0 s.heap 0 0 (MQ below ((qI (dC, dI) vwCl (wD a cI cZ M2) r) A0) args s 0 0 A0) (wD a cI cZ M) 250 [(0, .ref (a 0)), (3, .int x3), (4, .int v4)] [] := by
        intro v4 M hq
        unfold q_X7_rests_250 at hq
        refine g_iconst C dX7_rests_250 (v := 0) (by decide) ?_
        exact g_sub [0, 1, 2] rfl (J_251 v4 (0 : Int32) M hq)
      intro v4 M hq
      rw [q_X7_rests_190] at hq
      refine g_iload C dX7_rests_190 2 rfl ?_
      refine g_iconst C dX7_rests_192 (v := 4) (by decide) ?_
      refine g_icmp_ge C (tgt := 313) dX7_rests_193 (by decide) (fun c49 => ?_) (fun c49 => ?_)
      · have hq := ip c49 hq
        refine g_iload_n C dX7_rests_313 1 rfl rfl ?_
        refine g_if_ne C (tgt := 324) dX7_rests_314 (by decide) (fun c50 => ?_) (fun c50 => ?_)
        · have hq := iq c50 hq
          refine g_aload_n C dX7_rests_324 0 rfl rfl ?_
          refine rg_X7_restFirst C dX7_rests_325 ?_
          exact g_iret C dX7_rests_328 (som2 hq).1 (congrArg (wD a cI cZ) (som2 hq).2)
        · have hq := ip c50 hq
          refine g_aload_n C dX7_rests_317 0 rfl rfl ?_
          refine rg_X7_restMany C dX7_rests_318 ?_
          refine g_goto C (tgt := 328) dX7_rests_321 (by decide) ?_
          exact g_iret C dX7_rests_328 (som2 hq).1 (congrArg (wD a cI cZ) (som2 hq).2)
      · have hq := iq c49 hq
        refine g_aload_n C dX7_rests_196 0 rfl rfl ?_
        refine rg_X7_gains C dX7_rests_197 ?_
        refine g_iconst C dX7_rests_200 (v := 2) (by decide) ?_
        refine g_iload C dX7_rests_201 2 rfl ?_
        refine g_iconst C dX7_rests_203 (v := 2) (by decide) ?_
        refine g_ixor C dX7_rests_204 ?_
        refine g_imul C dX7_rests_205 ?_
        obtain ⟨h51, hq⟩ := ogd_some hq
        refine gb_ld C (show arD 14 8 from ⟨by decide, by decide, by decide, by decide⟩) h51 dX7_rests_206 ?_
        refine g_aload_n C dX7_rests_207 0 rfl rfl ?_
        refine rg_X7_gains C dX7_rests_208 ?_
        refine g_iconst C dX7_rests_211 (v := 2) (by decide) ?_
        refine g_iload C dX7_rests_212 2 rfl ?_
        refine g_imul C dX7_rests_214 ?_
        obtain ⟨h52, hq⟩ := ogd_some hq
        refine gb_ld C (show arD 14 8 from ⟨by decide, by decide, by decide, by decide⟩) h52 dX7_rests_215 ?_
        refine g_icmp_gt C (tgt := 250) dX7_rests_216 (by decide) (fun c53 => ?_) (fun c53 => ?_)
        · have hq := ip c53 hq
          exact g_sub [0, 1, 2] rfl (J_250 v4 M hq)
        · have hq := iq c53 hq
          refine g_aload_n C dX7_rests_219 0 rfl rfl ?_
          refine rg_X7_gains C dX7_rests_220 ?_
          refine g_iconst C dX7_rests_223 (v := 2) (by decide) ?_
          refine g_iload C dX7_rests_224 2 rfl ?_
          refine g_iconst C dX7_rests_226 (v := 1) (by decide) ?_
          refine g_ixor C dX7_rests_227 ?_
          refine g_imul C dX7_rests_228 ?_
          refine g_iconst C dX7_rests_229 (v := 1) (by decide) ?_
          refine g_iadd C dX7_rests_230 ?_
          obtain ⟨h54, hq⟩ := ogd_some hq
          refine gb_ld C (show arD 14 8 from ⟨by decide, by decide, by decide, by decide⟩) h54 dX7_rests_231 ?_
          refine g_aload_n C dX7_rests_232 0 rfl rfl ?_
          refine rg_X7_gains C dX7_rests_233 ?_
          refine g_iconst C dX7_rests_236 (v := 2) (by decide) ?_
          refine g_iload C dX7_rests_237 2 rfl ?_
          refine g_imul C dX7_rests_239 ?_
          refine g_iconst C dX7_rests_240 (v := 1) (by decide) ?_
          refine g_iadd C dX7_rests_241 ?_
          obtain ⟨h55, hq⟩ := ogd_some hq
          refine gb_ld C (show arD 14 8 from ⟨by decide, by decide, by decide, by decide⟩) h55 dX7_rests_242 ?_
          refine g_icmp_gt C (tgt := 250) dX7_rests_243 (by decide) (fun c56 => ?_) (fun c56 => ?_)
          · have hq := ip c56 hq
            exact g_sub [0, 1, 2] rfl (J_250 v4 M hq)
          · have hq := iq c56 hq
            refine g_iconst C dX7_rests_246 (v := 1) (by decide) ?_
            refine g_goto C (tgt := 251) dX7_rests_247 (by decide) ?_
            exact g_sub [0, 1, 2] rfl (J_251 v4 (1 : Int32) M hq)
  have L_73 : ∀ (f : Nat) (v4 : Int32) (M : MM), q_X7_rests_73 x1 x2 x3  f v4 M = some (r, M2) → gG p l e ({ frames := 4, cells := 0, slots := 0, locals := 91 }) s m args below meth c 6 (dC, dI) vwCl A0 s.heap 0 0 (MQ below ((qI (dC, dI) vwCl (wD a cI cZ M2) r) A0) args s 0 0 A0) (wD a cI cZ M) 73 [(0, .ref (a 0)), (1, .int x1), (2, .int x2), (3, .int x3), (4, .int v4)] [] := by
    intro f
    induction f with
    | zero => intro v4 M hq; cases hq
    | succ f_73 ih_73 =>
      have J_166 : ∀ (v4 : Int32) (s1 : Int32) (s3 : Int32) (s4 : Int32) (M : MM), q_X7_rests_166 x1 x2 x3 (q_X7_rests_73 x1 x2 x3  f_73) v4 s1 s3 s4 M = some (r, M2) → gG p l e ({ frames := 4, cells := 0, slots := 0, locals := 91 }) s m args below meth c 6 (dC, dI) vwCl A0 s.heap 0 0 (MQ below ((qI (dC, dI) vwCl (wD a cI cZ M2) r) A0) args s 0 0 A0) (wD a cI cZ M) 166 [(0, .ref (a 0)), (1, .int x1), (2, .int x2), (3, .int x3), (4, .int v4)] [.int s4, .int s3, .ref (a 0), .int s1, .ref (a 14)] := by
        intro v4 s1 s3 s4 M hq
        unfold q_X7_rests_166 at hq
        obtain ⟨z60, Mz60, h61, hq⟩ := obd_some hq
        refine gc_Vi C (k_X7_gainOf s3 s4 M Mz60 z60 h61) wl_984 ok_X7_gainOf rv_X7 rfl ⟨Nat.le_of_ble_eq_true rfl, Nat.le_of_ble_eq_true rfl⟩ ⟨Nat.le_of_ble_eq_true rfl, Nat.le_of_ble_eq_true rfl⟩ rfl (Nat.le_of_ble_eq_true rfl) dX7_rests_166 ?_
        obtain ⟨h62, hq⟩ := ogd_some hq
        refine gb_st C (show arD 14 8 from ⟨by decide, by decide, by decide, by decide⟩) h62 dX7_rests_169 ?_
        refine g_iinc C (v := (v4 + (1 : Int32))) (lv2 := [(4, _), (0, _), (1, _), (2, _), (3, _)]) dX7_rests_170 4 rfl rfl (by decide) rfl ?_
        refine g_goto C (tgt := 73) dX7_rests_173 (by decide) ?_
        exact g_sub [1, 2, 3, 4, 0] rfl (ih_73 (v4 + (1 : Int32)) (mU Mz60 14 s1.toNatClampNeg z60) hq)
      have J_137 : ∀ (v4 : Int32) (s1 : Int32) (s3 : Int32) (s4 : Int32) (M : MM), q_X7_rests_137 x1 x2 x3 (q_X7_rests_73 x1 x2 x3  f_73) v4 s1 s3 s4 M = some (r, M2) → gG p l e ({ frames := 4, cells := 0, slots := 0, locals := 91 }) s m args below meth c 6 (dC, dI) vwCl A0 s.heap 0 0 (MQ below ((qI (dC, dI) vwCl (wD a cI cZ M2) r) A0) args s 0 0 A0) (wD a cI cZ M) 137 [(0, .ref (a 0)), (1, .int x1), (2, .int x2), (3, .int x3), (4, .int v4)] [.int s4, .int s3, .ref (a 0), .int s1, .ref (a 14)] := by
        intro v4 s1 s3 s4 M hq
        unfold q_X7_rests_137 at hq
        obtain ⟨z67, Mz67, h68, hq⟩ := obd_some hq
        refine gc_Vi C (k_X7_gainOf s3 s4 M Mz67 z67 h68) wl_984 ok_X7_gainOf rv_X7 rfl ⟨Nat.le_of_ble_eq_true rfl, Nat.le_of_ble_eq_true rfl⟩ ⟨Nat.le_of_ble_eq_true rfl, Nat.le_of_ble_eq_true rfl⟩ rfl (Nat.le_of_ble_eq_true rfl) dX7_rests_137 ?_
        obtain ⟨h69, hq⟩ := ogd_some hq
        refine gb_st C (show arD 14 8 from ⟨by decide, by decide, by decide, by decide⟩) h69 dX7_rests_140 ?_
        refine g_aload_n C dX7_rests_141 0 rfl rfl ?_
        refine rg_X7_gains C dX7_rests_142 ?_
        refine g_iconst C dX7_rests_145 (v := 2) (by decide) ?_
        refine g_iload C dX7_rests_146 4 rfl ?_
        refine g_imul C dX7_rests_148 ?_
        refine g_iconst C dX7_rests_149 (v := 1) (by decide) ?_
        refine g_iadd C dX7_rests_150 ?_
        refine g_aload_n C dX7_rests_151 0 rfl rfl ?_
        refine g_iload_n C dX7_rests_152 2 rfl rfl ?_
        refine g_iload C dX7_rests_153 4 rfl ?_
        refine g_iconst C dX7_rests_155 (v := 2) (by decide) ?_
        refine g_irem C dX7_rests_156 (by decide) ?_
        refine g_iconst C dX7_rests_157 (v := 1) (by decide) ?_
        refine g_icmp_ne C (tgt := 165) dX7_rests_158 (by decide) (fun c70 => ?_) (fun c70 => ?_)
        · have hq := iq c70 hq
          refine g_iconst C dX7_rests_165 (v := 0) (by decide) ?_
          exact g_sub [0, 1, 2, 3, 4] rfl (J_166 v4 (((2 : Int32) * v4) + (1 : Int32)) x2 (0 : Int32) (mU Mz67 14 s1.toNatClampNeg z67) hq)
        · have hq := ip c70 hq
          refine g_iconst C dX7_rests_161 (v := 1) (by decide) ?_
          refine g_goto C (tgt := 166) dX7_rests_162 (by decide) ?_
          exact g_sub [0, 1, 2, 3, 4] rfl (J_166 v4 (((2 : Int32) * v4) + (1 : Int32)) x2 (1 : Int32) (mU Mz67 14 s1.toNatClampNeg z67) hq)
      have J_112 : ∀ (v4 : Int32) (s1 : Int32) (s2 : Int32) (M : MM), q_X7_rests_112 x1 x2 x3 (q_X7_rests_73 x1 x2 x3  f_73) v4 s1 s2 M = some (r, M2) → gG p l e ({ frames := 4, cells := 0, slots := 0, locals := 91 }) s m args below meth c 6 (dC, dI) vwCl A0 s.heap 0 0 (MQ below ((qI (dC, dI) vwCl (wD a cI cZ M2) r) A0) args s 0 0 A0) (wD a cI cZ M) 112 [(0, .ref (a 0)), (1, .int x1), (2, .int x2), (3, .int x3), (4, .int v4)] [.int s2, .int s1, .ref (a 0)] := by
        intro v4 s1 s2 M hq
        unfold q_X7_rests_112 at hq
        refine g_ior C dX7_rests_112 ?_
        obtain ⟨z74, Mz74, h75, hq⟩ := obd_some hq
        refine gc_Vv C (k_X7_openAll (s1 ||| s2) M Mz74 z74 h75) wl_918 ok_X7_openAll rv_X7 rfl ⟨Nat.le_of_ble_eq_true rfl, Nat.le_of_ble_eq_true rfl⟩ ⟨Nat.le_of_ble_eq_true rfl, Nat.le_of_ble_eq_true rfl⟩ rfl (Nat.le_of_ble_eq_true rfl) dX7_rests_113 ?_
        refine g_aload_n C dX7_rests_116 0 rfl rfl ?_
        refine rg_X7_gains C dX7_rests_117 ?_
        refine g_iconst C dX7_rests_120 (v := 2) (by decide) ?_
        refine g_iload C dX7_rests_121 4 rfl ?_
        refine g_imul C dX7_rests_123 ?_
        refine g_aload_n C dX7_rests_124 0 rfl rfl ?_
        refine g_iload_n C dX7_rests_125 1 rfl rfl ?_
        refine g_iload C dX7_rests_126 4 rfl ?_
        refine g_iconst C dX7_rests_128 (v := 1) (by decide) ?_
        refine g_icmp_le C (tgt := 136) dX7_rests_129 (by decide) (fun c76 => ?_) (fun c76 => ?_)
        · have hq := ip c76 hq
          refine g_iconst C dX7_rests_136 (v := 0) (by decide) ?_
          exact g_sub [0, 1, 2, 3, 4] rfl (J_137 v4 ((2 : Int32) * v4) x1 (0 : Int32) Mz74 hq)
        · have hq := iq c76 hq
          refine g_iconst C dX7_rests_132 (v := 1) (by decide) ?_
          refine g_goto C (tgt := 137) dX7_rests_133 (by decide) ?_
          exact g_sub [0, 1, 2, 3, 4] rfl (J_137 v4 ((2 : Int32) * v4) x1 (1 : Int32) Mz74 hq)
      have J_97 : ∀ (v4 : Int32) (s1 : Int32) (M : MM), q_X7_rests_97 x1 x2 x3 (q_X7_rests_73 x1 x2 x3  f_73) v4 s1 M = some (r, M2) → gG p l e ({ frames := 4, cells := 0, slots := 0, locals := 91 }) s m args below meth c 6 (dC, dI) vwCl A0 s.heap 0 0 (MQ below ((qI (dC, dI) vwCl (wD a cI cZ M2) r) A0) args s 0 0 A0) (wD a cI cZ M) 97 [(0, .ref (a 0)), (1, .int x1), (2, .int x2), (3, .int x3), (4, .int v4)] [.int s1, .ref (a 0)] := by
        intro v4 s1 M hq
        unfold q_X7_rests_97 at hq
        refine g_iload C dX7_rests_97 4 rfl ?_
        refine g_iconst C dX7_rests_99 (v := 2) (by decide) ?_
        refine g_irem C dX7_rests_100 (by decide) ?_
        refine g_iconst C dX7_rests_101 (v := 1) (by decide) ?_
        refine g_icmp_ne C (tgt := 111) dX7_rests_102 (by decide) (fun c78 => ?_) (fun c78 => ?_)
        · have hq := iq c78 hq
          refine g_iconst C dX7_rests_111 (v := 0) (by decide) ?_
          exact g_sub [0, 1, 2, 3, 4] rfl (J_112 v4 s1 (0 : Int32) M hq)
        · have hq := ip c78 hq
          refine g_iconst C dX7_rests_105 (v := 1) (by decide) ?_
          refine g_iload_n C dX7_rests_106 2 rfl rfl ?_
          refine g_ishl C dX7_rests_107 ?_
          refine g_goto C (tgt := 112) dX7_rests_108 (by decide) ?_
          exact g_sub [0, 1, 2, 3, 4] rfl (J_112 v4 s1 ((1 : Int32) <<< (x2 &&& 31)) M hq)
      intro v4 M hq
      rw [q_X7_rests_73] at hq
      refine g_iload C dX7_rests_73 4 rfl ?_
      refine g_iconst C dX7_rests_75 (v := 4) (by decide) ?_
      refine g_icmp_ge C (tgt := 176) dX7_rests_76 (by decide) (fun c83 => ?_) (fun c83 => ?_)
      · have hq := ip c83 hq
        refine g_aload_n C dX7_rests_176 0 rfl rfl ?_
        refine g_iconst C dX7_rests_177 (v := 0) (by decide) ?_
        refine rp_X7_restMany C dX7_rests_178 ?_
        refine g_aload_n C dX7_rests_181 0 rfl rfl ?_
        refine g_bipush C dX7_rests_182 (v := -9) (by decide) ?_
        refine rp_X7_restFirst C dX7_rests_184 ?_
        refine g_iconst C dX7_rests_187 (v := 0) (by decide) ?_
        refine g_istore C (lv2 := [(4, _), (0, _), (1, _), (2, _), (3, _)]) dX7_rests_188 (by decide) rfl ?_
        exact g_sub [1, 4, 0] rfl (L_190 FU (0 : Int32) (mU (mU M 0 13 (0 : Int32)) 0 14 (-9 : Int32)) hq)
      · have hq := iq c83 hq
        refine g_aload_n C dX7_rests_79 0 rfl rfl ?_
        obtain ⟨z84, Mz84, h85, hq⟩ := obd_some hq
        refine gc_Vv C (k_X7_begin  M Mz84 z84 h85) wl_898 ok_X7_begin rv_X7 rfl ⟨Nat.le_of_ble_eq_true rfl, Nat.le_of_ble_eq_true rfl⟩ ⟨Nat.le_of_ble_eq_true rfl, Nat.le_of_ble_eq_true rfl⟩ rfl (Nat.le_of_ble_eq_true rfl) dX7_rests_80 ?_
        refine g_aload_n C dX7_rests_83 0 rfl rfl ?_
        refine g_iload C dX7_rests_84 4 rfl ?_
        refine g_iconst C dX7_rests_86 (v := 1) (by decide) ?_
        refine g_icmp_le C (tgt := 96) dX7_rests_87 (by decide) (fun c86 => ?_) (fun c86 => ?_)
        · have hq := ip c86 hq
          refine g_iconst C dX7_rests_96 (v := 0) (by decide) ?_
          exact g_sub [0, 1, 2, 3, 4] rfl (J_97 v4 (0 : Int32) Mz84 hq)
        · have hq := iq c86 hq
          refine g_iconst C dX7_rests_90 (v := 1) (by decide) ?_
          refine g_iload_n C dX7_rests_91 1 rfl rfl ?_
          refine g_ishl C dX7_rests_92 ?_
          refine g_goto C (tgt := 97) dX7_rests_93 (by decide) ?_
          exact g_sub [0, 1, 2, 3, 4] rfl (J_97 v4 ((1 : Int32) <<< (x1 &&& 31)) Mz84 hq)
  unfold q_X7_rests at hq
  refine g_aload_n C dX7_rests_0 0 rfl rfl ?_
  refine g_iconst C dX7_rests_1 (v := 0) (by decide) ?_
  refine rp_X7_thrown C dX7_rests_2 ?_
  refine g_aload_n C dX7_rests_5 0 rfl rfl ?_
  refine g_iload_n C dX7_rests_6 1 rfl rfl ?_
  refine gc_Vi C (k_X7_noWalker x1 (mU M 0 0 (0 : Int32))) wl_830 ok_X7_noWalker rv_X7 rfl ⟨Nat.le_of_ble_eq_true rfl, Nat.le_of_ble_eq_true rfl⟩ ⟨Nat.le_of_ble_eq_true rfl, Nat.le_of_ble_eq_true rfl⟩ rfl (Nat.le_of_ble_eq_true rfl) dX7_rests_7 ?_
  refine g_if_ne C (tgt := 21) dX7_rests_10 (by decide) (fun c95 => ?_) (fun c95 => ?_)
  · have hq := iq c95 hq
    refine g_iconst C dX7_rests_21 (v := -1) (by decide) ?_
    exact g_iret C dX7_rests_22 (som2 hq).1 (congrArg (wD a cI cZ) (som2 hq).2)
  · have hq := ip c95 hq
    refine g_aload_n C dX7_rests_13 0 rfl rfl ?_
    refine g_iload_n C dX7_rests_14 2 rfl rfl ?_
    refine gc_Vi C (k_X7_noWalker x2 (mU M 0 0 (0 : Int32))) wl_830 ok_X7_noWalker rv_X7 rfl ⟨Nat.le_of_ble_eq_true rfl, Nat.le_of_ble_eq_true rfl⟩ ⟨Nat.le_of_ble_eq_true rfl, Nat.le_of_ble_eq_true rfl⟩ rfl (Nat.le_of_ble_eq_true rfl) dX7_rests_15 ?_
    refine g_if_eq C (tgt := 23) dX7_rests_18 (by decide) (fun c96 => ?_) (fun c96 => ?_)
    · have hq := ip c96 hq
      refine g_iload_n C dX7_rests_23 1 rfl rfl ?_
      refine g_iload_n C dX7_rests_24 2 rfl rfl ?_
      refine g_icmp_eq C (tgt := 38) dX7_rests_25 (by decide) (fun c97 => ?_) (fun c97 => ?_)
      · have hq := ip c97 hq
        refine g_bipush C dX7_rests_38 (v := -2) (by decide) ?_
        exact g_iret C dX7_rests_40 (som2 hq).1 (congrArg (wD a cI cZ) (som2 hq).2)
      · have hq := iq c97 hq
        refine g_iload_n C dX7_rests_28 3 rfl rfl ?_
        refine g_i2l C dX7_rests_29 rfl ?_
        refine g_lconst C dX7_rests_30 (v := 0) (by decide) ?_
        refine g_lconst C dX7_rests_31 (v := 1) (by decide) ?_
        refine gc_Si C (k_X7_in (x3.toInt64) (0 : Int64) (1 : Int64) (mU M 0 0 (0 : Int32))) wl_768 ok_X7_in ⟨Nat.le_of_ble_eq_true rfl, Nat.le_of_ble_eq_true rfl⟩ ⟨Nat.le_of_ble_eq_true rfl, Nat.le_of_ble_eq_true rfl⟩ rfl (Nat.le_of_ble_eq_true rfl) dX7_rests_32 ?_
        refine g_if_ne C (tgt := 41) dX7_rests_35 (by decide) (fun c98 => ?_) (fun c98 => ?_)
        · have hq := iq c98 hq
          refine g_aload_n C dX7_rests_41 0 rfl rfl ?_
          refine rg_X7_page C dX7_rests_42 ?_
          refine g_iconst C dX7_rests_45 (v := 5) (by decide) ?_
          obtain ⟨h99, hq⟩ := ogd_some hq
          refine gb_ld C (show arD 6 24 from ⟨by decide, by decide, by decide, by decide⟩) h99 dX7_rests_46 ?_
          refine g_iload_n C dX7_rests_47 1 rfl rfl ?_
          refine gc_Si C (k_X7_has ((mU M 0 0 (0 : Int32)).1 6 (5 : Int32).toNatClampNeg) x1 (mU M 0 0 (0 : Int32))) wl_811 ok_X7_has ⟨Nat.le_of_ble_eq_true rfl, Nat.le_of_ble_eq_true rfl⟩ ⟨Nat.le_of_ble_eq_true rfl, Nat.le_of_ble_eq_true rfl⟩ rfl (Nat.le_of_ble_eq_true rfl) dX7_rests_48 ?_
          refine g_if_ne C (tgt := 67) dX7_rests_51 (by decide) (fun c100 => ?_) (fun c100 => ?_)
          · have hq := iq c100 hq
            refine g_bipush C dX7_rests_67 (v := -3) (by decide) ?_
            exact g_iret C dX7_rests_69 (som2 hq).1 (congrArg (wD a cI cZ) (som2 hq).2)
          · have hq := ip c100 hq
            refine g_aload_n C dX7_rests_54 0 rfl rfl ?_
            refine rg_X7_page C dX7_rests_55 ?_
            refine g_iconst C dX7_rests_58 (v := 5) (by decide) ?_
            obtain ⟨h101, hq⟩ := ogd_some hq
            refine gb_ld C (show arD 6 24 from ⟨by decide, by decide, by decide, by decide⟩) h101 dX7_rests_59 ?_
            refine g_iload_n C dX7_rests_60 2 rfl rfl ?_
            refine gc_Si C (k_X7_has ((mU M 0 0 (0 : Int32)).1 6 (5 : Int32).toNatClampNeg) x2 (mU M 0 0 (0 : Int32))) wl_811 ok_X7_has ⟨Nat.le_of_ble_eq_true rfl, Nat.le_of_ble_eq_true rfl⟩ ⟨Nat.le_of_ble_eq_true rfl, Nat.le_of_ble_eq_true rfl⟩ rfl (Nat.le_of_ble_eq_true rfl) dX7_rests_61 ?_
            refine g_if_eq C (tgt := 70) dX7_rests_64 (by decide) (fun c102 => ?_) (fun c102 => ?_)
            · have hq := ip c102 hq
              refine g_iconst C dX7_rests_70 (v := 0) (by decide) ?_
              refine g_istore C (lv2 := [(4, _), (0, _), (1, _), (2, _), (3, _)]) dX7_rests_71 (by decide) rfl ?_
              exact g_sub [1, 2, 3, 4, 0] rfl (L_73 FU (0 : Int32) (mU M 0 0 (0 : Int32)) hq)
            · have hq := iq c102 hq
              refine g_bipush C dX7_rests_67 (v := -3) (by decide) ?_
              exact g_iret C dX7_rests_69 (som2 hq).1 (congrArg (wD a cI cZ) (som2 hq).2)
        · have hq := ip c98 hq
          refine g_bipush C dX7_rests_38 (v := -2) (by decide) ?_
          exact g_iret C dX7_rests_40 (som2 hq).1 (congrArg (wD a cI cZ) (som2 hq).2)
    · have hq := iq c96 hq
      refine g_iconst C dX7_rests_21 (v := -1) (by decide) ?_
      exact g_iret C dX7_rests_22 (som2 hq).1 (congrArg (wD a cI cZ) (som2 hq).2)
set_option maxHeartbeats 4000000 in
set_option maxRecDepth 100000 in
theorem k_X7_sudden {l : Launch} {dC : Nat → ClassId} {dI : Nat → Nat → Nat} {a : Nat → Nat} {cI cZ cS : ClassId} (x1 : Int32) (x2 : Int32) (x3 : Int32) (x4 : Int32) (M M2 : MM) (r : Int32) (hq : q_X7_sudden x1 x2 x3 x4 M = some (r, M2)) : KQ l (dC, dI) vwCl (tyW cI cZ cS) yX7_sudden cX7_sudden 9 (some .int) 3 68 [.ref (a 0), .int x1, .int x2, .int x3, .int x4] (wD a cI cZ M) (qI (dC, dI) vwCl (wD a cI cZ M2) r) := by
  refine KQ.of (by decide) (Nat.le_of_ble_eq_true rfl) rfl ?_
  intro p e s m args below meth c A0 C
  have L_45 : ∀ (f : Nat) (v5 : Int32) (v6 : Int32) (M : MM), q_X7_sudden_45 x1 x2 x3 x4  f v5 v6 M = some (r, M2) → gG p l e ({ frames := 3, cells := 0, slots := 0, locals := 68 }) s m args below meth c 9 (dC, dI) vwCl A0 s.heap 0 0 (MQ below ((qI (dC, dI) vwCl (wD a cI cZ M2) r) A0) args s 0 0 A0) (wD a cI cZ M) 45 [(0, .ref (a 0)), (1, .int x1), (2, .int x2), (3, .int x3), (4, .int x4), (5, .int v5), (6, .int v6)] [] := by
    intro f
    induction f with
    | zero => intro v5 v6 M hq; cases hq
    | succ f_45 ih_45 =>
      have J_143 : ∀ (v6 : Int32) (s0 : Int32) (s1 : Int32) (M : MM), q_X7_sudden_143 x1 x2 x3 x4 (q_X7_sudden_45 x1 x2 x3 x4  f_45) v6 s0 s1 M = some (r, M2) → gG p l e ({ frames := 3, cells := 0, slots := 0, locals := 68 }) s m args below meth c 9 (dC, dI) vwCl A0 s.heap 0 0 (MQ below ((qI (dC, dI) vwCl (wD a cI cZ M2) r) A0) args s 0 0 A0) (wD a cI cZ M) 143 [(0, .ref (a 0)), (1, .int x1), (2, .int x2), (3, .int x3), (4, .int x4), (6, .int v6)] [.int s1, .int s0] := by
        intro v6 s0 s1 M hq
        unfold q_X7_sudden_143 at hq
        refine g_iadd C dX7_sudden_143 ?_
        refine g_istore C (lv2 := [(5, _), (0, _), (1, _), (2, _), (3, _), (4, _), (6, _)]) dX7_sudden_144 (by decide) rfl ?_
        refine g_iinc C (v := (v6 + (1 : Int32))) (lv2 := [(6, _), (5, _), (0, _), (1, _), (2, _), (3, _), (4, _)]) dX7_sudden_146 6 rfl rfl (by decide) rfl ?_
        refine g_goto C (tgt := 45) dX7_sudden_149 (by decide) ?_
        exact g_sub [2, 3, 4, 5, 6, 1, 0] rfl (ih_45 (s0 + s1) (v6 + (1 : Int32)) M hq)
      have J_105 : ∀ (v5 : Int32) (v6 : Int32) (v7 : Int32) (s0 : Int32) (M : MM), q_X7_sudden_105 x1 x2 x3 x4 (q_X7_sudden_45 x1 x2 x3 x4  f_45) v5 v6 v7 s0 M = some (r, M2) → gG p l e ({ frames := 3, cells := 0, slots := 0, locals := 68 }) s m args below meth c 9 (dC, dI) vwCl A0 s.heap 0 0 (MQ below ((qI (dC, dI) vwCl (wD a cI cZ M2) r) A0) args s 0 0 A0) (wD a cI cZ M) 105 [(0, .ref (a 0)), (1, .int x1), (2, .int x2), (3, .int x3), (4, .int x4), (5, .int v5), (6, .int v6), (7, .int v7)] [.int s0] := by
        intro v5 v6 v7 s0 M hq
        unfold q_X7_sudden_105 at hq
        refine g_istore C (lv2 := [(8, _), (0, _), (1, _), (2, _), (3, _), (4, _), (5, _), (6, _), (7, _)]) dX7_sudden_105 (by decide) rfl ?_
        refine g_iload C dX7_sudden_107 6 rfl ?_
        refine g_iload C dX7_sudden_109 0 rfl ?_
        refine g_iload_n C dX7_sudden_111 2 rfl rfl ?_
        refine gc_Si C (k_X7_has s0 x1 M) wl_811 ok_X7_has ⟨Nat.le_of_ble_eq_true rfl, Nat.le_of_ble_eq_true rfl⟩ ⟨Nat.le_of_ble_eq_true rfl, Nat.le_of_ble_eq_true rfl⟩ rfl (Nat.le_of_ble_eq_true rfl) dX7_sudden_112 ?_
        refine g_if_eq C (tgt := 142) dX7_sudden_115 (by decide) (fun c31 => ?_) (fun c31 => ?_)
        · have hq := ip c31 hq
          refine g_iconst C dX7_sudden_142 (v := 0) (by decide) ?_
          exact g_sub [1, 2, 3, 4, 5, 7] rfl (J_143 v6 v5 (0 : Int32) M hq)
        · have hq := iq c31 hq
          refine g_iload_n C dX7_sudden_118 4 rfl rfl ?_
          refine g_iload C dX7_sudden_119 8 rfl ?_
          obtain ⟨z32, Mz32, h33, hq⟩ := obd_some hq
          refine gc_Si C (k_X7_power x3 v7 M Mz32 z32 h33) wl_993 ok_X7_power ⟨Nat.le_of_ble_eq_true rfl, Nat.le_of_ble_eq_true rfl⟩ ⟨Nat.le_of_ble_eq_true rfl, Nat.le_of_ble_eq_true rfl⟩ rfl (Nat.le_of_ble_eq_true rfl) dX7_sudden_121 ?_
          refine g_bipush C dX7_sudden_124 (v := 10) (by decide) ?_
          refine g_iload_n C dX7_sudden_126 4 rfl rfl ?_
          refine g_isub C dX7_sudden_127 ?_
          refine g_aload_n C dX7_sudden_128 1 rfl rfl ?_
          refine rg_X7_walkers C dX7_sudden_129 ?_
          refine g_iload C dX7_sudden_132 8 rfl ?_
          refine g_isub C dX7_sudden_134 ?_
          obtain ⟨z34, Mz34, h35, hq⟩ := obd_some hq
          refine gc_Si C (k_X7_power ((10 : Int32) - x3) ((Mz32.1 0 3) - v7) Mz32 Mz34 z34 h35) wl_993 ok_X7_power ⟨Nat.le_of_ble_eq_true rfl, Nat.le_of_ble_eq_true rfl⟩ ⟨Nat.le_of_ble_eq_true rfl, Nat.le_of_ble_eq_true rfl⟩ rfl (Nat.le_of_ble_eq_true rfl) dX7_sudden_135 ?_
          refine g_imul C dX7_sudden_138 ?_
          refine g_goto C (tgt := 143) dX7_sudden_139 (by decide) ?_
          exact g_sub [1, 2, 3, 4, 5, 7] rfl (J_143 v6 v5 (z32 * z34) Mz34 hq)
      intro v5 v6 M hq
      rw [q_X7_sudden_45] at hq
      refine g_iload C dX7_sudden_45 6 rfl ?_
      refine g_iconst C dX7_sudden_47 (v := 1) (by decide) ?_
      refine g_aload_n C dX7_sudden_48 0 rfl rfl ?_
      refine rg_X7_walkers C dX7_sudden_49 ?_
      refine g_ishl C dX7_sudden_52 ?_
      refine g_icmp_ge C (tgt := 152) dX7_sudden_53 (by decide) (fun c53 => ?_) (fun c53 => ?_)
      · have hq := ip c53 hq
        refine g_iload C dX7_sudden_152 5 rfl ?_
        refine g_bipush C dX7_sudden_154 (v := 10) (by decide) ?_
        refine g_aload_n C dX7_sudden_156 0 rfl rfl ?_
        refine rg_X7_walkers C dX7_sudden_157 ?_
        obtain ⟨z54, Mz54, h55, hq⟩ := obd_some hq
        refine gc_Si C (k_X7_power (10 : Int32) (M.1 0 3) M Mz54 z54 h55) wl_993 ok_X7_power ⟨Nat.le_of_ble_eq_true rfl, Nat.le_of_ble_eq_true rfl⟩ ⟨Nat.le_of_ble_eq_true rfl, Nat.le_of_ble_eq_true rfl⟩ rfl (Nat.le_of_ble_eq_true rfl) dX7_sudden_160 ?_
        refine g_iload C dX7_sudden_163 4 rfl ?_
        obtain ⟨z56, Mz56, h57, hq⟩ := obd_some hq
        refine gc_Si C (k_X7_fraction v5 z54 x4 Mz54 Mz56 z56 h57) wl_953 ok_X7_fraction ⟨Nat.le_of_ble_eq_true rfl, Nat.le_of_ble_eq_true rfl⟩ ⟨Nat.le_of_ble_eq_true rfl, Nat.le_of_ble_eq_true rfl⟩ rfl (Nat.le_of_ble_eq_true rfl) dX7_sudden_165 ?_
        exact g_iret C dX7_sudden_168 (som2 hq).1 (congrArg (wD a cI cZ) (som2 hq).2)
      · have hq := iq c53 hq
        refine g_aload_n C dX7_sudden_56 0 rfl rfl ?_
        obtain ⟨z58, Mz58, h59, hq⟩ := obd_some hq
        refine gc_Vv C (k_X7_begin  M Mz58 z58 h59) wl_898 ok_X7_begin rv_X7 rfl ⟨Nat.le_of_ble_eq_true rfl, Nat.le_of_ble_eq_true rfl⟩ ⟨Nat.le_of_ble_eq_true rfl, Nat.le_of_ble_eq_true rfl⟩ rfl (Nat.le_of_ble_eq_true rfl) dX7_sudden_57 ?_
        refine g_aload_n C dX7_sudden_60 0 rfl rfl ?_
        refine g_iload C dX7_sudden_61 6 rfl ?_
        refine g_aload_n C dX7_sudden_63 0 rfl rfl ?_
        refine rg_X7_page C dX7_sudden_64 ?_
        refine g_iconst C dX7_sudden_67 (v := 5) (by decide) ?_
        obtain ⟨h60, hq⟩ := ogd_some hq
        refine gb_ld C (show arD 6 24 from ⟨by decide, by decide, by decide, by decide⟩) h60 dX7_sudden_68 ?_
        refine g_iconst C dX7_sudden_69 (v := -1) (by decide) ?_
        refine g_ixor C dX7_sudden_70 ?_
        refine g_iand C dX7_sudden_71 ?_
        obtain ⟨z61, Mz61, h62, hq⟩ := obd_some hq
        refine gc_Vv C (k_X7_openAll (v6 &&& ((Mz58.1 6 (5 : Int32).toNatClampNeg) ^^^ (-1 : Int32))) Mz58 Mz61 z61 h62) wl_918 ok_X7_openAll rv_X7 rfl ⟨Nat.le_of_ble_eq_true rfl, Nat.le_of_ble_eq_true rfl⟩ ⟨Nat.le_of_ble_eq_true rfl, Nat.le_of_ble_eq_true rfl⟩ rfl (Nat.le_of_ble_eq_true rfl) dX7_sudden_72 ?_
        refine g_iload C dX7_sudden_75 6 rfl ?_
        obtain ⟨z63, Mz63, h64, hq⟩ := obd_some hq
        refine gc_Si C (k_X7_many v6 Mz61 Mz63 z63 h64) wl_926 ok_X7_many ⟨Nat.le_of_ble_eq_true rfl, Nat.le_of_ble_eq_true rfl⟩ ⟨Nat.le_of_ble_eq_true rfl, Nat.le_of_ble_eq_true rfl⟩ rfl (Nat.le_of_ble_eq_true rfl) dX7_sudden_77 ?_
        refine g_istore C (lv2 := [(7, _), (0, _), (1, _), (2, _), (3, _), (4, _), (5, _), (6, _)]) dX7_sudden_80 (by decide) rfl ?_
        refine g_iload_n C dX7_sudden_82 3 rfl rfl ?_
        refine g_if_ne C (tgt := 97) dX7_sudden_83 (by decide) (fun c65 => ?_) (fun c65 => ?_)
        · have hq := iq c65 hq
          refine g_aload_n C dX7_sudden_97 1 rfl rfl ?_
          refine g_aload_n C dX7_sudden_98 1 rfl rfl ?_
          refine rg_X7_trial C dX7_sudden_99 ?_
          obtain ⟨z66, Mz66, h67, hq⟩ := obd_some hq
          refine gc_Vi C (k_X7_hailOf 7 (Or.inr rfl) Mz63 Mz66 z66 h67) wl_814 ok_X7_hailOf rv_X7 rfl ⟨Nat.le_of_ble_eq_true rfl, Nat.le_of_ble_eq_true rfl⟩ ⟨Nat.le_of_ble_eq_true rfl, Nat.le_of_ble_eq_true rfl⟩ rfl (Nat.le_of_ble_eq_true rfl) dX7_sudden_102 ?_
          exact g_sub [1, 2, 3, 4, 5, 6, 7, 0] rfl (J_105 v5 v6 z63 z66 Mz66 hq)
        · have hq := ip c65 hq
          refine g_aload_n C dX7_sudden_86 1 rfl rfl ?_
          refine g_aload_n C dX7_sudden_87 1 rfl rfl ?_
          refine rg_X7_trial C dX7_sudden_88 ?_
          obtain ⟨z68, Mz68, h69, hq⟩ := obd_some hq
          refine gc_Vi C (k_X7_rainOf 7 (Or.inr rfl) Mz63 Mz68 z68 h69) wl_807 ok_X7_rainOf rv_X7 rfl ⟨Nat.le_of_ble_eq_true rfl, Nat.le_of_ble_eq_true rfl⟩ ⟨Nat.le_of_ble_eq_true rfl, Nat.le_of_ble_eq_true rfl⟩ rfl (Nat.le_of_ble_eq_true rfl) dX7_sudden_91 ?_
          refine g_goto C (tgt := 105) dX7_sudden_94 (by decide) ?_
          exact g_sub [1, 2, 3, 4, 5, 6, 7, 0] rfl (J_105 v5 v6 z63 z68 Mz68 hq)
  unfold q_X7_sudden at hq
  refine g_aload_n C dX7_sudden_0 0 rfl rfl ?_
  refine g_iconst C dX7_sudden_1 (v := 0) (by decide) ?_
  refine rp_X7_thrown C dX7_sudden_2 ?_
  refine g_iload_n C dX7_sudden_5 1 rfl rfl ?_
  refine gc_Si C (k_X7_noStreet x1 (mU M 0 0 (0 : Int32))) wl_843 ok_X7_noStreet ⟨Nat.le_of_ble_eq_true rfl, Nat.le_of_ble_eq_true rfl⟩ ⟨Nat.le_of_ble_eq_true rfl, Nat.le_of_ble_eq_true rfl⟩ rfl (Nat.le_of_ble_eq_true rfl) dX7_sudden_6 ?_
  refine g_if_eq C (tgt := 14) dX7_sudden_9 (by decide) (fun c73 => ?_) (fun c73 => ?_)
  · have hq := ip c73 hq
    refine g_iload_n C dX7_sudden_14 2 rfl rfl ?_
    refine g_i2l C dX7_sudden_15 rfl ?_
    refine g_lconst C dX7_sudden_16 (v := 0) (by decide) ?_
    refine g_lconst C dX7_sudden_17 (v := 1) (by decide) ?_
    refine gc_Si C (k_X7_in (x2.toInt64) (0 : Int64) (1 : Int64) (mU M 0 0 (0 : Int32))) wl_768 ok_X7_in ⟨Nat.le_of_ble_eq_true rfl, Nat.le_of_ble_eq_true rfl⟩ ⟨Nat.le_of_ble_eq_true rfl, Nat.le_of_ble_eq_true rfl⟩ rfl (Nat.le_of_ble_eq_true rfl) dX7_sudden_18 ?_
    refine g_if_eq C (tgt := 36) dX7_sudden_21 (by decide) (fun c74 => ?_) (fun c74 => ?_)
    · have hq := ip c74 hq
      refine g_bipush C dX7_sudden_36 (v := -2) (by decide) ?_
      exact g_iret C dX7_sudden_38 (som2 hq).1 (congrArg (wD a cI cZ) (som2 hq).2)
    · have hq := iq c74 hq
      refine g_iload_n C dX7_sudden_24 3 rfl rfl ?_
      refine g_i2l C dX7_sudden_25 rfl ?_
      refine g_lconst C dX7_sudden_26 (v := 0) (by decide) ?_
      refine g_ldc2 C wl_992 dX7_sudden_27 ?_
      refine gc_Si C (k_X7_in (x3.toInt64) (0 : Int64) (10 : Int64) (mU M 0 0 (0 : Int32))) wl_768 ok_X7_in ⟨Nat.le_of_ble_eq_true rfl, Nat.le_of_ble_eq_true rfl⟩ ⟨Nat.le_of_ble_eq_true rfl, Nat.le_of_ble_eq_true rfl⟩ rfl (Nat.le_of_ble_eq_true rfl) dX7_sudden_30 ?_
      refine g_if_ne C (tgt := 39) dX7_sudden_33 (by decide) (fun c75 => ?_) (fun c75 => ?_)
      · have hq := iq c75 hq
        refine g_iconst C dX7_sudden_39 (v := 0) (by decide) ?_
        refine g_istore C (lv2 := [(5, _), (0, _), (1, _), (2, _), (3, _), (4, _)]) dX7_sudden_40 (by decide) rfl ?_
        refine g_iconst C dX7_sudden_42 (v := 0) (by decide) ?_
        refine g_istore C (lv2 := [(6, _), (5, _), (0, _), (1, _), (2, _), (3, _), (4, _)]) dX7_sudden_43 (by decide) rfl ?_
        exact g_sub [2, 3, 4, 5, 6, 1, 0] rfl (L_45 FU (0 : Int32) (0 : Int32) (mU M 0 0 (0 : Int32)) hq)
      · have hq := ip c75 hq
        refine g_bipush C dX7_sudden_36 (v := -2) (by decide) ?_
        exact g_iret C dX7_sudden_38 (som2 hq).1 (congrArg (wD a cI cZ) (som2 hq).2)
  · have hq := iq c73 hq
    refine g_iconst C dX7_sudden_12 (v := -1) (by decide) ?_
    exact g_iret C dX7_sudden_13 (som2 hq).1 (congrArg (wD a cI cZ) (som2 hq).2)
set_option maxHeartbeats 4000000 in
set_option maxRecDepth 100000 in
theorem k_X7_seed {l : Launch} {dC : Nat → ClassId} {dI : Nat → Nat → Nat} {a : Nat → Nat} {cI cZ cS : ClassId} (x1 : Int64) (M M2 : MM) (r : Int64) (hq : q_X7_seed x1 M = some (r, M2)) : KQ l (dC, dI) vwCl (tyW cI cZ cS) yX7_seed cX7_seed 5 (some .long) 0 0 [.ref (a 0), .long x1] (wD a cI cZ M) (qL (dC, dI) vwCl (wD a cI cZ M2) r) := by
  refine KQ.of (by decide) (Nat.le_of_ble_eq_true rfl) rfl ?_
  intro p e s m args below meth c A0 C
  unfold q_X7_seed at hq
  refine g_aload_n C dX7_seed_0 0 rfl rfl ?_
  refine g_iconst C dX7_seed_1 (v := 0) (by decide) ?_
  refine rp_X7_thrown C dX7_seed_2 ?_
  refine g_aload_n C dX7_seed_5 0 rfl rfl ?_
  refine rg_X7_seed C dX7_seed_6 ?_
  refine g_lstore_n C (lv2 := [(3, _), (0, _), (1, _)]) dX7_seed_9 rfl (by decide) rfl ?_
  refine g_aload_n C dX7_seed_10 1 rfl rfl ?_
  refine g_lload_n C dX7_seed_11 2 rfl rfl ?_
  refine rp_X7_seed C dX7_seed_12 ?_
  refine g_lload_n C dX7_seed_15 0 rfl rfl ?_
  exact g_lret C dX7_seed_16 (som2 hq).1 (congrArg (wD a cI cZ) (som2 hq).2)
set_option maxHeartbeats 4000000 in
set_option maxRecDepth 100000 in
theorem k_X7_weeks {l : Launch} {dC : Nat → ClassId} {dI : Nat → Nat → Nat} {a : Nat → Nat} {cI cZ cS : ClassId} (x1 : Int32) (M M2 : MM) (r : Int32) (hq : q_X7_weeks x1 M = some (r, M2)) : KQ l (dC, dI) vwCl (tyW cI cZ cS) yX7_weeks cX7_weeks 5 (some .int) 5 116 [.ref (a 0), .int x1] (wD a cI cZ M) (qI (dC, dI) vwCl (wD a cI cZ M2) r) := by
  refine KQ.of (by decide) (Nat.le_of_ble_eq_true rfl) rfl ?_
  intro p e s m args below meth c A0 C
  have L_28 : ∀ (f : Nat) (v2 : Int32) (v3 : Int32) (M : MM), q_X7_weeks_28 x1  f v2 v3 M = some (r, M2) → gG p l e ({ frames := 5, cells := 0, slots := 0, locals := 116 }) s m args below meth c 5 (dC, dI) vwCl A0 s.heap 0 0 (MQ below ((qI (dC, dI) vwCl (wD a cI cZ M2) r) A0) args s 0 0 A0) (wD a cI cZ M) 28 [(0, .ref (a 0)), (1, .int x1), (2, .int v2), (3, .int v3)] [] := by
    intro f
    induction f with
    | zero => intro v2 v3 M hq; cases hq
    | succ f_28 ih_28 =>
      have J_117 : ∀ (v2 : Int32) (v3 : Int32) (s1 : Int32) (M : MM), q_X7_weeks_117 x1 (q_X7_weeks_28 x1  f_28) v2 v3 s1 M = some (r, M2) → gG p l e ({ frames := 5, cells := 0, slots := 0, locals := 116 }) s m args below meth c 5 (dC, dI) vwCl A0 s.heap 0 0 (MQ below ((qI (dC, dI) vwCl (wD a cI cZ M2) r) A0) args s 0 0 A0) (wD a cI cZ M) 117 [(0, .ref (a 0)), (1, .int x1), (2, .int v2), (3, .int v3)] [.int s1, .ref (a 0)] := by
        intro v2 v3 s1 M hq
        unfold q_X7_weeks_117 at hq
        obtain ⟨z20, Mz20, h21, hq⟩ := obd_some hq
        refine gc_Vi C (k_X7_does s1 M Mz20 z20 h21) wl_942 ok_X7_does rv_X7 rfl ⟨Nat.le_of_ble_eq_true rfl, Nat.le_of_ble_eq_true rfl⟩ ⟨Nat.le_of_ble_eq_true rfl, Nat.le_of_ble_eq_true rfl⟩ rfl (Nat.le_of_ble_eq_true rfl) dX7_weeks_117 ?_
        refine g_pop C dX7_weeks_120 rfl ?_
        refine g_iload_n C dX7_weeks_121 2 rfl rfl ?_
        refine g_aload_n C dX7_weeks_122 0 rfl rfl ?_
        refine g_aload_n C dX7_weeks_123 0 rfl rfl ?_
        refine rg_X7_trial C dX7_weeks_124 ?_
        obtain ⟨z22, Mz22, h23, hq⟩ := obd_some hq
        refine gc_Vi C (k_X7_rainOf 7 (Or.inr rfl) Mz20 Mz22 z22 h23) wl_807 ok_X7_rainOf rv_X7 rfl ⟨Nat.le_of_ble_eq_true rfl, Nat.le_of_ble_eq_true rfl⟩ ⟨Nat.le_of_ble_eq_true rfl, Nat.le_of_ble_eq_true rfl⟩ rfl (Nat.le_of_ble_eq_true rfl) dX7_weeks_127 ?_
        obtain ⟨z24, Mz24, h25, hq⟩ := obd_some hq
        refine gc_Si C (k_X7_many z22 Mz22 Mz24 z24 h25) wl_926 ok_X7_many ⟨Nat.le_of_ble_eq_true rfl, Nat.le_of_ble_eq_true rfl⟩ ⟨Nat.le_of_ble_eq_true rfl, Nat.le_of_ble_eq_true rfl⟩ rfl (Nat.le_of_ble_eq_true rfl) dX7_weeks_130 ?_
        refine g_iadd C dX7_weeks_133 ?_
        refine g_istore_n C (lv2 := [(2, _), (0, _), (1, _), (3, _)]) dX7_weeks_134 rfl (by decide) rfl ?_
        refine g_iinc C (v := (v3 + (1 : Int32))) (lv2 := [(3, _), (2, _), (0, _), (1, _)]) dX7_weeks_135 3 rfl rfl (by decide) rfl ?_
        refine g_goto C (tgt := 28) dX7_weeks_138 (by decide) ?_
        exact g_sub [2, 3, 1, 0] rfl (ih_28 (v2 + z24) (v3 + (1 : Int32)) Mz24 hq)
      intro v2 v3 M hq
      rw [q_X7_weeks_28] at hq
      refine g_iload_n C dX7_weeks_28 3 rfl rfl ?_
      refine g_iload_n C dX7_weeks_29 1 rfl rfl ?_
      refine g_icmp_ge C (tgt := 141) dX7_weeks_30 (by decide) (fun c30 => ?_) (fun c30 => ?_)
      · have hq := ip c30 hq
        refine g_iload_n C dX7_weeks_141 2 rfl rfl ?_
        exact g_iret C dX7_weeks_142 (som2 hq).1 (congrArg (wD a cI cZ) (som2 hq).2)
      · have hq := iq c30 hq
        refine g_aload_n C dX7_weeks_33 0 rfl rfl ?_
        refine g_aload_n C dX7_weeks_34 0 rfl rfl ?_
        refine rg_X7_seed C dX7_weeks_35 ?_
        refine g_ldc2 C wl_1005 dX7_weeks_38 ?_
        refine g_lmul C dX7_weeks_41 ?_
        refine g_ldc2 C wl_1006 dX7_weeks_42 ?_
        refine g_ladd C dX7_weeks_45 ?_
        refine rp_X7_seed C dX7_weeks_46 ?_
        refine g_aload_n C dX7_weeks_49 0 rfl rfl ?_
        refine rg_X7_seed C dX7_weeks_50 ?_
        refine g_bipush C dX7_weeks_53 (v := 33) (by decide) ?_
        refine g_lushr C dX7_weeks_55 rfl ?_
        refine g_ldc2 C wl_1007 dX7_weeks_56 ?_
        refine g_lrem C dX7_weeks_59 (by decide) ?_
        refine g_l2i C dX7_weeks_60 rfl ?_
        refine g_istore C (lv2 := [(4, _), (0, _), (1, _), (2, _), (3, _)]) dX7_weeks_61 (by decide) rfl ?_
        refine g_aload_n C dX7_weeks_63 1 rfl rfl ?_
        refine g_iload C dX7_weeks_64 0 rfl ?_
        refine g_iconst C dX7_weeks_66 (v := 5) (by decide) ?_
        refine g_icmp_ge C (tgt := 78) dX7_weeks_67 (by decide) (fun c31 => ?_) (fun c31 => ?_)
        · have hq := ip c31 hq
          refine g_iload C dX7_weeks_78 0 rfl ?_
          refine g_bipush C dX7_weeks_80 (v := 10) (by decide) ?_
          refine g_icmp_ge C (tgt := 94) dX7_weeks_82 (by decide) (fun c32 => ?_) (fun c32 => ?_)
          · have hq := ip c32 hq
            refine g_iload C dX7_weeks_94 0 rfl ?_
            refine g_bipush C dX7_weeks_96 (v := 15) (by decide) ?_
            refine g_icmp_ge C (tgt := 116) dX7_weeks_98 (by decide) (fun c33 => ?_) (fun c33 => ?_)
            · have hq := ip c33 hq
              refine g_iconst C dX7_weeks_116 (v := 0) (by decide) ?_
              exact g_sub [1, 2, 3, 4] rfl (J_117 v2 v3 (0 : Int32) (mL M ((M.2 * (6364136223846793005 : Int64)) + (1442695040888963407 : Int64))) hq)
            · have hq := iq c33 hq
              refine g_sipush C dX7_weeks_101 (v := 301) (by decide) ?_
              refine g_bipush C dX7_weeks_104 (v := 10) (by decide) ?_
              refine g_iload C dX7_weeks_106 0 rfl ?_
              refine g_bipush C dX7_weeks_108 (v := 10) (by decide) ?_
              refine g_isub C dX7_weeks_110 ?_
              refine g_imul C dX7_weeks_111 ?_
              refine g_iadd C dX7_weeks_112 ?_
              refine g_goto C (tgt := 117) dX7_weeks_113 (by decide) ?_
              exact g_sub [1, 2, 3, 4] rfl (J_117 v2 v3 ((301 : Int32) + ((10 : Int32) * ((((((mL M ((M.2 * (6364136223846793005 : Int64)) + (1442695040888963407 : Int64))).2.toUInt64 >>> ((33 : Int32).toInt64.toUInt64 &&& Int64.toUInt64 63)).toInt64) - (((mL M ((M.2 * (6364136223846793005 : Int64)) + (1442695040888963407 : Int64))).2.toUInt64 >>> ((33 : Int32).toInt64.toUInt64 &&& Int64.toUInt64 63)).toInt64) / (24 : Int64) * (24 : Int64)).toInt32) - (10 : Int32)))) (mL M ((M.2 * (6364136223846793005 : Int64)) + (1442695040888963407 : Int64))) hq)
          · have hq := iq c32 hq
            refine g_sipush C dX7_weeks_85 (v := 195) (by decide) ?_
            refine g_iload C dX7_weeks_88 0 rfl ?_
            refine g_iadd C dX7_weeks_90 ?_
            refine g_goto C (tgt := 117) dX7_weeks_91 (by decide) ?_
            exact g_sub [1, 2, 3, 4] rfl (J_117 v2 v3 ((195 : Int32) + (((((mL M ((M.2 * (6364136223846793005 : Int64)) + (1442695040888963407 : Int64))).2.toUInt64 >>> ((33 : Int32).toInt64.toUInt64 &&& Int64.toUInt64 63)).toInt64) - (((mL M ((M.2 * (6364136223846793005 : Int64)) + (1442695040888963407 : Int64))).2.toUInt64 >>> ((33 : Int32).toInt64.toUInt64 &&& Int64.toUInt64 63)).toInt64) / (24 : Int64) * (24 : Int64)).toInt32)) (mL M ((M.2 * (6364136223846793005 : Int64)) + (1442695040888963407 : Int64))) hq)
        · have hq := iq c31 hq
          refine g_bipush C dX7_weeks_70 (v := 100) (by decide) ?_
          refine g_iload C dX7_weeks_72 0 rfl ?_
          refine g_iadd C dX7_weeks_74 ?_
          refine g_goto C (tgt := 117) dX7_weeks_75 (by decide) ?_
          exact g_sub [1, 2, 3, 4] rfl (J_117 v2 v3 ((100 : Int32) + (((((mL M ((M.2 * (6364136223846793005 : Int64)) + (1442695040888963407 : Int64))).2.toUInt64 >>> ((33 : Int32).toInt64.toUInt64 &&& Int64.toUInt64 63)).toInt64) - (((mL M ((M.2 * (6364136223846793005 : Int64)) + (1442695040888963407 : Int64))).2.toUInt64 >>> ((33 : Int32).toInt64.toUInt64 &&& Int64.toUInt64 63)).toInt64) / (24 : Int64) * (24 : Int64)).toInt32)) (mL M ((M.2 * (6364136223846793005 : Int64)) + (1442695040888963407 : Int64))) hq)
  unfold q_X7_weeks at hq
  refine g_aload_n C dX7_weeks_0 0 rfl rfl ?_
  refine g_iconst C dX7_weeks_1 (v := 0) (by decide) ?_
  refine rp_X7_thrown C dX7_weeks_2 ?_
  refine g_iload_n C dX7_weeks_5 1 rfl rfl ?_
  refine g_i2l C dX7_weeks_6 rfl ?_
  refine g_lconst C dX7_weeks_7 (v := 1) (by decide) ?_
  refine g_ldc2 C wl_1004 dX7_weeks_8 ?_
  refine gc_Si C (k_X7_in (x1.toInt64) (1 : Int64) (30 : Int64) (mU M 0 0 (0 : Int32))) wl_768 ok_X7_in ⟨Nat.le_of_ble_eq_true rfl, Nat.le_of_ble_eq_true rfl⟩ ⟨Nat.le_of_ble_eq_true rfl, Nat.le_of_ble_eq_true rfl⟩ rfl (Nat.le_of_ble_eq_true rfl) dX7_weeks_11 ?_
  refine g_if_ne C (tgt := 20) dX7_weeks_14 (by decide) (fun c37 => ?_) (fun c37 => ?_)
  · have hq := iq c37 hq
    refine g_aload_n C dX7_weeks_20 0 rfl rfl ?_
    obtain ⟨z38, Mz38, h39, hq⟩ := obd_some hq
    refine gc_Vv C (k_X7_begin  (mU M 0 0 (0 : Int32)) Mz38 z38 h39) wl_898 ok_X7_begin rv_X7 rfl ⟨Nat.le_of_ble_eq_true rfl, Nat.le_of_ble_eq_true rfl⟩ ⟨Nat.le_of_ble_eq_true rfl, Nat.le_of_ble_eq_true rfl⟩ rfl (Nat.le_of_ble_eq_true rfl) dX7_weeks_21 ?_
    refine g_iconst C dX7_weeks_24 (v := 0) (by decide) ?_
    refine g_istore_n C (lv2 := [(2, _), (0, _), (1, _)]) dX7_weeks_25 rfl (by decide) rfl ?_
    refine g_iconst C dX7_weeks_26 (v := 0) (by decide) ?_
    refine g_istore_n C (lv2 := [(3, _), (2, _), (0, _), (1, _)]) dX7_weeks_27 rfl (by decide) rfl ?_
    exact g_sub [2, 3, 1, 0] rfl (L_28 FU (0 : Int32) (0 : Int32) Mz38 hq)
  · have hq := ip c37 hq
    refine g_bipush C dX7_weeks_17 (v := -2) (by decide) ?_
    exact g_iret C dX7_weeks_19 (som2 hq).1 (congrArg (wD a cI cZ) (som2 hq).2)
set_option maxHeartbeats 4000000 in
set_option maxRecDepth 100000 in
theorem k_X7_keep {l : Launch} {dC : Nat → ClassId} {dI : Nat → Nat → Nat} {a : Nat → Nat} {cI cZ cS : ClassId} (x1 : Int32) (M M2 : MM) (r : Int32) (hq : q_X7_keep x1 M = some (r, M2)) : KQ l (dC, dI) vwCl (tyW cI cZ cS) yX7_keep cX7_keep 3 (some .int) 1 25 [.ref (a 0), .int x1] (wD a cI cZ M) (qI (dC, dI) vwCl (wD a cI cZ M2) r) := by
  refine KQ.of (by decide) (Nat.le_of_ble_eq_true rfl) rfl ?_
  intro p e s m args below meth c A0 C
  have L_26 : ∀ (f : Nat) (v2 : Int32) (M : MM), q_X7_keep_26 x1  f v2 M = some (r, M2) → gG p l e ({ frames := 1, cells := 0, slots := 0, locals := 25 }) s m args below meth c 3 (dC, dI) vwCl A0 s.heap 0 0 (MQ below ((qI (dC, dI) vwCl (wD a cI cZ M2) r) A0) args s 0 0 A0) (wD a cI cZ M) 26 [(0, .ref (a 0)), (1, .int x1), (2, .int v2)] [] := by
    intro f
    induction f with
    | zero => intro v2 M hq; cases hq
    | succ f_26 ih_26 =>
      intro v2 M hq
      rw [q_X7_keep_26] at hq
      refine g_iload_n C dX7_keep_26 2 rfl rfl ?_
      refine g_bipush C dX7_keep_27 (v := 24) (by decide) ?_
      refine g_icmp_ge C (tgt := 55) dX7_keep_29 (by decide) (fun c11 => ?_) (fun c11 => ?_)
      · have hq := ip c11 hq
        refine g_aload_n C dX7_keep_55 0 rfl rfl ?_
        refine rg_X7_page C dX7_keep_56 ?_
        refine g_bipush C dX7_keep_59 (v := 23) (by decide) ?_
        obtain ⟨h12, hq⟩ := ogd_some hq
        refine gb_ld C (show arD 6 24 from ⟨by decide, by decide, by decide, by decide⟩) h12 dX7_keep_61 ?_
        exact g_iret C dX7_keep_62 (som2 hq).1 (congrArg (wD a cI cZ) (som2 hq).2)
      · have hq := iq c11 hq
        refine g_aload_n C dX7_keep_32 0 rfl rfl ?_
        refine rg_X7_kept C dX7_keep_33 ?_
        refine g_bipush C dX7_keep_36 (v := 24) (by decide) ?_
        refine g_iload_n C dX7_keep_38 1 rfl rfl ?_
        refine g_imul C dX7_keep_39 ?_
        refine g_iload_n C dX7_keep_40 2 rfl rfl ?_
        refine g_iadd C dX7_keep_41 ?_
        refine g_aload_n C dX7_keep_42 0 rfl rfl ?_
        refine rg_X7_page C dX7_keep_43 ?_
        refine g_iload_n C dX7_keep_46 2 rfl rfl ?_
        obtain ⟨h13, hq⟩ := ogd_some hq
        refine gb_ld C (show arD 6 24 from ⟨by decide, by decide, by decide, by decide⟩) h13 dX7_keep_47 ?_
        obtain ⟨h14, hq⟩ := ogd_some hq
        refine gb_st C (show arD 9 48 from ⟨by decide, by decide, by decide, by decide⟩) h14 dX7_keep_48 ?_
        refine g_iinc C (v := (v2 + (1 : Int32))) (lv2 := [(2, _), (0, _), (1, _)]) dX7_keep_49 2 rfl rfl (by decide) rfl ?_
        refine g_goto C (tgt := 26) dX7_keep_52 (by decide) ?_
        exact g_sub [1, 2, 0] rfl (ih_26 (v2 + (1 : Int32)) (mU M 9 (((24 : Int32) * x1) + v2).toNatClampNeg (M.1 6 v2.toNatClampNeg)) hq)
  unfold q_X7_keep at hq
  refine g_aload_n C dX7_keep_0 0 rfl rfl ?_
  refine g_iconst C dX7_keep_1 (v := 0) (by decide) ?_
  refine rp_X7_thrown C dX7_keep_2 ?_
  refine g_iload_n C dX7_keep_5 1 rfl rfl ?_
  refine g_i2l C dX7_keep_6 rfl ?_
  refine g_lconst C dX7_keep_7 (v := 0) (by decide) ?_
  refine g_lconst C dX7_keep_8 (v := 1) (by decide) ?_
  refine gc_Si C (k_X7_in (x1.toInt64) (0 : Int64) (1 : Int64) (mU M 0 0 (0 : Int32))) wl_768 ok_X7_in ⟨Nat.le_of_ble_eq_true rfl, Nat.le_of_ble_eq_true rfl⟩ ⟨Nat.le_of_ble_eq_true rfl, Nat.le_of_ble_eq_true rfl⟩ rfl (Nat.le_of_ble_eq_true rfl) dX7_keep_9 ?_
  refine g_if_ne C (tgt := 17) dX7_keep_12 (by decide) (fun c17 => ?_) (fun c17 => ?_)
  · have hq := iq c17 hq
    refine g_aload_n C dX7_keep_17 0 rfl rfl ?_
    refine rg_X7_isKept C dX7_keep_18 ?_
    refine g_iload_n C dX7_keep_21 1 rfl rfl ?_
    refine g_iconst C dX7_keep_22 (v := 1) (by decide) ?_
    obtain ⟨h18, hq⟩ := ogd_some hq
    refine gz_st C h18 dX7_keep_23 ?_
    refine g_iconst C dX7_keep_24 (v := 0) (by decide) ?_
    refine g_istore_n C (lv2 := [(2, _), (0, _), (1, _)]) dX7_keep_25 rfl (by decide) rfl ?_
    exact g_sub [1, 2, 0] rfl (L_26 FU (0 : Int32) (mU (mU M 0 0 (0 : Int32)) 10 x1.toNatClampNeg (vp_nar .boolean (1 : Int32))) hq)
  · have hq := ip c17 hq
    refine g_iconst C dX7_keep_15 (v := -1) (by decide) ?_
    exact g_iret C dX7_keep_16 (som2 hq).1 (congrArg (wD a cI cZ) (som2 hq).2)
set_option maxHeartbeats 4000000 in
set_option maxRecDepth 100000 in
theorem k_X7_again {l : Launch} {dC : Nat → ClassId} {dI : Nat → Nat → Nat} {a : Nat → Nat} {cI cZ cS : ClassId} (x1 : Int32) (M M2 : MM) (r : Int32) (hq : q_X7_again x1 M = some (r, M2)) : KQ l (dC, dI) vwCl (tyW cI cZ cS) yX7_again cX7_again 3 (some .int) 1 25 [.ref (a 0), .int x1] (wD a cI cZ M) (qI (dC, dI) vwCl (wD a cI cZ M2) r) := by
  refine KQ.of (by decide) (Nat.le_of_ble_eq_true rfl) rfl ?_
  intro p e s m args below meth c A0 C
  have L_31 : ∀ (f : Nat) (v2 : Int32) (M : MM), q_X7_again_31 x1  f v2 M = some (r, M2) → gG p l e ({ frames := 1, cells := 0, slots := 0, locals := 25 }) s m args below meth c 3 (dC, dI) vwCl A0 s.heap 0 0 (MQ below ((qI (dC, dI) vwCl (wD a cI cZ M2) r) A0) args s 0 0 A0) (wD a cI cZ M) 31 [(0, .ref (a 0)), (1, .int x1), (2, .int v2)] [] := by
    intro f
    induction f with
    | zero => intro v2 M hq; cases hq
    | succ f_31 ih_31 =>
      intro v2 M hq
      rw [q_X7_again_31] at hq
      refine g_iload_n C dX7_again_31 2 rfl rfl ?_
      refine g_bipush C dX7_again_32 (v := 24) (by decide) ?_
      refine g_icmp_ge C (tgt := 60) dX7_again_34 (by decide) (fun c12 => ?_) (fun c12 => ?_)
      · have hq := ip c12 hq
        refine g_aload_n C dX7_again_60 0 rfl rfl ?_
        refine g_iconst C dX7_again_61 (v := 0) (by decide) ?_
        refine rp_X7_acts C dX7_again_62 ?_
        refine g_aload_n C dX7_again_65 0 rfl rfl ?_
        refine rg_X7_page C dX7_again_66 ?_
        refine g_bipush C dX7_again_69 (v := 23) (by decide) ?_
        obtain ⟨h13, hq⟩ := ogd_some hq
        refine gb_ld C (show arD 6 24 from ⟨by decide, by decide, by decide, by decide⟩) h13 dX7_again_71 ?_
        exact g_iret C dX7_again_72 (som2 hq).1 (congrArg (wD a cI cZ) (som2 hq).2)
      · have hq := iq c12 hq
        refine g_aload_n C dX7_again_37 0 rfl rfl ?_
        refine rg_X7_page C dX7_again_38 ?_
        refine g_iload_n C dX7_again_41 2 rfl rfl ?_
        refine g_aload_n C dX7_again_42 0 rfl rfl ?_
        refine rg_X7_kept C dX7_again_43 ?_
        refine g_bipush C dX7_again_46 (v := 24) (by decide) ?_
        refine g_iload_n C dX7_again_48 1 rfl rfl ?_
        refine g_imul C dX7_again_49 ?_
        refine g_iload_n C dX7_again_50 2 rfl rfl ?_
        refine g_iadd C dX7_again_51 ?_
        obtain ⟨h14, hq⟩ := ogd_some hq
        refine gb_ld C (show arD 9 48 from ⟨by decide, by decide, by decide, by decide⟩) h14 dX7_again_52 ?_
        obtain ⟨h15, hq⟩ := ogd_some hq
        refine gb_st C (show arD 6 24 from ⟨by decide, by decide, by decide, by decide⟩) h15 dX7_again_53 ?_
        refine g_iinc C (v := (v2 + (1 : Int32))) (lv2 := [(2, _), (0, _), (1, _)]) dX7_again_54 2 rfl rfl (by decide) rfl ?_
        refine g_goto C (tgt := 31) dX7_again_57 (by decide) ?_
        exact g_sub [1, 2, 0] rfl (ih_31 (v2 + (1 : Int32)) (mU M 6 v2.toNatClampNeg (M.1 9 (((24 : Int32) * x1) + v2).toNatClampNeg)) hq)
  unfold q_X7_again at hq
  refine g_aload_n C dX7_again_0 0 rfl rfl ?_
  refine g_iconst C dX7_again_1 (v := 0) (by decide) ?_
  refine rp_X7_thrown C dX7_again_2 ?_
  refine g_iload_n C dX7_again_5 1 rfl rfl ?_
  refine g_i2l C dX7_again_6 rfl ?_
  refine g_lconst C dX7_again_7 (v := 0) (by decide) ?_
  refine g_lconst C dX7_again_8 (v := 1) (by decide) ?_
  refine gc_Si C (k_X7_in (x1.toInt64) (0 : Int64) (1 : Int64) (mU M 0 0 (0 : Int32))) wl_768 ok_X7_in ⟨Nat.le_of_ble_eq_true rfl, Nat.le_of_ble_eq_true rfl⟩ ⟨Nat.le_of_ble_eq_true rfl, Nat.le_of_ble_eq_true rfl⟩ rfl (Nat.le_of_ble_eq_true rfl) dX7_again_9 ?_
  refine g_if_ne C (tgt := 17) dX7_again_12 (by decide) (fun c19 => ?_) (fun c19 => ?_)
  · have hq := iq c19 hq
    refine g_aload_n C dX7_again_17 0 rfl rfl ?_
    refine rg_X7_isKept C dX7_again_18 ?_
    refine g_iload_n C dX7_again_21 1 rfl rfl ?_
    obtain ⟨h20, hq⟩ := ogd_some hq
    refine gz_ld C h20 dX7_again_22 ?_
    refine g_if_ne C (tgt := 29) dX7_again_23 (by decide) (fun c21 => ?_) (fun c21 => ?_)
    · have hq := iq c21 hq
      refine g_iconst C dX7_again_29 (v := 0) (by decide) ?_
      refine g_istore_n C (lv2 := [(2, _), (0, _), (1, _)]) dX7_again_30 rfl (by decide) rfl ?_
      exact g_sub [1, 2, 0] rfl (L_31 FU (0 : Int32) (mU M 0 0 (0 : Int32)) hq)
    · have hq := ip c21 hq
      refine g_bipush C dX7_again_26 (v := -3) (by decide) ?_
      exact g_iret C dX7_again_28 (som2 hq).1 (congrArg (wD a cI cZ) (som2 hq).2)
  · have hq := ip c19 hq
    refine g_iconst C dX7_again_15 (v := -1) (by decide) ?_
    exact g_iret C dX7_again_16 (som2 hq).1 (congrArg (wD a cI cZ) (som2 hq).2)
