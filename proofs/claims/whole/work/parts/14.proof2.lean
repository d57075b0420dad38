set_option maxHeartbeats 4000000 in
set_option maxRecDepth 100000 in
theorem k_X6_gain {l : Launch} {dC : Nat → ClassId} {dI : Nat → Nat → Nat} {a : Nat → Nat} {cI cZ cS : ClassId} (x1 : Int32) (x2 : Int32) (x3 : Int32) (x4 : Int32) (M M2 : MM) (r : Int32) (hq : q_X6_gain x1 x2 x3 x4 M = some (r, M2)) : KQ l (dC, dI) vwCl (tyW cI cZ cS) yX6_gain cX6_gain 8 (some .int) 4 87 [.ref (a 0), .int x1, .int x2, .int x3, .int x4] (wC a cI cS M) (qI (dC, dI) vwCl (wC a cI cS M2) r) := by
  refine KQ.of (by decide) (Nat.le_of_ble_eq_true rfl) rfl ?_
  intro p e s m args below meth c A0 C
  have J_115 : ∀ (s0 : Int32) (s1 : Int32) (M : MM), q_X6_gain_115 x1 x2 x3 x4  s0 s1 M = some (r, M2) → gG p l e ({ frames := 4, cells := 0, slots := 0, locals := 87 }) s m args below meth c 8 (dC, dI) vwCl A0 s.heap 0 0 (MQ below ((qI (dC, dI) vwCl (wC a cI cS M2) r) A0) args s 0 0 A0) (wC a cI cS M) 115 [] [.int s1, .int s0] := by
    intro s0 s1 M hq
    unfold q_X6_gain_115 at hq
    refine g_isub C dX6_gain_115 ?_
    exact g_iret C dX6_gain_116 (som2 hq).1 (congrArg (wC a cI cS) (som2 hq).2)
  have J_104 : ∀ (v6 : Int32) (s0 : Int32) (s1 : Int32) (M : MM), q_X6_gain_104 x1 x2 x3 x4  v6 s0 s1 M = some (r, M2) → gG p l e ({ frames := 4, cells := 0, slots := 0, locals := 87 }) s m args below meth c 8 (dC, dI) vwCl A0 s.heap 0 0 (MQ below ((qI (dC, dI) vwCl (wC a cI cS M2) r) A0) args s 0 0 A0) (wC a cI cS M) 104 [(6, .int v6)] [.int s1, .int s0] := by
    intro v6 s0 s1 M hq
    unfold q_X6_gain_104 at hq
    refine g_isub C dX6_gain_104 ?_
    refine g_iload C dX6_gain_105 0 rfl ?_
    refine g_if_eq C (tgt := 114) dX6_gain_107 (by decide) (fun c14 => ?_) (fun c14 => ?_)
    · have hq := ip c14 hq
      refine g_iconst C dX6_gain_114 (v := 0) (by decide) ?_
      exact g_sub [] rfl (J_115 (s0 - s1) (0 : Int32) M hq)
    · have hq := iq c14 hq
      refine g_iconst C dX6_gain_110 (v := 3) (by decide) ?_
      refine g_goto C (tgt := 115) dX6_gain_111 (by decide) ?_
      exact g_sub [] rfl (J_115 (s0 - s1) (3 : Int32) M hq)
  have J_95 : ∀ (v6 : Int32) (s0 : Int32) (M : MM), q_X6_gain_95 x1 x2 x3 x4  v6 s0 M = some (r, M2) → gG p l e ({ frames := 4, cells := 0, slots := 0, locals := 87 }) s m args below meth c 8 (dC, dI) vwCl A0 s.heap 0 0 (MQ below ((qI (dC, dI) vwCl (wC a cI cS M2) r) A0) args s 0 0 A0) (wC a cI cS M) 95 [(2, .int x2), (6, .int v6)] [.int s0] := by
    intro v6 s0 M hq
    unfold q_X6_gain_95 at hq
    refine g_iload_n C dX6_gain_95 0 rfl rfl ?_
    refine g_if_eq C (tgt := 103) dX6_gain_96 (by decide) (fun c16 => ?_) (fun c16 => ?_)
    · have hq := ip c16 hq
      refine g_iconst C dX6_gain_103 (v := 0) (by decide) ?_
      exact g_sub [1] rfl (J_104 v6 s0 (0 : Int32) M hq)
    · have hq := iq c16 hq
      refine g_iconst C dX6_gain_99 (v := 1) (by decide) ?_
      refine g_goto C (tgt := 104) dX6_gain_100 (by decide) ?_
      exact g_sub [1] rfl (J_104 v6 s0 (1 : Int32) M hq)
  have J_94 : ∀ (v6 : Int32) (M : MM), q_X6_gain_94 x1 x2 x3 x4  v6 M = some (r, M2) → gG p l e ({ frames := 4, cells := 0, slots := 0, locals := 87 }) s m args below meth c 8 (dC, dI) vwCl A0 s.heap 0 0 (MQ below ((qI (dC, dI) vwCl (wC a cI cS M2) r) A0) args s 0 0 A0) (wC a cI cS M) 94 [(2, .int x2), (6, .int v6)] [] := by
    intro v6 M hq
    unfold q_X6_gain_94 at hq
    refine g_iconst C dX6_gain_94 (v := 0) (by decide) ?_
    exact g_sub [0, 1] rfl (J_95 v6 (0 : Int32) M hq)
  have J_38 : ∀ (s1 : Int32) (s2 : Int32) (M : MM), q_X6_gain_38 x1 x2 x3 x4  s1 s2 M = some (r, M2) → gG p l e ({ frames := 4, cells := 0, slots := 0, locals := 87 }) s m args below meth c 8 (dC, dI) vwCl A0 s.heap 0 0 (MQ below ((qI (dC, dI) vwCl (wC a cI cS M2) r) A0) args s 0 0 A0) (wC a cI cS M) 38 [(0, .ref (a 0)), (1, .int x1), (2, .int x2)] [.int s2, .int s1, .ref (a (16 + 5 * 1))] := by
    intro s1 s2 M hq
    unfold q_X6_gain_38 at hq
    refine g_ior C dX6_gain_38 ?_
    obtain ⟨z25, Mz25, h26, hq⟩ := obd_some hq
    refine gc_Vv C (k_X3_raiseAll 1 (by decide) (s1 ||| s2) M Mz25 z25 h26) wl_504 ok_X3_raiseAll (rv_X3 1 (by decide)) rfl ⟨Nat.le_of_ble_eq_true rfl, Nat.le_of_ble_eq_true rfl⟩ ⟨Nat.le_of_ble_eq_true rfl, Nat.le_of_ble_eq_true rfl⟩ rfl (Nat.le_of_ble_eq_true rfl) dX6_gain_39 ?_
    refine g_aload_n C dX6_gain_42 0 rfl rfl ?_
    refine rg_X6_trial C dX6_gain_43 ?_
    refine g_iload_n C dX6_gain_46 1 rfl rfl ?_
    refine gc_Vi C (k_X3_placeOf 1 (by decide) x1 Mz25) wl_340 ok_X3_placeOf (rv_X3 1 (by decide)) rfl ⟨Nat.le_of_ble_eq_true rfl, Nat.le_of_ble_eq_true rfl⟩ ⟨Nat.le_of_ble_eq_true rfl, Nat.le_of_ble_eq_true rfl⟩ rfl (Nat.le_of_ble_eq_true rfl) dX6_gain_47 ?_
    refine g_istore C (lv2 := [(5, _), (0, _), (1, _), (2, _)]) dX6_gain_50 (by decide) rfl ?_
    refine g_aload_n C dX6_gain_52 1 rfl rfl ?_
    refine rg_X6_trial C dX6_gain_53 ?_
    obtain ⟨z27, Mz27, h28, hq⟩ := obd_some hq
    refine gc_Vi C (k_X3_hailBits 1 (by decide) Mz25 Mz27 z27 h28) wl_310 ok_X3_hailBits (rv_X3 1 (by decide)) rfl ⟨Nat.le_of_ble_eq_true rfl, Nat.le_of_ble_eq_true rfl⟩ ⟨Nat.le_of_ble_eq_true rfl, Nat.le_of_ble_eq_true rfl⟩ rfl (Nat.le_of_ble_eq_true rfl) dX6_gain_56 ?_
    refine g_iload C dX6_gain_59 0 rfl ?_
    refine gc_Si C (k_X6_has z27 (t_X3_placeOf 1 x1 Mz25) Mz27) wl_495 ok_X6_has ⟨Nat.le_of_ble_eq_true rfl, Nat.le_of_ble_eq_true rfl⟩ ⟨Nat.le_of_ble_eq_true rfl, Nat.le_of_ble_eq_true rfl⟩ rfl (Nat.le_of_ble_eq_true rfl) dX6_gain_61 ?_
    refine g_istore C (lv2 := [(6, _), (5, _), (0, _), (1, _), (2, _)]) dX6_gain_64 (by decide) rfl ?_
    refine g_aload_n C dX6_gain_66 2 rfl rfl ?_
    refine rg_X6_trial C dX6_gain_67 ?_
    obtain ⟨z29, Mz29, h30, hq⟩ := obd_some hq
    refine gc_Vi C (k_X3_rainBits 1 (by decide) Mz27 Mz29 z29 h30) wl_299 ok_X3_rainBits (rv_X3 1 (by decide)) rfl ⟨Nat.le_of_ble_eq_true rfl, Nat.le_of_ble_eq_true rfl⟩ ⟨Nat.le_of_ble_eq_true rfl, Nat.le_of_ble_eq_true rfl⟩ rfl (Nat.le_of_ble_eq_true rfl) dX6_gain_70 ?_
    refine g_iload C dX6_gain_73 1 rfl ?_
    refine gc_Si C (k_X6_has z29 (t_X3_placeOf 1 x1 Mz25) Mz29) wl_495 ok_X6_has ⟨Nat.le_of_ble_eq_true rfl, Nat.le_of_ble_eq_true rfl⟩ ⟨Nat.le_of_ble_eq_true rfl, Nat.le_of_ble_eq_true rfl⟩ rfl (Nat.le_of_ble_eq_true rfl) dX6_gain_75 ?_
    refine g_istore C (lv2 := [(7, _), (6, _), (5, _), (0, _), (1, _), (2, _)]) dX6_gain_78 (by decide) rfl ?_
    refine g_iload C dX6_gain_80 0 rfl ?_
    refine g_if_eq C (tgt := 94) dX6_gain_82 (by decide) (fun c31 => ?_) (fun c31 => ?_)
    · have hq := ip c31 hq
      exact g_sub [5, 1] rfl (J_94 (b2i (t_X6_has z27 (t_X3_placeOf 1 x1 Mz25))) Mz29 hq)
    · have hq := iq c31 hq
      refine g_iload C dX6_gain_85 1 rfl ?_
      refine g_if_ne C (tgt := 94) dX6_gain_87 (by decide) (fun c32 => ?_) (fun c32 => ?_)
      · have hq := iq c32 hq
        exact g_sub [5, 1] rfl (J_94 (b2i (t_X6_has z27 (t_X3_placeOf 1 x1 Mz25))) Mz29 hq)
      · have hq := ip c32 hq
        refine g_iconst C dX6_gain_90 (v := 2) (by decide) ?_
        refine g_goto C (tgt := 95) dX6_gain_91 (by decide) ?_
        exact g_sub [5, 1] rfl (J_95 (b2i (t_X6_has z27 (t_X3_placeOf 1 x1 Mz25))) (2 : Int32) Mz29 hq)
  have J_26 : ∀ (s1 : Int32) (M : MM), q_X6_gain_26 x1 x2 x3 x4  s1 M = some (r, M2) → gG p l e ({ frames := 4, cells := 0, slots := 0, locals := 87 }) s m args below meth c 8 (dC, dI) vwCl A0 s.heap 0 0 (MQ below ((qI (dC, dI) vwCl (wC a cI cS M2) r) A0) args s 0 0 A0) (wC a cI cS M) 26 [(0, .ref (a 0)), (1, .int x1), (2, .int x2), (3, .int x3), (4, .int x4)] [.int s1, .ref (a (16 + 5 * 1))] := by
    intro s1 M hq
    unfold q_X6_gain_26 at hq
    refine g_iload C dX6_gain_26 4 rfl ?_
    refine g_if_eq C (tgt := 37) dX6_gain_28 (by decide) (fun c34 => ?_) (fun c34 => ?_)
    · have hq := ip c34 hq
      refine g_iconst C dX6_gain_37 (v := 0) (by decide) ?_
      exact g_sub [0, 1, 2] rfl (J_38 s1 (0 : Int32) M hq)
    · have hq := iq c34 hq
      refine g_iconst C dX6_gain_31 (v := 1) (by decide) ?_
      refine g_iload_n C dX6_gain_32 3 rfl rfl ?_
      refine g_ishl C dX6_gain_33 ?_
      refine g_goto C (tgt := 38) dX6_gain_34 (by decide) ?_
      exact g_sub [0, 1, 2] rfl (J_38 s1 ((1 : Int32) <<< (x3 &&& 31)) M hq)
  unfold q_X6_gain at hq
  refine g_aload_n C dX6_gain_0 0 rfl rfl ?_
  refine rg_X6_trial C dX6_gain_1 ?_
  refine g_aload_n C dX6_gain_4 0 rfl rfl ?_
  refine rg_X6_now C dX6_gain_5 ?_
  refine gc_Vv C (k_X3_copy 1 (by decide) 0 (by decide) M) wl_478 ok_X3_copy (rv_X3 1 (by decide)) rfl ⟨Nat.le_of_ble_eq_true rfl, Nat.le_of_ble_eq_true rfl⟩ ⟨Nat.le_of_ble_eq_true rfl, Nat.le_of_ble_eq_true rfl⟩ rfl (Nat.le_of_ble_eq_true rfl) dX6_gain_8 ?_
  refine g_aload_n C dX6_gain_11 0 rfl rfl ?_
  refine rg_X6_trial C dX6_gain_12 ?_
  refine g_iload_n C dX6_gain_15 2 rfl rfl ?_
  refine g_if_eq C (tgt := 25) dX6_gain_16 (by decide) (fun c36 => ?_) (fun c36 => ?_)
  · have hq := ip c36 hq
    refine g_iconst C dX6_gain_25 (v := 0) (by decide) ?_
    exact g_sub [0, 1, 2, 3, 4] rfl (J_26 (0 : Int32) (mR M (9 + 1) (M.1 (9 + 0))) hq)
  · have hq := iq c36 hq
    refine g_iconst C dX6_gain_19 (v := 1) (by decide) ?_
    refine g_iload_n C dX6_gain_20 1 rfl rfl ?_
    refine g_ishl C dX6_gain_21 ?_
    refine g_goto C (tgt := 26) dX6_gain_22 (by decide) ?_
    exact g_sub [0, 1, 2, 3, 4] rfl (J_26 ((1 : Int32) <<< (x1 &&& 31)) (mR M (9 + 1) (M.1 (9 + 0))) hq)
set_option maxHeartbeats 4000000 in
set_option maxRecDepth 100000 in
theorem k_X6_isContent {l : Launch} {dC : Nat → ClassId} {dI : Nat → Nat → Nat} {a : Nat → Nat} {cI cZ cS : ClassId} (x1 : Int32) (x2 : Int32) (x3 : Int32) (x4 : Int32) (M M2 : MM) (r : Bool) (hq : q_X6_isContent x1 x2 x3 x4 M = some (r, M2)) : KQ l (dC, dI) vwCl (tyW cI cZ cS) yX6_isContent cX6_isContent 5 (some .boolean) 5 114 [.ref (a 0), .int x1, .int x2, .int x3, .int x4] (wC a cI cS M) (qI (dC, dI) vwCl (wC a cI cS M2) (b2i r)) := by
  refine KQ.of (by decide) (Nat.le_of_ble_eq_true rfl) rfl ?_
  intro p e s m args below meth c A0 C
  have J_20 : ∀ (s0 : Int32) (s2 : Int32) (s3 : Int32) (M : MM), q_X6_isContent_20 x1 x2 x3 x4  s0 s2 s3 M = some (r, M2) → gG p l e ({ frames := 5, cells := 0, slots := 0, locals := 114 }) s m args below meth c 5 (dC, dI) vwCl A0 s.heap 0 0 (MQ below ((qI (dC, dI) vwCl (wC a cI cS M2) (b2i r)) A0) args s 0 0 A0) (wC a cI cS M) 20 [(3, .int x3), (4, .int x4)] [.int s3, .int s2, .ref (a 0), .int s0] := by
    intro s0 s2 s3 M hq
    unfold q_X6_isContent_20 at hq
    refine g_iload_n C dX6_isContent_20 0 rfl rfl ?_
    refine g_iload C dX6_isContent_21 1 rfl ?_
    obtain ⟨z10, Mz10, h11, hq⟩ := obd_some hq
    refine gc_Vi C (k_X6_gain s2 s3 x3 x4 M Mz10 z10 h11) wl_614 ok_X6_gain rv_X6 rfl ⟨Nat.le_of_ble_eq_true rfl, Nat.le_of_ble_eq_true rfl⟩ ⟨Nat.le_of_ble_eq_true rfl, Nat.le_of_ble_eq_true rfl⟩ rfl (Nat.le_of_ble_eq_true rfl) dX6_isContent_23 ?_
    refine g_icmp_lt C (tgt := 33) dX6_isContent_26 (by decide) (fun c12 => ?_) (fun c12 => ?_)
    · have hq := ip c12 hq
      refine g_iconst C dX6_isContent_33 (v := 0) (by decide) ?_
      exact g_zret C dX6_isContent_34 (Or.inl rfl) (congrArg b2i (som2 hq).1) (congrArg (wC a cI cS) (som2 hq).2)
    · have hq := iq c12 hq
      refine g_iconst C dX6_isContent_29 (v := 1) (by decide) ?_
      refine g_goto C (tgt := 34) dX6_isContent_30 (by decide) ?_
      exact g_zret C dX6_isContent_34 (Or.inr rfl) (congrArg b2i (som2 hq).1) (congrArg (wC a cI cS) (som2 hq).2)
  unfold q_X6_isContent at hq
  refine g_aload_n C dX6_isContent_0 0 rfl rfl ?_
  refine g_iload_n C dX6_isContent_1 1 rfl rfl ?_
  refine g_iload_n C dX6_isContent_2 2 rfl rfl ?_
  refine g_iload_n C dX6_isContent_3 3 rfl rfl ?_
  refine g_iload C dX6_isContent_4 4 rfl ?_
  obtain ⟨z16, Mz16, h17, hq⟩ := obd_some hq
  refine gc_Vi C (k_X6_gain x1 x2 x3 x4 M Mz16 z16 h17) wl_614 ok_X6_gain rv_X6 rfl ⟨Nat.le_of_ble_eq_true rfl, Nat.le_of_ble_eq_true rfl⟩ ⟨Nat.le_of_ble_eq_true rfl, Nat.le_of_ble_eq_true rfl⟩ rfl (Nat.le_of_ble_eq_true rfl) dX6_isContent_6 ?_
  refine g_aload_n C dX6_isContent_9 0 rfl rfl ?_
  refine g_iload_n C dX6_isContent_10 1 rfl rfl ?_
  refine g_iload_n C dX6_isContent_11 2 rfl rfl ?_
  refine g_if_ne C (tgt := 19) dX6_isContent_12 (by decide) (fun c18 => ?_) (fun c18 => ?_)
  · have hq := iq c18 hq
    refine g_iconst C dX6_isContent_19 (v := 0) (by decide) ?_
    exact g_sub [3, 4] rfl (J_20 z16 x1 (0 : Int32) Mz16 hq)
  · have hq := ip c18 hq
    refine g_iconst C dX6_isContent_15 (v := 1) (by decide) ?_
    refine g_goto C (tgt := 20) dX6_isContent_16 (by decide) ?_
    exact g_sub [3, 4] rfl (J_20 z16 x1 (1 : Int32) Mz16 hq)
set_option maxHeartbeats 4000000 in
set_option maxRecDepth 100000 in
theorem k_X6_rests {l : Launch} {dC : Nat → ClassId} {dI : Nat → Nat → Nat} {a : Nat → Nat} {cI cZ cS : ClassId} (x1 : Int32) (x2 : Int32) (x3 : Int32) (M M2 : MM) (r : Int32) (hq : q_X6_rests x1 x2 x3 M = some (r, M2)) : KQ l (dC, dI) vwCl (tyW cI cZ cS) yX6_rests cX6_rests 9 (some .int) 6 138 [.ref (a 0), .int x1, .int x2, .int x3] (wC a cI cS M) (qI (dC, dI) vwCl (wC a cI cS M2) r) := by
  refine KQ.of (by decide) (Nat.le_of_ble_eq_true rfl) rfl ?_
  intro p e s m args below meth c A0 C
  have L_74 : ∀ (f : Nat) (v4 : Int32) (v5 : Int32) (v6 : Int32) (M : MM), q_X6_rests_74 x1 x2 x3  f v4 v5 v6 M = some (r, M2) → gG p l e ({ frames := 6, cells := 0, slots := 0, locals := 138 }) s m args below meth c 9 (dC, dI) vwCl A0 s.heap 0 0 (MQ below ((qI (dC, dI) vwCl (wC a cI cS M2) r) A0) args s 0 0 A0) (wC a cI cS M) 74 [(0, .ref (a 0)), (1, .int x1), (2, .int x2), (3, .int x3), (4, .int v4), (5, .int v5), (6, .int v6)] [] := by
    intro f
    induction f with
    | zero => intro v4 v5 v6 M hq; cases hq
    | succ f_74 ih_74 =>
      have J_161 : ∀ (v4 : Int32) (v5 : Int32) (v6 : Int32) (M : MM), q_X6_rests_161 x1 x2 x3 (q_X6_rests_74 x1 x2 x3  f_74) v4 v5 v6 M = some (r, M2) → gG p l e ({ frames := 6, cells := 0, slots := 0, locals := 138 }) s m args below meth c 9 (dC, dI) vwCl A0 s.heap 0 0 (MQ below ((qI (dC, dI) vwCl (wC a cI cS M2) r) A0) args s 0 0 A0) (wC a cI cS M) 161 [(0, .ref (a 0)), (1, .int x1), (2, .int x2), (3, .int x3), (4, .int v4), (5, .int v5), (6, .int v6)] [] := by
        intro v4 v5 v6 M hq
        unfold q_X6_rests_161 at hq
        refine g_iinc C (v := (v6 + (1 : Int32))) (lv2 := [(6, _), (0, _), (1, _), (2, _), (3, _), (4, _), (5, _)]) dX6_rests_161 6 rfl rfl (by decide) rfl ?_
        refine g_goto C (tgt := 74) dX6_rests_164 (by decide) ?_
        exact g_sub [1, 2, 3, 4, 5, 6, 0] rfl (ih_74 v4 v5 (v6 + (1 : Int32)) M hq)
      have J_156 : ∀ (v4 : Int32) (v6 : Int32) (s0 : Int32) (M : MM), q_X6_rests_156 x1 x2 x3 (q_X6_rests_74 x1 x2 x3  f_74) v4 v6 s0 M = some (r, M2) → gG p l e ({ frames := 6, cells := 0, slots := 0, locals := 138 }) s m args below meth c 9 (dC, dI) vwCl A0 s.heap 0 0 (MQ below ((qI (dC, dI) vwCl (wC a cI cS M2) r) A0) args s 0 0 A0) (wC a cI cS M) 156 [(0, .ref (a 0)), (1, .int x1), (2, .int x2), (3, .int x3), (4, .int v4), (6, .int v6)] [.int s0] := by
        intro v4 v6 s0 M hq
        unfold q_X6_rests_156 at hq
        refine g_istore C (lv2 := [(5, _), (0, _), (1, _), (2, _), (3, _), (4, _), (6, _)]) dX6_rests_156 (by decide) rfl ?_
        refine g_iinc C (v := (v4 + (1 : Int32))) (lv2 := [(4, _), (5, _), (0, _), (1, _), (2, _), (3, _), (6, _)]) dX6_rests_158 5 rfl rfl (by decide) rfl ?_
        exact g_sub [2, 3, 4, 5, 0, 1, 6] rfl (J_161 (v4 + (1 : Int32)) s0 v6 M hq)
      have J_106 : ∀ (v4 : Int32) (v5 : Int32) (v6 : Int32) (v7 : Int32) (s0 : Int32) (M : MM), q_X6_rests_106 x1 x2 x3 (q_X6_rests_74 x1 x2 x3  f_74) v4 v5 v6 v7 s0 M = some (r, M2) → gG p l e ({ frames := 6, cells := 0, slots := 0, locals := 138 }) s m args below meth c 9 (dC, dI) vwCl A0 s.heap 0 0 (MQ below ((qI (dC, dI) vwCl (wC a cI cS M2) r) A0) args s 0 0 A0) (wC a cI cS M) 106 [(0, .ref (a 0)), (1, .int x1), (2, .int x2), (3, .int x3), (4, .int v4), (5, .int v5), (6, .int v6), (7, .int v7)] [.int s0] := by
        intro v4 v5 v6 v7 s0 M hq
        unfold q_X6_rests_106 at hq
        refine g_istore C (lv2 := [(8, _), (0, _), (1, _), (2, _), (3, _), (4, _), (5, _), (6, _), (7, _)]) dX6_rests_106 (by decide) rfl ?_
        refine g_aload_n C dX6_rests_108 1 rfl rfl ?_
        refine g_iload_n C dX6_rests_109 2 rfl rfl ?_
        refine g_iload C dX6_rests_110 8 rfl ?_
        refine g_iload_n C dX6_rests_112 3 rfl rfl ?_
        refine g_iload C dX6_rests_113 0 rfl ?_
        obtain ⟨z25, Mz25, h26, hq⟩ := obd_some hq
        refine gc_Vi C (k_X6_isContent x1 v7 x2 s0 M Mz25 z25 h26) wl_610 ok_X6_isContent rv_X6 rfl ⟨Nat.le_of_ble_eq_true rfl, Nat.le_of_ble_eq_true rfl⟩ ⟨Nat.le_of_ble_eq_true rfl, Nat.le_of_ble_eq_true rfl⟩ rfl (Nat.le_of_ble_eq_true rfl) dX6_rests_115 ?_
        refine g_if_eq C (tgt := 161) dX6_rests_118 (by decide) (fun c27 => ?_) (fun c27 => ?_)
        · have hq := ip c27 hq
          exact g_sub [1, 2, 3, 4, 5, 6, 7] rfl (J_161 v4 v5 v6 Mz25 hq)
        · have hq := iq c27 hq
          refine g_aload_n C dX6_rests_121 1 rfl rfl ?_
          refine g_iload_n C dX6_rests_122 3 rfl rfl ?_
          refine g_iload C dX6_rests_123 0 rfl ?_
          refine g_iload_n C dX6_rests_125 2 rfl rfl ?_
          refine g_iload C dX6_rests_126 8 rfl ?_
          obtain ⟨z28, Mz28, h29, hq⟩ := obd_some hq
          refine gc_Vi C (k_X6_isContent x2 s0 x1 v7 Mz25 Mz28 z28 h29) wl_610 ok_X6_isContent rv_X6 rfl ⟨Nat.le_of_ble_eq_true rfl, Nat.le_of_ble_eq_true rfl⟩ ⟨Nat.le_of_ble_eq_true rfl, Nat.le_of_ble_eq_true rfl⟩ rfl (Nat.le_of_ble_eq_true rfl) dX6_rests_128 ?_
          refine g_if_eq C (tgt := 161) dX6_rests_131 (by decide) (fun c30 => ?_) (fun c30 => ?_)
          · have hq := ip c30 hq
            exact g_sub [1, 2, 3, 4, 5, 6, 7] rfl (J_161 v4 v5 v6 Mz28 hq)
          · have hq := iq c30 hq
            refine g_iload C dX6_rests_134 5 rfl ?_
            refine g_if_ne C (tgt := 154) dX6_rests_136 (by decide) (fun c31 => ?_) (fun c31 => ?_)
            · have hq := iq c31 hq
              refine g_iload C dX6_rests_154 6 rfl ?_
              exact g_sub [1, 2, 3, 4, 5, 7] rfl (J_156 v4 v6 v5 Mz28 hq)
            · have hq := ip c31 hq
              refine g_bipush C dX6_rests_139 (v := 10) (by decide) ?_
              refine g_iload C dX6_rests_141 7 rfl ?_
              refine g_iconst C dX6_rests_143 (v := 2) (by decide) ?_
              refine g_idiv C dX6_rests_144 (by decide) ?_
              refine g_imul C dX6_rests_145 ?_
              refine g_iload C dX6_rests_146 7 rfl ?_
              refine g_iconst C dX6_rests_148 (v := 2) (by decide) ?_
              refine g_irem C dX6_rests_149 (by decide) ?_
              refine g_iadd C dX6_rests_150 ?_
              refine g_goto C (tgt := 156) dX6_rests_151 (by decide) ?_
              exact g_sub [1, 2, 3, 4, 5, 7] rfl (J_156 v4 v6 (((10 : Int32) * (v6 / (2 : Int32))) + (v6 - v6 / (2 : Int32) * (2 : Int32))) Mz28 hq)
      have J_91 : ∀ (v4 : Int32) (v5 : Int32) (v6 : Int32) (s0 : Int32) (M : MM), q_X6_rests_91 x1 x2 x3 (q_X6_rests_74 x1 x2 x3  f_74) v4 v5 v6 s0 M = some (r, M2) → gG p l e ({ frames := 6, cells := 0, slots := 0, locals := 138 }) s m args below meth c 9 (dC, dI) vwCl A0 s.heap 0 0 (MQ below ((qI (dC, dI) vwCl (wC a cI cS M2) r) A0) args s 0 0 A0) (wC a cI cS M) 91 [(0, .ref (a 0)), (1, .int x1), (2, .int x2), (3, .int x3), (4, .int v4), (5, .int v5), (6, .int v6)] [.int s0] := by
        intro v4 v5 v6 s0 M hq
        unfold q_X6_rests_91 at hq
        refine g_istore C (lv2 := [(7, _), (0, _), (1, _), (2, _), (3, _), (4, _), (5, _), (6, _)]) dX6_rests_91 (by decide) rfl ?_
        refine g_iload C dX6_rests_93 7 rfl ?_
        refine g_iconst C dX6_rests_95 (v := 2) (by decide) ?_
        refine g_irem C dX6_rests_96 (by decide) ?_
        refine g_iconst C dX6_rests_97 (v := 1) (by decide) ?_
        refine g_icmp_ne C (tgt := 105) dX6_rests_98 (by decide) (fun c33 => ?_) (fun c33 => ?_)
        · have hq := iq c33 hq
          refine g_iconst C dX6_rests_105 (v := 0) (by decide) ?_
          exact g_sub [1, 2, 3, 4, 5, 6, 7, 0] rfl (J_106 v4 v5 v6 s0 (0 : Int32) M hq)
        · have hq := ip c33 hq
          refine g_iconst C dX6_rests_101 (v := 1) (by decide) ?_
          refine g_goto C (tgt := 106) dX6_rests_102 (by decide) ?_
          exact g_sub [1, 2, 3, 4, 5, 6, 7, 0] rfl (J_106 v4 v5 v6 s0 (1 : Int32) M hq)
      intro v4 v5 v6 M hq
      rw [q_X6_rests_74] at hq
      refine g_iload C dX6_rests_74 6 rfl ?_
      refine g_iconst C dX6_rests_76 (v := 4) (by decide) ?_
      refine g_icmp_ge C (tgt := 167) dX6_rests_77 (by decide) (fun c37 => ?_) (fun c37 => ?_)
      · have hq := ip c37 hq
        refine g_iload_n C dX6_rests_167 3 rfl rfl ?_
        refine g_if_ne C (tgt := 176) dX6_rests_168 (by decide) (fun c38 => ?_) (fun c38 => ?_)
        · have hq := iq c38 hq
          refine g_iload C dX6_rests_176 5 rfl ?_
          exact g_iret C dX6_rests_178 (som2 hq).1 (congrArg (wC a cI cS) (som2 hq).2)
        · have hq := ip c38 hq
          refine g_iload C dX6_rests_171 4 rfl ?_
          refine g_goto C (tgt := 178) dX6_rests_173 (by decide) ?_
          exact g_iret C dX6_rests_178 (som2 hq).1 (congrArg (wC a cI cS) (som2 hq).2)
      · have hq := iq c37 hq
        refine g_iload C dX6_rests_80 6 rfl ?_
        refine g_iconst C dX6_rests_82 (v := 2) (by decide) ?_
        refine g_icmp_lt C (tgt := 90) dX6_rests_83 (by decide) (fun c39 => ?_) (fun c39 => ?_)
        · have hq := ip c39 hq
          refine g_iconst C dX6_rests_90 (v := 0) (by decide) ?_
          exact g_sub [0, 1, 2, 3, 4, 5, 6] rfl (J_91 v4 v5 v6 (0 : Int32) M hq)
        · have hq := iq c39 hq
          refine g_iconst C dX6_rests_86 (v := 1) (by decide) ?_
          refine g_goto C (tgt := 91) dX6_rests_87 (by decide) ?_
          exact g_sub [0, 1, 2, 3, 4, 5, 6] rfl (J_91 v4 v5 v6 (1 : Int32) M hq)
  unfold q_X6_rests at hq
  refine g_aload_n C dX6_rests_0 0 rfl rfl ?_
  refine rg_X6_plan C dX6_rests_1 ?_
  refine g_iload_n C dX6_rests_4 1 rfl rfl ?_
  refine gc_Vi C (k_X2_hasWalker x1 M) wl_336 ok_X2_hasWalker rv_X2 rfl ⟨Nat.le_of_ble_eq_true rfl, Nat.le_of_ble_eq_true rfl⟩ ⟨Nat.le_of_ble_eq_true rfl, Nat.le_of_ble_eq_true rfl⟩ rfl (Nat.le_of_ble_eq_true rfl) dX6_rests_5 ?_
  refine g_if_eq C (tgt := 22) dX6_rests_8 (by decide) (fun c46 => ?_) (fun c46 => ?_)
  · have hq := ip c46 hq
    refine g_iconst C dX6_rests_22 (v := -1) (by decide) ?_
    exact g_iret C dX6_rests_23 (som2 hq).1 (congrArg (wC a cI cS) (som2 hq).2)
  · have hq := iq c46 hq
    refine g_aload_n C dX6_rests_11 0 rfl rfl ?_
    refine rg_X6_plan C dX6_rests_12 ?_
    refine g_iload_n C dX6_rests_15 2 rfl rfl ?_
    refine gc_Vi C (k_X2_hasWalker x2 M) wl_336 ok_X2_hasWalker rv_X2 rfl ⟨Nat.le_of_ble_eq_true rfl, Nat.le_of_ble_eq_true rfl⟩ ⟨Nat.le_of_ble_eq_true rfl, Nat.le_of_ble_eq_true rfl⟩ rfl (Nat.le_of_ble_eq_true rfl) dX6_rests_16 ?_
    refine g_if_ne C (tgt := 24) dX6_rests_19 (by decide) (fun c47 => ?_) (fun c47 => ?_)
    · have hq := iq c47 hq
      refine g_iload_n C dX6_rests_24 1 rfl rfl ?_
      refine g_iload_n C dX6_rests_25 2 rfl rfl ?_
      refine g_icmp_eq C (tgt := 36) dX6_rests_26 (by decide) (fun c48 => ?_) (fun c48 => ?_)
      · have hq := ip c48 hq
        refine g_bipush C dX6_rests_36 (v := -2) (by decide) ?_
        exact g_iret C dX6_rests_38 (som2 hq).1 (congrArg (wC a cI cS) (som2 hq).2)
      · have hq := iq c48 hq
        refine g_iload_n C dX6_rests_29 3 rfl rfl ?_
        refine gc_Si C (k_X6_isChoice x3 M) wl_488 ok_X6_isChoice ⟨Nat.le_of_ble_eq_true rfl, Nat.le_of_ble_eq_true rfl⟩ ⟨Nat.le_of_ble_eq_true rfl, Nat.le_of_ble_eq_true rfl⟩ rfl (Nat.le_of_ble_eq_true rfl) dX6_rests_30 ?_
        refine g_if_ne C (tgt := 39) dX6_rests_33 (by decide) (fun c49 => ?_) (fun c49 => ?_)
        · have hq := iq c49 hq
          refine g_aload_n C dX6_rests_39 0 rfl rfl ?_
          refine rg_X6_now C dX6_rests_40 ?_
          refine g_iload_n C dX6_rests_43 1 rfl rfl ?_
          refine gc_Vi C (k_X3_isOpen 0 (by decide) x1 M) wl_345 ok_X3_isOpen (rv_X3 0 (by decide)) rfl ⟨Nat.le_of_ble_eq_true rfl, Nat.le_of_ble_eq_true rfl⟩ ⟨Nat.le_of_ble_eq_true rfl, Nat.le_of_ble_eq_true rfl⟩ rfl (Nat.le_of_ble_eq_true rfl) dX6_rests_44 ?_
          refine g_if_ne C (tgt := 61) dX6_rests_47 (by decide) (fun c50 => ?_) (fun c50 => ?_)
          · have hq := iq c50 hq
            refine g_bipush C dX6_rests_61 (v := -3) (by decide) ?_
            exact g_iret C dX6_rests_63 (som2 hq).1 (congrArg (wC a cI cS) (som2 hq).2)
          · have hq := ip c50 hq
            refine g_aload_n C dX6_rests_50 0 rfl rfl ?_
            refine rg_X6_now C dX6_rests_51 ?_
            refine g_iload_n C dX6_rests_54 2 rfl rfl ?_
            refine gc_Vi C (k_X3_isOpen 0 (by decide) x2 M) wl_345 ok_X3_isOpen (rv_X3 0 (by decide)) rfl ⟨Nat.le_of_ble_eq_true rfl, Nat.le_of_ble_eq_true rfl⟩ ⟨Nat.le_of_ble_eq_true rfl, Nat.le_of_ble_eq_true rfl⟩ rfl (Nat.le_of_ble_eq_true rfl) dX6_rests_55 ?_
            refine g_if_eq C (tgt := 64) dX6_rests_58 (by decide) (fun c51 => ?_) (fun c51 => ?_)
            · have hq := ip c51 hq
              refine g_iconst C dX6_rests_64 (v := 0) (by decide) ?_
              refine g_istore C (lv2 := [(4, _), (0, _), (1, _), (2, _), (3, _)]) dX6_rests_65 (by decide) rfl ?_
              refine g_bipush C dX6_rests_67 (v := -9) (by decide) ?_
              refine g_istore C (lv2 := [(5, _), (4, _), (0, _), (1, _), (2, _), (3, _)]) dX6_rests_69 (by decide) rfl ?_
              refine g_iconst C dX6_rests_71 (v := 0) (by decide) ?_
              refine g_istore C (lv2 := [(6, _), (5, _), (4, _), (0, _), (1, _), (2, _), (3, _)]) dX6_rests_72 (by decide) rfl ?_
              exact g_sub [3, 4, 5, 6, 2, 1, 0] rfl (L_74 FU (0 : Int32) (-9 : Int32) (0 : Int32) M hq)
            · have hq := iq c51 hq
              refine g_bipush C dX6_rests_61 (v := -3) (by decide) ?_
              exact g_iret C dX6_rests_63 (som2 hq).1 (congrArg (wC a cI cS) (som2 hq).2)
        · have hq := ip c49 hq
          refine g_bipush C dX6_rests_36 (v := -2) (by decide) ?_
          exact g_iret C dX6_rests_38 (som2 hq).1 (congrArg (wC a cI cS) (som2 hq).2)
    · have hq := ip c47 hq
      refine g_iconst C dX6_rests_22 (v := -1) (by decide) ?_
      exact g_iret C dX6_rests_23 (som2 hq).1 (congrArg (wC a cI cS) (som2 hq).2)
set_option maxHeartbeats 4000000 in
set_option maxRecDepth 100000 in
theorem k_X6_power {l : Launch} {dC : Nat → ClassId} {dI : Nat → Nat → Nat} {a : Nat → Nat} {cI cZ cS : ClassId} (x0 : Int32) (x1 : Int32) (M M2 : MM) (r : Int32) (hq : q_X6_power x0 x1 M = some (r, M2)) : KQ l (dC, dI) vwCl (tyW cI cZ cS) yX6_power cX6_power 4 (some .int) 0 0 [.int x0, .int x1] (wC a cI cS M) (qI (dC, dI) vwCl (wC a cI cS M2) r) := by
  refine KQ.of (by decide) (Nat.le_of_ble_eq_true rfl) rfl ?_
  intro p e s m args below meth c A0 C
  have L_4 : ∀ (f : Nat) (v2 : Int32) (v3 : Int32) (M : MM), q_X6_power_4 x0 x1  f v2 v3 M = some (r, M2) → gG p l e ({ frames := 0, cells := 0, slots := 0, locals := 0 }) s m args below meth c 4 (dC, dI) vwCl A0 s.heap 0 0 (MQ below ((qI (dC, dI) vwCl (wC a cI cS M2) r) A0) args s 0 0 A0) (wC a cI cS M) 4 [(0, .int x0), (1, .int x1), (2, .int v2), (3, .int v3)] [] := by
    intro f
    induction f with
    | zero => intro v2 v3 M hq; cases hq
    | succ f_4 ih_4 =>
      intro v2 v3 M hq
      rw [q_X6_power_4] at hq
      refine g_iload_n C dX6_power_4 3 rfl rfl ?_
      refine g_iload_n C dX6_power_5 1 rfl rfl ?_
      refine g_icmp_ge C (tgt := 19) dX6_power_6 (by decide) (fun c3 => ?_) (fun c3 => ?_)
      · have hq := ip c3 hq
        refine g_iload_n C dX6_power_19 2 rfl rfl ?_
        exact g_iret C dX6_power_20 (som2 hq).1 (congrArg (wC a cI cS) (som2 hq).2)
      · have hq := iq c3 hq
        refine g_iload_n C dX6_power_9 2 rfl rfl ?_
        refine g_iload_n C dX6_power_10 0 rfl rfl ?_
        refine g_imul C dX6_power_11 ?_
        refine g_istore_n C (lv2 := [(2, _), (0, _), (1, _), (3, _)]) dX6_power_12 rfl (by decide) rfl ?_
        refine g_iinc C (v := (v3 + (1 : Int32))) (lv2 := [(3, _), (2, _), (0, _), (1, _)]) dX6_power_13 3 rfl rfl (by decide) rfl ?_
        refine g_goto C (tgt := 4) dX6_power_16 (by decide) ?_
        exact g_sub [2, 3, 1, 0] rfl (ih_4 (v2 * x0) (v3 + (1 : Int32)) M hq)
  unfold q_X6_power at hq
  refine g_iconst C dX6_power_0 (v := 1) (by decide) ?_
  refine g_istore_n C (lv2 := [(2, _), (0, _), (1, _)]) dX6_power_1 rfl (by decide) rfl ?_
  refine g_iconst C dX6_power_2 (v := 0) (by decide) ?_
  refine g_istore_n C (lv2 := [(3, _), (2, _), (0, _), (1, _)]) dX6_power_3 rfl (by decide) rfl ?_
  exact g_sub [2, 3, 1, 0] rfl (L_4 FU (1 : Int32) (0 : Int32) M hq)
set_option maxHeartbeats 4000000 in
set_option maxRecDepth 100000 in
theorem k_X6_sudden {l : Launch} {dC : Nat → ClassId} {dI : Nat → Nat → Nat} {a : Nat → Nat} {cI cZ cS : ClassId} (x1 : Int32) (x2 : Int32) (x3 : Int32) (x4 : Int32) (M M2 : MM) (r : Int32) (hq : q_X6_sudden x1 x2 x3 x4 M = some (r, M2)) : KQ l (dC, dI) vwCl (tyW cI cZ cS) yX6_sudden cX6_sudden 10 (some .int) 4 87 [.ref (a 0), .int x1, .int x2, .int x3, .int x4] (wC a cI cS M) (qI (dC, dI) vwCl (wC a cI cS M2) r) := by
  refine KQ.of (by decide) (Nat.le_of_ble_eq_true rfl) rfl ?_
  intro p e s m args below meth c A0 C
  have L_51 : ∀ (f : Nat) (v5 : Int32) (v6 : Int32) (v7 : Int32) (v8 : Int32) (M : MM), q_X6_sudden_51 x1 x2 x3 x4  f v5 v6 v7 v8 M = some (r, M2) → gG p l e ({ frames := 4, cells := 0, slots := 0, locals := 87 }) s m args below meth c 10 (dC, dI) vwCl A0 s.heap 0 0 (MQ below ((qI (dC, dI) vwCl (wC a cI cS M2) r) A0) args s 0 0 A0) (wC a cI cS M) 51 [(0, .ref (a 0)), (1, .int x1), (2, .int x2), (3, .int x3), (4, .int x4), (5, .int v5), (6, .int v6), (7, .int v7), (8, .int v8)] [] := by
    intro f
    induction f with
    | zero => intro v5 v6 v7 v8 M hq; cases hq
    | succ f_51 ih_51 =>
      have J_147 : ∀ (v5 : Int32) (v6 : Int32) (v7 : Int32) (v8 : Int32) (M : MM), q_X6_sudden_147 x1 x2 x3 x4 (q_X6_sudden_51 x1 x2 x3 x4  f_51) v5 v6 v7 v8 M = some (r, M2) → gG p l e ({ frames := 4, cells := 0, slots := 0, locals := 87 }) s m args below meth c 10 (dC, dI) vwCl A0 s.heap 0 0 (MQ below ((qI (dC, dI) vwCl (wC a cI cS M2) r) A0) args s 0 0 A0) (wC a cI cS M) 147 [(0, .ref (a 0)), (1, .int x1), (2, .int x2), (3, .int x3), (4, .int x4), (5, .int v5), (6, .int v6), (7, .int v7), (8, .int v8)] [] := by
        intro v5 v6 v7 v8 M hq
        unfold q_X6_sudden_147 at hq
        refine g_iinc C (v := (v8 + (1 : Int32))) (lv2 := [(8, _), (0, _), (1, _), (2, _), (3, _), (4, _), (5, _), (6, _), (7, _)]) dX6_sudden_147 8 rfl rfl (by decide) rfl ?_
        refine g_goto C (tgt := 51) dX6_sudden_150 (by decide) ?_
        exact g_sub [1, 2, 3, 4, 5, 6, 7, 8, 0] rfl (ih_51 v5 v6 v7 (v8 + (1 : Int32)) M hq)
      have J_109 : ∀ (v5 : Int32) (v6 : Int32) (v7 : Int32) (v8 : Int32) (s0 : Int32) (M : MM), q_X6_sudden_109 x1 x2 x3 x4 (q_X6_sudden_51 x1 x2 x3 x4  f_51) v5 v6 v7 v8 s0 M = some (r, M2) → gG p l e ({ frames := 4, cells := 0, slots := 0, locals := 87 }) s m args below meth c 10 (dC, dI) vwCl A0 s.heap 0 0 (MQ below ((qI (dC, dI) vwCl (wC a cI cS M2) r) A0) args s 0 0 A0) (wC a cI cS M) 109 [(0, .ref (a 0)), (1, .int x1), (2, .int x2), (3, .int x3), (4, .int x4), (5, .int v5), (6, .int v6), (7, .int v7), (8, .int v8)] [.int s0] := by
        intro v5 v6 v7 v8 s0 M hq
        unfold q_X6_sudden_109 at hq
        refine g_iload_n C dX6_sudden_109 1 rfl rfl ?_
        refine gc_Si C (k_X6_has s0 x1 M) wl_495 ok_X6_has ⟨Nat.le_of_ble_eq_true rfl, Nat.le_of_ble_eq_true rfl⟩ ⟨Nat.le_of_ble_eq_true rfl, Nat.le_of_ble_eq_true rfl⟩ rfl (Nat.le_of_ble_eq_true rfl) dX6_sudden_110 ?_
        refine g_if_eq C (tgt := 147) dX6_sudden_113 (by decide) (fun c28 => ?_) (fun c28 => ?_)
        · have hq := ip c28 hq
          exact g_sub [0, 1, 2, 3, 4, 5, 6, 7, 8] rfl (J_147 v5 v6 v7 v8 M hq)
        · have hq := iq c28 hq
          refine g_iload C dX6_sudden_116 8 rfl ?_
          refine gc_Si C (k_J6_bitCount_0f7a4 v8 M) wl_528 ok_J6_bitCount_0f7a4 ⟨Nat.le_of_ble_eq_true rfl, Nat.le_of_ble_eq_true rfl⟩ ⟨Nat.le_of_ble_eq_true rfl, Nat.le_of_ble_eq_true rfl⟩ rfl (Nat.le_of_ble_eq_true rfl) dX6_sudden_118 ?_
          refine g_istore C (lv2 := [(9, _), (0, _), (1, _), (2, _), (3, _), (4, _), (5, _), (6, _), (7, _), (8, _)]) dX6_sudden_121 (by decide) rfl ?_
          refine g_iload C dX6_sudden_123 8 rfl ?_
          refine g_iload_n C dX6_sudden_125 4 rfl rfl ?_
          refine g_iload C dX6_sudden_126 0 rfl ?_
          obtain ⟨z29, Mz29, h30, hq⟩ := obd_some hq
          refine gc_Si C (k_X6_power x3 (t_J6_bitCount_0f7a4 v8) M Mz29 z29 h30) wl_622 ok_X6_power ⟨Nat.le_of_ble_eq_true rfl, Nat.le_of_ble_eq_true rfl⟩ ⟨Nat.le_of_ble_eq_true rfl, Nat.le_of_ble_eq_true rfl⟩ rfl (Nat.le_of_ble_eq_true rfl) dX6_sudden_128 ?_
          refine g_bipush C dX6_sudden_131 (v := 10) (by decide) ?_
          refine g_iload_n C dX6_sudden_133 4 rfl rfl ?_
          refine g_isub C dX6_sudden_134 ?_
          refine g_iload C dX6_sudden_135 7 rfl ?_
          refine g_iload C dX6_sudden_137 0 rfl ?_
          refine g_isub C dX6_sudden_139 ?_
          obtain ⟨z31, Mz31, h32, hq⟩ := obd_some hq
          refine gc_Si C (k_X6_power ((10 : Int32) - x3) (v6 - (t_J6_bitCount_0f7a4 v8)) Mz29 Mz31 z31 h32) wl_622 ok_X6_power ⟨Nat.le_of_ble_eq_true rfl, Nat.le_of_ble_eq_true rfl⟩ ⟨Nat.le_of_ble_eq_true rfl, Nat.le_of_ble_eq_true rfl⟩ rfl (Nat.le_of_ble_eq_true rfl) dX6_sudden_140 ?_
          refine g_imul C dX6_sudden_143 ?_
          refine g_iadd C dX6_sudden_144 ?_
          refine g_istore C (lv2 := [(7, _), (9, _), (0, _), (1, _), (2, _), (3, _), (4, _), (5, _), (6, _), (8, _)]) dX6_sudden_145 (by decide) rfl ?_
          exact g_sub [2, 3, 4, 5, 6, 7, 8, 0, 9] rfl (J_147 v5 v6 (v7 + (z29 * z31)) v8 Mz31 hq)
      intro v5 v6 v7 v8 M hq
      rw [q_X6_sudden_51] at hq
      refine g_iload C dX6_sudden_51 8 rfl ?_
      refine g_bipush C dX6_sudden_53 (v := 32) (by decide) ?_
      refine g_icmp_ge C (tgt := 153) dX6_sudden_55 (by decide) (fun c46 => ?_) (fun c46 => ?_)
      · have hq := ip c46 hq
        refine g_iload C dX6_sudden_153 7 rfl ?_
        refine g_bipush C dX6_sudden_155 (v := 10) (by decide) ?_
        refine g_iload C dX6_sudden_157 6 rfl ?_
        obtain ⟨z47, Mz47, h48, hq⟩ := obd_some hq
        refine gc_Si C (k_X6_power (10 : Int32) v6 M Mz47 z47 h48) wl_622 ok_X6_power ⟨Nat.le_of_ble_eq_true rfl, Nat.le_of_ble_eq_true rfl⟩ ⟨Nat.le_of_ble_eq_true rfl, Nat.le_of_ble_eq_true rfl⟩ rfl (Nat.le_of_ble_eq_true rfl) dX6_sudden_159 ?_
        refine g_iload C dX6_sudden_162 4 rfl ?_
        obtain ⟨z49, Mz49, h50, hq⟩ := obd_some hq
        refine gc_Si C (k_X6_partOf v7 z47 x4 Mz47 Mz49 z49 h50) wl_565 ok_X6_partOf ⟨Nat.le_of_ble_eq_true rfl, Nat.le_of_ble_eq_true rfl⟩ ⟨Nat.le_of_ble_eq_true rfl, Nat.le_of_ble_eq_true rfl⟩ rfl (Nat.le_of_ble_eq_true rfl) dX6_sudden_164 ?_
        exact g_iret C dX6_sudden_167 (som2 hq).1 (congrArg (wC a cI cS) (som2 hq).2)
      · have hq := iq c46 hq
        refine g_iload C dX6_sudden_58 8 rfl ?_
        refine g_iload C dX6_sudden_60 5 rfl ?_
        refine gc_Si C (k_X6_isWithin v8 v5 M) wl_525 ok_X6_isWithin ⟨Nat.le_of_ble_eq_true rfl, Nat.le_of_ble_eq_true rfl⟩ ⟨Nat.le_of_ble_eq_true rfl, Nat.le_of_ble_eq_true rfl⟩ rfl (Nat.le_of_ble_eq_true rfl) dX6_sudden_62 ?_
        refine g_if_eq C (tgt := 147) dX6_sudden_65 (by decide) (fun c51 => ?_) (fun c51 => ?_)
        · have hq := ip c51 hq
          exact g_sub [0, 1, 2, 3, 4, 5, 6, 7, 8] rfl (J_147 v5 v6 v7 v8 M hq)
        · have hq := iq c51 hq
          refine g_aload_n C dX6_sudden_68 0 rfl rfl ?_
          refine rg_X6_trial C dX6_sudden_69 ?_
          refine g_aload_n C dX6_sudden_72 0 rfl rfl ?_
          refine rg_X6_now C dX6_sudden_73 ?_
          refine gc_Vv C (k_X3_copy 1 (by decide) 0 (by decide) M) wl_478 ok_X3_copy (rv_X3 1 (by decide)) rfl ⟨Nat.le_of_ble_eq_true rfl, Nat.le_of_ble_eq_true rfl⟩ ⟨Nat.le_of_ble_eq_true rfl, Nat.le_of_ble_eq_true rfl⟩ rfl (Nat.le_of_ble_eq_true rfl) dX6_sudden_76 ?_
          refine g_aload_n C dX6_sudden_79 0 rfl rfl ?_
          refine rg_X6_trial C dX6_sudden_80 ?_
          refine g_iload C dX6_sudden_83 8 rfl ?_
          obtain ⟨z52, Mz52, h53, hq⟩ := obd_some hq
          refine gc_Vv C (k_X3_raiseAll 1 (by decide) v8 (mR M (9 + 1) (M.1 (9 + 0))) Mz52 z52 h53) wl_504 ok_X3_raiseAll (rv_X3 1 (by decide)) rfl ⟨Nat.le_of_ble_eq_true rfl, Nat.le_of_ble_eq_true rfl⟩ ⟨Nat.le_of_ble_eq_true rfl, Nat.le_of_ble_eq_true rfl⟩ rfl (Nat.le_of_ble_eq_true rfl) dX6_sudden_85 ?_
          refine g_iload_n C dX6_sudden_88 2 rfl rfl ?_
          refine g_if_ne C (tgt := 102) dX6_sudden_89 (by decide) (fun c54 => ?_) (fun c54 => ?_)
          · have hq := iq c54 hq
            refine g_aload_n C dX6_sudden_102 0 rfl rfl ?_
            refine rg_X6_trial C dX6_sudden_103 ?_
            obtain ⟨z55, Mz55, h56, hq⟩ := obd_some hq
            refine gc_Vi C (k_X3_hailBits 1 (by decide) Mz52 Mz55 z55 h56) wl_310 ok_X3_hailBits (rv_X3 1 (by decide)) rfl ⟨Nat.le_of_ble_eq_true rfl, Nat.le_of_ble_eq_true rfl⟩ ⟨Nat.le_of_ble_eq_true rfl, Nat.le_of_ble_eq_true rfl⟩ rfl (Nat.le_of_ble_eq_true rfl) dX6_sudden_106 ?_
            exact g_sub [0, 1, 2, 3, 4, 5, 6, 7, 8] rfl (J_109 v5 v6 v7 v8 z55 Mz55 hq)
          · have hq := ip c54 hq
            refine g_aload_n C dX6_sudden_92 0 rfl rfl ?_
            refine rg_X6_trial C dX6_sudden_93 ?_
            obtain ⟨z57, Mz57, h58, hq⟩ := obd_some hq
            refine gc_Vi C (k_X3_rainBits 1 (by decide) Mz52 Mz57 z57 h58) wl_299 ok_X3_rainBits (rv_X3 1 (by decide)) rfl ⟨Nat.le_of_ble_eq_true rfl, Nat.le_of_ble_eq_true rfl⟩ ⟨Nat.le_of_ble_eq_true rfl, Nat.le_of_ble_eq_true rfl⟩ rfl (Nat.le_of_ble_eq_true rfl) dX6_sudden_96 ?_
            refine g_goto C (tgt := 109) dX6_sudden_99 (by decide) ?_
            exact g_sub [0, 1, 2, 3, 4, 5, 6, 7, 8] rfl (J_109 v5 v6 v7 v8 z57 Mz57 hq)
  unfold q_X6_sudden at hq
  refine g_iload_n C dX6_sudden_0 1 rfl rfl ?_
  refine gc_Si C (k_X6_isStreet x1 M) wl_374 ok_X6_isStreet ⟨Nat.le_of_ble_eq_true rfl, Nat.le_of_ble_eq_true rfl⟩ ⟨Nat.le_of_ble_eq_true rfl, Nat.le_of_ble_eq_true rfl⟩ rfl (Nat.le_of_ble_eq_true rfl) dX6_sudden_1 ?_
  refine g_if_ne C (tgt := 9) dX6_sudden_4 (by decide) (fun c63 => ?_) (fun c63 => ?_)
  · have hq := iq c63 hq
    refine g_iload_n C dX6_sudden_9 2 rfl rfl ?_
    refine gc_Si C (k_X6_isChoice x2 M) wl_488 ok_X6_isChoice ⟨Nat.le_of_ble_eq_true rfl, Nat.le_of_ble_eq_true rfl⟩ ⟨Nat.le_of_ble_eq_true rfl, Nat.le_of_ble_eq_true rfl⟩ rfl (Nat.le_of_ble_eq_true rfl) dX6_sudden_10 ?_
    refine g_if_eq C (tgt := 26) dX6_sudden_13 (by decide) (fun c64 => ?_) (fun c64 => ?_)
    · have hq := ip c64 hq
      refine g_bipush C dX6_sudden_26 (v := -2) (by decide) ?_
      exact g_iret C dX6_sudden_28 (som2 hq).1 (congrArg (wC a cI cS) (som2 hq).2)
    · have hq := iq c64 hq
      refine g_iload_n C dX6_sudden_16 3 rfl rfl ?_
      refine g_if_lt C (tgt := 26) dX6_sudden_17 (by decide) (fun c65 => ?_) (fun c65 => ?_)
      · have hq := ip c65 hq
        refine g_bipush C dX6_sudden_26 (v := -2) (by decide) ?_
        exact g_iret C dX6_sudden_28 (som2 hq).1 (congrArg (wC a cI cS) (som2 hq).2)
      · have hq := iq c65 hq
        refine g_iload_n C dX6_sudden_20 3 rfl rfl ?_
        refine g_bipush C dX6_sudden_21 (v := 10) (by decide) ?_
        refine g_icmp_le C (tgt := 29) dX6_sudden_23 (by decide) (fun c66 => ?_) (fun c66 => ?_)
        · have hq := ip c66 hq
          refine g_aload_n C dX6_sudden_29 0 rfl rfl ?_
          refine rg_X6_now C dX6_sudden_30 ?_
          refine gc_Vi C (k_X3_shutBits 0 (by decide) M) wl_520 ok_X3_shutBits (rv_X3 0 (by decide)) rfl ⟨Nat.le_of_ble_eq_true rfl, Nat.le_of_ble_eq_true rfl⟩ ⟨Nat.le_of_ble_eq_true rfl, Nat.le_of_ble_eq_true rfl⟩ rfl (Nat.le_of_ble_eq_true rfl) dX6_sudden_33 ?_
          refine g_istore C (lv2 := [(5, _), (0, _), (1, _), (2, _), (3, _), (4, _)]) dX6_sudden_36 (by decide) rfl ?_
          refine g_iload C dX6_sudden_38 0 rfl ?_
          refine gc_Si C (k_J6_bitCount_0f7a4 (t_X3_shutBits 0 M) M) wl_528 ok_J6_bitCount_0f7a4 ⟨Nat.le_of_ble_eq_true rfl, Nat.le_of_ble_eq_true rfl⟩ ⟨Nat.le_of_ble_eq_true rfl, Nat.le_of_ble_eq_true rfl⟩ rfl (Nat.le_of_ble_eq_true rfl) dX6_sudden_40 ?_
          refine g_istore C (lv2 := [(6, _), (5, _), (0, _), (1, _), (2, _), (3, _), (4, _)]) dX6_sudden_43 (by decide) rfl ?_
          refine g_iconst C dX6_sudden_45 (v := 0) (by decide) ?_
          refine g_istore C (lv2 := [(7, _), (6, _), (5, _), (0, _), (1, _), (2, _), (3, _), (4, _)]) dX6_sudden_46 (by decide) rfl ?_
          refine g_iconst C dX6_sudden_48 (v := 0) (by decide) ?_
          refine g_istore C (lv2 := [(8, _), (7, _), (6, _), (5, _), (0, _), (1, _), (2, _), (3, _), (4, _)]) dX6_sudden_49 (by decide) rfl ?_
          exact g_sub [4, 5, 6, 7, 8, 3, 2, 1, 0] rfl (L_51 FU (t_X3_shutBits 0 M) (t_J6_bitCount_0f7a4 (t_X3_shutBits 0 M)) (0 : Int32) (0 : Int32) M hq)
        · have hq := iq c66 hq
          refine g_bipush C dX6_sudden_26 (v := -2) (by decide) ?_
          exact g_iret C dX6_sudden_28 (som2 hq).1 (congrArg (wC a cI cS) (som2 hq).2)
  · have hq := ip c63 hq
    refine g_iconst C dX6_sudden_7 (v := -1) (by decide) ?_
    exact g_iret C dX6_sudden_8 (som2 hq).1 (congrArg (wC a cI cS) (som2 hq).2)
set_option maxHeartbeats 4000000 in
set_option maxRecDepth 100000 in
theorem k_X6_seed {l : Launch} {dC : Nat → ClassId} {dI : Nat → Nat → Nat} {a : Nat → Nat} {cI cZ cS : ClassId} (x1 : Int64) (M M2 : MM) (r : Int64) (hq : q_X6_seed x1 M = some (r, M2)) : KQ l (dC, dI) vwCl (tyW cI cZ cS) yX6_seed cX6_seed 5 (some .long) 0 0 [.ref (a 0), .long x1] (wC a cI cS M) (qL (dC, dI) vwCl (wC a cI cS M2) r) := by
  refine KQ.of (by decide) (Nat.le_of_ble_eq_true rfl) rfl ?_
  intro p e s m args below meth c A0 C
  unfold q_X6_seed at hq
  refine g_aload_n C dX6_seed_0 0 rfl rfl ?_
  refine rg_X6_seedNow C dX6_seed_1 ?_
  refine g_lstore_n C (lv2 := [(3, _), (0, _), (1, _)]) dX6_seed_4 rfl (by decide) rfl ?_
  refine g_aload_n C dX6_seed_5 1 rfl rfl ?_
  refine g_lload_n C dX6_seed_6 2 rfl rfl ?_
  refine rp_X6_seedNow C dX6_seed_7 ?_
  refine g_lload_n C dX6_seed_10 0 rfl rfl ?_
  exact g_lret C dX6_seed_11 (som2 hq).1 (congrArg (wC a cI cS) (som2 hq).2)
set_option maxHeartbeats 4000000 in
set_option maxRecDepth 100000 in
theorem k_X6_doByChance {l : Launch} {dC : Nat → ClassId} {dI : Nat → Nat → Nat} {a : Nat → Nat} {cI cZ cS : ClassId} (x1 : Int32) (M M2 : MM) (r : Unit) (hq : q_X6_doByChance x1 M = some (r, M2)) : KQ l (dC, dI) vwCl (tyW cI cZ cS) yX6_doByChance cX6_doByChance 2 none 4 89 [.ref (a 0), .int x1] (wC a cI cS M) (qV (dC, dI) vwCl (wC a cI cS M2)) := by
  refine KQ.of (by decide) (Nat.le_of_ble_eq_true rfl) rfl ?_
  intro p e s m args below meth c A0 C
  unfold q_X6_doByChance at hq
  refine g_iload_n C dX6_doByChance_0 1 rfl rfl ?_
  refine g_iconst C dX6_doByChance_1 (v := 5) (by decide) ?_
  refine g_icmp_ge C (tgt := 17) dX6_doByChance_2 (by decide) (fun c23 => ?_) (fun c23 => ?_)
  · have hq := ip c23 hq
    refine g_iload_n C dX6_doByChance_17 1 rfl rfl ?_
    refine g_bipush C dX6_doByChance_18 (v := 10) (by decide) ?_
    refine g_icmp_ge C (tgt := 37) dX6_doByChance_20 (by decide) (fun c24 => ?_) (fun c24 => ?_)
    · have hq := ip c24 hq
      refine g_iload_n C dX6_doByChance_37 1 rfl rfl ?_
      refine g_bipush C dX6_doByChance_38 (v := 15) (by decide) ?_
      refine g_icmp_ge C (tgt := 59) dX6_doByChance_40 (by decide) (fun c25 => ?_) (fun c25 => ?_)
      · have hq := ip c25 hq
        refine g_aload_n C dX6_doByChance_59 0 rfl rfl ?_
        refine rg_X6_trial C dX6_doByChance_60 ?_
        obtain ⟨z26, Mz26, h27, hq⟩ := obd_some hq
        refine gc_Vi C (k_X3_passHour 1 (by decide) M Mz26 z26 h27) wl_452 ok_X3_passHour (rv_X3 1 (by decide)) rfl ⟨Nat.le_of_ble_eq_true rfl, Nat.le_of_ble_eq_true rfl⟩ ⟨Nat.le_of_ble_eq_true rfl, Nat.le_of_ble_eq_true rfl⟩ rfl (Nat.le_of_ble_eq_true rfl) dX6_doByChance_63 ?_
        refine g_pop C dX6_doByChance_66 rfl ?_
        exact g_vret C dX6_doByChance_67 (congrArg (wC a cI cS) (som2 hq).2)
      · have hq := iq c25 hq
        refine g_aload_n C dX6_doByChance_43 0 rfl rfl ?_
        refine rg_X6_trial C dX6_doByChance_44 ?_
        refine g_iload_n C dX6_doByChance_47 1 rfl rfl ?_
        refine g_bipush C dX6_doByChance_48 (v := 10) (by decide) ?_
        refine g_isub C dX6_doByChance_50 ?_
        refine g_iconst C dX6_doByChance_51 (v := 1) (by decide) ?_
        obtain ⟨z28, Mz28, h29, hq⟩ := obd_some hq
        refine gc_Vi C (k_X3_move 1 (by decide) (x1 - (10 : Int32)) (1 : Int32) M Mz28 z28 h29) wl_439 ok_X3_move (rv_X3 1 (by decide)) rfl ⟨Nat.le_of_ble_eq_true rfl, Nat.le_of_ble_eq_true rfl⟩ ⟨Nat.le_of_ble_eq_true rfl, Nat.le_of_ble_eq_true rfl⟩ rfl (Nat.le_of_ble_eq_true rfl) dX6_doByChance_52 ?_
        refine g_pop C dX6_doByChance_55 rfl ?_
        refine g_goto C (tgt := 67) dX6_doByChance_56 (by decide) ?_
        exact g_vret C dX6_doByChance_67 (congrArg (wC a cI cS) (som2 hq).2)
    · have hq := iq c24 hq
      refine g_aload_n C dX6_doByChance_23 0 rfl rfl ?_
      refine rg_X6_trial C dX6_doByChance_24 ?_
      refine g_iload_n C dX6_doByChance_27 1 rfl rfl ?_
      refine g_iconst C dX6_doByChance_28 (v := 5) (by decide) ?_
      refine g_isub C dX6_doByChance_29 ?_
      obtain ⟨z30, Mz30, h31, hq⟩ := obd_some hq
      refine gc_Vi C (k_X3_lower 1 (by decide) (x1 - (5 : Int32)) M Mz30 z30 h31) wl_426 ok_X3_lower (rv_X3 1 (by decide)) rfl ⟨Nat.le_of_ble_eq_true rfl, Nat.le_of_ble_eq_true rfl⟩ ⟨Nat.le_of_ble_eq_true rfl, Nat.le_of_ble_eq_true rfl⟩ rfl (Nat.le_of_ble_eq_true rfl) dX6_doByChance_30 ?_
      refine g_pop C dX6_doByChance_33 rfl ?_
      refine g_goto C (tgt := 67) dX6_doByChance_34 (by decide) ?_
      exact g_vret C dX6_doByChance_67 (congrArg (wC a cI cS) (som2 hq).2)
  · have hq := iq c23 hq
    refine g_aload_n C dX6_doByChance_5 0 rfl rfl ?_
    refine rg_X6_trial C dX6_doByChance_6 ?_
    refine g_iload_n C dX6_doByChance_9 1 rfl rfl ?_
    obtain ⟨z32, Mz32, h33, hq⟩ := obd_some hq
    refine gc_Vi C (k_X3_raise 1 (by decide) x1 M Mz32 z32 h33) wl_407 ok_X3_raise (rv_X3 1 (by decide)) rfl ⟨Nat.le_of_ble_eq_true rfl, Nat.le_of_ble_eq_true rfl⟩ ⟨Nat.le_of_ble_eq_true rfl, Nat.le_of_ble_eq_true rfl⟩ rfl (Nat.le_of_ble_eq_true rfl) dX6_doByChance_10 ?_
    refine g_pop C dX6_doByChance_13 rfl ?_
    refine g_goto C (tgt := 67) dX6_doByChance_14 (by decide) ?_
    exact g_vret C dX6_doByChance_67 (congrArg (wC a cI cS) (som2 hq).2)
set_option maxHeartbeats 4000000 in
set_option maxRecDepth 100000 in
theorem k_X6_weeks {l : Launch} {dC : Nat → ClassId} {dI : Nat → Nat → Nat} {a : Nat → Nat} {cI cZ cS : ClassId} (x1 : Int32) (M M2 : MM) (r : Int32) (hq : q_X6_weeks x1 M = some (r, M2)) : KQ l (dC, dI) vwCl (tyW cI cZ cS) yX6_weeks cX6_weeks 4 (some .int) 5 110 [.ref (a 0), .int x1] (wC a cI cS M) (qI (dC, dI) vwCl (wC a cI cS M2) r) := by
  refine KQ.of (by decide) (Nat.le_of_ble_eq_true rfl) rfl ?_
  intro p e s m args below meth c A0 C
  have L_29 : ∀ (f : Nat) (v2 : Int32) (v3 : Int32) (M : MM), q_X6_weeks_29 x1  f v2 v3 M = some (r, M2) → gG p l e ({ frames := 5, cells := 0, slots := 0, locals := 110 }) s m args below meth c 4 (dC, dI) vwCl A0 s.heap 0 0 (MQ below ((qI (dC, dI) vwCl (wC a cI cS M2) r) A0) args s 0 0 A0) (wC a cI cS M) 29 [(0, .ref (a 0)), (1, .int x1), (2, .int v2), (3, .int v3)] [] := by
    intro f
    induction f with
    | zero => intro v2 v3 M hq; cases hq
    | succ f_29 ih_29 =>
      intro v2 v3 M hq
      rw [q_X6_weeks_29] at hq
      refine g_iload_n C dX6_weeks_29 3 rfl rfl ?_
      refine g_iload_n C dX6_weeks_30 1 rfl rfl ?_
      refine g_icmp_ge C (tgt := 85) dX6_weeks_31 (by decide) (fun c13 => ?_) (fun c13 => ?_)
      · have hq := ip c13 hq
        refine g_iload_n C dX6_weeks_85 2 rfl rfl ?_
        exact g_iret C dX6_weeks_86 (som2 hq).1 (congrArg (wC a cI cS) (som2 hq).2)
      · have hq := iq c13 hq
        refine g_aload_n C dX6_weeks_34 0 rfl rfl ?_
        refine g_aload_n C dX6_weeks_35 0 rfl rfl ?_
        refine rg_X6_seedNow C dX6_weeks_36 ?_
        refine g_ldc2 C wl_633 dX6_weeks_39 ?_
        refine g_lmul C dX6_weeks_42 ?_
        refine g_ldc2 C wl_634 dX6_weeks_43 ?_
        refine g_ladd C dX6_weeks_46 ?_
        refine rp_X6_seedNow C dX6_weeks_47 ?_
        refine g_aload_n C dX6_weeks_50 0 rfl rfl ?_
        refine g_aload_n C dX6_weeks_51 0 rfl rfl ?_
        refine rg_X6_seedNow C dX6_weeks_52 ?_
        refine g_bipush C dX6_weeks_55 (v := 33) (by decide) ?_
        refine g_lushr C dX6_weeks_57 rfl ?_
        refine g_ldc2 C wl_635 dX6_weeks_58 ?_
        refine g_lrem C dX6_weeks_61 (by decide) ?_
        refine g_l2i C dX6_weeks_62 rfl ?_
        obtain ⟨z14, Mz14, h15, hq⟩ := obd_some hq
        refine gc_Vv C (k_X6_doByChance (((((mL M ((M.2 * (6364136223846793005 : Int64)) + (1442695040888963407 : Int64))).2.toUInt64 >>> ((33 : Int32).toInt64.toUInt64 &&& Int64.toUInt64 63)).toInt64) - (((mL M ((M.2 * (6364136223846793005 : Int64)) + (1442695040888963407 : Int64))).2.toUInt64 >>> ((33 : Int32).toInt64.toUInt64 &&& Int64.toUInt64 63)).toInt64) / (24 : Int64) * (24 : Int64)).toInt32) (mL M ((M.2 * (6364136223846793005 : Int64)) + (1442695040888963407 : Int64))) Mz14 z14 h15) wl_636 ok_X6_doByChance rv_X6 rfl ⟨Nat.le_of_ble_eq_true rfl, Nat.le_of_ble_eq_true rfl⟩ ⟨Nat.le_of_ble_eq_true rfl, Nat.le_of_ble_eq_true rfl⟩ rfl (Nat.le_of_ble_eq_true rfl) dX6_weeks_63 ?_
        refine g_iload_n C dX6_weeks_66 2 rfl rfl ?_
        refine g_aload_n C dX6_weeks_67 0 rfl rfl ?_
        refine rg_X6_trial C dX6_weeks_68 ?_
        obtain ⟨z16, Mz16, h17, hq⟩ := obd_some hq
        refine gc_Vi C (k_X3_rainBits 1 (by decide) Mz14 Mz16 z16 h17) wl_299 ok_X3_rainBits (rv_X3 1 (by decide)) rfl ⟨Nat.le_of_ble_eq_true rfl, Nat.le_of_ble_eq_true rfl⟩ ⟨Nat.le_of_ble_eq_true rfl, Nat.le_of_ble_eq_true rfl⟩ rfl (Nat.le_of_ble_eq_true rfl) dX6_weeks_71 ?_
        refine gc_Si C (k_J6_bitCount_0f7a4 z16 Mz16) wl_528 ok_J6_bitCount_0f7a4 ⟨Nat.le_of_ble_eq_true rfl, Nat.le_of_ble_eq_true rfl⟩ ⟨Nat.le_of_ble_eq_true rfl, Nat.le_of_ble_eq_true rfl⟩ rfl (Nat.le_of_ble_eq_true rfl) dX6_weeks_74 ?_
        refine g_iadd C dX6_weeks_77 ?_
        refine g_istore_n C (lv2 := [(2, _), (0, _), (1, _), (3, _)]) dX6_weeks_78 rfl (by decide) rfl ?_
        refine g_iinc C (v := (v3 + (1 : Int32))) (lv2 := [(3, _), (2, _), (0, _), (1, _)]) dX6_weeks_79 3 rfl rfl (by decide) rfl ?_
        refine g_goto C (tgt := 29) dX6_weeks_82 (by decide) ?_
        exact g_sub [2, 3, 1, 0] rfl (ih_29 (v2 + (t_J6_bitCount_0f7a4 z16)) (v3 + (1 : Int32)) Mz16 hq)
  unfold q_X6_weeks at hq
  refine g_iload_n C dX6_weeks_0 1 rfl rfl ?_
  refine g_iconst C dX6_weeks_1 (v := 1) (by decide) ?_
  refine g_icmp_lt C (tgt := 11) dX6_weeks_2 (by decide) (fun c20 => ?_) (fun c20 => ?_)
  · have hq := ip c20 hq
    refine g_bipush C dX6_weeks_11 (v := -2) (by decide) ?_
    exact g_iret C dX6_weeks_13 (som2 hq).1 (congrArg (wC a cI cS) (som2 hq).2)
  · have hq := iq c20 hq
    refine g_iload_n C dX6_weeks_5 1 rfl rfl ?_
    refine g_bipush C dX6_weeks_6 (v := 30) (by decide) ?_
    refine g_icmp_le C (tgt := 14) dX6_weeks_8 (by decide) (fun c21 => ?_) (fun c21 => ?_)
    · have hq := ip c21 hq
      refine g_aload_n C dX6_weeks_14 0 rfl rfl ?_
      refine rg_X6_trial C dX6_weeks_15 ?_
      refine g_aload_n C dX6_weeks_18 0 rfl rfl ?_
      refine rg_X6_now C dX6_weeks_19 ?_
      refine gc_Vv C (k_X3_copy 1 (by decide) 0 (by decide) M) wl_478 ok_X3_copy (rv_X3 1 (by decide)) rfl ⟨Nat.le_of_ble_eq_true rfl, Nat.le_of_ble_eq_true rfl⟩ ⟨Nat.le_of_ble_eq_true rfl, Nat.le_of_ble_eq_true rfl⟩ rfl (Nat.le_of_ble_eq_true rfl) dX6_weeks_22 ?_
      refine g_iconst C dX6_weeks_25 (v := 0) (by decide) ?_
      refine g_istore_n C (lv2 := [(2, _), (0, _), (1, _)]) dX6_weeks_26 rfl (by decide) rfl ?_
      refine g_iconst C dX6_weeks_27 (v := 0) (by decide) ?_
      refine g_istore_n C (lv2 := [(3, _), (2, _), (0, _), (1, _)]) dX6_weeks_28 rfl (by decide) rfl ?_
      exact g_sub [2, 3, 1, 0] rfl (L_29 FU (0 : Int32) (0 : Int32) (mR M (9 + 1) (M.1 (9 + 0))) hq)
    · have hq := iq c21 hq
      refine g_bipush C dX6_weeks_11 (v := -2) (by decide) ?_
      exact g_iret C dX6_weeks_13 (som2 hq).1 (congrArg (wC a cI cS) (som2 hq).2)
set_option maxHeartbeats 4000000 in
set_option maxRecDepth 100000 in
theorem k_X6_isSlot {l : Launch} {dC : Nat → ClassId} {dI : Nat → Nat → Nat} {a : Nat → Nat} {cI cZ cS : ClassId} (x0 : Int32) (M : MM) : KQ l (dC, dI) vwCl (tyW cI cZ cS) yX6_isSlot cX6_isSlot 1 (some .boolean) 0 0 [.int x0] (wC a cI cS M) (qI (dC, dI) vwCl (wC a cI cS M) (b2i (t_X6_isSlot x0))) := by
  generalize hq : t_X6_isSlot x0 = r
  refine KQ.of (by decide) (Nat.le_of_ble_eq_true rfl) rfl ?_
  intro p e s m args below meth c A0 C
  unfold t_X6_isSlot at hq
  refine g_iload_n C dX6_isSlot_0 0 rfl rfl ?_
  refine g_if_lt C (tgt := 13) dX6_isSlot_1 (by decide) (fun c5 => ?_) (fun c5 => ?_)
  · have hq := ip c5 hq
    refine g_iconst C dX6_isSlot_13 (v := 0) (by decide) ?_
    exact g_zret C dX6_isSlot_14 (Or.inl rfl) (congrArg b2i hq) rfl
  · have hq := iq c5 hq
    refine g_iload_n C dX6_isSlot_4 0 rfl rfl ?_
    refine g_iconst C dX6_isSlot_5 (v := 2) (by decide) ?_
    refine g_icmp_ge C (tgt := 13) dX6_isSlot_6 (by decide) (fun c6 => ?_) (fun c6 => ?_)
    · have hq := ip c6 hq
      refine g_iconst C dX6_isSlot_13 (v := 0) (by decide) ?_
      exact g_zret C dX6_isSlot_14 (Or.inl rfl) (congrArg b2i hq) rfl
    · have hq := iq c6 hq
      refine g_iconst C dX6_isSlot_9 (v := 1) (by decide) ?_
      refine g_goto C (tgt := 14) dX6_isSlot_10 (by decide) ?_
      exact g_zret C dX6_isSlot_14 (Or.inr rfl) (congrArg b2i hq) rfl
set_option maxHeartbeats 4000000 in
set_option maxRecDepth 100000 in
theorem k_X6_keep {l : Launch} {dC : Nat → ClassId} {dI : Nat → Nat → Nat} {a : Nat → Nat} {cI cZ cS : ClassId} (x1 : Int32) (M M2 : MM) (r : Int32) (hq : q_X6_keep x1 M = some (r, M2)) : KQ l (dC, dI) vwCl (tyW cI cZ cS) yX6_keep cX6_keep 2 (some .int) 3 84 [.ref (a 0), .int x1] (wC a cI cS M) (qI (dC, dI) vwCl (wC a cI cS M2) r) := by
  refine KQ.of (by decide) (Nat.le_of_ble_eq_true rfl) rfl ?_
  intro p e s m args below meth c A0 C
  unfold q_X6_keep at hq
  refine g_iload_n C dX6_keep_0 1 rfl rfl ?_
  refine gc_Si C (k_X6_isSlot x1 M) wl_644 ok_X6_isSlot ⟨Nat.le_of_ble_eq_true rfl, Nat.le_of_ble_eq_true rfl⟩ ⟨Nat.le_of_ble_eq_true rfl, Nat.le_of_ble_eq_true rfl⟩ rfl (Nat.le_of_ble_eq_true rfl) dX6_keep_1 ?_
  refine g_if_ne C (tgt := 9) dX6_keep_4 (by decide) (fun c7 => ?_) (fun c7 => ?_)
  · have hq := iq c7 hq
    refine g_aload_n C dX6_keep_9 0 rfl rfl ?_
    refine rg_X6_slots C dX6_keep_10 ?_
    refine g_iload_n C dX6_keep_13 1 rfl rfl ?_
    refine g_aload_n C dX6_keep_14 0 rfl rfl ?_
    refine rg_X6_now C dX6_keep_15 ?_
    obtain ⟨z8, Mz8, h9, hq⟩ := obd_some hq
    refine gc_Vv C (k_X5_store x1 0 (by decide) M Mz8 z8 h9) wl_647 ok_X5_store rv_X5 rfl ⟨Nat.le_of_ble_eq_true rfl, Nat.le_of_ble_eq_true rfl⟩ ⟨Nat.le_of_ble_eq_true rfl, Nat.le_of_ble_eq_true rfl⟩ rfl (Nat.le_of_ble_eq_true rfl) dX6_keep_18 ?_
    refine g_aload_n C dX6_keep_21 0 rfl rfl ?_
    refine rg_X6_now C dX6_keep_22 ?_
    refine gc_Vi C (k_X3_time 0 (by decide) Mz8) wl_291 ok_X3_time (rv_X3 0 (by decide)) rfl ⟨Nat.le_of_ble_eq_true rfl, Nat.le_of_ble_eq_true rfl⟩ ⟨Nat.le_of_ble_eq_true rfl, Nat.le_of_ble_eq_true rfl⟩ rfl (Nat.le_of_ble_eq_true rfl) dX6_keep_25 ?_
    exact g_iret C dX6_keep_28 (som2 hq).1 (congrArg (wC a cI cS) (som2 hq).2)
  · have hq := ip c7 hq
    refine g_iconst C dX6_keep_7 (v := -1) (by decide) ?_
    exact g_iret C dX6_keep_8 (som2 hq).1 (congrArg (wC a cI cS) (som2 hq).2)
set_option maxHeartbeats 4000000 in
set_option maxRecDepth 100000 in
theorem k_X6_again {l : Launch} {dC : Nat → ClassId} {dI : Nat → Nat → Nat} {a : Nat → Nat} {cI cZ cS : ClassId} (x1 : Int32) (M M2 : MM) (r : Int32) (hq : q_X6_again x1 M = some (r, M2)) : KQ l (dC, dI) vwCl (tyW cI cZ cS) yX6_again cX6_again 2 (some .int) 3 84 [.ref (a 0), .int x1] (wC a cI cS M) (qI (dC, dI) vwCl (wC a cI cS M2) r) := by
  refine KQ.of (by decide) (Nat.le_of_ble_eq_true rfl) rfl ?_
  intro p e s m args below meth c A0 C
  unfold q_X6_again at hq
  refine g_iload_n C dX6_again_0 1 rfl rfl ?_
  refine gc_Si C (k_X6_isSlot x1 M) wl_644 ok_X6_isSlot ⟨Nat.le_of_ble_eq_true rfl, Nat.le_of_ble_eq_true rfl⟩ ⟨Nat.le_of_ble_eq_true rfl, Nat.le_of_ble_eq_true rfl⟩ rfl (Nat.le_of_ble_eq_true rfl) dX6_again_1 ?_
  refine g_if_ne C (tgt := 9) dX6_again_4 (by decide) (fun c13 => ?_) (fun c13 => ?_)
  · have hq := iq c13 hq
    refine g_aload_n C dX6_again_9 0 rfl rfl ?_
    refine rg_X6_slots C dX6_again_10 ?_
    refine g_iload_n C dX6_again_13 1 rfl rfl ?_
    refine g_aload_n C dX6_again_14 0 rfl rfl ?_
    refine rg_X6_now C dX6_again_15 ?_
    obtain ⟨z14, Mz14, h15, hq⟩ := obd_some hq
    refine gc_Vi C (k_X5_fetch x1 0 (by decide) M Mz14 z14 h15) wl_657 ok_X5_fetch rv_X5 rfl ⟨Nat.le_of_ble_eq_true rfl, Nat.le_of_ble_eq_true rfl⟩ ⟨Nat.le_of_ble_eq_true rfl, Nat.le_of_ble_eq_true rfl⟩ rfl (Nat.le_of_ble_eq_true rfl) dX6_again_18 ?_
    refine g_if_ne C (tgt := 27) dX6_again_21 (by decide) (fun c16 => ?_) (fun c16 => ?_)
    · have hq := iq c16 hq
      refine g_aload_n C dX6_again_27 0 rfl rfl ?_
      refine rg_X6_past C dX6_again_28 ?_
      obtain ⟨z17, Mz17, h18, hq⟩ := obd_some hq
      refine gc_Vv C (k_X1_clear  Mz14 Mz17 z17 h18) wl_271 ok_X1_clear rv_X1 rfl ⟨Nat.le_of_ble_eq_true rfl, Nat.le_of_ble_eq_true rfl⟩ ⟨Nat.le_of_ble_eq_true rfl, Nat.le_of_ble_eq_true rfl⟩ rfl (Nat.le_of_ble_eq_true rfl) dX6_again_31 ?_
      refine g_aload_n C dX6_again_34 0 rfl rfl ?_
      refine rg_X6_now C dX6_again_35 ?_
      refine gc_Vi C (k_X3_time 0 (by decide) Mz17) wl_291 ok_X3_time (rv_X3 0 (by decide)) rfl ⟨Nat.le_of_ble_eq_true rfl, Nat.le_of_ble_eq_true rfl⟩ ⟨Nat.le_of_ble_eq_true rfl, Nat.le_of_ble_eq_true rfl⟩ rfl (Nat.le_of_ble_eq_true rfl) dX6_again_38 ?_
      exact g_iret C dX6_again_41 (som2 hq).1 (congrArg (wC a cI cS) (som2 hq).2)
    · have hq := ip c16 hq
      refine g_bipush C dX6_again_24 (v := -3) (by decide) ?_
      exact g_iret C dX6_again_26 (som2 hq).1 (congrArg (wC a cI cS) (som2 hq).2)
  · have hq := ip c13 hq
    refine g_iconst C dX6_again_7 (v := -1) (by decide) ?_
    exact g_iret C dX6_again_8 (som2 hq).1 (congrArg (wC a cI cS) (som2 hq).2)
set_option maxHeartbeats 4000000 in
set_option maxRecDepth 100000 in
theorem k_X7_in {l : Launch} {dC : Nat → ClassId} {dI : Nat → Nat → Nat} {a : Nat → Nat} {cI cZ cS : ClassId} (x0 : Int64) (x2 : Int64) (x4 : Int64) (M : MM) : KQ l (dC, dI) vwCl (tyW cI cZ cS) yX7_in cX7_in 6 (some .boolean) 0 0 [.long x0, .long x2, .long x4] (wD a cI cZ M) (qI (dC, dI) vwCl (wD a cI cZ M) (b2i (t_X7_in x0 x2 x4))) := by
  generalize hq : t_X7_in x0 x2 x4 = r
  refine KQ.of (by decide) (Nat.le_of_ble_eq_true rfl) rfl ?_
  intro p e s m args below meth c A0 C
  unfold t_X7_in at hq
  refine g_lload_n C dX7_in_0 0 rfl rfl ?_
  refine g_lload_n C dX7_in_1 1 rfl rfl ?_
  refine g_lcmp C dX7_in_2 ?_
  refine g_if_lt C (tgt := 17) dX7_in_3 (by decide) (fun c5 => ?_) (fun c5 => ?_)
  · have hq := ip c5 hq
    refine g_iconst C dX7_in_17 (v := 0) (by decide) ?_
    exact g_zret C dX7_in_18 (Or.inl rfl) (congrArg b2i hq) rfl
  · have hq := iq c5 hq
    refine g_lload_n C dX7_in_6 0 rfl rfl ?_
    refine g_lload C dX7_in_7 2 rfl ?_
    refine g_lcmp C dX7_in_9 ?_
    refine g_if_gt C (tgt := 17) dX7_in_10 (by decide) (fun c6 => ?_) (fun c6 => ?_)
    · have hq := ip c6 hq
      refine g_iconst C dX7_in_17 (v := 0) (by decide) ?_
      exact g_zret C dX7_in_18 (Or.inl rfl) (congrArg b2i hq) rfl
    · have hq := iq c6 hq
      refine g_iconst C dX7_in_13 (v := 1) (by decide) ?_
      refine g_goto C (tgt := 18) dX7_in_14 (by decide) ?_
      exact g_zret C dX7_in_18 (Or.inr rfl) (congrArg b2i hq) rfl
set_option maxHeartbeats 4000000 in
set_option maxRecDepth 100000 in
theorem k_X7_has {l : Launch} {dC : Nat → ClassId} {dI : Nat → Nat → Nat} {a : Nat → Nat} {cI cZ cS : ClassId} (x0 : Int32) (x1 : Int32) (M : MM) : KQ l (dC, dI) vwCl (tyW cI cZ cS) yX7_has cX7_has 2 (some .boolean) 0 0 [.int x0, .int x1] (wD a cI cZ M) (qI (dC, dI) vwCl (wD a cI cZ M) (b2i (t_X7_has x0 x1))) := by
  generalize hq : t_X7_has x0 x1 = r
  refine KQ.of (by decide) (Nat.le_of_ble_eq_true rfl) rfl ?_
  intro p e s m args below meth c A0 C
  unfold t_X7_has at hq
  refine g_iload_n C dX7_has_0 0 rfl rfl ?_
  refine g_iload_n C dX7_has_1 1 rfl rfl ?_
  refine g_ishr C dX7_has_2 ?_
  refine g_iconst C dX7_has_3 (v := 1) (by decide) ?_
  refine g_iand C dX7_has_4 ?_
  refine g_iconst C dX7_has_5 (v := 1) (by decide) ?_
  refine g_icmp_ne C (tgt := 13) dX7_has_6 (by decide) (fun c3 => ?_) (fun c3 => ?_)
  · have hq := iq c3 hq
    refine g_iconst C dX7_has_13 (v := 0) (by decide) ?_
    exact g_zret C dX7_has_14 (Or.inl rfl) (congrArg b2i hq) rfl
  · have hq := ip c3 hq
    refine g_iconst C dX7_has_9 (v := 1) (by decide) ?_
    refine g_goto C (tgt := 14) dX7_has_10 (by decide) ?_
    exact g_zret C dX7_has_14 (Or.inr rfl) (congrArg b2i hq) rfl
set_option maxHeartbeats 4000000 in
set_option maxRecDepth 100000 in
theorem k_X7_many {l : Launch} {dC : Nat → ClassId} {dI : Nat → Nat → Nat} {a : Nat → Nat} {cI cZ cS : ClassId} (x0 : Int32) (M M2 : MM) (r : Int32) (hq : q_X7_many x0 M = some (r, M2)) : KQ l (dC, dI) vwCl (tyW cI cZ cS) yX7_many cX7_many 3 (some .int) 0 0 [.int x0] (wD a cI cZ M) (qI (dC, dI) vwCl (wD a cI cZ M2) r) := by
  refine KQ.of (by decide) (Nat.le_of_ble_eq_true rfl) rfl ?_
  intro p e s m args below meth c A0 C
  have L_4 : ∀ (f : Nat) (v1 : Int32) (v2 : Int32) (M : MM), q_X7_many_4 x0  f v1 v2 M = some (r, M2) → gG p l e ({ frames := 0, cells := 0, slots := 0, locals := 0 }) s m args below meth c 3 (dC, dI) vwCl A0 s.heap 0 0 (MQ below ((qI (dC, dI) vwCl (wD a cI cZ M2) r) A0) args s 0 0 A0) (wD a cI cZ M) 4 [(0, .int x0), (1, .int v1), (2, .int v2)] [] := by
    intro f
    induction f with
    | zero => intro v1 v2 M hq; cases hq
    | succ f_4 ih_4 =>
      intro v1 v2 M hq
      rw [q_X7_many_4] at hq
      refine g_iload_n C dX7_many_4 2 rfl rfl ?_
      refine g_bipush C dX7_many_5 (v := 6) (by decide) ?_
      refine g_icmp_ge C (tgt := 24) dX7_many_7 (by decide) (fun c3 => ?_) (fun c3 => ?_)
      · have hq := ip c3 hq
        refine g_iload_n C dX7_many_24 1 rfl rfl ?_
        exact g_iret C dX7_many_25 (som2 hq).1 (congrArg (wD a cI cZ) (som2 hq).2)
      · have hq := iq c3 hq
        refine g_iload_n C dX7_many_10 1 rfl rfl ?_
        refine g_iload_n C dX7_many_11 0 rfl rfl ?_
        refine g_iload_n C dX7_many_12 2 rfl rfl ?_
        refine g_ishr C dX7_many_13 ?_
        refine g_iconst C dX7_many_14 (v := 1) (by decide) ?_
        refine g_iand C dX7_many_15 ?_
        refine g_iadd C dX7_many_16 ?_
        refine g_istore_n C (lv2 := [(1, _), (0, _), (2, _)]) dX7_many_17 rfl (by decide) rfl ?_
        refine g_iinc C (v := (v2 + (1 : Int32))) (lv2 := [(2, _), (1, _), (0, _)]) dX7_many_18 2 rfl rfl (by decide) rfl ?_
        refine g_goto C (tgt := 4) dX7_many_21 (by decide) ?_
        exact g_sub [2, 1, 0] rfl (ih_4 (v1 + ((x0 >>> (v2 &&& 31)) &&& (1 : Int32))) (v2 + (1 : Int32)) M hq)
  unfold q_X7_many at hq
  refine g_iconst C dX7_many_0 (v := 0) (by decide) ?_
  refine g_istore_n C (lv2 := [(1, _), (0, _)]) dX7_many_1 rfl (by decide) rfl ?_
  refine g_iconst C dX7_many_2 (v := 0) (by decide) ?_
  refine g_istore_n C (lv2 := [(2, _), (1, _), (0, _)]) dX7_many_3 rfl (by decide) rfl ?_
  exact g_sub [2, 1, 0] rfl (L_4 FU (0 : Int32) (0 : Int32) M hq)
set_option maxHeartbeats 4000000 in
set_option maxRecDepth 100000 in
theorem k_X7_power {l : Launch} {dC : Nat → ClassId} {dI : Nat → Nat → Nat} {a : Nat → Nat} {cI cZ cS : ClassId} (x0 : Int32) (x1 : Int32) (M M2 : MM) (r : Int32) (hq : q_X7_power x0 x1 M = some (r, M2)) : KQ l (dC, dI) vwCl (tyW cI cZ cS) yX7_power cX7_power 4 (some .int) 0 0 [.int x0, .int x1] (wD a cI cZ M) (qI (dC, dI) vwCl (wD a cI cZ M2) r) := by
  refine KQ.of (by decide) (Nat.le_of_ble_eq_true rfl) rfl ?_
  intro p e s m args below meth c A0 C
  have L_4 : ∀ (f : Nat) (v2 : Int32) (v3 : Int32) (M : MM), q_X7_power_4 x0 x1  f v2 v3 M = some (r, M2) → gG p l e ({ frames := 0, cells := 0, slots := 0, locals := 0 }) s m args below meth c 4 (dC, dI) vwCl A0 s.heap 0 0 (MQ below ((qI (dC, dI) vwCl (wD a cI cZ M2) r) A0) args s 0 0 A0) (wD a cI cZ M) 4 [(0, .int x0), (1, .int x1), (2, .int v2), (3, .int v3)] [] := by
    intro f
    induction f with
    | zero => intro v2 v3 M hq; cases hq
    | succ f_4 ih_4 =>
      intro v2 v3 M hq
      rw [q_X7_power_4] at hq
      refine g_iload_n C dX7_power_4 3 rfl rfl ?_
      refine g_iload_n C dX7_power_5 1 rfl rfl ?_
      refine g_icmp_ge C (tgt := 19) dX7_power_6 (by decide) (fun c3 => ?_) (fun c3 => ?_)
      · have hq := ip c3 hq
        refine g_iload_n C dX7_power_19 2 rfl rfl ?_
        exact g_iret C dX7_power_20 (som2 hq).1 (congrArg (wD a cI cZ) (som2 hq).2)
      · have hq := iq c3 hq
        refine g_iload_n C dX7_power_9 2 rfl rfl ?_
        refine g_iload_n C dX7_power_10 0 rfl rfl ?_
        refine g_imul C dX7_power_11 ?_
        refine g_istore_n C (lv2 := [(2, _), (0, _), (1, _), (3, _)]) dX7_power_12 rfl (by decide) rfl ?_
        refine g_iinc C (v := (v3 + (1 : Int32))) (lv2 := [(3, _), (2, _), (0, _), (1, _)]) dX7_power_13 3 rfl rfl (by decide) rfl ?_
        refine g_goto C (tgt := 4) dX7_power_16 (by decide) ?_
        exact g_sub [2, 3, 1, 0] rfl (ih_4 (v2 * x0) (v3 + (1 : Int32)) M hq)
  unfold q_X7_power at hq
  refine g_iconst C dX7_power_0 (v := 1) (by decide) ?_
  refine g_istore_n C (lv2 := [(2, _), (0, _), (1, _)]) dX7_power_1 rfl (by decide) rfl ?_
  refine g_iconst C dX7_power_2 (v := 0) (by decide) ?_
  refine g_istore_n C (lv2 := [(3, _), (2, _), (0, _), (1, _)]) dX7_power_3 rfl (by decide) rfl ?_
  exact g_sub [2, 3, 1, 0] rfl (L_4 FU (1 : Int32) (0 : Int32) M hq)
set_option maxHeartbeats 4000000 in
set_option maxRecDepth 100000 in
theorem k_X7_noWalker {l : Launch} {dC : Nat → ClassId} {dI : Nat → Nat → Nat} {a : Nat → Nat} {cI cZ cS : ClassId} (x1 : Int32) (M : MM) : KQ l (dC, dI) vwCl (tyW cI cZ cS) yX7_noWalker cX7_noWalker 2 (some .boolean) 1 25 [.ref (a 0), .int x1] (wD a cI cZ M) (qI (dC, dI) vwCl (wD a cI cZ M) (b2i (t_X7_noWalker x1 M))) := by
  generalize hq : t_X7_noWalker x1 M = r
  refine KQ.of (by decide) (Nat.le_of_ble_eq_true rfl) rfl ?_
  intro p e s m args below meth c A0 C
  unfold t_X7_noWalker at hq
  refine g_iload_n C dX7_noWalker_0 1 rfl rfl ?_
  refine g_i2l C dX7_noWalker_1 rfl ?_
  refine g_lconst C dX7_noWalker_2 (v := 0) (by decide) ?_
  refine g_aload_n C dX7_noWalker_3 0 rfl rfl ?_
  refine rg_X7_walkers C dX7_noWalker_4 ?_
  refine g_iconst C dX7_noWalker_7 (v := 1) (by decide) ?_
  refine g_isub C dX7_noWalker_8 ?_
  refine g_i2l C dX7_noWalker_9 rfl ?_
  refine gc_Si C (k_X7_in (x1.toInt64) (0 : Int64) (((M.1 0 3) - (1 : Int32)).toInt64) M) wl_768 ok_X7_in ⟨Nat.le_of_ble_eq_true rfl, Nat.le_of_ble_eq_true rfl⟩ ⟨Nat.le_of_ble_eq_true rfl, Nat.le_of_ble_eq_true rfl⟩ rfl (Nat.le_of_ble_eq_true rfl) dX7_noWalker_10 ?_
  refine g_if_ne C (tgt := 20) dX7_noWalker_13 (by decide) (fun c3 => ?_) (fun c3 => ?_)
  · have hq := iq c3 hq
    refine g_iconst C dX7_noWalker_20 (v := 0) (by decide) ?_
    exact g_zret C dX7_noWalker_21 (Or.inl rfl) (congrArg b2i hq) rfl
  · have hq := ip c3 hq
    refine g_iconst C dX7_noWalker_16 (v := 1) (by decide) ?_
    refine g_goto C (tgt := 21) dX7_noWalker_17 (by decide) ?_
    exact g_zret C dX7_noWalker_21 (Or.inr rfl) (congrArg b2i hq) rfl
set_option maxHeartbeats 4000000 in
set_option maxRecDepth 100000 in
theorem k_X7_noStreet {l : Launch} {dC : Nat → ClassId} {dI : Nat → Nat → Nat} {a : Nat → Nat} {cI cZ cS : ClassId} (x0 : Int32) (M : MM) : KQ l (dC, dI) vwCl (tyW cI cZ cS) yX7_noStreet cX7_noStreet 1 (some .boolean) 1 25 [.int x0] (wD a cI cZ M) (qI (dC, dI) vwCl (wD a cI cZ M) (b2i (t_X7_noStreet x0))) := by
  generalize hq : t_X7_noStreet x0 = r
  refine KQ.of (by decide) (Nat.le_of_ble_eq_true rfl) rfl ?_
  intro p e s m args below meth c A0 C
  unfold t_X7_noStreet at hq
  refine g_iload_n C dX7_noStreet_0 0 rfl rfl ?_
  refine g_i2l C dX7_noStreet_1 rfl ?_
  refine g_lconst C dX7_noStreet_2 (v := 0) (by decide) ?_
  refine g_ldc2 C wl_846 dX7_noStreet_3 ?_
  refine gc_Si C (k_X7_in (x0.toInt64) (0 : Int64) (5 : Int64) M) wl_768 ok_X7_in ⟨Nat.le_of_ble_eq_true rfl, Nat.le_of_ble_eq_true rfl⟩ ⟨Nat.le_of_ble_eq_true rfl, Nat.le_of_ble_eq_true rfl⟩ rfl (Nat.le_of_ble_eq_true rfl) dX7_noStreet_6 ?_
  refine g_if_ne C (tgt := 16) dX7_noStreet_9 (by decide) (fun c3 => ?_) (fun c3 => ?_)
  · have hq := iq c3 hq
    refine g_iconst C dX7_noStreet_16 (v := 0) (by decide) ?_
    exact g_zret C dX7_noStreet_17 (Or.inl rfl) (congrArg b2i hq) rfl
  · have hq := ip c3 hq
    refine g_iconst C dX7_noStreet_12 (v := 1) (by decide) ?_
    refine g_goto C (tgt := 17) dX7_noStreet_13 (by decide) ?_
    exact g_zret C dX7_noStreet_17 (Or.inr rfl) (congrArg b2i hq) rfl
set_option maxHeartbeats 4000000 in
set_option maxRecDepth 100000 in
theorem k_X7_write {l : Launch} {dC : Nat → ClassId} {dI : Nat → Nat → Nat} {a : Nat → Nat} {cI cZ cS : ClassId} (x1 : Int32) (M M2 : MM) (r : Int32) (hq : q_X7_write x1 M = some (r, M2)) : KQ l (dC, dI) vwCl (tyW cI cZ cS) yX7_write cX7_write 2 (some .int) 1 25 [.ref (a 0), .int x1] (wD a cI cZ M) (qI (dC, dI) vwCl (wD a cI cZ M2) r) := by
  refine KQ.of (by decide) (Nat.le_of_ble_eq_true rfl) rfl ?_
  intro p e s m args below meth c A0 C
  unfold q_X7_write at hq
  refine g_aload_n C dX7_write_0 0 rfl rfl ?_
  refine g_iconst C dX7_write_1 (v := 0) (by decide) ?_
  refine rp_X7_thrown C dX7_write_2 ?_
  refine g_iload_n C dX7_write_5 1 rfl rfl ?_
  refine g_i2l C dX7_write_6 rfl ?_
  refine g_lconst C dX7_write_7 (v := 0) (by decide) ?_
  refine g_ldc2 C wl_767 dX7_write_8 ?_
  refine gc_Si C (k_X7_in (x1.toInt64) (0 : Int64) (255 : Int64) (mU M 0 0 (0 : Int32))) wl_768 ok_X7_in ⟨Nat.le_of_ble_eq_true rfl, Nat.le_of_ble_eq_true rfl⟩ ⟨Nat.le_of_ble_eq_true rfl, Nat.le_of_ble_eq_true rfl⟩ rfl (Nat.le_of_ble_eq_true rfl) dX7_write_11 ?_
  refine g_if_ne C (tgt := 20) dX7_write_14 (by decide) (fun c7 => ?_) (fun c7 => ?_)
  · have hq := iq c7 hq
    refine g_aload_n C dX7_write_20 0 rfl rfl ?_
    refine rg_X7_textSize C dX7_write_21 ?_
    refine g_bipush C dX7_write_24 (v := 48) (by decide) ?_
    refine g_icmp_ne C (tgt := 32) dX7_write_26 (by decide) (fun c8 => ?_) (fun c8 => ?_)
    · have hq := iq c8 hq
      refine g_aload_n C dX7_write_32 0 rfl rfl ?_
      refine rg_X7_text C dX7_write_33 ?_
      refine g_aload_n C dX7_write_36 0 rfl rfl ?_
      refine rg_X7_textSize C dX7_write_37 ?_
      refine g_iload_n C dX7_write_40 1 rfl rfl ?_
      obtain ⟨h9, hq⟩ := ogd_some hq
      refine gb_st C (show arD 1 48 from ⟨by decide, by decide, by decide, by decide⟩) h9 dX7_write_41 ?_
      refine g_aload_n C dX7_write_42 0 rfl rfl ?_
      refine g_dup C dX7_write_43 rfl ?_
      refine rg_X7_textSize C dX7_write_44 ?_
      refine g_iconst C dX7_write_47 (v := 1) (by decide) ?_
      refine g_iadd C dX7_write_48 ?_
      refine rp_X7_textSize C dX7_write_49 ?_
      refine g_aload_n C dX7_write_52 0 rfl rfl ?_
      refine rg_X7_textSize C dX7_write_53 ?_
      exact g_iret C dX7_write_56 (som2 hq).1 (congrArg (wD a cI cZ) (som2 hq).2)
    · have hq := ip c8 hq
      refine g_bipush C dX7_write_29 (v := -4) (by decide) ?_
      exact g_iret C dX7_write_31 (som2 hq).1 (congrArg (wD a cI cZ) (som2 hq).2)
  · have hq := ip c7 hq
    refine g_bipush C dX7_write_17 (v := -2) (by decide) ?_
    exact g_iret C dX7_write_19 (som2 hq).1 (congrArg (wD a cI cZ) (som2 hq).2)
set_option maxHeartbeats 4000000 in
set_option maxRecDepth 100000 in
theorem k_X7_wipe {l : Launch} {dC : Nat → ClassId} {dI : Nat → Nat → Nat} {a : Nat → Nat} {cI cZ cS : ClassId}  (M M2 : MM) (r : Int32) (hq : q_X7_wipe  M = some (r, M2)) : KQ l (dC, dI) vwCl (tyW cI cZ cS) yX7_wipe cX7_wipe 2 (some .int) 0 0 [.ref (a 0)] (wD a cI cZ M) (qI (dC, dI) vwCl (wD a cI cZ M2) r) := by
  refine KQ.of (by decide) (Nat.le_of_ble_eq_true rfl) rfl ?_
  intro p e s m args below meth c A0 C
  unfold q_X7_wipe at hq
  refine g_aload_n C dX7_wipe_0 0 rfl rfl ?_
  refine g_iconst C dX7_wipe_1 (v := 0) (by decide) ?_
  refine rp_X7_thrown C dX7_wipe_2 ?_
  refine g_aload_n C dX7_wipe_5 0 rfl rfl ?_
  refine rg_X7_textSize C dX7_wipe_6 ?_
  refine g_istore_n C (lv2 := [(1, _), (0, _)]) dX7_wipe_9 rfl (by decide) rfl ?_
  refine g_aload_n C dX7_wipe_10 1 rfl rfl ?_
  refine g_iconst C dX7_wipe_11 (v := 0) (by decide) ?_
  refine rp_X7_textSize C dX7_wipe_12 ?_
  refine g_iload_n C dX7_wipe_15 0 rfl rfl ?_
  exact g_iret C dX7_wipe_16 (som2 hq).1 (congrArg (wD a cI cZ) (som2 hq).2)
set_option maxHeartbeats 4000000 in
set_option maxRecDepth 100000 in
theorem k_X7_figure {l : Launch} {dC : Nat → ClassId} {dI : Nat → Nat → Nat} {a : Nat → Nat} {cI cZ cS : ClassId} (x1 : Int32) (x2 : Int32) (M M2 : MM) (r : Int32) (hq : q_X7_figure x1 x2 M = some (r, M2)) : KQ l (dC, dI) vwCl (tyW cI cZ cS) yX7_figure cX7_figure 3 (some .int) 1 25 [.ref (a 0), .int x1, .int x2] (wD a cI cZ M) (qI (dC, dI) vwCl (wD a cI cZ M2) r) := by
  refine KQ.of (by decide) (Nat.le_of_ble_eq_true rfl) rfl ?_
  intro p e s m args below meth c A0 C
  unfold q_X7_figure at hq
  refine g_aload_n C dX7_figure_0 0 rfl rfl ?_
  refine rg_X7_place C dX7_figure_1 ?_
  refine g_aload_n C dX7_figure_4 0 rfl rfl ?_
  refine rg_X7_textSize C dX7_figure_5 ?_
  refine g_icmp_eq C (tgt := 34) dX7_figure_8 (by decide) (fun c9 => ?_) (fun c9 => ?_)
  · have hq := ip c9 hq
    refine g_bipush C dX7_figure_34 (v := -9) (by decide) ?_
    exact g_iret C dX7_figure_36 (som2 hq).1 (congrArg (wD a cI cZ) (som2 hq).2)
  · have hq := iq c9 hq
    refine g_aload_n C dX7_figure_11 0 rfl rfl ?_
    refine rg_X7_text C dX7_figure_12 ?_
    refine g_aload_n C dX7_figure_15 0 rfl rfl ?_
    refine rg_X7_place C dX7_figure_16 ?_
    obtain ⟨h10, hq⟩ := ogd_some hq
    refine gb_ld C (show arD 1 48 from ⟨by decide, by decide, by decide, by decide⟩) h10 dX7_figure_19 ?_
    refine g_bipush C dX7_figure_20 (v := 48) (by decide) ?_
    refine g_isub C dX7_figure_22 ?_
    refine g_i2l C dX7_figure_23 rfl ?_
    refine g_iload_n C dX7_figure_24 1 rfl rfl ?_
    refine g_i2l C dX7_figure_25 rfl ?_
    refine g_iload_n C dX7_figure_26 2 rfl rfl ?_
    refine g_i2l C dX7_figure_27 rfl ?_
    refine gc_Si C (k_X7_in (((M.1 1 (M.1 0 2).toNatClampNeg) - (48 : Int32)).toInt64) (x1.toInt64) (x2.toInt64) M) wl_768 ok_X7_in ⟨Nat.le_of_ble_eq_true rfl, Nat.le_of_ble_eq_true rfl⟩ ⟨Nat.le_of_ble_eq_true rfl, Nat.le_of_ble_eq_true rfl⟩ rfl (Nat.le_of_ble_eq_true rfl) dX7_figure_28 ?_
    refine g_if_ne C (tgt := 37) dX7_figure_31 (by decide) (fun c11 => ?_) (fun c11 => ?_)
    · have hq := iq c11 hq
      refine g_aload_n C dX7_figure_37 0 rfl rfl ?_
      refine g_dup C dX7_figure_38 rfl ?_
      refine rg_X7_place C dX7_figure_39 ?_
      refine g_iconst C dX7_figure_42 (v := 1) (by decide) ?_
      refine g_iadd C dX7_figure_43 ?_
      refine rp_X7_place C dX7_figure_44 ?_
      refine g_aload_n C dX7_figure_47 0 rfl rfl ?_
      refine rg_X7_text C dX7_figure_48 ?_
      refine g_aload_n C dX7_figure_51 0 rfl rfl ?_
      refine rg_X7_place C dX7_figure_52 ?_
      refine g_iconst C dX7_figure_55 (v := 1) (by decide) ?_
      refine g_isub C dX7_figure_56 ?_
      obtain ⟨h12, hq⟩ := ogd_some hq
      refine gb_ld C (show arD 1 48 from ⟨by decide, by decide, by decide, by decide⟩) h12 dX7_figure_57 ?_
      refine g_bipush C dX7_figure_58 (v := 48) (by decide) ?_
      refine g_isub C dX7_figure_60 ?_
      exact g_iret C dX7_figure_61 (som2 hq).1 (congrArg (wD a cI cZ) (som2 hq).2)
    · have hq := ip c11 hq
      refine g_bipush C dX7_figure_34 (v := -9) (by decide) ?_
      exact g_iret C dX7_figure_36 (som2 hq).1 (congrArg (wD a cI cZ) (som2 hq).2)
set_option maxHeartbeats 4000000 in
set_option maxRecDepth 100000 in
theorem k_X7_readOneWalker {l : Launch} {dC : Nat → ClassId} {dI : Nat → Nat → Nat} {a : Nat → Nat} {cI cZ cS : ClassId}  (M M2 : MM) (r : Bool) (hq : q_X7_readOneWalker  M = some (r, M2)) : KQ l (dC, dI) vwCl (tyW cI cZ cS) yX7_readOneWalker cX7_readOneWalker 3 (some .boolean) 2 47 [.ref (a 0)] (wD a cI cZ M) (qI (dC, dI) vwCl (wD a cI cZ M2) (b2i r)) := by
  refine KQ.of (by decide) (Nat.le_of_ble_eq_true rfl) rfl ?_
  intro p e s m args below meth c A0 C
  have J_24 : ∀ (v1 : Int32) (s0 : Int32) (M : MM), q_X7_readOneWalker_24   v1 s0 M = some (r, M2) → gG p l e ({ frames := 2, cells := 0, slots := 0, locals := 47 }) s m args below meth c 3 (dC, dI) vwCl A0 s.heap 0 0 (MQ below ((qI (dC, dI) vwCl (wD a cI cZ M2) (b2i r)) A0) args s 0 0 A0) (wD a cI cZ M) 24 [(0, .ref (a 0)), (1, .int v1)] [.int s0] := by
    intro v1 s0 M hq
    unfold q_X7_readOneWalker_24 at hq
    refine g_istore_n C (lv2 := [(2, _), (0, _), (1, _)]) dX7_readOneWalker_24 rfl (by decide) rfl ?_
    refine g_iload_n C dX7_readOneWalker_25 0 rfl rfl ?_
    refine g_bipush C dX7_readOneWalker_26 (v := -9) (by decide) ?_
    refine g_icmp_ne C (tgt := 33) dX7_readOneWalker_28 (by decide) (fun c12 => ?_) (fun c12 => ?_)
    · have hq := iq c12 hq
      refine g_aload_n C dX7_readOneWalker_33 1 rfl rfl ?_
      refine rg_X7_readWalker C dX7_readOneWalker_34 ?_
      refine g_iconst C dX7_readOneWalker_37 (v := 2) (by decide) ?_
      refine g_aload_n C dX7_readOneWalker_38 1 rfl rfl ?_
      refine rg_X7_readWalkers C dX7_readOneWalker_39 ?_
      refine g_imul C dX7_readOneWalker_42 ?_
      refine g_iload_n C dX7_readOneWalker_43 2 rfl rfl ?_
      obtain ⟨h13, hq⟩ := ogd_some hq
      refine gb_st C (show arD 4 10 from ⟨by decide, by decide, by decide, by decide⟩) h13 dX7_readOneWalker_44 ?_
      refine g_aload_n C dX7_readOneWalker_45 1 rfl rfl ?_
      refine rg_X7_readWalker C dX7_readOneWalker_46 ?_
      refine g_iconst C dX7_readOneWalker_49 (v := 2) (by decide) ?_
      refine g_aload_n C dX7_readOneWalker_50 1 rfl rfl ?_
      refine rg_X7_readWalkers C dX7_readOneWalker_51 ?_
      refine g_imul C dX7_readOneWalker_54 ?_
      refine g_iconst C dX7_readOneWalker_55 (v := 1) (by decide) ?_
      refine g_iadd C dX7_readOneWalker_56 ?_
      refine g_iload_n C dX7_readOneWalker_57 0 rfl rfl ?_
      obtain ⟨h14, hq⟩ := ogd_some hq
      refine gb_st C (show arD 4 10 from ⟨by decide, by decide, by decide, by decide⟩) h14 dX7_readOneWalker_58 ?_
      refine g_aload_n C dX7_readOneWalker_59 1 rfl rfl ?_
      refine g_dup C dX7_readOneWalker_60 rfl ?_
      refine rg_X7_readWalkers C dX7_readOneWalker_61 ?_
      refine g_iconst C dX7_readOneWalker_64 (v := 1) (by decide) ?_
      refine g_iadd C dX7_readOneWalker_65 ?_
      refine rp_X7_readWalkers C dX7_readOneWalker_66 ?_
      refine g_iconst C dX7_readOneWalker_69 (v := 1) (by decide) ?_
      exact g_zret C dX7_readOneWalker_70 (Or.inr rfl) (congrArg b2i (som2 hq).1) (congrArg (wD a cI cZ) (som2 hq).2)
    · have hq := ip c12 hq
      refine g_iconst C dX7_readOneWalker_31 (v := 0) (by decide) ?_
      exact g_zret C dX7_readOneWalker_32 (Or.inl rfl) (congrArg b2i (som2 hq).1) (congrArg (wD a cI cZ) (som2 hq).2)
  unfold q_X7_readOneWalker at hq
  refine g_aload_n C dX7_readOneWalker_0 0 rfl rfl ?_
  refine g_iconst C dX7_readOneWalker_1 (v := 0) (by decide) ?_
  refine g_iconst C dX7_readOneWalker_2 (v := 5) (by decide) ?_
  obtain ⟨z20, Mz20, h21, hq⟩ := obd_some hq
  refine gc_Vi C (k_X7_figure (0 : Int32) (5 : Int32) M Mz20 z20 h21) wl_791 ok_X7_figure rv_X7 rfl ⟨Nat.le_of_ble_eq_true rfl, Nat.le_of_ble_eq_true rfl⟩ ⟨Nat.le_of_ble_eq_true rfl, Nat.le_of_ble_eq_true rfl⟩ rfl (Nat.le_of_ble_eq_true rfl) dX7_readOneWalker_3 ?_
  refine g_istore_n C (lv2 := [(1, _), (0, _)]) dX7_readOneWalker_6 rfl (by decide) rfl ?_
  refine g_iload_n C dX7_readOneWalker_7 0 rfl rfl ?_
  refine g_bipush C dX7_readOneWalker_8 (v := -9) (by decide) ?_
  refine g_icmp_ne C (tgt := 18) dX7_readOneWalker_10 (by decide) (fun c22 => ?_) (fun c22 => ?_)
  · have hq := iq c22 hq
    refine g_aload_n C dX7_readOneWalker_18 1 rfl rfl ?_
    refine g_iconst C dX7_readOneWalker_19 (v := 0) (by decide) ?_
    refine g_iconst C dX7_readOneWalker_20 (v := 3) (by decide) ?_
    obtain ⟨z23, Mz23, h24, hq⟩ := obd_some hq
    refine gc_Vi C (k_X7_figure (0 : Int32) (3 : Int32) Mz20 Mz23 z23 h24) wl_791 ok_X7_figure rv_X7 rfl ⟨Nat.le_of_ble_eq_true rfl, Nat.le_of_ble_eq_true rfl⟩ ⟨Nat.le_of_ble_eq_true rfl, Nat.le_of_ble_eq_true rfl⟩ rfl (Nat.le_of_ble_eq_true rfl) dX7_readOneWalker_21 ?_
    exact g_sub [1, 0] rfl (J_24 z20 z23 Mz23 hq)
  · have hq := ip c22 hq
    refine g_bipush C dX7_readOneWalker_13 (v := -9) (by decide) ?_
    refine g_goto C (tgt := 24) dX7_readOneWalker_15 (by decide) ?_
    exact g_sub [1, 0] rfl (J_24 z20 (-9 : Int32) Mz20 hq)
set_option maxHeartbeats 4000000 in
set_option maxRecDepth 100000 in
theorem k_X7_readOneNeed {l : Launch} {dC : Nat → ClassId} {dI : Nat → Nat → Nat} {a : Nat → Nat} {cI cZ cS : ClassId}  (M M2 : MM) (r : Bool) (hq : q_X7_readOneNeed  M = some (r, M2)) : KQ l (dC, dI) vwCl (tyW cI cZ cS) yX7_readOneNeed cX7_readOneNeed 4 (some .boolean) 2 47 [.ref (a 0)] (wD a cI cZ M) (qI (dC, dI) vwCl (wD a cI cZ M2) (b2i r)) := by
  refine KQ.of (by decide) (Nat.le_of_ble_eq_true rfl) rfl ?_
  intro p e s m args below meth c A0 C
  have J_52 : ∀ (v1 : Int32) (v2 : Int32) (s0 : Int32) (M : MM), q_X7_readOneNeed_52   v1 v2 s0 M = some (r, M2) → gG p l e ({ frames := 2, cells := 0, slots := 0, locals := 47 }) s m args below meth c 4 (dC, dI) vwCl A0 s.heap 0 0 (MQ below ((qI (dC, dI) vwCl (wD a cI cZ M2) (b2i r)) A0) args s 0 0 A0) (wD a cI cZ M) 52 [(0, .ref (a 0)), (1, .int v1), (2, .int v2)] [.int s0] := by
    intro v1 v2 s0 M hq
    unfold q_X7_readOneNeed_52 at hq
    refine g_istore_n C (lv2 := [(3, _), (0, _), (1, _), (2, _)]) dX7_readOneNeed_52 rfl (by decide) rfl ?_
    refine g_iload_n C dX7_readOneNeed_53 0 rfl rfl ?_
    refine g_bipush C dX7_readOneNeed_54 (v := -9) (by decide) ?_
    refine g_icmp_ne C (tgt := 61) dX7_readOneNeed_56 (by decide) (fun c18 => ?_) (fun c18 => ?_)
    · have hq := iq c18 hq
      refine g_aload_n C dX7_readOneNeed_61 1 rfl rfl ?_
      refine rg_X7_readNeed C dX7_readOneNeed_62 ?_
      refine g_iconst C dX7_readOneNeed_65 (v := 3) (by decide) ?_
      refine g_aload_n C dX7_readOneNeed_66 1 rfl rfl ?_
      refine rg_X7_readNeeds C dX7_readOneNeed_67 ?_
      refine g_imul C dX7_readOneNeed_70 ?_
      refine g_iload_n C dX7_readOneNeed_71 2 rfl rfl ?_
      obtain ⟨h19, hq⟩ := ogd_some hq
      refine gb_st C (show arD 5 15 from ⟨by decide, by decide, by decide, by decide⟩) h19 dX7_readOneNeed_72 ?_
      refine g_aload_n C dX7_readOneNeed_73 1 rfl rfl ?_
      refine rg_X7_readNeed C dX7_readOneNeed_74 ?_
      refine g_iconst C dX7_readOneNeed_77 (v := 3) (by decide) ?_
      refine g_aload_n C dX7_readOneNeed_78 1 rfl rfl ?_
      refine rg_X7_readNeeds C dX7_readOneNeed_79 ?_
      refine g_imul C dX7_readOneNeed_82 ?_
      refine g_iconst C dX7_readOneNeed_83 (v := 1) (by decide) ?_
      refine g_iadd C dX7_readOneNeed_84 ?_
      refine g_iload_n C dX7_readOneNeed_85 3 rfl rfl ?_
      obtain ⟨h20, hq⟩ := ogd_some hq
      refine gb_st C (show arD 5 15 from ⟨by decide, by decide, by decide, by decide⟩) h20 dX7_readOneNeed_86 ?_
      refine g_aload_n C dX7_readOneNeed_87 1 rfl rfl ?_
      refine rg_X7_readNeed C dX7_readOneNeed_88 ?_
      refine g_iconst C dX7_readOneNeed_91 (v := 3) (by decide) ?_
      refine g_aload_n C dX7_readOneNeed_92 1 rfl rfl ?_
      refine rg_X7_readNeeds C dX7_readOneNeed_93 ?_
      refine g_imul C dX7_readOneNeed_96 ?_
      refine g_iconst C dX7_readOneNeed_97 (v := 2) (by decide) ?_
      refine g_iadd C dX7_readOneNeed_98 ?_
      refine g_iload_n C dX7_readOneNeed_99 0 rfl rfl ?_
      obtain ⟨h21, hq⟩ := ogd_some hq
      refine gb_st C (show arD 5 15 from ⟨by decide, by decide, by decide, by decide⟩) h21 dX7_readOneNeed_100 ?_
      refine g_aload_n C dX7_readOneNeed_101 1 rfl rfl ?_
      refine g_dup C dX7_readOneNeed_102 rfl ?_
      refine rg_X7_readNeeds C dX7_readOneNeed_103 ?_
      refine g_iconst C dX7_readOneNeed_106 (v := 1) (by decide) ?_
      refine g_iadd C dX7_readOneNeed_107 ?_
      refine rp_X7_readNeeds C dX7_readOneNeed_108 ?_
      refine g_iconst C dX7_readOneNeed_111 (v := 1) (by decide) ?_
      exact g_zret C dX7_readOneNeed_112 (Or.inr rfl) (congrArg b2i (som2 hq).1) (congrArg (wD a cI cZ) (som2 hq).2)
    · have hq := ip c18 hq
      refine g_iconst C dX7_readOneNeed_59 (v := 0) (by decide) ?_
      exact g_zret C dX7_readOneNeed_60 (Or.inl rfl) (congrArg b2i (som2 hq).1) (congrArg (wD a cI cZ) (som2 hq).2)
  have J_47 : ∀ (v1 : Int32) (v2 : Int32) (s1 : Int32) (M : MM), q_X7_readOneNeed_47   v1 v2 s1 M = some (r, M2) → gG p l e ({ frames := 2, cells := 0, slots := 0, locals := 47 }) s m args below meth c 4 (dC, dI) vwCl A0 s.heap 0 0 (MQ below ((qI (dC, dI) vwCl (wD a cI cZ M2) (b2i r)) A0) args s 0 0 A0) (wD a cI cZ M) 47 [(0, .ref (a 0)), (1, .int v1), (2, .int v2)] [.int s1, .ref (a 0)] := by
    intro v1 v2 s1 M hq
    unfold q_X7_readOneNeed_47 at hq
    refine g_bipush C dX7_readOneNeed_47 (v := 9) (by decide) ?_
    obtain ⟨z24, Mz24, h25, hq⟩ := obd_some hq
    refine gc_Vi C (k_X7_figure s1 (9 : Int32) M Mz24 z24 h25) wl_791 ok_X7_figure rv_X7 rfl ⟨Nat.le_of_ble_eq_true rfl, Nat.le_of_ble_eq_true rfl⟩ ⟨Nat.le_of_ble_eq_true rfl, Nat.le_of_ble_eq_true rfl⟩ rfl (Nat.le_of_ble_eq_true rfl) dX7_readOneNeed_49 ?_
    exact g_sub [0, 1, 2] rfl (J_52 v1 v2 z24 Mz24 hq)
  have J_24 : ∀ (v1 : Int32) (s0 : Int32) (M : MM), q_X7_readOneNeed_24   v1 s0 M = some (r, M2) → gG p l e ({ frames := 2, cells := 0, slots := 0, locals := 47 }) s m args below meth c 4 (dC, dI) vwCl A0 s.heap 0 0 (MQ below ((qI (dC, dI) vwCl (wD a cI cZ M2) (b2i r)) A0) args s 0 0 A0) (wD a cI cZ M) 24 [(0, .ref (a 0)), (1, .int v1)] [.int s0] := by
    intro v1 s0 M hq
    unfold q_X7_readOneNeed_24 at hq
    refine g_istore_n C (lv2 := [(2, _), (0, _), (1, _)]) dX7_readOneNeed_24 rfl (by decide) rfl ?_
    refine g_iload_n C dX7_readOneNeed_25 0 rfl rfl ?_
    refine g_bipush C dX7_readOneNeed_26 (v := -9) (by decide) ?_
    refine g_icmp_ne C (tgt := 36) dX7_readOneNeed_28 (by decide) (fun c28 => ?_) (fun c28 => ?_)
    · have hq := iq c28 hq
      refine g_aload_n C dX7_readOneNeed_36 1 rfl rfl ?_
      refine g_iload_n C dX7_readOneNeed_37 0 rfl rfl ?_
      refine g_iconst C dX7_readOneNeed_38 (v := 1) (by decide) ?_
      refine g_icmp_ne C (tgt := 46) dX7_readOneNeed_39 (by decide) (fun c29 => ?_) (fun c29 => ?_)
      · have hq := iq c29 hq
        refine g_iconst C dX7_readOneNeed_46 (v := 0) (by decide) ?_
        exact g_sub [1, 2, 0] rfl (J_47 v1 s0 (0 : Int32) M hq)
      · have hq := ip c29 hq
        refine g_iconst C dX7_readOneNeed_42 (v := 1) (by decide) ?_
        refine g_goto C (tgt := 47) dX7_readOneNeed_43 (by decide) ?_
        exact g_sub [1, 2, 0] rfl (J_47 v1 s0 (1 : Int32) M hq)
    · have hq := ip c28 hq
      refine g_bipush C dX7_readOneNeed_31 (v := -9) (by decide) ?_
      refine g_goto C (tgt := 52) dX7_readOneNeed_33 (by decide) ?_
      exact g_sub [1, 2, 0] rfl (J_52 v1 s0 (-9 : Int32) M hq)
  unfold q_X7_readOneNeed at hq
  refine g_aload_n C dX7_readOneNeed_0 0 rfl rfl ?_
  refine g_iconst C dX7_readOneNeed_1 (v := 0) (by decide) ?_
  refine g_iconst C dX7_readOneNeed_2 (v := 5) (by decide) ?_
  obtain ⟨z35, Mz35, h36, hq⟩ := obd_some hq
  refine gc_Vi C (k_X7_figure (0 : Int32) (5 : Int32) M Mz35 z35 h36) wl_791 ok_X7_figure rv_X7 rfl ⟨Nat.le_of_ble_eq_true rfl, Nat.le_of_ble_eq_true rfl⟩ ⟨Nat.le_of_ble_eq_true rfl, Nat.le_of_ble_eq_true rfl⟩ rfl (Nat.le_of_ble_eq_true rfl) dX7_readOneNeed_3 ?_
  refine g_istore_n C (lv2 := [(1, _), (0, _)]) dX7_readOneNeed_6 rfl (by decide) rfl ?_
  refine g_iload_n C dX7_readOneNeed_7 0 rfl rfl ?_
  refine g_bipush C dX7_readOneNeed_8 (v := -9) (by decide) ?_
  refine g_icmp_ne C (tgt := 18) dX7_readOneNeed_10 (by decide) (fun c37 => ?_) (fun c37 => ?_)
  · have hq := iq c37 hq
    refine g_aload_n C dX7_readOneNeed_18 1 rfl rfl ?_
    refine g_iconst C dX7_readOneNeed_19 (v := 0) (by decide) ?_
    refine g_iconst C dX7_readOneNeed_20 (v := 2) (by decide) ?_
    obtain ⟨z38, Mz38, h39, hq⟩ := obd_some hq
    refine gc_Vi C (k_X7_figure (0 : Int32) (2 : Int32) Mz35 Mz38 z38 h39) wl_791 ok_X7_figure rv_X7 rfl ⟨Nat.le_of_ble_eq_true rfl, Nat.le_of_ble_eq_true rfl⟩ ⟨Nat.le_of_ble_eq_true rfl, Nat.le_of_ble_eq_true rfl⟩ rfl (Nat.le_of_ble_eq_true rfl) dX7_readOneNeed_21 ?_
    exact g_sub [1, 0] rfl (J_24 z35 z38 Mz38 hq)
  · have hq := ip c37 hq
    refine g_bipush C dX7_readOneNeed_13 (v := -9) (by decide) ?_
    refine g_goto C (tgt := 24) dX7_readOneNeed_15 (by decide) ?_
    exact g_sub [1, 0] rfl (J_24 z35 (-9 : Int32) Mz35 hq)
set_option maxHeartbeats 4000000 in
set_option maxRecDepth 100000 in
theorem k_X7_readThing {l : Launch} {dC : Nat → ClassId} {dI : Nat → Nat → Nat} {a : Nat → Nat} {cI cZ cS : ClassId}  (M M2 : MM) (r : Bool) (hq : q_X7_readThing  M = some (r, M2)) : KQ l (dC, dI) vwCl (tyW cI cZ cS) yX7_readThing cX7_readThing 2 (some .boolean) 3 70 [.ref (a 0)] (wD a cI cZ M) (qI (dC, dI) vwCl (wD a cI cZ M2) (b2i r)) := by
  refine KQ.of (by decide) (Nat.le_of_ble_eq_true rfl) rfl ?_
  intro p e s m args below meth c A0 C
  have J_58 : ∀  (M : MM), q_X7_readThing_58   M = some (r, M2) → gG p l e ({ frames := 3, cells := 0, slots := 0, locals := 70 }) s m args below meth c 2 (dC, dI) vwCl A0 s.heap 0 0 (MQ below ((qI (dC, dI) vwCl (wD a cI cZ M2) (b2i r)) A0) args s 0 0 A0) (wD a cI cZ M) 58 [(0, .ref (a 0))] [] := by
    intro M hq
    unfold q_X7_readThing_58 at hq
    refine g_aload_n C dX7_readThing_58 0 rfl rfl ?_
    refine g_dup C dX7_readThing_59 rfl ?_
    refine rg_X7_place C dX7_readThing_60 ?_
    refine g_iconst C dX7_readThing_63 (v := 1) (by decide) ?_
    refine g_isub C dX7_readThing_64 ?_
    refine rp_X7_place C dX7_readThing_65 ?_
    refine g_iconst C dX7_readThing_68 (v := 0) (by decide) ?_
    exact g_zret C dX7_readThing_69 (Or.inl rfl) (congrArg b2i (som2 hq).1) (congrArg (wD a cI cZ) (som2 hq).2)
  have J_39 : ∀ (v1 : Int32) (M : MM), q_X7_readThing_39   v1 M = some (r, M2) → gG p l e ({ frames := 3, cells := 0, slots := 0, locals := 70 }) s m args below meth c 2 (dC, dI) vwCl A0 s.heap 0 0 (MQ below ((qI (dC, dI) vwCl (wD a cI cZ M2) (b2i r)) A0) args s 0 0 A0) (wD a cI cZ M) 39 [(0, .ref (a 0)), (1, .int v1)] [] := by
    intro v1 M hq
    unfold q_X7_readThing_39 at hq
    refine g_iload_n C dX7_readThing_39 1 rfl rfl ?_
    refine g_bipush C dX7_readThing_40 (v := 78) (by decide) ?_
    refine g_icmp_ne C (tgt := 58) dX7_readThing_42 (by decide) (fun c14 => ?_) (fun c14 => ?_)
    · have hq := iq c14 hq
      exact g_sub [0] rfl (J_58 M hq)
    · have hq := ip c14 hq
      refine g_aload_n C dX7_readThing_45 0 rfl rfl ?_
      refine rg_X7_readNeeds C dX7_readThing_46 ?_
      refine g_iconst C dX7_readThing_49 (v := 5) (by decide) ?_
      refine g_icmp_ge C (tgt := 58) dX7_readThing_50 (by decide) (fun c15 => ?_) (fun c15 => ?_)
      · have hq := ip c15 hq
        exact g_sub [0] rfl (J_58 M hq)
      · have hq := iq c15 hq
        refine g_aload_n C dX7_readThing_53 0 rfl rfl ?_
        obtain ⟨z16, Mz16, h17, hq⟩ := obd_some hq
        refine gc_Vi C (k_X7_readOneNeed  M Mz16 z16 h17) wl_795 ok_X7_readOneNeed rv_X7 rfl ⟨Nat.le_of_ble_eq_true rfl, Nat.le_of_ble_eq_true rfl⟩ ⟨Nat.le_of_ble_eq_true rfl, Nat.le_of_ble_eq_true rfl⟩ rfl (Nat.le_of_ble_eq_true rfl) dX7_readThing_54 ?_
        exact g_zret C dX7_readThing_57 (b2i_z _) (congrArg b2i (som2 hq).1) (congrArg (wD a cI cZ) (som2 hq).2)
  unfold q_X7_readThing at hq
  refine g_aload_n C dX7_readThing_0 0 rfl rfl ?_
  refine rg_X7_text C dX7_readThing_1 ?_
  refine g_aload_n C dX7_readThing_4 0 rfl rfl ?_
  refine rg_X7_place C dX7_readThing_5 ?_
  obtain ⟨h23, hq⟩ := ogd_some hq
  refine gb_ld C (show arD 1 48 from ⟨by decide, by decide, by decide, by decide⟩) h23 dX7_readThing_8 ?_
  refine g_istore_n C (lv2 := [(1, _), (0, _)]) dX7_readThing_9 rfl (by decide) rfl ?_
  refine g_aload_n C dX7_readThing_10 1 rfl rfl ?_
  refine g_dup C dX7_readThing_11 rfl ?_
  refine rg_X7_place C dX7_readThing_12 ?_
  refine g_iconst C dX7_readThing_15 (v := 1) (by decide) ?_
  refine g_iadd C dX7_readThing_16 ?_
  refine rp_X7_place C dX7_readThing_17 ?_
  refine g_iload_n C dX7_readThing_20 0 rfl rfl ?_
  refine g_bipush C dX7_readThing_21 (v := 87) (by decide) ?_
  refine g_icmp_ne C (tgt := 39) dX7_readThing_23 (by decide) (fun c24 => ?_) (fun c24 => ?_)
  · have hq := iq c24 hq
    exact g_sub [1, 0] rfl (J_39 (M.1 1 (M.1 0 2).toNatClampNeg) (mU M 0 2 ((M.1 0 2) + (1 : Int32))) hq)
  · have hq := ip c24 hq
    refine g_aload_n C dX7_readThing_26 1 rfl rfl ?_
    refine rg_X7_readWalkers C dX7_readThing_27 ?_
    refine g_iconst C dX7_readThing_30 (v := 5) (by decide) ?_
    refine g_icmp_ge C (tgt := 39) dX7_readThing_31 (by decide) (fun c25 => ?_) (fun c25 => ?_)
    · have hq := ip c25 hq
      exact g_sub [1, 0] rfl (J_39 (M.1 1 (M.1 0 2).toNatClampNeg) (mU M 0 2 ((M.1 0 2) + (1 : Int32))) hq)
    · have hq := iq c25 hq
      refine g_aload_n C dX7_readThing_34 1 rfl rfl ?_
      obtain ⟨z26, Mz26, h27, hq⟩ := obd_some hq
      refine gc_Vi C (k_X7_readOneWalker  (mU M 0 2 ((M.1 0 2) + (1 : Int32))) Mz26 z26 h27) wl_787 ok_X7_readOneWalker rv_X7 rfl ⟨Nat.le_of_ble_eq_true rfl, Nat.le_of_ble_eq_true rfl⟩ ⟨Nat.le_of_ble_eq_true rfl, Nat.le_of_ble_eq_true rfl⟩ rfl (Nat.le_of_ble_eq_true rfl) dX7_readThing_35 ?_
      exact g_zret C dX7_readThing_38 (b2i_z _) (congrArg b2i (som2 hq).1) (congrArg (wD a cI cZ) (som2 hq).2)
set_option maxHeartbeats 4000000 in
set_option maxRecDepth 100000 in
theorem k_X7_readTown {l : Launch} {dC : Nat → ClassId} {dI : Nat → Nat → Nat} {a : Nat → Nat} {cI cZ cS : ClassId}  (M M2 : MM) (r : Int32) (hq : q_X7_readTown  M = some (r, M2)) : KQ l (dC, dI) vwCl (tyW cI cZ cS) yX7_readTown cX7_readTown 1 (some .int) 4 91 [.ref (a 0)] (wD a cI cZ M) (qI (dC, dI) vwCl (wD a cI cZ M2) r) := by
  refine KQ.of (by decide) (Nat.le_of_ble_eq_true rfl) rfl ?_
  intro p e s m args below meth c A0 C
  have L_40 : ∀ (f : Nat)  (M : MM), q_X7_readTown_40   f M = some (r, M2) → gG p l e ({ frames := 4, cells := 0, slots := 0, locals := 91 }) s m args below meth c 1 (dC, dI) vwCl A0 s.heap 0 0 (MQ below ((qI (dC, dI) vwCl (wD a cI cZ M2) r) A0) args s 0 0 A0) (wD a cI cZ M) 40 [(0, .ref (a 0))] [] := by
    intro f
    induction f with
    | zero => intro M hq; cases hq
    | succ f_40 ih_40 =>
      intro M hq
      rw [q_X7_readTown_40] at hq
      refine g_aload_n C dX7_readTown_40 0 rfl rfl ?_
      refine rg_X7_place C dX7_readTown_41 ?_
      refine g_aload_n C dX7_readTown_44 0 rfl rfl ?_
      refine rg_X7_textSize C dX7_readTown_45 ?_
      refine g_icmp_ge C (tgt := 63) dX7_readTown_48 (by decide) (fun c12 => ?_) (fun c12 => ?_)
      · have hq := ip c12 hq
        refine g_bipush C dX7_readTown_63 (v := -9) (by decide) ?_
        exact g_iret C dX7_readTown_65 (som2 hq).1 (congrArg (wD a cI cZ) (som2 hq).2)
      · have hq := iq c12 hq
        refine g_aload_n C dX7_readTown_51 0 rfl rfl ?_
        obtain ⟨z13, Mz13, h14, hq⟩ := obd_some hq
        refine gc_Vi C (k_X7_readThing  M Mz13 z13 h14) wl_783 ok_X7_readThing rv_X7 rfl ⟨Nat.le_of_ble_eq_true rfl, Nat.le_of_ble_eq_true rfl⟩ ⟨Nat.le_of_ble_eq_true rfl, Nat.le_of_ble_eq_true rfl⟩ rfl (Nat.le_of_ble_eq_true rfl) dX7_readTown_52 ?_
        refine g_if_ne C (tgt := 40) dX7_readTown_55 (by decide) (fun c15 => ?_) (fun c15 => ?_)
        · have hq := iq c15 hq
          exact g_sub [0] rfl (ih_40 Mz13 hq)
        · have hq := ip c15 hq
          refine g_aload_n C dX7_readTown_58 0 rfl rfl ?_
          refine rg_X7_place C dX7_readTown_59 ?_
          exact g_iret C dX7_readTown_62 (som2 hq).1 (congrArg (wD a cI cZ) (som2 hq).2)
  unfold q_X7_readTown at hq
  refine g_aload_n C dX7_readTown_0 0 rfl rfl ?_
  refine g_iconst C dX7_readTown_1 (v := 0) (by decide) ?_
  refine rp_X7_place C dX7_readTown_2 ?_
  refine g_aload_n C dX7_readTown_5 0 rfl rfl ?_
  refine g_iconst C dX7_readTown_6 (v := 0) (by decide) ?_
  refine rp_X7_readWalkers C dX7_readTown_7 ?_
  refine g_aload_n C dX7_readTown_10 0 rfl rfl ?_
  refine g_iconst C dX7_readTown_11 (v := 0) (by decide) ?_
  refine rp_X7_readNeeds C dX7_readTown_12 ?_
  refine g_aload_n C dX7_readTown_15 0 rfl rfl ?_
  refine rg_X7_textSize C dX7_readTown_16 ?_
  refine g_if_eq C (tgt := 33) dX7_readTown_19 (by decide) (fun c19 => ?_) (fun c19 => ?_)
  · have hq := ip c19 hq
    refine g_iconst C dX7_readTown_33 (v := 0) (by decide) ?_
    exact g_iret C dX7_readTown_34 (som2 hq).1 (congrArg (wD a cI cZ) (som2 hq).2)
  · have hq := iq c19 hq
    refine g_aload_n C dX7_readTown_22 0 rfl rfl ?_
    refine rg_X7_text C dX7_readTown_23 ?_
    refine g_iconst C dX7_readTown_26 (v := 0) (by decide) ?_
    obtain ⟨h20, hq⟩ := ogd_some hq
    refine gb_ld C (show arD 1 48 from ⟨by decide, by decide, by decide, by decide⟩) h20 dX7_readTown_27 ?_
    refine g_bipush C dX7_readTown_28 (v := 85) (by decide) ?_
    refine g_icmp_eq C (tgt := 35) dX7_readTown_30 (by decide) (fun c21 => ?_) (fun c21 => ?_)
    · have hq := ip c21 hq
      refine g_aload_n C dX7_readTown_35 0 rfl rfl ?_
      refine g_iconst C dX7_readTown_36 (v := 1) (by decide) ?_
      refine rp_X7_place C dX7_readTown_37 ?_
      exact g_sub [0] rfl (L_40 FU (mU (mU (mU (mU M 0 2 (0 : Int32)) 0 5 (0 : Int32)) 0 6 (0 : Int32)) 0 2 (1 : Int32)) hq)
    · have hq := iq c21 hq
      refine g_iconst C dX7_readTown_33 (v := 0) (by decide) ?_
      exact g_iret C dX7_readTown_34 (som2 hq).1 (congrArg (wD a cI cZ) (som2 hq).2)
set_option maxHeartbeats 4000000 in
set_option maxRecDepth 100000 in
theorem k_X7_fault {l : Launch} {dC : Nat → ClassId} {dI : Nat → Nat → Nat} {a : Nat → Nat} {cI cZ cS : ClassId}  (M M2 : MM) (r : Int32) (hq : q_X7_fault  M = some (r, M2)) : KQ l (dC, dI) vwCl (tyW cI cZ cS) yX7_fault cX7_fault 1 (some .int) 5 111 [.ref (a 0)] (wD a cI cZ M) (qI (dC, dI) vwCl (wD a cI cZ M2) r) := by
  refine KQ.of (by decide) (Nat.le_of_ble_eq_true rfl) rfl ?_
  intro p e s m args below meth c A0 C
  unfold q_X7_fault at hq
  refine g_aload_n C dX7_fault_0 0 rfl rfl ?_
  refine g_iconst C dX7_fault_1 (v := 0) (by decide) ?_
  refine rp_X7_thrown C dX7_fault_2 ?_
  refine g_aload_n C dX7_fault_5 0 rfl rfl ?_
  obtain ⟨z5, Mz5, h6, hq⟩ := obd_some hq
  refine gc_Vi C (k_X7_readTown  (mU M 0 0 (0 : Int32)) Mz5 z5 h6) wl_779 ok_X7_readTown rv_X7 rfl ⟨Nat.le_of_ble_eq_true rfl, Nat.le_of_ble_eq_true rfl⟩ ⟨Nat.le_of_ble_eq_true rfl, Nat.le_of_ble_eq_true rfl⟩ rfl (Nat.le_of_ble_eq_true rfl) dX7_fault_6 ?_
  exact g_iret C dX7_fault_9 (som2 hq).1 (congrArg (wD a cI cZ) (som2 hq).2)
set_option maxHeartbeats 4000000 in
set_option maxRecDepth 100000 in
theorem k_X7_town {l : Launch} {dC : Nat → ClassId} {dI : Nat → Nat → Nat} {a : Nat → Nat} {cI cZ cS : ClassId}  (M M2 : MM) (r : Int32) (hq : q_X7_town  M = some (r, M2)) : KQ l (dC, dI) vwCl (tyW cI cZ cS) yX7_town cX7_town 2 (some .int) 5 111 [.ref (a 0)] (wD a cI cZ M) (qI (dC, dI) vwCl (wD a cI cZ M2) r) := by
  refine KQ.of (by decide) (Nat.le_of_ble_eq_true rfl) rfl ?_
  intro p e s m args below meth c A0 C
  have L_102 : ∀ (f : Nat) (v1 : Int32) (M : MM), q_X7_town_102   f v1 M = some (r, M2) → gG p l e ({ frames := 5, cells := 0, slots := 0, locals := 111 }) s m args below meth c 2 (dC, dI) vwCl A0 s.heap 0 0 (MQ below ((qI (dC, dI) vwCl (wD a cI cZ M2) r) A0) args s 0 0 A0) (wD a cI cZ M) 102 [(0, .ref (a 0)), (1, .int v1)] [] := by
    intro f
    induction f with
    | zero => intro v1 M hq; cases hq
    | succ f_102 ih_102 =>
      intro v1 M hq
      rw [q_X7_town_102] at hq
      refine g_iload_n C dX7_town_102 1 rfl rfl ?_
      refine g_iconst C dX7_town_103 (v := 3) (by decide) ?_
      refine g_aload_n C dX7_town_104 0 rfl rfl ?_
      refine rg_X7_needs C dX7_town_105 ?_
      refine g_imul C dX7_town_108 ?_
      refine g_icmp_ge C (tgt := 130) dX7_town_109 (by decide) (fun c21 => ?_) (fun c21 => ?_)
      · have hq := ip c21 hq
        refine g_aload_n C dX7_town_130 0 rfl rfl ?_
        refine g_iconst C dX7_town_131 (v := 0) (by decide) ?_
        refine rp_X7_acts C dX7_town_132 ?_
        refine g_aload_n C dX7_town_135 0 rfl rfl ?_
        refine rg_X7_isKept C dX7_town_136 ?_
        refine g_iconst C dX7_town_139 (v := 0) (by decide) ?_
        refine g_iconst C dX7_town_140 (v := 0) (by decide) ?_
        obtain ⟨h22, hq⟩ := ogd_some hq
        refine gz_st C h22 dX7_town_141 ?_
        refine g_aload_n C dX7_town_142 0 rfl rfl ?_
        refine rg_X7_isKept C dX7_town_143 ?_
        refine g_iconst C dX7_town_146 (v := 1) (by decide) ?_
        refine g_iconst C dX7_town_147 (v := 0) (by decide) ?_
        obtain ⟨h23, hq⟩ := ogd_some hq
        refine gz_st C h23 dX7_town_148 ?_
        refine g_bipush C dX7_town_149 (v := 10) (by decide) ?_
        refine g_aload_n C dX7_town_151 0 rfl rfl ?_
        refine rg_X7_walkers C dX7_town_152 ?_
        refine g_imul C dX7_town_155 ?_
        refine g_aload_n C dX7_town_156 0 rfl rfl ?_
        refine rg_X7_needs C dX7_town_157 ?_
        refine g_iadd C dX7_town_160 ?_
        exact g_iret C dX7_town_161 (som2 hq).1 (congrArg (wD a cI cZ) (som2 hq).2)
      · have hq := iq c21 hq
        refine g_aload_n C dX7_town_112 0 rfl rfl ?_
        refine rg_X7_need C dX7_town_113 ?_
        refine g_iload_n C dX7_town_116 1 rfl rfl ?_
        refine g_aload_n C dX7_town_117 0 rfl rfl ?_
        refine rg_X7_readNeed C dX7_town_118 ?_
        refine g_iload_n C dX7_town_121 1 rfl rfl ?_
        obtain ⟨h24, hq⟩ := ogd_some hq
        refine gb_ld C (show arD 5 15 from ⟨by decide, by decide, by decide, by decide⟩) h24 dX7_town_122 ?_
        obtain ⟨h25, hq⟩ := ogd_some hq
        refine gb_st C (show arD 3 15 from ⟨by decide, by decide, by decide, by decide⟩) h25 dX7_town_123 ?_
        refine g_iinc C (v := (v1 + (1 : Int32))) (lv2 := [(1, _), (0, _)]) dX7_town_124 1 rfl rfl (by decide) rfl ?_
        refine g_goto C (tgt := 102) dX7_town_127 (by decide) ?_
        exact g_sub [1, 0] rfl (ih_102 (v1 + (1 : Int32)) (mU M 3 v1.toNatClampNeg (M.1 5 v1.toNatClampNeg)) hq)
  have L_56 : ∀ (f : Nat) (v1 : Int32) (M : MM), q_X7_town_56   f v1 M = some (r, M2) → gG p l e ({ frames := 5, cells := 0, slots := 0, locals := 111 }) s m args below meth c 2 (dC, dI) vwCl A0 s.heap 0 0 (MQ below ((qI (dC, dI) vwCl (wD a cI cZ M2) r) A0) args s 0 0 A0) (wD a cI cZ M) 56 [(0, .ref (a 0)), (1, .int v1)] [] := by
    intro f
    induction f with
    | zero => intro v1 M hq; cases hq
    | succ f_56 ih_56 =>
      intro v1 M hq
      rw [q_X7_town_56] at hq
      refine g_iload_n C dX7_town_56 1 rfl rfl ?_
      refine g_aload_n C dX7_town_57 0 rfl rfl ?_
      refine rg_X7_walkers C dX7_town_58 ?_
      refine g_icmp_ge C (tgt := 100) dX7_town_61 (by decide) (fun c31 => ?_) (fun c31 => ?_)
      · have hq := ip c31 hq
        refine g_iconst C dX7_town_100 (v := 0) (by decide) ?_
        refine g_istore_n C (lv2 := [(1, _), (0, _)]) dX7_town_101 rfl (by decide) rfl ?_
        exact g_sub [1, 0] rfl (L_102 FU (0 : Int32) M hq)
      · have hq := iq c31 hq
        refine g_aload_n C dX7_town_64 0 rfl rfl ?_
        refine rg_X7_page C dX7_town_65 ?_
        refine g_iload_n C dX7_town_68 1 rfl rfl ?_
        refine g_aload_n C dX7_town_69 0 rfl rfl ?_
        refine rg_X7_readWalker C dX7_town_70 ?_
        refine g_iconst C dX7_town_73 (v := 2) (by decide) ?_
        refine g_iload_n C dX7_town_74 1 rfl rfl ?_
        refine g_imul C dX7_town_75 ?_
        obtain ⟨h32, hq⟩ := ogd_some hq
        refine gb_ld C (show arD 4 10 from ⟨by decide, by decide, by decide, by decide⟩) h32 dX7_town_76 ?_
        obtain ⟨h33, hq⟩ := ogd_some hq
        refine gb_st C (show arD 6 24 from ⟨by decide, by decide, by decide, by decide⟩) h33 dX7_town_77 ?_
        refine g_aload_n C dX7_town_78 0 rfl rfl ?_
        refine rg_X7_stuff C dX7_town_79 ?_
        refine g_iload_n C dX7_town_82 1 rfl rfl ?_
        refine g_aload_n C dX7_town_83 0 rfl rfl ?_
        refine rg_X7_readWalker C dX7_town_84 ?_
        refine g_iconst C dX7_town_87 (v := 2) (by decide) ?_
        refine g_iload_n C dX7_town_88 1 rfl rfl ?_
        refine g_imul C dX7_town_89 ?_
        refine g_iconst C dX7_town_90 (v := 1) (by decide) ?_
        refine g_iadd C dX7_town_91 ?_
        obtain ⟨h34, hq⟩ := ogd_some hq
        refine gb_ld C (show arD 4 10 from ⟨by decide, by decide, by decide, by decide⟩) h34 dX7_town_92 ?_
        obtain ⟨h35, hq⟩ := ogd_some hq
        refine gb_st C (show arD 2 5 from ⟨by decide, by decide, by decide, by decide⟩) h35 dX7_town_93 ?_
        refine g_iinc C (v := (v1 + (1 : Int32))) (lv2 := [(1, _), (0, _)]) dX7_town_94 1 rfl rfl (by decide) rfl ?_
        refine g_goto C (tgt := 56) dX7_town_97 (by decide) ?_
        exact g_sub [1, 0] rfl (ih_56 (v1 + (1 : Int32)) (mU (mU M 6 v1.toNatClampNeg (M.1 4 ((2 : Int32) * v1).toNatClampNeg)) 2 v1.toNatClampNeg ((mU M 6 v1.toNatClampNeg (M.1 4 ((2 : Int32) * v1).toNatClampNeg)).1 4 (((2 : Int32) * v1) + (1 : Int32)).toNatClampNeg)) hq)
  have L_35 : ∀ (f : Nat) (v1 : Int32) (M : MM), q_X7_town_35   f v1 M = some (r, M2) → gG p l e ({ frames := 5, cells := 0, slots := 0, locals := 111 }) s m args below meth c 2 (dC, dI) vwCl A0 s.heap 0 0 (MQ below ((qI (dC, dI) vwCl (wD a cI cZ M2) r) A0) args s 0 0 A0) (wD a cI cZ M) 35 [(0, .ref (a 0)), (1, .int v1)] [] := by
    intro f
    induction f with
    | zero => intro v1 M hq; cases hq
    | succ f_35 ih_35 =>
      intro v1 M hq
      rw [q_X7_town_35] at hq
      refine g_iload_n C dX7_town_35 1 rfl rfl ?_
      refine g_bipush C dX7_town_36 (v := 24) (by decide) ?_
      refine g_icmp_ge C (tgt := 54) dX7_town_38 (by decide) (fun c38 => ?_) (fun c38 => ?_)
      · have hq := ip c38 hq
        refine g_iconst C dX7_town_54 (v := 0) (by decide) ?_
        refine g_istore_n C (lv2 := [(1, _), (0, _)]) dX7_town_55 rfl (by decide) rfl ?_
        exact g_sub [1, 0] rfl (L_56 FU (0 : Int32) M hq)
      · have hq := iq c38 hq
        refine g_aload_n C dX7_town_41 0 rfl rfl ?_
        refine rg_X7_page C dX7_town_42 ?_
        refine g_iload_n C dX7_town_45 1 rfl rfl ?_
        refine g_iconst C dX7_town_46 (v := 0) (by decide) ?_
        obtain ⟨h39, hq⟩ := ogd_some hq
        refine gb_st C (show arD 6 24 from ⟨by decide, by decide, by decide, by decide⟩) h39 dX7_town_47 ?_
        refine g_iinc C (v := (v1 + (1 : Int32))) (lv2 := [(1, _), (0, _)]) dX7_town_48 1 rfl rfl (by decide) rfl ?_
        refine g_goto C (tgt := 35) dX7_town_51 (by decide) ?_
        exact g_sub [1, 0] rfl (ih_35 (v1 + (1 : Int32)) (mU M 6 v1.toNatClampNeg (0 : Int32)) hq)
  unfold q_X7_town at hq
  refine g_aload_n C dX7_town_0 0 rfl rfl ?_
  refine g_iconst C dX7_town_1 (v := 0) (by decide) ?_
  refine rp_X7_thrown C dX7_town_2 ?_
  refine g_aload_n C dX7_town_5 0 rfl rfl ?_
  obtain ⟨z43, Mz43, h44, hq⟩ := obd_some hq
  refine gc_Vi C (k_X7_readTown  (mU M 0 0 (0 : Int32)) Mz43 z43 h44) wl_779 ok_X7_readTown rv_X7 rfl ⟨Nat.le_of_ble_eq_true rfl, Nat.le_of_ble_eq_true rfl⟩ ⟨Nat.le_of_ble_eq_true rfl, Nat.le_of_ble_eq_true rfl⟩ rfl (Nat.le_of_ble_eq_true rfl) dX7_town_6 ?_
  refine g_bipush C dX7_town_9 (v := -9) (by decide) ?_
  refine g_icmp_eq C (tgt := 17) dX7_town_11 (by decide) (fun c45 => ?_) (fun c45 => ?_)
  · have hq := ip c45 hq
    refine g_aload_n C dX7_town_17 0 rfl rfl ?_
    refine g_aload_n C dX7_town_18 0 rfl rfl ?_
    refine rg_X7_readWalkers C dX7_town_19 ?_
    refine rp_X7_walkers C dX7_town_22 ?_
    refine g_aload_n C dX7_town_25 0 rfl rfl ?_
    refine g_aload_n C dX7_town_26 0 rfl rfl ?_
    refine rg_X7_readNeeds C dX7_town_27 ?_
    refine rp_X7_needs C dX7_town_30 ?_
    refine g_iconst C dX7_town_33 (v := 0) (by decide) ?_
    refine g_istore_n C (lv2 := [(1, _), (0, _)]) dX7_town_34 rfl (by decide) rfl ?_
    exact g_sub [1, 0] rfl (L_35 FU (0 : Int32) (mU (mU Mz43 0 3 (Mz43.1 0 5)) 0 4 ((mU Mz43 0 3 (Mz43.1 0 5)).1 0 6)) hq)
  · have hq := iq c45 hq
    refine g_bipush C dX7_town_14 (v := -3) (by decide) ?_
    exact g_iret C dX7_town_16 (som2 hq).1 (congrArg (wD a cI cZ) (som2 hq).2)
set_option maxHeartbeats 4000000 in
set_option maxRecDepth 100000 in
theorem k_X7_openIn {l : Launch} {dC : Nat → ClassId} {dI : Nat → Nat → Nat} {a : Nat → Nat} {cI cZ cS : ClassId} (p1 : Nat) (hp1 : p1 = 6 ∨ p1 = 7) (x2 : Int32) (M M2 : MM) (r : Int32) (hq : q_X7_openIn p1 x2 M = some (r, M2)) : KQ l (dC, dI) vwCl (tyW cI cZ cS) yX7_openIn cX7_openIn 5 (some .int) 1 21 [.ref (a 0), .ref (a p1), .int x2] (wD a cI cZ M) (qI (dC, dI) vwCl (wD a cI cZ M2) r) := by
  refine KQ.of (by decide) (Nat.le_of_ble_eq_true rfl) rfl ?_
  intro p e s m args below meth c A0 C
  have L_5 : ∀ (f : Nat) (v3 : Int32) (v4 : Int32) (M : MM), q_X7_openIn_5 p1 x2  f v3 v4 M = some (r, M2) → gG p l e ({ frames := 1, cells := 0, slots := 0, locals := 21 }) s m args below meth c 5 (dC, dI) vwCl A0 s.heap 0 0 (MQ below ((qI (dC, dI) vwCl (wD a cI cZ M2) r) A0) args s 0 0 A0) (wD a cI cZ M) 5 [(0, .ref (a 0)), (1, .ref (a p1)), (2, .int x2), (3, .int v3), (4, .int v4)] [] := by
    intro f
    induction f with
    | zero => intro v3 v4 M hq; cases hq
    | succ f_5 ih_5 =>
      have J_39 : ∀ (v4 : Int32) (s0 : Int32) (s1 : Int32) (M : MM), q_X7_openIn_39 p1 x2 (q_X7_openIn_5 p1 x2  f_5) v4 s0 s1 M = some (r, M2) → gG p l e ({ frames := 1, cells := 0, slots := 0, locals := 21 }) s m args below meth c 5 (dC, dI) vwCl A0 s.heap 0 0 (MQ below ((qI (dC, dI) vwCl (wD a cI cZ M2) r) A0) args s 0 0 A0) (wD a cI cZ M) 39 [(0, .ref (a 0)), (1, .ref (a p1)), (2, .int x2), (4, .int v4)] [.int s1, .int s0] := by
        intro v4 s0 s1 M hq
        unfold q_X7_openIn_39 at hq
        refine g_iadd C dX7_openIn_39 ?_
        refine g_istore_n C (lv2 := [(3, _), (0, _), (1, _), (2, _), (4, _)]) dX7_openIn_40 rfl (by decide) rfl ?_
        refine g_iinc C (v := (v4 + (1 : Int32))) (lv2 := [(4, _), (3, _), (0, _), (1, _), (2, _)]) dX7_openIn_41 4 rfl rfl (by decide) rfl ?_
        refine g_goto C (tgt := 5) dX7_openIn_44 (by decide) ?_
        exact g_sub [2, 3, 4, 1, 0] rfl (ih_5 (s0 + s1) (v4 + (1 : Int32)) M hq)
      have J_38 : ∀ (v4 : Int32) (s0 : Int32) (M : MM), q_X7_openIn_38 p1 x2 (q_X7_openIn_5 p1 x2  f_5) v4 s0 M = some (r, M2) → gG p l e ({ frames := 1, cells := 0, slots := 0, locals := 21 }) s m args below meth c 5 (dC, dI) vwCl A0 s.heap 0 0 (MQ below ((qI (dC, dI) vwCl (wD a cI cZ M2) r) A0) args s 0 0 A0) (wD a cI cZ M) 38 [(0, .ref (a 0)), (1, .ref (a p1)), (2, .int x2), (4, .int v4)] [.int s0] := by
        intro v4 s0 M hq
        unfold q_X7_openIn_38 at hq
        refine g_iconst C dX7_openIn_38 (v := 0) (by decide) ?_
        exact g_sub [0, 1, 2, 3] rfl (J_39 v4 s0 (0 : Int32) M hq)
      intro v3 v4 M hq
      rw [q_X7_openIn_5] at hq
      refine g_iload C dX7_openIn_5 4 rfl ?_
      refine g_aload_n C dX7_openIn_7 0 rfl rfl ?_
      refine rg_X7_walkers C dX7_openIn_8 ?_
      refine g_icmp_ge C (tgt := 47) dX7_openIn_11 (by decide) (fun c11 => ?_) (fun c11 => ?_)
      · have hq := ip c11 hq
        refine g_iload_n C dX7_openIn_47 3 rfl rfl ?_
        exact g_iret C dX7_openIn_48 (som2 hq).1 (congrArg (wD a cI cZ) (som2 hq).2)
      · have hq := iq c11 hq
        refine g_iload_n C dX7_openIn_14 3 rfl rfl ?_
        refine g_aload_n C dX7_openIn_15 1 rfl rfl ?_
        refine g_iconst C dX7_openIn_16 (v := 5) (by decide) ?_
        obtain ⟨h12, hq⟩ := ogd_some hq
        refine gb_ld C (arD_p hp1) h12 dX7_openIn_17 ?_
        refine g_iload C dX7_openIn_18 4 rfl ?_
        refine gc_Si C (k_X7_has (M.1 p1 (5 : Int32).toNatClampNeg) v4 M) wl_811 ok_X7_has ⟨Nat.le_of_ble_eq_true rfl, Nat.le_of_ble_eq_true rfl⟩ ⟨Nat.le_of_ble_eq_true rfl, Nat.le_of_ble_eq_true rfl⟩ rfl (Nat.le_of_ble_eq_true rfl) dX7_openIn_20 ?_
        refine g_if_eq C (tgt := 38) dX7_openIn_23 (by decide) (fun c13 => ?_) (fun c13 => ?_)
        · have hq := ip c13 hq
          exact g_sub [0, 1, 2, 4] rfl (J_38 v4 v3 M hq)
        · have hq := iq c13 hq
          refine g_aload_n C dX7_openIn_26 1 rfl rfl ?_
          refine g_iload C dX7_openIn_27 4 rfl ?_
          obtain ⟨h14, hq⟩ := ogd_some hq
          refine gb_ld C (arD_p hp1) h14 dX7_openIn_29 ?_
          refine g_iload_n C dX7_openIn_30 2 rfl rfl ?_
          refine g_icmp_ne C (tgt := 38) dX7_openIn_31 (by decide) (fun c15 => ?_) (fun c15 => ?_)
          · have hq := iq c15 hq
            exact g_sub [0, 1, 2, 4] rfl (J_38 v4 v3 M hq)
          · have hq := ip c15 hq
            refine g_iconst C dX7_openIn_34 (v := 1) (by decide) ?_
            refine g_goto C (tgt := 39) dX7_openIn_35 (by decide) ?_
            exact g_sub [0, 1, 2, 4] rfl (J_39 v4 v3 (1 : Int32) M hq)
  unfold q_X7_openIn at hq
  refine g_iconst C dX7_openIn_0 (v := 0) (by decide) ?_
  refine g_istore_n C (lv2 := [(3, _), (0, _), (1, _), (2, _)]) dX7_openIn_1 rfl (by decide) rfl ?_
  refine g_iconst C dX7_openIn_2 (v := 0) (by decide) ?_
  refine g_istore C (lv2 := [(4, _), (3, _), (0, _), (1, _), (2, _)]) dX7_openIn_3 (by decide) rfl ?_
  exact g_sub [2, 3, 4, 1, 0] rfl (L_5 FU (0 : Int32) (0 : Int32) M hq)
set_option maxHeartbeats 4000000 in
set_option maxRecDepth 100000 in
theorem k_X7_rainOf {l : Launch} {dC : Nat → ClassId} {dI : Nat → Nat → Nat} {a : Nat → Nat} {cI cZ cS : ClassId} (p1 : Nat) (hp1 : p1 = 6 ∨ p1 = 7) (M M2 : MM) (r : Int32) (hq : q_X7_rainOf p1 M = some (r, M2)) : KQ l (dC, dI) vwCl (tyW cI cZ cS) yX7_rainOf cX7_rainOf 5 (some .int) 1 21 [.ref (a 0), .ref (a p1)] (wD a cI cZ M) (qI (dC, dI) vwCl (wD a cI cZ M2) r) := by
  refine KQ.of (by decide) (Nat.le_of_ble_eq_true rfl) rfl ?_
  intro p e s m args below meth c A0 C
  have L_37 : ∀ (f : Nat) (v2 : Int32) (v3 : Int32) (M : MM), q_X7_rainOf_37 p1  f v2 v3 M = some (r, M2) → gG p l e ({ frames := 1, cells := 0, slots := 0, locals := 21 }) s m args below meth c 5 (dC, dI) vwCl A0 s.heap 0 0 (MQ below ((qI (dC, dI) vwCl (wD a cI cZ M2) r) A0) args s 0 0 A0) (wD a cI cZ M) 37 [(0, .ref (a 0)), (1, .ref (a p1)), (2, .int v2), (3, .int v3)] [] := by
    intro f
    induction f with
    | zero => intro v2 v3 M hq; cases hq
    | succ f_37 ih_37 =>
      have J_94 : ∀ (v3 : Int32) (s0 : Int32) (s1 : Int32) (M : MM), q_X7_rainOf_94 p1 (q_X7_rainOf_37 p1  f_37) v3 s0 s1 M = some (r, M2) → gG p l e ({ frames := 1, cells := 0, slots := 0, locals := 21 }) s m args below meth c 5 (dC, dI) vwCl A0 s.heap 0 0 (MQ below ((qI (dC, dI) vwCl (wD a cI cZ M2) r) A0) args s 0 0 A0) (wD a cI cZ M) 94 [(0, .ref (a 0)), (1, .ref (a p1)), (3, .int v3)] [.int s1, .int s0] := by
        intro v3 s0 s1 M hq
        unfold q_X7_rainOf_94 at hq
        refine g_ior C dX7_rainOf_94 ?_
        refine g_istore_n C (lv2 := [(2, _), (0, _), (1, _), (3, _)]) dX7_rainOf_95 rfl (by decide) rfl ?_
        refine g_iinc C (v := (v3 + (1 : Int32))) (lv2 := [(3, _), (2, _), (0, _), (1, _)]) dX7_rainOf_96 3 rfl rfl (by decide) rfl ?_
        refine g_goto C (tgt := 37) dX7_rainOf_99 (by decide) ?_
        exact g_sub [2, 3, 1, 0] rfl (ih_37 (s0 ||| s1) (v3 + (1 : Int32)) M hq)
      have J_64 : ∀ (v2 : Int32) (v3 : Int32) (s0 : Int32) (M : MM), q_X7_rainOf_64 p1 (q_X7_rainOf_37 p1  f_37) v2 v3 s0 M = some (r, M2) → gG p l e ({ frames := 1, cells := 0, slots := 0, locals := 21 }) s m args below meth c 5 (dC, dI) vwCl A0 s.heap 0 0 (MQ below ((qI (dC, dI) vwCl (wD a cI cZ M2) r) A0) args s 0 0 A0) (wD a cI cZ M) 64 [(0, .ref (a 0)), (1, .ref (a p1)), (2, .int v2), (3, .int v3)] [.int s0] := by
        intro v2 v3 s0 M hq
        unfold q_X7_rainOf_64 at hq
        refine g_istore C (lv2 := [(4, _), (0, _), (1, _), (2, _), (3, _)]) dX7_rainOf_64 (by decide) rfl ?_
        refine g_iload_n C dX7_rainOf_66 3 rfl rfl ?_
        refine g_aload_n C dX7_rainOf_67 1 rfl rfl ?_
        refine rg_X7_stuff C dX7_rainOf_68 ?_
        refine g_iload_n C dX7_rainOf_71 4 rfl rfl ?_
        obtain ⟨h12, hq⟩ := ogd_some hq
        refine gb_ld C (show arD 2 5 from ⟨by decide, by decide, by decide, by decide⟩) h12 dX7_rainOf_72 ?_
        refine g_iconst C dX7_rainOf_73 (v := 3) (by decide) ?_
        refine g_icmp_ne C (tgt := 92) dX7_rainOf_74 (by decide) (fun c13 => ?_) (fun c13 => ?_)
        · have hq := iq c13 hq
          refine g_iload C dX7_rainOf_92 0 rfl ?_
          exact g_sub [1, 2, 4] rfl (J_94 v3 v2 s0 M hq)
        · have hq := ip c13 hq
          refine g_iload C dX7_rainOf_77 0 rfl ?_
          refine g_iload C dX7_rainOf_79 0 rfl ?_
          refine g_iconst C dX7_rainOf_81 (v := 1) (by decide) ?_
          refine g_ishl C dX7_rainOf_82 ?_
          refine g_ior C dX7_rainOf_83 ?_
          refine g_iload C dX7_rainOf_84 0 rfl ?_
          refine g_iconst C dX7_rainOf_86 (v := 1) (by decide) ?_
          refine g_ishr C dX7_rainOf_87 ?_
          refine g_ior C dX7_rainOf_88 ?_
          refine g_goto C (tgt := 94) dX7_rainOf_89 (by decide) ?_
          exact g_sub [1, 2, 4] rfl (J_94 v3 v2 ((s0 ||| (s0 <<< ((1 : Int32) &&& 31))) ||| (s0 >>> ((1 : Int32) &&& 31))) M hq)
      intro v2 v3 M hq
      rw [q_X7_rainOf_37] at hq
      refine g_iload_n C dX7_rainOf_37 3 rfl rfl ?_
      refine g_aload_n C dX7_rainOf_38 0 rfl rfl ?_
      refine rg_X7_walkers C dX7_rainOf_39 ?_
      refine g_icmp_ge C (tgt := 102) dX7_rainOf_42 (by decide) (fun c18 => ?_) (fun c18 => ?_)
      · have hq := ip c18 hq
        refine g_iload_n C dX7_rainOf_102 2 rfl rfl ?_
        refine g_bipush C dX7_rainOf_103 (v := 63) (by decide) ?_
        refine g_iand C dX7_rainOf_105 ?_
        exact g_iret C dX7_rainOf_106 (som2 hq).1 (congrArg (wD a cI cZ) (som2 hq).2)
      · have hq := iq c18 hq
        refine g_aload_n C dX7_rainOf_45 1 rfl rfl ?_
        refine g_iconst C dX7_rainOf_46 (v := 5) (by decide) ?_
        obtain ⟨h19, hq⟩ := ogd_some hq
        refine gb_ld C (arD_p hp1) h19 dX7_rainOf_47 ?_
        refine g_iload_n C dX7_rainOf_48 3 rfl rfl ?_
        refine gc_Si C (k_X7_has (M.1 p1 (5 : Int32).toNatClampNeg) v3 M) wl_811 ok_X7_has ⟨Nat.le_of_ble_eq_true rfl, Nat.le_of_ble_eq_true rfl⟩ ⟨Nat.le_of_ble_eq_true rfl, Nat.le_of_ble_eq_true rfl⟩ rfl (Nat.le_of_ble_eq_true rfl) dX7_rainOf_49 ?_
        refine g_if_eq C (tgt := 63) dX7_rainOf_52 (by decide) (fun c20 => ?_) (fun c20 => ?_)
        · have hq := ip c20 hq
          refine g_iconst C dX7_rainOf_63 (v := 0) (by decide) ?_
          exact g_sub [0, 1, 2, 3] rfl (J_64 v2 v3 (0 : Int32) M hq)
        · have hq := iq c20 hq
          refine g_iconst C dX7_rainOf_55 (v := 1) (by decide) ?_
          refine g_aload_n C dX7_rainOf_56 1 rfl rfl ?_
          refine g_iload_n C dX7_rainOf_57 3 rfl rfl ?_
          obtain ⟨h21, hq⟩ := ogd_some hq
          refine gb_ld C (arD_p hp1) h21 dX7_rainOf_58 ?_
          refine g_ishl C dX7_rainOf_59 ?_
          refine g_goto C (tgt := 64) dX7_rainOf_60 (by decide) ?_
          exact g_sub [0, 1, 2, 3] rfl (J_64 v2 v3 ((1 : Int32) <<< ((M.1 p1 v3.toNatClampNeg) &&& 31)) M hq)
  have L_4 : ∀ (f : Nat) (v2 : Int32) (v3 : Int32) (M : MM), q_X7_rainOf_4 p1  f v2 v3 M = some (r, M2) → gG p l e ({ frames := 1, cells := 0, slots := 0, locals := 21 }) s m args below meth c 5 (dC, dI) vwCl A0 s.heap 0 0 (MQ below ((qI (dC, dI) vwCl (wD a cI cZ M2) r) A0) args s 0 0 A0) (wD a cI cZ M) 4 [(0, .ref (a 0)), (1, .ref (a p1)), (2, .int v2), (3, .int v3)] [] := by
    intro f
    induction f with
    | zero => intro v2 v3 M hq; cases hq
    | succ f_4 ih_4 =>
      have J_27 : ∀ (v3 : Int32) (s0 : Int32) (s1 : Int32) (M : MM), q_X7_rainOf_27 p1 (q_X7_rainOf_4 p1  f_4) v3 s0 s1 M = some (r, M2) → gG p l e ({ frames := 1, cells := 0, slots := 0, locals := 21 }) s m args below meth c 5 (dC, dI) vwCl A0 s.heap 0 0 (MQ below ((qI (dC, dI) vwCl (wD a cI cZ M2) r) A0) args s 0 0 A0) (wD a cI cZ M) 27 [(0, .ref (a 0)), (1, .ref (a p1)), (3, .int v3)] [.int s1, .int s0] := by
        intro v3 s0 s1 M hq
        unfold q_X7_rainOf_27 at hq
        refine g_ior C dX7_rainOf_27 ?_
        refine g_istore_n C (lv2 := [(2, _), (0, _), (1, _), (3, _)]) dX7_rainOf_28 rfl (by decide) rfl ?_
        refine g_iinc C (v := (v3 + (1 : Int32))) (lv2 := [(3, _), (2, _), (0, _), (1, _)]) dX7_rainOf_29 3 rfl rfl (by decide) rfl ?_
        refine g_goto C (tgt := 4) dX7_rainOf_32 (by decide) ?_
        exact g_sub [2, 3, 1, 0] rfl (ih_4 (s0 ||| s1) (v3 + (1 : Int32)) M hq)
      intro v2 v3 M hq
      rw [q_X7_rainOf_4] at hq
      refine g_iload_n C dX7_rainOf_4 3 rfl rfl ?_
      refine g_bipush C dX7_rainOf_5 (v := 6) (by decide) ?_
      refine g_icmp_ge C (tgt := 35) dX7_rainOf_7 (by decide) (fun c25 => ?_) (fun c25 => ?_)
      · have hq := ip c25 hq
        refine g_iconst C dX7_rainOf_35 (v := 0) (by decide) ?_
        refine g_istore_n C (lv2 := [(3, _), (0, _), (1, _), (2, _)]) dX7_rainOf_36 rfl (by decide) rfl ?_
        exact g_sub [1, 2, 3, 0] rfl (L_37 FU v2 (0 : Int32) M hq)
      · have hq := iq c25 hq
        refine g_iload_n C dX7_rainOf_10 2 rfl rfl ?_
        refine g_aload_n C dX7_rainOf_11 1 rfl rfl ?_
        refine g_bipush C dX7_rainOf_12 (v := 6) (by decide) ?_
        refine g_iload_n C dX7_rainOf_14 3 rfl rfl ?_
        refine g_iadd C dX7_rainOf_15 ?_
        obtain ⟨h26, hq⟩ := ogd_some hq
        refine gb_ld C (arD_p hp1) h26 dX7_rainOf_16 ?_
        refine g_if_le C (tgt := 26) dX7_rainOf_17 (by decide) (fun c27 => ?_) (fun c27 => ?_)
        · have hq := ip c27 hq
          refine g_iconst C dX7_rainOf_26 (v := 0) (by decide) ?_
          exact g_sub [0, 1, 3] rfl (J_27 v3 v2 (0 : Int32) M hq)
        · have hq := iq c27 hq
          refine g_iconst C dX7_rainOf_20 (v := 1) (by decide) ?_
          refine g_iload_n C dX7_rainOf_21 3 rfl rfl ?_
          refine g_ishl C dX7_rainOf_22 ?_
          refine g_goto C (tgt := 27) dX7_rainOf_23 (by decide) ?_
          exact g_sub [0, 1, 3] rfl (J_27 v3 v2 ((1 : Int32) <<< (v3 &&& 31)) M hq)
  unfold q_X7_rainOf at hq
  refine g_iconst C dX7_rainOf_0 (v := 0) (by decide) ?_
  refine g_istore_n C (lv2 := [(2, _), (0, _), (1, _)]) dX7_rainOf_1 rfl (by decide) rfl ?_
  refine g_iconst C dX7_rainOf_2 (v := 0) (by decide) ?_
  refine g_istore_n C (lv2 := [(3, _), (2, _), (0, _), (1, _)]) dX7_rainOf_3 rfl (by decide) rfl ?_
  exact g_sub [2, 3, 1, 0] rfl (L_4 FU (0 : Int32) (0 : Int32) M hq)
set_option maxHeartbeats 4000000 in
set_option maxRecDepth 100000 in
theorem k_X7_hailOf {l : Launch} {dC : Nat → ClassId} {dI : Nat → Nat → Nat} {a : Nat → Nat} {cI cZ cS : ClassId} (p1 : Nat) (hp1 : p1 = 6 ∨ p1 = 7) (M M2 : MM) (r : Int32) (hq : q_X7_hailOf p1 M = some (r, M2)) : KQ l (dC, dI) vwCl (tyW cI cZ cS) yX7_hailOf cX7_hailOf 4 (some .int) 2 45 [.ref (a 0), .ref (a p1)] (wD a cI cZ M) (qI (dC, dI) vwCl (wD a cI cZ M2) r) := by
  refine KQ.of (by decide) (Nat.le_of_ble_eq_true rfl) rfl ?_
  intro p e s m args below meth c A0 C
  have L_4 : ∀ (f : Nat) (v2 : Int32) (v3 : Int32) (M : MM), q_X7_hailOf_4 p1  f v2 v3 M = some (r, M2) → gG p l e ({ frames := 2, cells := 0, slots := 0, locals := 45 }) s m args below meth c 4 (dC, dI) vwCl A0 s.heap 0 0 (MQ below ((qI (dC, dI) vwCl (wD a cI cZ M2) r) A0) args s 0 0 A0) (wD a cI cZ M) 4 [(0, .ref (a 0)), (1, .ref (a p1)), (2, .int v2), (3, .int v3)] [] := by
    intro f
    induction f with
    | zero => intro v2 v3 M hq; cases hq
    | succ f_4 ih_4 =>
      have J_28 : ∀ (v3 : Int32) (s0 : Int32) (s1 : Int32) (M : MM), q_X7_hailOf_28 p1 (q_X7_hailOf_4 p1  f_4) v3 s0 s1 M = some (r, M2) → gG p l e ({ frames := 2, cells := 0, slots := 0, locals := 45 }) s m args below meth c 4 (dC, dI) vwCl A0 s.heap 0 0 (MQ below ((qI (dC, dI) vwCl (wD a cI cZ M2) r) A0) args s 0 0 A0) (wD a cI cZ M) 28 [(0, .ref (a 0)), (1, .ref (a p1)), (3, .int v3)] [.int s1, .int s0] := by
        intro v3 s0 s1 M hq
        unfold q_X7_hailOf_28 at hq
        refine g_ior C dX7_hailOf_28 ?_
        refine g_istore_n C (lv2 := [(2, _), (0, _), (1, _), (3, _)]) dX7_hailOf_29 rfl (by decide) rfl ?_
        refine g_iinc C (v := (v3 + (1 : Int32))) (lv2 := [(3, _), (2, _), (0, _), (1, _)]) dX7_hailOf_30 3 rfl rfl (by decide) rfl ?_
        refine g_goto C (tgt := 4) dX7_hailOf_33 (by decide) ?_
        exact g_sub [2, 3, 1, 0] rfl (ih_4 (s0 ||| s1) (v3 + (1 : Int32)) M hq)
      intro v2 v3 M hq
      rw [q_X7_hailOf_4] at hq
      refine g_iload_n C dX7_hailOf_4 3 rfl rfl ?_
      refine g_bipush C dX7_hailOf_5 (v := 6) (by decide) ?_
      refine g_icmp_ge C (tgt := 36) dX7_hailOf_7 (by decide) (fun c9 => ?_) (fun c9 => ?_)
      · have hq := ip c9 hq
        refine g_iload_n C dX7_hailOf_36 2 rfl rfl ?_
        exact g_iret C dX7_hailOf_37 (som2 hq).1 (congrArg (wD a cI cZ) (som2 hq).2)
      · have hq := iq c9 hq
        refine g_iload_n C dX7_hailOf_10 2 rfl rfl ?_
        refine g_aload_n C dX7_hailOf_11 0 rfl rfl ?_
        refine g_aload_n C dX7_hailOf_12 1 rfl rfl ?_
        refine g_iload_n C dX7_hailOf_13 3 rfl rfl ?_
        obtain ⟨z10, Mz10, h11, hq⟩ := obd_some hq
        refine gc_Vi C (k_X7_openIn p1 hp1 v3 M Mz10 z10 h11) wl_818 ok_X7_openIn rv_X7 rfl ⟨Nat.le_of_ble_eq_true rfl, Nat.le_of_ble_eq_true rfl⟩ ⟨Nat.le_of_ble_eq_true rfl, Nat.le_of_ble_eq_true rfl⟩ rfl (Nat.le_of_ble_eq_true rfl) dX7_hailOf_14 ?_
        refine g_iconst C dX7_hailOf_17 (v := 1) (by decide) ?_
        refine g_icmp_le C (tgt := 27) dX7_hailOf_18 (by decide) (fun c12 => ?_) (fun c12 => ?_)
        · have hq := ip c12 hq
          refine g_iconst C dX7_hailOf_27 (v := 0) (by decide) ?_
          exact g_sub [0, 1, 3] rfl (J_28 v3 v2 (0 : Int32) Mz10 hq)
        · have hq := iq c12 hq
          refine g_iconst C dX7_hailOf_21 (v := 1) (by decide) ?_
          refine g_iload_n C dX7_hailOf_22 3 rfl rfl ?_
          refine g_ishl C dX7_hailOf_23 ?_
          refine g_goto C (tgt := 28) dX7_hailOf_24 (by decide) ?_
          exact g_sub [0, 1, 3] rfl (J_28 v3 v2 ((1 : Int32) <<< (v3 &&& 31)) Mz10 hq)
  unfold q_X7_hailOf at hq
  refine g_iconst C dX7_hailOf_0 (v := 0) (by decide) ?_
  refine g_istore_n C (lv2 := [(2, _), (0, _), (1, _)]) dX7_hailOf_1 rfl (by decide) rfl ?_
  refine g_iconst C dX7_hailOf_2 (v := 0) (by decide) ?_
  refine g_istore_n C (lv2 := [(3, _), (2, _), (0, _), (1, _)]) dX7_hailOf_3 rfl (by decide) rfl ?_
  exact g_sub [2, 3, 1, 0] rfl (L_4 FU (0 : Int32) (0 : Int32) M hq)
set_option maxHeartbeats 4000000 in
set_option maxRecDepth 100000 in
theorem k_X7_greater {l : Launch} {dC : Nat → ClassId} {dI : Nat → Nat → Nat} {a : Nat → Nat} {cI cZ cS : ClassId} (x0 : Int32) (x1 : Int32) (M : MM) : KQ l (dC, dI) vwCl (tyW cI cZ cS) yX7_greater cX7_greater 2 (some .int) 0 0 [.int x0, .int x1] (wD a cI cZ M) (qI (dC, dI) vwCl (wD a cI cZ M) (t_X7_greater x0 x1)) := by
  generalize hq : t_X7_greater x0 x1 = r
  refine KQ.of (by decide) (Nat.le_of_ble_eq_true rfl) rfl ?_
  intro p e s m args below meth c A0 C
  unfold t_X7_greater at hq
  refine g_iload_n C dX7_greater_0 0 rfl rfl ?_
  refine g_iload_n C dX7_greater_1 1 rfl rfl ?_
  refine g_icmp_ge C (tgt := 9) dX7_greater_2 (by decide) (fun c3 => ?_) (fun c3 => ?_)
  · have hq := ip c3 hq
    refine g_iload_n C dX7_greater_9 0 rfl rfl ?_
    exact g_iret C dX7_greater_10 hq rfl
  · have hq := iq c3 hq
    refine g_iload_n C dX7_greater_5 1 rfl rfl ?_
    refine g_goto C (tgt := 10) dX7_greater_6 (by decide) ?_
    exact g_iret C dX7_greater_10 hq rfl
set_option maxHeartbeats 4000000 in
set_option maxRecDepth 100000 in
theorem k_X7_goOpen {l : Launch} {dC : Nat → ClassId} {dI : Nat → Nat → Nat} {a : Nat → Nat} {cI cZ cS : ClassId} (p1 : Nat) (hp1 : p1 = 6 ∨ p1 = 7) (x2 : Int32) (M M2 : MM) (r : Unit) (hq : q_X7_goOpen p1 x2 M = some (r, M2)) : KQ l (dC, dI) vwCl (tyW cI cZ cS) yX7_goOpen cX7_goOpen 4 none 1 21 [.ref (a 0), .ref (a p1), .int x2] (wD a cI cZ M) (qV (dC, dI) vwCl (wD a cI cZ M2)) := by
  refine KQ.of (by decide) (Nat.le_of_ble_eq_true rfl) rfl ?_
  intro p e s m args below meth c A0 C
  have J_42 : ∀ (s1 : Int32) (s2 : Int32) (M : MM), q_X7_goOpen_42 p1 x2  s1 s2 M = some (r, M2) → gG p l e ({ frames := 1, cells := 0, slots := 0, locals := 21 }) s m args below meth c 4 (dC, dI) vwCl A0 s.heap 0 0 (MQ below ((qV (dC, dI) vwCl (wD a cI cZ M2)) A0) args s 0 0 A0) (wD a cI cZ M) 42 [] [.int s2, .int s1, .ref (a p1)] := by
    intro s1 s2 M hq
    unfold q_X7_goOpen_42 at hq
    obtain ⟨h10, hq⟩ := ogd_some hq
    refine gb_st C (arD_p hp1) h10 dX7_goOpen_42 ?_
    exact g_vret C dX7_goOpen_43 (congrArg (wD a cI cZ) (som2 hq).2)
  unfold q_X7_goOpen at hq
  refine g_aload_n C dX7_goOpen_0 1 rfl rfl ?_
  refine g_iconst C dX7_goOpen_1 (v := 5) (by decide) ?_
  refine g_dup2_11 C dX7_goOpen_2 rfl rfl ?_
  obtain ⟨h18, hq⟩ := ogd_some hq
  refine gb_ld C (arD_p hp1) h18 dX7_goOpen_3 ?_
  refine g_iconst C dX7_goOpen_4 (v := 1) (by decide) ?_
  refine g_iload_n C dX7_goOpen_5 2 rfl rfl ?_
  refine g_ishl C dX7_goOpen_6 ?_
  refine g_ior C dX7_goOpen_7 ?_
  obtain ⟨h19, hq⟩ := ogd_some hq
  refine gb_st C (arD_p hp1) h19 dX7_goOpen_8 ?_
  refine g_bipush C dX7_goOpen_9 (v := 6) (by decide) ?_
  refine g_aload_n C dX7_goOpen_11 1 rfl rfl ?_
  refine g_iload_n C dX7_goOpen_12 2 rfl rfl ?_
  obtain ⟨h20, hq⟩ := ogd_some hq
  refine gb_ld C (arD_p hp1) h20 dX7_goOpen_13 ?_
  refine g_iadd C dX7_goOpen_14 ?_
  refine g_istore_n C (lv2 := [(3, _), (0, _), (1, _), (2, _)]) dX7_goOpen_15 rfl (by decide) rfl ?_
  refine g_aload_n C dX7_goOpen_16 2 rfl rfl ?_
  refine g_iload_n C dX7_goOpen_17 0 rfl rfl ?_
  refine g_aload_n C dX7_goOpen_18 1 rfl rfl ?_
  refine rg_X7_stuff C dX7_goOpen_19 ?_
  refine g_iload_n C dX7_goOpen_22 3 rfl rfl ?_
  obtain ⟨h21, hq⟩ := ogd_some hq
  refine gb_ld C (show arD 2 5 from ⟨by decide, by decide, by decide, by decide⟩) h21 dX7_goOpen_23 ?_
  refine g_iconst C dX7_goOpen_24 (v := 2) (by decide) ?_
  refine g_icmp_ne C (tgt := 39) dX7_goOpen_25 (by decide) (fun c22 => ?_) (fun c22 => ?_)
  · have hq := iq c22 hq
    refine g_aload_n C dX7_goOpen_39 2 rfl rfl ?_
    refine g_iload_n C dX7_goOpen_40 0 rfl rfl ?_
    obtain ⟨h23, hq⟩ := ogd_some hq
    refine gb_ld C (arD_p hp1) h23 dX7_goOpen_41 ?_
    exact g_sub [] rfl (J_42 ((6 : Int32) + ((mU M p1 (5 : Int32).toNatClampNeg ((M.1 p1 (5 : Int32).toNatClampNeg) ||| ((1 : Int32) <<< (x2 &&& 31)))).1 p1 x2.toNatClampNeg)) ((mU M p1 (5 : Int32).toNatClampNeg ((M.1 p1 (5 : Int32).toNatClampNeg) ||| ((1 : Int32) <<< (x2 &&& 31)))).1 p1 ((6 : Int32) + ((mU M p1 (5 : Int32).toNatClampNeg ((M.1 p1 (5 : Int32).toNatClampNeg) ||| ((1 : Int32) <<< (x2 &&& 31)))).1 p1 x2.toNatClampNeg)).toNatClampNeg) (mU M p1 (5 : Int32).toNatClampNeg ((M.1 p1 (5 : Int32).toNatClampNeg) ||| ((1 : Int32) <<< (x2 &&& 31)))) hq)
  · have hq := ip c22 hq
    refine g_aload_n C dX7_goOpen_28 2 rfl rfl ?_
    refine g_iload_n C dX7_goOpen_29 0 rfl rfl ?_
    obtain ⟨h24, hq⟩ := ogd_some hq
    refine gb_ld C (arD_p hp1) h24 dX7_goOpen_30 ?_
    refine g_bipush C dX7_goOpen_31 (v := 7) (by decide) ?_
    refine gc_Si C (k_X7_greater ((mU M p1 (5 : Int32).toNatClampNeg ((M.1 p1 (5 : Int32).toNatClampNeg) ||| ((1 : Int32) <<< (x2 &&& 31)))).1 p1 ((6 : Int32) + ((mU M p1 (5 : Int32).toNatClampNeg ((M.1 p1 (5 : Int32).toNatClampNeg) ||| ((1 : Int32) <<< (x2 &&& 31)))).1 p1 x2.toNatClampNeg)).toNatClampNeg) (7 : Int32) (mU M p1 (5 : Int32).toNatClampNeg ((M.1 p1 (5 : Int32).toNatClampNeg) ||| ((1 : Int32) <<< (x2 &&& 31))))) wl_859 ok_X7_greater ⟨Nat.le_of_ble_eq_true rfl, Nat.le_of_ble_eq_true rfl⟩ ⟨Nat.le_of_ble_eq_true rfl, Nat.le_of_ble_eq_true rfl⟩ rfl (Nat.le_of_ble_eq_true rfl) dX7_goOpen_33 ?_
    refine g_goto C (tgt := 42) dX7_goOpen_36 (by decide) ?_
    exact g_sub [] rfl (J_42 ((6 : Int32) + ((mU M p1 (5 : Int32).toNatClampNeg ((M.1 p1 (5 : Int32).toNatClampNeg) ||| ((1 : Int32) <<< (x2 &&& 31)))).1 p1 x2.toNatClampNeg)) (t_X7_greater ((mU M p1 (5 : Int32).toNatClampNeg ((M.1 p1 (5 : Int32).toNatClampNeg) ||| ((1 : Int32) <<< (x2 &&& 31)))).1 p1 ((6 : Int32) + ((mU M p1 (5 : Int32).toNatClampNeg ((M.1 p1 (5 : Int32).toNatClampNeg) ||| ((1 : Int32) <<< (x2 &&& 31)))).1 p1 x2.toNatClampNeg)).toNatClampNeg) (7 : Int32)) (mU M p1 (5 : Int32).toNatClampNeg ((M.1 p1 (5 : Int32).toNatClampNeg) ||| ((1 : Int32) <<< (x2 &&& 31)))) hq)
set_option maxHeartbeats 4000000 in
set_option maxRecDepth 100000 in
theorem k_X7_goShut {l : Launch} {dC : Nat → ClassId} {dI : Nat → Nat → Nat} {a : Nat → Nat} {cI cZ cS : ClassId} (p1 : Nat) (hp1 : p1 = 6 ∨ p1 = 7) (x2 : Int32) (M M2 : MM) (r : Unit) (hq : q_X7_goShut p1 x2 M = some (r, M2)) : KQ l (dC, dI) vwCl (tyW cI cZ cS) yX7_goShut cX7_goShut 4 none 1 21 [.ref (a 0), .ref (a p1), .int x2] (wD a cI cZ M) (qV (dC, dI) vwCl (wD a cI cZ M2)) := by
  refine KQ.of (by decide) (Nat.le_of_ble_eq_true rfl) rfl ?_
  intro p e s m args below meth c A0 C
  have J_43 : ∀ (s1 : Int32) (s2 : Int32) (M : MM), q_X7_goShut_43 p1 x2  s1 s2 M = some (r, M2) → gG p l e ({ frames := 1, cells := 0, slots := 0, locals := 21 }) s m args below meth c 4 (dC, dI) vwCl A0 s.heap 0 0 (MQ below ((qV (dC, dI) vwCl (wD a cI cZ M2)) A0) args s 0 0 A0) (wD a cI cZ M) 43 [] [.int s2, .int s1, .ref (a p1)] := by
    intro s1 s2 M hq
    unfold q_X7_goShut_43 at hq
    obtain ⟨h10, hq⟩ := ogd_some hq
    refine gb_st C (arD_p hp1) h10 dX7_goShut_43 ?_
    exact g_vret C dX7_goShut_44 (congrArg (wD a cI cZ) (som2 hq).2)
  unfold q_X7_goShut at hq
  refine g_aload_n C dX7_goShut_0 1 rfl rfl ?_
  refine g_iconst C dX7_goShut_1 (v := 5) (by decide) ?_
  refine g_dup2_11 C dX7_goShut_2 rfl rfl ?_
  obtain ⟨h18, hq⟩ := ogd_some hq
  refine gb_ld C (arD_p hp1) h18 dX7_goShut_3 ?_
  refine g_iconst C dX7_goShut_4 (v := 1) (by decide) ?_
  refine g_iload_n C dX7_goShut_5 2 rfl rfl ?_
  refine g_ishl C dX7_goShut_6 ?_
  refine g_iconst C dX7_goShut_7 (v := -1) (by decide) ?_
  refine g_ixor C dX7_goShut_8 ?_
  refine g_iand C dX7_goShut_9 ?_
  obtain ⟨h19, hq⟩ := ogd_some hq
  refine gb_st C (arD_p hp1) h19 dX7_goShut_10 ?_
  refine g_bipush C dX7_goShut_11 (v := 6) (by decide) ?_
  refine g_aload_n C dX7_goShut_13 1 rfl rfl ?_
  refine g_iload_n C dX7_goShut_14 2 rfl rfl ?_
  obtain ⟨h20, hq⟩ := ogd_some hq
  refine gb_ld C (arD_p hp1) h20 dX7_goShut_15 ?_
  refine g_iadd C dX7_goShut_16 ?_
  refine g_istore_n C (lv2 := [(3, _), (0, _), (1, _), (2, _)]) dX7_goShut_17 rfl (by decide) rfl ?_
  refine g_aload_n C dX7_goShut_18 2 rfl rfl ?_
  refine g_iload_n C dX7_goShut_19 0 rfl rfl ?_
  refine g_aload_n C dX7_goShut_20 1 rfl rfl ?_
  refine rg_X7_stuff C dX7_goShut_21 ?_
  refine g_iload_n C dX7_goShut_24 3 rfl rfl ?_
  obtain ⟨h21, hq⟩ := ogd_some hq
  refine gb_ld C (show arD 2 5 from ⟨by decide, by decide, by decide, by decide⟩) h21 dX7_goShut_25 ?_
  refine g_iconst C dX7_goShut_26 (v := 1) (by decide) ?_
  refine g_icmp_ne C (tgt := 40) dX7_goShut_27 (by decide) (fun c22 => ?_) (fun c22 => ?_)
  · have hq := iq c22 hq
    refine g_aload_n C dX7_goShut_40 2 rfl rfl ?_
    refine g_iload_n C dX7_goShut_41 0 rfl rfl ?_
    obtain ⟨h23, hq⟩ := ogd_some hq
    refine gb_ld C (arD_p hp1) h23 dX7_goShut_42 ?_
    exact g_sub [] rfl (J_43 ((6 : Int32) + ((mU M p1 (5 : Int32).toNatClampNeg ((M.1 p1 (5 : Int32).toNatClampNeg) &&& (((1 : Int32) <<< (x2 &&& 31)) ^^^ (-1 : Int32)))).1 p1 x2.toNatClampNeg)) ((mU M p1 (5 : Int32).toNatClampNeg ((M.1 p1 (5 : Int32).toNatClampNeg) &&& (((1 : Int32) <<< (x2 &&& 31)) ^^^ (-1 : Int32)))).1 p1 ((6 : Int32) + ((mU M p1 (5 : Int32).toNatClampNeg ((M.1 p1 (5 : Int32).toNatClampNeg) &&& (((1 : Int32) <<< (x2 &&& 31)) ^^^ (-1 : Int32)))).1 p1 x2.toNatClampNeg)).toNatClampNeg) (mU M p1 (5 : Int32).toNatClampNeg ((M.1 p1 (5 : Int32).toNatClampNeg) &&& (((1 : Int32) <<< (x2 &&& 31)) ^^^ (-1 : Int32)))) hq)
  · have hq := ip c22 hq
    refine g_aload_n C dX7_goShut_30 2 rfl rfl ?_
    refine g_iload_n C dX7_goShut_31 0 rfl rfl ?_
    obtain ⟨h24, hq⟩ := ogd_some hq
    refine gb_ld C (arD_p hp1) h24 dX7_goShut_32 ?_
    refine g_iconst C dX7_goShut_33 (v := 1) (by decide) ?_
    refine gc_Si C (k_X7_greater ((mU M p1 (5 : Int32).toNatClampNeg ((M.1 p1 (5 : Int32).toNatClampNeg) &&& (((1 : Int32) <<< (x2 &&& 31)) ^^^ (-1 : Int32)))).1 p1 ((6 : Int32) + ((mU M p1 (5 : Int32).toNatClampNeg ((M.1 p1 (5 : Int32).toNatClampNeg) &&& (((1 : Int32) <<< (x2 &&& 31)) ^^^ (-1 : Int32)))).1 p1 x2.toNatClampNeg)).toNatClampNeg) (1 : Int32) (mU M p1 (5 : Int32).toNatClampNeg ((M.1 p1 (5 : Int32).toNatClampNeg) &&& (((1 : Int32) <<< (x2 &&& 31)) ^^^ (-1 : Int32))))) wl_859 ok_X7_greater ⟨Nat.le_of_ble_eq_true rfl, Nat.le_of_ble_eq_true rfl⟩ ⟨Nat.le_of_ble_eq_true rfl, Nat.le_of_ble_eq_true rfl⟩ rfl (Nat.le_of_ble_eq_true rfl) dX7_goShut_34 ?_
    refine g_goto C (tgt := 43) dX7_goShut_37 (by decide) ?_
    exact g_sub [] rfl (J_43 ((6 : Int32) + ((mU M p1 (5 : Int32).toNatClampNeg ((M.1 p1 (5 : Int32).toNatClampNeg) &&& (((1 : Int32) <<< (x2 &&& 31)) ^^^ (-1 : Int32)))).1 p1 x2.toNatClampNeg)) (t_X7_greater ((mU M p1 (5 : Int32).toNatClampNeg ((M.1 p1 (5 : Int32).toNatClampNeg) &&& (((1 : Int32) <<< (x2 &&& 31)) ^^^ (-1 : Int32)))).1 p1 ((6 : Int32) + ((mU M p1 (5 : Int32).toNatClampNeg ((M.1 p1 (5 : Int32).toNatClampNeg) &&& (((1 : Int32) <<< (x2 &&& 31)) ^^^ (-1 : Int32)))).1 p1 x2.toNatClampNeg)).toNatClampNeg) (1 : Int32)) (mU M p1 (5 : Int32).toNatClampNeg ((M.1 p1 (5 : Int32).toNatClampNeg) &&& (((1 : Int32) <<< (x2 &&& 31)) ^^^ (-1 : Int32)))) hq)
set_option maxHeartbeats 4000000 in
set_option maxRecDepth 100000 in
theorem k_X7_stateThen {l : Launch} {dC : Nat → ClassId} {dI : Nat → Nat → Nat} {a : Nat → Nat} {cI cZ cS : ClassId} (p1 : Nat) (hp1 : p1 = 6 ∨ p1 = 7) (x2 : Int32) (x3 : Int32) (M M2 : MM) (r : Int32) (hq : q_X7_stateThen p1 x2 x3 M = some (r, M2)) : KQ l (dC, dI) vwCl (tyW cI cZ cS) yX7_stateThen cX7_stateThen 7 (some .int) 1 21 [.ref (a 0), .ref (a p1), .int x2, .int x3] (wD a cI cZ M) (qI (dC, dI) vwCl (wD a cI cZ M2) r) := by
  refine KQ.of (by decide) (Nat.le_of_ble_eq_true rfl) rfl ?_
  intro p e s m args below meth c A0 C
  unfold q_X7_stateThen at hq
  refine g_aload_n C dX7_stateThen_0 0 rfl rfl ?_
  refine rg_X7_need C dX7_stateThen_1 ?_
  refine g_iconst C dX7_stateThen_4 (v := 3) (by decide) ?_
  refine g_iload_n C dX7_stateThen_5 2 rfl rfl ?_
  refine g_imul C dX7_stateThen_6 ?_
  refine g_iconst C dX7_stateThen_7 (v := 1) (by decide) ?_
  refine g_iadd C dX7_stateThen_8 ?_
  obtain ⟨h33, hq⟩ := ogd_some hq
  refine gb_ld C (show arD 3 15 from ⟨by decide, by decide, by decide, by decide⟩) h33 dX7_stateThen_9 ?_
  refine g_istore C (lv2 := [(4, _), (0, _), (1, _), (2, _), (3, _)]) dX7_stateThen_10 (by decide) rfl ?_
  refine g_aload_n C dX7_stateThen_12 1 rfl rfl ?_
  refine rg_X7_need C dX7_stateThen_13 ?_
  refine g_iconst C dX7_stateThen_16 (v := 3) (by decide) ?_
  refine g_iload_n C dX7_stateThen_17 3 rfl rfl ?_
  refine g_imul C dX7_stateThen_18 ?_
  refine g_iconst C dX7_stateThen_19 (v := 2) (by decide) ?_
  refine g_iadd C dX7_stateThen_20 ?_
  obtain ⟨h34, hq⟩ := ogd_some hq
  refine gb_ld C (show arD 3 15 from ⟨by decide, by decide, by decide, by decide⟩) h34 dX7_stateThen_21 ?_
  refine g_istore C (lv2 := [(5, _), (4, _), (0, _), (1, _), (2, _), (3, _)]) dX7_stateThen_22 (by decide) rfl ?_
  refine g_iload_n C dX7_stateThen_24 5 rfl rfl ?_
  refine g_aload_n C dX7_stateThen_25 2 rfl rfl ?_
  refine rg_X7_need C dX7_stateThen_26 ?_
  refine g_iconst C dX7_stateThen_29 (v := 3) (by decide) ?_
  refine g_iload_n C dX7_stateThen_30 4 rfl rfl ?_
  refine g_imul C dX7_stateThen_31 ?_
  obtain ⟨h35, hq⟩ := ogd_some hq
  refine gb_ld C (show arD 3 15 from ⟨by decide, by decide, by decide, by decide⟩) h35 dX7_stateThen_32 ?_
  refine gc_Si C (k_X7_has x3 (M.1 3 ((3 : Int32) * x2).toNatClampNeg) M) wl_811 ok_X7_has ⟨Nat.le_of_ble_eq_true rfl, Nat.le_of_ble_eq_true rfl⟩ ⟨Nat.le_of_ble_eq_true rfl, Nat.le_of_ble_eq_true rfl⟩ rfl (Nat.le_of_ble_eq_true rfl) dX7_stateThen_33 ?_
  refine g_istore C (lv2 := [(6, _), (5, _), (4, _), (0, _), (1, _), (2, _), (3, _)]) dX7_stateThen_36 (by decide) rfl ?_
  refine g_iload C dX7_stateThen_38 2 rfl ?_
  refine g_iconst C dX7_stateThen_40 (v := 1) (by decide) ?_
  refine g_icmp_ne C (tgt := 68) dX7_stateThen_41 (by decide) (fun c36 => ?_) (fun c36 => ?_)
  · have hq := iq c36 hq
    refine g_iload C dX7_stateThen_68 2 rfl ?_
    refine g_iconst C dX7_stateThen_70 (v := 2) (by decide) ?_
    refine g_icmp_ne C (tgt := 98) dX7_stateThen_71 (by decide) (fun c37 => ?_) (fun c37 => ?_)
    · have hq := iq c37 hq
      refine g_aload_n C dX7_stateThen_98 4 rfl rfl ?_
      refine g_bipush C dX7_stateThen_99 (v := 23) (by decide) ?_
      obtain ⟨h38, hq⟩ := ogd_some hq
      refine gb_ld C (arD_p hp1) h38 dX7_stateThen_101 ?_
      refine g_iload C dX7_stateThen_102 1 rfl ?_
      refine g_icmp_le C (tgt := 111) dX7_stateThen_104 (by decide) (fun c39 => ?_) (fun c39 => ?_)
      · have hq := ip c39 hq
        refine g_iload C dX7_stateThen_111 0 rfl ?_
        refine g_if_eq C (tgt := 120) dX7_stateThen_113 (by decide) (fun c40 => ?_) (fun c40 => ?_)
        · have hq := ip c40 hq
          refine g_aload_n C dX7_stateThen_120 4 rfl rfl ?_
          refine g_bipush C dX7_stateThen_121 (v := 23) (by decide) ?_
          obtain ⟨h41, hq⟩ := ogd_some hq
          refine gb_ld C (arD_p hp1) h41 dX7_stateThen_123 ?_
          refine g_iload C dX7_stateThen_124 1 rfl ?_
          refine g_icmp_ne C (tgt := 133) dX7_stateThen_126 (by decide) (fun c42 => ?_) (fun c42 => ?_)
          · have hq := iq c42 hq
            refine g_iconst C dX7_stateThen_133 (v := 0) (by decide) ?_
            exact g_iret C dX7_stateThen_134 (som2 hq).1 (congrArg (wD a cI cZ) (som2 hq).2)
          · have hq := ip c42 hq
            refine g_iconst C dX7_stateThen_129 (v := 1) (by decide) ?_
            refine g_goto C (tgt := 134) dX7_stateThen_130 (by decide) ?_
            exact g_iret C dX7_stateThen_134 (som2 hq).1 (congrArg (wD a cI cZ) (som2 hq).2)
        · have hq := iq c40 hq
          refine g_iconst C dX7_stateThen_116 (v := 2) (by decide) ?_
          refine g_goto C (tgt := 134) dX7_stateThen_117 (by decide) ?_
          exact g_iret C dX7_stateThen_134 (som2 hq).1 (congrArg (wD a cI cZ) (som2 hq).2)
      · have hq := iq c39 hq
        refine g_iconst C dX7_stateThen_107 (v := 0) (by decide) ?_
        refine g_goto C (tgt := 134) dX7_stateThen_108 (by decide) ?_
        exact g_iret C dX7_stateThen_134 (som2 hq).1 (congrArg (wD a cI cZ) (som2 hq).2)
    · have hq := ip c37 hq
      refine g_aload_n C dX7_stateThen_74 4 rfl rfl ?_
      refine g_bipush C dX7_stateThen_75 (v := 23) (by decide) ?_
      obtain ⟨h43, hq⟩ := ogd_some hq
      refine gb_ld C (arD_p hp1) h43 dX7_stateThen_77 ?_
      refine g_iload C dX7_stateThen_78 1 rfl ?_
      refine g_icmp_eq C (tgt := 87) dX7_stateThen_80 (by decide) (fun c44 => ?_) (fun c44 => ?_)
      · have hq := ip c44 hq
        refine g_iload C dX7_stateThen_87 0 rfl ?_
        refine g_if_eq C (tgt := 96) dX7_stateThen_89 (by decide) (fun c45 => ?_) (fun c45 => ?_)
        · have hq := ip c45 hq
          refine g_iconst C dX7_stateThen_96 (v := 1) (by decide) ?_
          exact g_iret C dX7_stateThen_97 (som2 hq).1 (congrArg (wD a cI cZ) (som2 hq).2)
        · have hq := iq c45 hq
          refine g_iconst C dX7_stateThen_92 (v := 2) (by decide) ?_
          refine g_goto C (tgt := 97) dX7_stateThen_93 (by decide) ?_
          exact g_iret C dX7_stateThen_97 (som2 hq).1 (congrArg (wD a cI cZ) (som2 hq).2)
      · have hq := iq c44 hq
        refine g_iconst C dX7_stateThen_83 (v := 0) (by decide) ?_
        refine g_goto C (tgt := 97) dX7_stateThen_84 (by decide) ?_
        exact g_iret C dX7_stateThen_97 (som2 hq).1 (congrArg (wD a cI cZ) (som2 hq).2)
  · have hq := ip c36 hq
    refine g_aload_n C dX7_stateThen_44 4 rfl rfl ?_
    refine g_bipush C dX7_stateThen_45 (v := 12) (by decide) ?_
    refine g_aload_n C dX7_stateThen_47 3 rfl rfl ?_
    refine rg_X7_need C dX7_stateThen_48 ?_
    refine g_iconst C dX7_stateThen_51 (v := 3) (by decide) ?_
    refine g_iload_n C dX7_stateThen_52 5 rfl rfl ?_
    refine g_imul C dX7_stateThen_53 ?_
    obtain ⟨h46, hq⟩ := ogd_some hq
    refine gb_ld C (show arD 3 15 from ⟨by decide, by decide, by decide, by decide⟩) h46 dX7_stateThen_54 ?_
    refine g_iadd C dX7_stateThen_55 ?_
    obtain ⟨h47, hq⟩ := ogd_some hq
    refine gb_ld C (arD_p hp1) h47 dX7_stateThen_56 ?_
    refine g_iload C dX7_stateThen_57 1 rfl ?_
    refine g_icmp_lt C (tgt := 66) dX7_stateThen_59 (by decide) (fun c48 => ?_) (fun c48 => ?_)
    · have hq := ip c48 hq
      refine g_iconst C dX7_stateThen_66 (v := 0) (by decide) ?_
      exact g_iret C dX7_stateThen_67 (som2 hq).1 (congrArg (wD a cI cZ) (som2 hq).2)
    · have hq := iq c48 hq
      refine g_iconst C dX7_stateThen_62 (v := 1) (by decide) ?_
      refine g_goto C (tgt := 67) dX7_stateThen_63 (by decide) ?_
      exact g_iret C dX7_stateThen_67 (som2 hq).1 (congrArg (wD a cI cZ) (som2 hq).2)
set_option maxHeartbeats 4000000 in
set_option maxRecDepth 100000 in
theorem k_X7_goHour {l : Launch} {dC : Nat → ClassId} {dI : Nat → Nat → Nat} {a : Nat → Nat} {cI cZ cS : ClassId} (p1 : Nat) (hp1 : p1 = 6 ∨ p1 = 7) (M M2 : MM) (r : Int32) (hq : q_X7_goHour p1 M = some (r, M2)) : KQ l (dC, dI) vwCl (tyW cI cZ cS) yX7_goHour cX7_goHour 5 (some .int) 3 68 [.ref (a 0), .ref (a p1)] (wD a cI cZ M) (qI (dC, dI) vwCl (wD a cI cZ M2) r) := by
  refine KQ.of (by decide) (Nat.le_of_ble_eq_true rfl) rfl ?_
  intro p e s m args below meth c A0 C
  have L_121 : ∀ (f : Nat) (v2 : Int32) (v4 : Int32) (M : MM), q_X7_goHour_121 p1  f v2 v4 M = some (r, M2) → gG p l e ({ frames := 3, cells := 0, slots := 0, locals := 68 }) s m args below meth c 5 (dC, dI) vwCl A0 s.heap 0 0 (MQ below ((qI (dC, dI) vwCl (wD a cI cZ M2) r) A0) args s 0 0 A0) (wD a cI cZ M) 121 [(1, .ref (a p1)), (2, .int v2), (4, .int v4)] [] := by
    intro f
    induction f with
    | zero => intro v2 v4 M hq; cases hq
    | succ f_121 ih_121 =>
      have J_151 : ∀ (v2 : Int32) (v4 : Int32) (s1 : Int32) (s2 : Int32) (s3 : Int32) (M : MM), q_X7_goHour_151 p1 (q_X7_goHour_121 p1  f_121) v2 v4 s1 s2 s3 M = some (r, M2) → gG p l e ({ frames := 3, cells := 0, slots := 0, locals := 68 }) s m args below meth c 5 (dC, dI) vwCl A0 s.heap 0 0 (MQ below ((qI (dC, dI) vwCl (wD a cI cZ M2) r) A0) args s 0 0 A0) (wD a cI cZ M) 151 [(1, .ref (a p1)), (2, .int v2), (4, .int v4)] [.int s3, .int s2, .int s1, .ref (a p1)] := by
        intro v2 v4 s1 s2 s3 M hq
        unfold q_X7_goHour_151 at hq
        refine g_isub C dX7_goHour_151 ?_
        obtain ⟨h25, hq⟩ := ogd_some hq
        refine gb_st C (arD_p hp1) h25 dX7_goHour_152 ?_
        refine g_iinc C (v := (v4 + (1 : Int32))) (lv2 := [(4, _), (1, _), (2, _)]) dX7_goHour_153 2 rfl rfl (by decide) rfl ?_
        refine g_goto C (tgt := 121) dX7_goHour_156 (by decide) ?_
        exact g_sub [1, 2, 0] rfl (ih_121 v2 (v4 + (1 : Int32)) (mU M p1 s1.toNatClampNeg (s2 - s3)) hq)
      intro v2 v4 M hq
      rw [q_X7_goHour_121] at hq
      refine g_iload C dX7_goHour_121 2 rfl ?_
      refine g_bipush C dX7_goHour_123 (v := 6) (by decide) ?_
      refine g_icmp_ge C (tgt := 159) dX7_goHour_125 (by decide) (fun c32 => ?_) (fun c32 => ?_)
      · have hq := ip c32 hq
        refine g_aload_n C dX7_goHour_159 0 rfl rfl ?_
        refine g_bipush C dX7_goHour_160 (v := 23) (by decide) ?_
        refine g_dup2_11 C dX7_goHour_162 rfl rfl ?_
        obtain ⟨h33, hq⟩ := ogd_some hq
        refine gb_ld C (arD_p hp1) h33 dX7_goHour_163 ?_
        refine g_iconst C dX7_goHour_164 (v := 1) (by decide) ?_
        refine g_iadd C dX7_goHour_165 ?_
        obtain ⟨h34, hq⟩ := ogd_some hq
        refine gb_st C (arD_p hp1) h34 dX7_goHour_166 ?_
        refine g_iload_n C dX7_goHour_167 1 rfl rfl ?_
        exact g_iret C dX7_goHour_168 (som2 hq).1 (congrArg (wD a cI cZ) (som2 hq).2)
      · have hq := iq c32 hq
        refine g_aload_n C dX7_goHour_128 0 rfl rfl ?_
        refine g_bipush C dX7_goHour_129 (v := 6) (by decide) ?_
        refine g_iload C dX7_goHour_131 2 rfl ?_
        refine g_iadd C dX7_goHour_133 ?_
        refine g_dup2_11 C dX7_goHour_134 rfl rfl ?_
        obtain ⟨h35, hq⟩ := ogd_some hq
        refine gb_ld C (arD_p hp1) h35 dX7_goHour_135 ?_
        refine g_aload_n C dX7_goHour_136 0 rfl rfl ?_
        refine g_bipush C dX7_goHour_137 (v := 6) (by decide) ?_
        refine g_iload C dX7_goHour_139 2 rfl ?_
        refine g_iadd C dX7_goHour_141 ?_
        obtain ⟨h36, hq⟩ := ogd_some hq
        refine gb_ld C (arD_p hp1) h36 dX7_goHour_142 ?_
        refine g_if_le C (tgt := 150) dX7_goHour_143 (by decide) (fun c37 => ?_) (fun c37 => ?_)
        · have hq := ip c37 hq
          refine g_iconst C dX7_goHour_150 (v := 0) (by decide) ?_
          exact g_sub [0, 1, 2] rfl (J_151 v2 v4 ((6 : Int32) + v4) (M.1 p1 ((6 : Int32) + v4).toNatClampNeg) (0 : Int32) M hq)
        · have hq := iq c37 hq
          refine g_iconst C dX7_goHour_146 (v := 1) (by decide) ?_
          refine g_goto C (tgt := 151) dX7_goHour_147 (by decide) ?_
          exact g_sub [0, 1, 2] rfl (J_151 v2 v4 ((6 : Int32) + v4) (M.1 p1 ((6 : Int32) + v4).toNatClampNeg) (1 : Int32) M hq)
  have L_68 : ∀ (f : Nat) (v2 : Int32) (v4 : Int32) (M : MM), q_X7_goHour_68 p1  f v2 v4 M = some (r, M2) → gG p l e ({ frames := 3, cells := 0, slots := 0, locals := 68 }) s m args below meth c 5 (dC, dI) vwCl A0 s.heap 0 0 (MQ below ((qI (dC, dI) vwCl (wD a cI cZ M2) r) A0) args s 0 0 A0) (wD a cI cZ M) 68 [(0, .ref (a 0)), (1, .ref (a p1)), (2, .int v2), (4, .int v4)] [] := by
    intro f
    induction f with
    | zero => intro v2 v4 M hq; cases hq
    | succ f_68 ih_68 =>
      have J_111 : ∀ (v2 : Int32) (v4 : Int32) (s1 : Int32) (s2 : Int32) (M : MM), q_X7_goHour_111 p1 (q_X7_goHour_68 p1  f_68) v2 v4 s1 s2 M = some (r, M2) → gG p l e ({ frames := 3, cells := 0, slots := 0, locals := 68 }) s m args below meth c 5 (dC, dI) vwCl A0 s.heap 0 0 (MQ below ((qI (dC, dI) vwCl (wD a cI cZ M2) r) A0) args s 0 0 A0) (wD a cI cZ M) 111 [(0, .ref (a 0)), (1, .ref (a p1)), (2, .int v2), (4, .int v4)] [.int s2, .int s1, .ref (a p1)] := by
        intro v2 v4 s1 s2 M hq
        unfold q_X7_goHour_111 at hq
        obtain ⟨h39, hq⟩ := ogd_some hq
        refine gb_st C (arD_p hp1) h39 dX7_goHour_111 ?_
        refine g_iinc C (v := (v4 + (1 : Int32))) (lv2 := [(4, _), (0, _), (1, _), (2, _)]) dX7_goHour_112 3 rfl rfl (by decide) rfl ?_
        refine g_goto C (tgt := 68) dX7_goHour_115 (by decide) ?_
        exact g_sub [1, 2, 3, 0] rfl (ih_68 v2 (v4 + (1 : Int32)) (mU M p1 s1.toNatClampNeg s2) hq)
      intro v2 v4 M hq
      rw [q_X7_goHour_68] at hq
      refine g_iload C dX7_goHour_68 3 rfl ?_
      refine g_aload_n C dX7_goHour_70 0 rfl rfl ?_
      refine rg_X7_needs C dX7_goHour_71 ?_
      refine g_icmp_ge C (tgt := 118) dX7_goHour_74 (by decide) (fun c46 => ?_) (fun c46 => ?_)
      · have hq := ip c46 hq
        refine g_iconst C dX7_goHour_118 (v := 0) (by decide) ?_
        refine g_istore C (lv2 := [(4, _), (0, _), (1, _), (2, _)]) dX7_goHour_119 (by decide) rfl ?_
        exact g_sub [2, 3, 0] rfl (L_121 FU v2 (0 : Int32) M hq)
      · have hq := iq c46 hq
        refine g_aload_n C dX7_goHour_77 1 rfl rfl ?_
        refine g_bipush C dX7_goHour_78 (v := 18) (by decide) ?_
        refine g_iload C dX7_goHour_80 3 rfl ?_
        refine g_iadd C dX7_goHour_82 ?_
        refine g_aload_n C dX7_goHour_83 1 rfl rfl ?_
        refine g_bipush C dX7_goHour_84 (v := 18) (by decide) ?_
        refine g_iload C dX7_goHour_86 3 rfl ?_
        refine g_iadd C dX7_goHour_88 ?_
        obtain ⟨h47, hq⟩ := ogd_some hq
        refine gb_ld C (arD_p hp1) h47 dX7_goHour_89 ?_
        refine g_if_ne C (tgt := 104) dX7_goHour_90 (by decide) (fun c48 => ?_) (fun c48 => ?_)
        · have hq := iq c48 hq
          refine g_aload_n C dX7_goHour_104 1 rfl rfl ?_
          refine g_bipush C dX7_goHour_105 (v := 18) (by decide) ?_
          refine g_iload C dX7_goHour_107 3 rfl ?_
          refine g_iadd C dX7_goHour_109 ?_
          obtain ⟨h49, hq⟩ := ogd_some hq
          refine gb_ld C (arD_p hp1) h49 dX7_goHour_110 ?_
          exact g_sub [0, 1, 2, 3] rfl (J_111 v2 v4 ((18 : Int32) + v4) (M.1 p1 ((18 : Int32) + v4).toNatClampNeg) M hq)
        · have hq := ip c48 hq
          refine g_aload_n C dX7_goHour_93 0 rfl rfl ?_
          refine g_aload_n C dX7_goHour_94 1 rfl rfl ?_
          refine g_iload C dX7_goHour_95 3 rfl ?_
          refine g_iload_n C dX7_goHour_97 2 rfl rfl ?_
          obtain ⟨z50, Mz50, h51, hq⟩ := obd_some hq
          refine gc_Vi C (k_X7_stateThen p1 hp1 v4 v2 M Mz50 z50 h51) wl_885 ok_X7_stateThen rv_X7 rfl ⟨Nat.le_of_ble_eq_true rfl, Nat.le_of_ble_eq_true rfl⟩ ⟨Nat.le_of_ble_eq_true rfl, Nat.le_of_ble_eq_true rfl⟩ rfl (Nat.le_of_ble_eq_true rfl) dX7_goHour_98 ?_
          refine g_goto C (tgt := 111) dX7_goHour_101 (by decide) ?_
          exact g_sub [0, 1, 2, 3] rfl (J_111 v2 v4 ((18 : Int32) + v4) z50 Mz50 hq)
  have L_15 : ∀ (f : Nat) (v2 : Int32) (v3 : Int32) (v4 : Int32) (M : MM), q_X7_goHour_15 p1  f v2 v3 v4 M = some (r, M2) → gG p l e ({ frames := 3, cells := 0, slots := 0, locals := 68 }) s m args below meth c 5 (dC, dI) vwCl A0 s.heap 0 0 (MQ below ((qI (dC, dI) vwCl (wD a cI cZ M2) r) A0) args s 0 0 A0) (wD a cI cZ M) 15 [(0, .ref (a 0)), (1, .ref (a p1)), (2, .int v2), (3, .int v3), (4, .int v4)] [] := by
    intro f
    induction f with
    | zero => intro v2 v3 v4 M hq; cases hq
    | succ f_15 ih_15 =>
      have J_57 : ∀ (v2 : Int32) (v3 : Int32) (v4 : Int32) (s1 : Int32) (s2 : Int32) (s3 : Int32) (M : MM), q_X7_goHour_57 p1 (q_X7_goHour_15 p1  f_15) v2 v3 v4 s1 s2 s3 M = some (r, M2) → gG p l e ({ frames := 3, cells := 0, slots := 0, locals := 68 }) s m args below meth c 5 (dC, dI) vwCl A0 s.heap 0 0 (MQ below ((qI (dC, dI) vwCl (wD a cI cZ M2) r) A0) args s 0 0 A0) (wD a cI cZ M) 57 [(0, .ref (a 0)), (1, .ref (a p1)), (2, .int v2), (3, .int v3), (4, .int v4)] [.int s3, .int s2, .int s1, .ref (a p1)] := by
        intro v2 v3 v4 s1 s2 s3 M hq
        unfold q_X7_goHour_57 at hq
        refine g_iadd C dX7_goHour_57 ?_
        obtain ⟨h53, hq⟩ := ogd_some hq
        refine gb_st C (arD_p hp1) h53 dX7_goHour_58 ?_
        refine g_iinc C (v := (v4 + (1 : Int32))) (lv2 := [(4, _), (0, _), (1, _), (2, _), (3, _)]) dX7_goHour_59 4 rfl rfl (by decide) rfl ?_
        refine g_goto C (tgt := 15) dX7_goHour_62 (by decide) ?_
        exact g_sub [1, 2, 3, 4, 0] rfl (ih_15 v2 v3 (v4 + (1 : Int32)) (mU M p1 s1.toNatClampNeg (s2 + s3)) hq)
      intro v2 v3 v4 M hq
      rw [q_X7_goHour_15] at hq
      refine g_iload C dX7_goHour_15 4 rfl ?_
      refine g_bipush C dX7_goHour_17 (v := 6) (by decide) ?_
      refine g_icmp_ge C (tgt := 65) dX7_goHour_19 (by decide) (fun c58 => ?_) (fun c58 => ?_)
      · have hq := ip c58 hq
        refine g_iconst C dX7_goHour_65 (v := 0) (by decide) ?_
        refine g_istore C (lv2 := [(4, _), (0, _), (1, _), (2, _), (3, _)]) dX7_goHour_66 (by decide) rfl ?_
        exact g_sub [1, 2, 3, 0] rfl (L_68 FU v2 (0 : Int32) M hq)
      · have hq := iq c58 hq
        refine g_aload_n C dX7_goHour_22 1 rfl rfl ?_
        refine g_bipush C dX7_goHour_23 (v := 12) (by decide) ?_
        refine g_iload C dX7_goHour_25 4 rfl ?_
        refine g_iadd C dX7_goHour_27 ?_
        refine g_dup2_11 C dX7_goHour_28 rfl rfl ?_
        obtain ⟨h59, hq⟩ := ogd_some hq
        refine gb_ld C (arD_p hp1) h59 dX7_goHour_29 ?_
        refine g_iload_n C dX7_goHour_30 2 rfl rfl ?_
        refine g_iload C dX7_goHour_31 4 rfl ?_
        refine gc_Si C (k_X7_has v2 v4 M) wl_811 ok_X7_has ⟨Nat.le_of_ble_eq_true rfl, Nat.le_of_ble_eq_true rfl⟩ ⟨Nat.le_of_ble_eq_true rfl, Nat.le_of_ble_eq_true rfl⟩ rfl (Nat.le_of_ble_eq_true rfl) dX7_goHour_33 ?_
        refine g_if_eq C (tgt := 56) dX7_goHour_36 (by decide) (fun c60 => ?_) (fun c60 => ?_)
        · have hq := ip c60 hq
          refine g_iconst C dX7_goHour_56 (v := 0) (by decide) ?_
          exact g_sub [0, 1, 2, 3, 4] rfl (J_57 v2 v3 v4 ((12 : Int32) + v4) (M.1 p1 ((12 : Int32) + v4).toNatClampNeg) (0 : Int32) M hq)
        · have hq := iq c60 hq
          refine g_iload_n C dX7_goHour_39 3 rfl rfl ?_
          refine g_iload C dX7_goHour_40 4 rfl ?_
          refine gc_Si C (k_X7_has v3 v4 M) wl_811 ok_X7_has ⟨Nat.le_of_ble_eq_true rfl, Nat.le_of_ble_eq_true rfl⟩ ⟨Nat.le_of_ble_eq_true rfl, Nat.le_of_ble_eq_true rfl⟩ rfl (Nat.le_of_ble_eq_true rfl) dX7_goHour_42 ?_
          refine g_if_eq C (tgt := 52) dX7_goHour_45 (by decide) (fun c61 => ?_) (fun c61 => ?_)
          · have hq := ip c61 hq
            refine g_iconst C dX7_goHour_52 (v := 1) (by decide) ?_
            refine g_goto C (tgt := 57) dX7_goHour_53 (by decide) ?_
            exact g_sub [0, 1, 2, 3, 4] rfl (J_57 v2 v3 v4 ((12 : Int32) + v4) (M.1 p1 ((12 : Int32) + v4).toNatClampNeg) (1 : Int32) M hq)
          · have hq := iq c61 hq
            refine g_iconst C dX7_goHour_48 (v := 2) (by decide) ?_
            refine g_goto C (tgt := 57) dX7_goHour_49 (by decide) ?_
            exact g_sub [0, 1, 2, 3, 4] rfl (J_57 v2 v3 v4 ((12 : Int32) + v4) (M.1 p1 ((12 : Int32) + v4).toNatClampNeg) (2 : Int32) M hq)
  unfold q_X7_goHour at hq
  refine g_aload_n C dX7_goHour_0 0 rfl rfl ?_
  refine g_aload_n C dX7_goHour_1 1 rfl rfl ?_
  obtain ⟨z66, Mz66, h67, hq⟩ := obd_some hq
  refine gc_Vi C (k_X7_rainOf p1 hp1 M Mz66 z66 h67) wl_807 ok_X7_rainOf rv_X7 rfl ⟨Nat.le_of_ble_eq_true rfl, Nat.le_of_ble_eq_true rfl⟩ ⟨Nat.le_of_ble_eq_true rfl, Nat.le_of_ble_eq_true rfl⟩ rfl (Nat.le_of_ble_eq_true rfl) dX7_goHour_2 ?_
  refine g_istore_n C (lv2 := [(2, _), (0, _), (1, _)]) dX7_goHour_5 rfl (by decide) rfl ?_
  refine g_aload_n C dX7_goHour_6 1 rfl rfl ?_
  refine g_aload_n C dX7_goHour_7 2 rfl rfl ?_
  obtain ⟨z68, Mz68, h69, hq⟩ := obd_some hq
  refine gc_Vi C (k_X7_hailOf p1 hp1 Mz66 Mz68 z68 h69) wl_814 ok_X7_hailOf rv_X7 rfl ⟨Nat.le_of_ble_eq_true rfl, Nat.le_of_ble_eq_true rfl⟩ ⟨Nat.le_of_ble_eq_true rfl, Nat.le_of_ble_eq_true rfl⟩ rfl (Nat.le_of_ble_eq_true rfl) dX7_goHour_8 ?_
  refine g_istore_n C (lv2 := [(3, _), (2, _), (0, _), (1, _)]) dX7_goHour_11 rfl (by decide) rfl ?_
  refine g_iconst C dX7_goHour_12 (v := 0) (by decide) ?_
  refine g_istore C (lv2 := [(4, _), (3, _), (2, _), (0, _), (1, _)]) dX7_goHour_13 (by decide) rfl ?_
  exact g_sub [3, 4, 2, 1, 0] rfl (L_15 FU z66 z68 (0 : Int32) Mz68 hq)
