set_option maxHeartbeats 4000000 in
set_option maxRecDepth 100000 in
theorem k_X0_size {l : Launch} {dC : Nat → ClassId} {dI : Nat → Nat → Nat} {a : Nat → Nat} {cI cZ cS : ClassId}  (M : MM) : KQ l (dC, dI) vwCl (tyW cI cZ cS) yX0_size cX0_size 1 (some .int) 0 0 [.ref (a 13)] (wC a cI cS M) (qI (dC, dI) vwCl (wC a cI cS M) (t_X0_size  M)) := by
  generalize hq : t_X0_size  M = r
  refine KQ.of (by decide) (Nat.le_of_ble_eq_true rfl) rfl ?_
  intro p e s m args below meth c A0 C
  unfold t_X0_size at hq
  refine g_aload_n C dX0_size_0 0 rfl rfl ?_
  refine rg_X0_count C dX0_size_1 ?_
  exact g_iret C dX0_size_4 hq rfl
set_option maxHeartbeats 4000000 in
set_option maxRecDepth 100000 in
theorem k_X0_clear {l : Launch} {dC : Nat → ClassId} {dI : Nat → Nat → Nat} {a : Nat → Nat} {cI cZ cS : ClassId}  (M M2 : MM) (r : Unit) (hq : q_X0_clear  M = some (r, M2)) : KQ l (dC, dI) vwCl (tyW cI cZ cS) yX0_clear cX0_clear 1 none 0 0 [.ref (a 13)] (wC a cI cS M) (qV (dC, dI) vwCl (wC a cI cS M2)) := by
  refine KQ.of (by decide) (Nat.le_of_ble_eq_true rfl) rfl ?_
  intro p e s m args below meth c A0 C
  unfold q_X0_clear at hq
  refine g_aload_n C dX0_clear_0 0 rfl rfl ?_
  refine g_iconst C dX0_clear_1 (v := 0) (by decide) ?_
  refine rp_X0_count C dX0_clear_2 ?_
  refine g_aload_n C dX0_clear_5 0 rfl rfl ?_
  refine g_iconst C dX0_clear_6 (v := 0) (by decide) ?_
  refine rp_X0_rains C dX0_clear_7 ?_
  exact g_vret C dX0_clear_10 (congrArg (wC a cI cS) (som2 hq).2)
set_option maxHeartbeats 4000000 in
set_option maxRecDepth 100000 in
theorem k_X0_add {l : Launch} {dC : Nat → ClassId} {dI : Nat → Nat → Nat} {a : Nat → Nat} {cI cZ cS : ClassId} (x1 : Int32) (x2 : Int32) (x3 : Int32) (M M2 : MM) (r : Bool) (hq : q_X0_add x1 x2 x3 M = some (r, M2)) : KQ l (dC, dI) vwCl (tyW cI cZ cS) yX0_add cX0_add 4 (some .boolean) 1 22 [.ref (a 13), .int x1, .int x2, .int x3] (wC a cI cS M) (qI (dC, dI) vwCl (wC a cI cS M2) (b2i r)) := by
  refine KQ.of (by decide) (Nat.le_of_ble_eq_true rfl) rfl ?_
  intro p e s m args below meth c A0 C
  have J_54 : ∀ (s1 : Int32) (s2 : Int32) (M : MM), q_X0_add_54 x1 x2 x3  s1 s2 M = some (r, M2) → gG p l e ({ frames := 1, cells := 0, slots := 0, locals := 22 }) s m args below meth c 4 (dC, dI) vwCl A0 s.heap 0 0 (MQ below ((qI (dC, dI) vwCl (wC a cI cS M2) (b2i r)) A0) args s 0 0 A0) (wC a cI cS M) 54 [(0, .ref (a 13))] [.int s2, .int s1, .ref (a 13)] := by
    intro s1 s2 M hq
    unfold q_X0_add_54 at hq
    refine g_ior C dX0_add_54 ?_
    refine rp_X0_rains C dX0_add_55 ?_
    refine g_aload_n C dX0_add_58 0 rfl rfl ?_
    refine g_dup C dX0_add_59 rfl ?_
    refine rg_X0_count C dX0_add_60 ?_
    refine g_iconst C dX0_add_63 (v := 1) (by decide) ?_
    refine g_iadd C dX0_add_64 ?_
    refine rp_X0_count C dX0_add_65 ?_
    refine g_iconst C dX0_add_68 (v := 1) (by decide) ?_
    exact g_zret C dX0_add_69 (Or.inr rfl) (congrArg b2i (som2 hq).1) (congrArg (wC a cI cS) (som2 hq).2)
  unfold q_X0_add at hq
  refine g_aload_n C dX0_add_0 0 rfl rfl ?_
  refine rg_X0_count C dX0_add_1 ?_
  refine g_bipush C dX0_add_4 (v := 6) (by decide) ?_
  refine g_icmp_lt C (tgt := 11) dX0_add_6 (by decide) (fun c5 => ?_) (fun c5 => ?_)
  · have hq := ip c5 hq
    refine g_aload_n C dX0_add_11 0 rfl rfl ?_
    refine rg_X0_streets C dX0_add_12 ?_
    refine g_aload_n C dX0_add_15 0 rfl rfl ?_
    refine rg_X0_count C dX0_add_16 ?_
    refine g_iload_n C dX0_add_19 1 rfl rfl ?_
    refine gc_Nv C (kn_X6_put 14 7 0 6 arr_14 (M.1 0 7) x1 M) nl_582 ok_X6_put ⟨Nat.le_of_ble_eq_true rfl, Nat.le_of_ble_eq_true rfl⟩ ⟨Nat.le_of_ble_eq_true rfl, Nat.le_of_ble_eq_true rfl⟩ rfl (Nat.le_of_ble_eq_true rfl) dX0_add_20 ?_
    refine g_aload_n C dX0_add_23 0 rfl rfl ?_
    refine rg_X0_hours C dX0_add_24 ?_
    refine g_aload_n C dX0_add_27 0 rfl rfl ?_
    refine rg_X0_count C dX0_add_28 ?_
    refine g_iload_n C dX0_add_31 2 rfl rfl ?_
    refine gc_Nv C (kn_X6_put 15 8 0 6 arr_15 ((t_put 7 0 6 (M.1 0 7) x1 M).1 0 7) x2 (t_put 7 0 6 (M.1 0 7) x1 M)) nl_582 ok_X6_put ⟨Nat.le_of_ble_eq_true rfl, Nat.le_of_ble_eq_true rfl⟩ ⟨Nat.le_of_ble_eq_true rfl, Nat.le_of_ble_eq_true rfl⟩ rfl (Nat.le_of_ble_eq_true rfl) dX0_add_32 ?_
    refine g_aload_n C dX0_add_35 0 rfl rfl ?_
    refine g_dup C dX0_add_36 rfl ?_
    refine rg_X0_rains C dX0_add_37 ?_
    refine g_iload_n C dX0_add_40 3 rfl rfl ?_
    refine g_if_eq C (tgt := 53) dX0_add_41 (by decide) (fun c6 => ?_) (fun c6 => ?_)
    · have hq := ip c6 hq
      refine g_iconst C dX0_add_53 (v := 0) (by decide) ?_
      exact g_sub [0] rfl (J_54 ((t_put 8 0 6 ((t_put 7 0 6 (M.1 0 7) x1 M).1 0 7) x2 (t_put 7 0 6 (M.1 0 7) x1 M)).1 0 6) (0 : Int32) (t_put 8 0 6 ((t_put 7 0 6 (M.1 0 7) x1 M).1 0 7) x2 (t_put 7 0 6 (M.1 0 7) x1 M)) hq)
    · have hq := iq c6 hq
      refine g_iconst C dX0_add_44 (v := 1) (by decide) ?_
      refine g_aload_n C dX0_add_45 0 rfl rfl ?_
      refine rg_X0_count C dX0_add_46 ?_
      refine g_ishl C dX0_add_49 ?_
      refine g_goto C (tgt := 54) dX0_add_50 (by decide) ?_
      exact g_sub [0] rfl (J_54 ((t_put 8 0 6 ((t_put 7 0 6 (M.1 0 7) x1 M).1 0 7) x2 (t_put 7 0 6 (M.1 0 7) x1 M)).1 0 6) ((1 : Int32) <<< (((t_put 8 0 6 ((t_put 7 0 6 (M.1 0 7) x1 M).1 0 7) x2 (t_put 7 0 6 (M.1 0 7) x1 M)).1 0 7) &&& 31)) (t_put 8 0 6 ((t_put 7 0 6 (M.1 0 7) x1 M).1 0 7) x2 (t_put 7 0 6 (M.1 0 7) x1 M)) hq)
  · have hq := iq c5 hq
    refine g_iconst C dX0_add_9 (v := 0) (by decide) ?_
    exact g_zret C dX0_add_10 (Or.inl rfl) (congrArg b2i (som2 hq).1) (congrArg (wC a cI cS) (som2 hq).2)
set_option maxHeartbeats 4000000 in
set_option maxRecDepth 100000 in
theorem k_X0_isWetAt {l : Launch} {dC : Nat → ClassId} {dI : Nat → Nat → Nat} {a : Nat → Nat} {cI cZ cS : ClassId} (x0 : Int32) (x1 : Int32) (x2 : Int32) (x3 : Int32) (x4 : Int32) (M : MM) : KQ l (dC, dI) vwCl (tyW cI cZ cS) yX0_isWetAt cX0_isWetAt 7 (some .boolean) 1 21 [.int x0, .int x1, .int x2, .int x3, .int x4] (wC a cI cS M) (qI (dC, dI) vwCl (wC a cI cS M) (b2i (t_X0_isWetAt x0 x1 x2 x3 x4))) := by
  generalize hq : t_X0_isWetAt x0 x1 x2 x3 x4 = r
  refine KQ.of (by decide) (Nat.le_of_ble_eq_true rfl) rfl ?_
  intro p e s m args below meth c A0 C
  have J_41 : ∀ (v5 : Int32) (v6 : Int32), t_X0_isWetAt_41 x0 x1 x2 x3 x4  v5 v6 = r → gG p l e ({ frames := 1, cells := 0, slots := 0, locals := 21 }) s m args below meth c 7 (dC, dI) vwCl A0 s.heap 0 0 (MQ below ((qI (dC, dI) vwCl (wC a cI cS M) (b2i r)) A0) args s 0 0 A0) (wC a cI cS M) 41 [(1, .int x1), (3, .int x3), (4, .int x4), (5, .int v5), (6, .int v6)] [] := by
    intro v5 v6 hq
    unfold t_X0_isWetAt_41 at hq
    refine g_iload_n C dX0_isWetAt_41 1 rfl rfl ?_
    refine g_iload_n C dX0_isWetAt_42 0 rfl rfl ?_
    refine g_isub C dX0_isWetAt_43 ?_
    refine g_mabs C wl_604 wl_569 wl_43 wl_570 ⟨Nat.le_of_ble_eq_true rfl, Nat.le_of_ble_eq_true rfl, Nat.le_of_ble_eq_true rfl, Nat.le_of_ble_eq_true rfl⟩ dX0_isWetAt_44 ?_
    refine g_iload C dX0_isWetAt_47 3 rfl ?_
    refine g_icmp_gt C (tgt := 63) dX0_isWetAt_49 (by decide) (fun c8 => ?_) (fun c8 => ?_)
    · have hq := ip c8 hq
      refine g_iconst C dX0_isWetAt_63 (v := 0) (by decide) ?_
      exact g_zret C dX0_isWetAt_64 (Or.inl rfl) (congrArg b2i hq) rfl
    · have hq := iq c8 hq
      refine g_iload C dX0_isWetAt_52 2 rfl ?_
      refine g_iload C dX0_isWetAt_54 4 rfl ?_
      refine g_icmp_ge C (tgt := 63) dX0_isWetAt_56 (by decide) (fun c9 => ?_) (fun c9 => ?_)
      · have hq := ip c9 hq
        refine g_iconst C dX0_isWetAt_63 (v := 0) (by decide) ?_
        exact g_zret C dX0_isWetAt_64 (Or.inl rfl) (congrArg b2i hq) rfl
      · have hq := iq c9 hq
        refine g_iconst C dX0_isWetAt_59 (v := 1) (by decide) ?_
        refine g_goto C (tgt := 64) dX0_isWetAt_60 (by decide) ?_
        exact g_zret C dX0_isWetAt_64 (Or.inr rfl) (congrArg b2i hq) rfl
  have J_10 : ∀ (s0 : Int32), t_X0_isWetAt_10 x0 x1 x2 x3 x4  s0 = r → gG p l e ({ frames := 1, cells := 0, slots := 0, locals := 21 }) s m args below meth c 7 (dC, dI) vwCl A0 s.heap 0 0 (MQ below ((qI (dC, dI) vwCl (wC a cI cS M) (b2i r)) A0) args s 0 0 A0) (wC a cI cS M) 10 [(0, .int x0), (1, .int x1), (2, .int x2), (3, .int x3), (4, .int x4)] [.int s0] := by
    intro s0 hq
    unfold t_X0_isWetAt_10 at hq
    refine g_istore C (lv2 := [(5, _), (0, _), (1, _), (2, _), (3, _), (4, _)]) dX0_isWetAt_10 (by decide) rfl ?_
    refine g_iload_n C dX0_isWetAt_12 3 rfl rfl ?_
    refine g_istore C (lv2 := [(6, _), (5, _), (0, _), (1, _), (2, _), (3, _), (4, _)]) dX0_isWetAt_13 (by decide) rfl ?_
    refine g_iload_n C dX0_isWetAt_15 2 rfl rfl ?_
    refine g_iconst C dX0_isWetAt_16 (v := 1) (by decide) ?_
    refine g_icmp_ne C (tgt := 28) dX0_isWetAt_17 (by decide) (fun c12 => ?_) (fun c12 => ?_)
    · have hq := iq c12 hq
      refine g_iload_n C dX0_isWetAt_28 2 rfl rfl ?_
      refine g_iconst C dX0_isWetAt_29 (v := 2) (by decide) ?_
      refine g_icmp_ne C (tgt := 41) dX0_isWetAt_30 (by decide) (fun c13 => ?_) (fun c13 => ?_)
      · have hq := iq c13 hq
        exact g_sub [3, 5, 6, 1, 0] rfl (J_41 s0 x2 hq)
      · have hq := ip c13 hq
        refine g_iload_n C dX0_isWetAt_33 4 rfl rfl ?_
        refine g_bipush C dX0_isWetAt_34 (v := 7) (by decide) ?_
        refine g_mmax C wl_603 wl_419 wl_43 wl_420 ⟨Nat.le_of_ble_eq_true rfl, Nat.le_of_ble_eq_true rfl, Nat.le_of_ble_eq_true rfl, Nat.le_of_ble_eq_true rfl⟩ dX0_isWetAt_36 ?_
        refine g_istore C (lv2 := [(6, _), (5, _), (0, _), (1, _), (2, _), (3, _), (4, _)]) dX0_isWetAt_39 (by decide) rfl ?_
        exact g_sub [3, 5, 6, 1, 0] rfl (J_41 s0 (if x2 < (7 : Int32) then (7 : Int32) else x2) hq)
    · have hq := ip c12 hq
      refine g_iload_n C dX0_isWetAt_20 4 rfl rfl ?_
      refine g_iconst C dX0_isWetAt_21 (v := 1) (by decide) ?_
      refine g_iadd C dX0_isWetAt_22 ?_
      refine g_istore C (lv2 := [(6, _), (5, _), (0, _), (1, _), (2, _), (3, _), (4, _)]) dX0_isWetAt_23 (by decide) rfl ?_
      refine g_goto C (tgt := 41) dX0_isWetAt_25 (by decide) ?_
      exact g_sub [3, 5, 6, 1, 0] rfl (J_41 s0 (x2 + (1 : Int32)) hq)
  unfold t_X0_isWetAt at hq
  refine g_iload_n C dX0_isWetAt_0 0 rfl rfl ?_
  refine g_iconst C dX0_isWetAt_1 (v := 3) (by decide) ?_
  refine g_icmp_ne C (tgt := 9) dX0_isWetAt_2 (by decide) (fun c15 => ?_) (fun c15 => ?_)
  · have hq := iq c15 hq
    refine g_iconst C dX0_isWetAt_9 (v := 0) (by decide) ?_
    exact g_sub [0, 1, 2, 3, 4] rfl (J_10 (0 : Int32) hq)
  · have hq := ip c15 hq
    refine g_iconst C dX0_isWetAt_5 (v := 1) (by decide) ?_
    refine g_goto C (tgt := 10) dX0_isWetAt_6 (by decide) ?_
    exact g_sub [0, 1, 2, 3, 4] rfl (J_10 (1 : Int32) hq)
set_option maxHeartbeats 4000000 in
set_option maxRecDepth 100000 in
theorem k_X6_has {l : Launch} {dC : Nat → ClassId} {dI : Nat → Nat → Nat} {a : Nat → Nat} {cI cZ cS : ClassId} (x0 : Int32) (x1 : Int32) (M : MM) : KQ l (dC, dI) vwCl (tyW cI cZ cS) yX6_has cX6_has 2 (some .boolean) 0 0 [.int x0, .int x1] (wC a cI cS M) (qI (dC, dI) vwCl (wC a cI cS M) (b2i (t_X6_has x0 x1))) := by
  generalize hq : t_X6_has x0 x1 = r
  refine KQ.of (by decide) (Nat.le_of_ble_eq_true rfl) rfl ?_
  intro p e s m args below meth c A0 C
  unfold t_X6_has at hq
  refine g_iload_n C dX6_has_0 1 rfl rfl ?_
  refine g_if_lt C (tgt := 23) dX6_has_1 (by decide) (fun c7 => ?_) (fun c7 => ?_)
  · have hq := ip c7 hq
    refine g_iconst C dX6_has_23 (v := 0) (by decide) ?_
    exact g_zret C dX6_has_24 (Or.inl rfl) (congrArg b2i hq) rfl
  · have hq := iq c7 hq
    refine g_iload_n C dX6_has_4 1 rfl rfl ?_
    refine g_bipush C dX6_has_5 (v := 31) (by decide) ?_
    refine g_icmp_ge C (tgt := 23) dX6_has_7 (by decide) (fun c8 => ?_) (fun c8 => ?_)
    · have hq := ip c8 hq
      refine g_iconst C dX6_has_23 (v := 0) (by decide) ?_
      exact g_zret C dX6_has_24 (Or.inl rfl) (congrArg b2i hq) rfl
    · have hq := iq c8 hq
      refine g_iload_n C dX6_has_10 0 rfl rfl ?_
      refine g_iload_n C dX6_has_11 1 rfl rfl ?_
      refine g_ishr C dX6_has_12 ?_
      refine g_iconst C dX6_has_13 (v := 1) (by decide) ?_
      refine g_iand C dX6_has_14 ?_
      refine g_iconst C dX6_has_15 (v := 1) (by decide) ?_
      refine g_icmp_ne C (tgt := 23) dX6_has_16 (by decide) (fun c9 => ?_) (fun c9 => ?_)
      · have hq := iq c9 hq
        refine g_iconst C dX6_has_23 (v := 0) (by decide) ?_
        exact g_zret C dX6_has_24 (Or.inl rfl) (congrArg b2i hq) rfl
      · have hq := ip c9 hq
        refine g_iconst C dX6_has_19 (v := 1) (by decide) ?_
        refine g_goto C (tgt := 24) dX6_has_20 (by decide) ?_
        exact g_zret C dX6_has_24 (Or.inr rfl) (congrArg b2i hq) rfl
set_option maxHeartbeats 4000000 in
set_option maxRecDepth 100000 in
theorem k_X0_isSo {l : Launch} {dC : Nat → ClassId} {dI : Nat → Nat → Nat} {a : Nat → Nat} {cI cZ cS : ClassId} (x1 : Int32) (x2 : Int32) (x3 : Int32) (M M2 : MM) (r : Bool) (hq : q_X0_isSo x1 x2 x3 M = some (r, M2)) : KQ l (dC, dI) vwCl (tyW cI cZ cS) yX0_isSo cX0_isSo 5 (some .boolean) 2 47 [.ref (a 13), .int x1, .int x2, .int x3] (wC a cI cS M) (qI (dC, dI) vwCl (wC a cI cS M2) (b2i r)) := by
  refine KQ.of (by decide) (Nat.le_of_ble_eq_true rfl) rfl ?_
  intro p e s m args below meth c A0 C
  have L_3 : ∀ (f : Nat) (v4 : Int32) (M : MM), q_X0_isSo_3 x1 x2 x3  f v4 M = some (r, M2) → gG p l e ({ frames := 2, cells := 0, slots := 0, locals := 47 }) s m args below meth c 5 (dC, dI) vwCl A0 s.heap 0 0 (MQ below ((qI (dC, dI) vwCl (wC a cI cS M2) (b2i r)) A0) args s 0 0 A0) (wC a cI cS M) 3 [(0, .ref (a 13)), (1, .int x1), (2, .int x2), (3, .int x3), (4, .int v4)] [] := by
    intro f
    induction f with
    | zero => intro v4 M hq; cases hq
    | succ f_3 ih_3 =>
      intro v4 M hq
      rw [q_X0_isSo_3] at hq
      refine g_iload C dX0_isSo_3 4 rfl ?_
      refine g_aload_n C dX0_isSo_5 0 rfl rfl ?_
      refine rg_X0_count C dX0_isSo_6 ?_
      refine g_icmp_ge C (tgt := 56) dX0_isSo_9 (by decide) (fun c5 => ?_) (fun c5 => ?_)
      · have hq := ip c5 hq
        refine g_iconst C dX0_isSo_56 (v := 1) (by decide) ?_
        exact g_zret C dX0_isSo_57 (Or.inr rfl) (congrArg b2i (som2 hq).1) (congrArg (wC a cI cS) (som2 hq).2)
      · have hq := iq c5 hq
        refine g_iload_n C dX0_isSo_12 1 rfl rfl ?_
        refine g_iload_n C dX0_isSo_13 2 rfl rfl ?_
        refine g_iload_n C dX0_isSo_14 3 rfl rfl ?_
        refine g_aload_n C dX0_isSo_15 0 rfl rfl ?_
        refine rg_X0_streets C dX0_isSo_16 ?_
        refine g_iload C dX0_isSo_19 4 rfl ?_
        refine gc_Ni C (kn_X6_at 14 7 0 6 arr_14 v4 M) nl_599 ok_X6_at ⟨Nat.le_of_ble_eq_true rfl, Nat.le_of_ble_eq_true rfl⟩ ⟨Nat.le_of_ble_eq_true rfl, Nat.le_of_ble_eq_true rfl⟩ rfl (Nat.le_of_ble_eq_true rfl) dX0_isSo_21 ?_
        refine g_aload_n C dX0_isSo_24 0 rfl rfl ?_
        refine rg_X0_hours C dX0_isSo_25 ?_
        refine g_iload C dX0_isSo_28 4 rfl ?_
        refine gc_Ni C (kn_X6_at 15 8 0 6 arr_15 v4 M) nl_599 ok_X6_at ⟨Nat.le_of_ble_eq_true rfl, Nat.le_of_ble_eq_true rfl⟩ ⟨Nat.le_of_ble_eq_true rfl, Nat.le_of_ble_eq_true rfl⟩ rfl (Nat.le_of_ble_eq_true rfl) dX0_isSo_30 ?_
        refine gc_Si C (k_X0_isWetAt x1 x2 x3 (t_at 7 0 6 v4 M) (t_at 8 0 6 v4 M) M) wl_600 ok_X0_isWetAt ⟨Nat.le_of_ble_eq_true rfl, Nat.le_of_ble_eq_true rfl⟩ ⟨Nat.le_of_ble_eq_true rfl, Nat.le_of_ble_eq_true rfl⟩ rfl (Nat.le_of_ble_eq_true rfl) dX0_isSo_33 ?_
        refine g_aload_n C dX0_isSo_36 0 rfl rfl ?_
        refine rg_X0_rains C dX0_isSo_37 ?_
        refine g_iload C dX0_isSo_40 4 rfl ?_
        refine gc_Ni C (k_X6_has (M.1 0 6) v4 M) nl_605 ok_X6_has ⟨Nat.le_of_ble_eq_true rfl, Nat.le_of_ble_eq_true rfl⟩ ⟨Nat.le_of_ble_eq_true rfl, Nat.le_of_ble_eq_true rfl⟩ rfl (Nat.le_of_ble_eq_true rfl) dX0_isSo_42 ?_
        refine g_icmp_eq C (tgt := 50) dX0_isSo_45 (by decide) (fun c6 => ?_) (fun c6 => ?_)
        · have hq := ip c6 hq
          refine g_iinc C (v := (v4 + (1 : Int32))) (lv2 := [(4, _), (0, _), (1, _), (2, _), (3, _)]) dX0_isSo_50 4 rfl rfl (by decide) rfl ?_
          refine g_goto C (tgt := 3) dX0_isSo_53 (by decide) ?_
          exact g_sub [1, 2, 3, 4, 0] rfl (ih_3 (v4 + (1 : Int32)) M hq)
        · have hq := iq c6 hq
          refine g_iconst C dX0_isSo_48 (v := 0) (by decide) ?_
          exact g_zret C dX0_isSo_49 (Or.inl rfl) (congrArg b2i (som2 hq).1) (congrArg (wC a cI cS) (som2 hq).2)
  unfold q_X0_isSo at hq
  refine g_iconst C dX0_isSo_0 (v := 0) (by decide) ?_
  refine g_istore C (lv2 := [(4, _), (0, _), (1, _), (2, _), (3, _)]) dX0_isSo_1 (by decide) rfl ?_
  exact g_sub [1, 2, 3, 4, 0] rfl (L_3 FU (0 : Int32) M hq)
set_option maxHeartbeats 4000000 in
set_option maxRecDepth 100000 in
theorem k_X1_size {l : Launch} {dC : Nat → ClassId} {dI : Nat → Nat → Nat} {a : Nat → Nat} {cI cZ cS : ClassId}  (M : MM) : KQ l (dC, dI) vwCl (tyW cI cZ cS) yX1_size cX1_size 1 (some .int) 0 0 [.ref (a 9)] (wC a cI cS M) (qI (dC, dI) vwCl (wC a cI cS M) (t_X1_size  M)) := by
  generalize hq : t_X1_size  M = r
  refine KQ.of (by decide) (Nat.le_of_ble_eq_true rfl) rfl ?_
  intro p e s m args below meth c A0 C
  unfold t_X1_size at hq
  refine g_aload_n C dX1_size_0 0 rfl rfl ?_
  refine rg_X1_count C dX1_size_1 ?_
  exact g_iret C dX1_size_4 hq rfl
set_option maxHeartbeats 4000000 in
set_option maxRecDepth 100000 in
theorem k_X1_clear {l : Launch} {dC : Nat → ClassId} {dI : Nat → Nat → Nat} {a : Nat → Nat} {cI cZ cS : ClassId}  (M M2 : MM) (r : Unit) (hq : q_X1_clear  M = some (r, M2)) : KQ l (dC, dI) vwCl (tyW cI cZ cS) yX1_clear cX1_clear 1 none 0 0 [.ref (a 9)] (wC a cI cS M) (qV (dC, dI) vwCl (wC a cI cS M2)) := by
  refine KQ.of (by decide) (Nat.le_of_ble_eq_true rfl) rfl ?_
  intro p e s m args below meth c A0 C
  unfold q_X1_clear at hq
  refine g_aload_n C dX1_clear_0 0 rfl rfl ?_
  refine g_iconst C dX1_clear_1 (v := 0) (by decide) ?_
  refine rp_X1_count C dX1_clear_2 ?_
  exact g_vret C dX1_clear_5 (congrArg (wC a cI cS) (som2 hq).2)
theorem copy_ve (a : Nat → Nat) (cI cS : ClassId) (i i1 : Nat) (hi : i < 18) (M : MM) : ∀ k, k < 106 → ve (cC a cI cS (m_X3_copy i i1 M) k) (cC a cI cS (mR M (9 + i) (M.1 (9 + i1))) k) := by
  intro k hk
  refine cC_ve hk (Or.inl rfl) (fun r c h => ?_)
  have hb : r = 9 + i → c < 24 := by
    intro e
    unfold own at h
    rcases h with h | h | h | h | h | h | ⟨h1, h2, h3, h4⟩
    · omega
    · omega
    · omega
    · omega
    · omega
    · omega
    · unfold aI at h1
      have g : 16 ≤ k := by
        unfold aR at h2
        repeat' split at h2
        all_goals omega
      unfold aO aN at h4
      have g1 : ¬ k < 16 := by omega
      have g2 : ¬ k = 2 := by omega
      have g3 : ¬ k < 9 := by omega
      simp only [if_neg g1, if_neg g2, if_neg g3] at h4
      repeat' split at h4
      all_goals omega
  show (if r = 9 + i then M.1 (9 + i1) else M.1 r) c = _
  unfold m_X3_copy
  by_cases hr : r = 9 + i
  · have hc := hb hr
    subst hr
    rw [if_pos rfl]
    have h5 : c ≠ 5 → c ≠ 23 → M.1 (9 + i1) c = (mC (mC (mC (mC M (9 + i) 0 (9 + i1) 0 5) (9 + i) 6 (9 + i1) 6 6) (9 + i) 12 (9 + i1) 12 6) (9 + i) 18 (9 + i1) 18 5).1 (9 + i) c := by
      intro n5 n23
      by_cases e1 : i1 = i
      · subst e1
        rcases (show c = 0 ∨ c = 1 ∨ c = 2 ∨ c = 3 ∨ c = 4 ∨ c = 6 ∨ c = 7 ∨ c = 8 ∨ c = 9 ∨ c = 10 ∨ c = 11 ∨ c = 12 ∨ c = 13 ∨ c = 14 ∨ c = 15 ∨ c = 16 ∨ c = 17 ∨ c = 18 ∨ c = 19 ∨ c = 20 ∨ c = 21 ∨ c = 22 by omega) with rfl | rfl | rfl | rfl | rfl | rfl | rfl | rfl | rfl | rfl | rfl | rfl | rfl | rfl | rfl | rfl | rfl | rfl | rfl | rfl | rfl | rfl <;> simp [mC]
      · have e2 : ¬ 9 + i1 = 9 + i := by omega
        have e3 : ¬ i1 = i := e1
        rcases (show c = 0 ∨ c = 1 ∨ c = 2 ∨ c = 3 ∨ c = 4 ∨ c = 6 ∨ c = 7 ∨ c = 8 ∨ c = 9 ∨ c = 10 ∨ c = 11 ∨ c = 12 ∨ c = 13 ∨ c = 14 ∨ c = 15 ∨ c = 16 ∨ c = 17 ∨ c = 18 ∨ c = 19 ∨ c = 20 ∨ c = 21 ∨ c = 22 by omega) with rfl | rfl | rfl | rfl | rfl | rfl | rfl | rfl | rfl | rfl | rfl | rfl | rfl | rfl | rfl | rfl | rfl | rfl | rfl | rfl | rfl | rfl <;> simp [mC, e3]
    have h6 : ∀ c2, c2 = 5 ∨ c2 = 23 → (mC (mC (mC (mC M (9 + i) 0 (9 + i1) 0 5) (9 + i) 6 (9 + i1) 6 6) (9 + i) 12 (9 + i1) 12 6) (9 + i) 18 (9 + i1) 18 5).1 (9 + i1) c2 = M.1 (9 + i1) c2 := by
      intro c2 h2
      simp only [mC]
      rcases h2 with rfl | rfl <;> simp
    by_cases e23 : c = 23
    · subst e23
      rw [mU_at, mU_ne (by omega), h6 23 (Or.inr rfl)]
    · rw [mU_ne (by omega)]
      by_cases e5 : c = 5
      · subst e5
        rw [mU_at, h6 5 (Or.inl rfl)]
      · rw [mU_ne (by omega)]
        exact h5 e5 e23
  · rw [if_neg hr, mU_ne (by omega), mU_ne (by omega)]
    simp only [mC, hr, false_and, if_false]
set_option maxHeartbeats 4000000 in
set_option maxRecDepth 100000 in
theorem k_X3_copy {l : Launch} {dC : Nat → ClassId} {dI : Nat → Nat → Nat} {a : Nat → Nat} {cI cZ cS : ClassId} (i : Nat) (hi : i < 18) (i1 : Nat) (hi1 : i1 < 18) (M : MM) : KQ l (dC, dI) vwCl (tyW cI cZ cS) yX3_copy cX3_copy 2 none 1 40 [.ref (a (16 + 5 * i)), .ref (a (16 + 5 * i1))] (wC a cI cS M) (qV (dC, dI) vwCl (wC a cI cS (mR M (9 + i) (M.1 (9 + i1))))) := by
  refine KQ.of (by decide) (Nat.le_of_ble_eq_true rfl) rfl ?_
  intro p e s m args below meth c A0 C
  refine g_aload_n C dX3_copy_0 1 rfl rfl ?_
  refine rg_X3_places C i1 hi1 dX3_copy_1 ?_
  refine g_iconst C dX3_copy_4 (v := 0) (by decide) ?_
  refine g_aload_n C dX3_copy_5 0 rfl rfl ?_
  refine rg_X3_places C i hi dX3_copy_6 ?_
  refine g_iconst C dX3_copy_9 (v := 0) (by decide) ?_
  refine g_aload_n C dX3_copy_10 0 rfl rfl ?_
  refine rg_X3_places C i hi dX3_copy_11 ?_
  refine ga_len C (arr_pl hi) dX3_copy_14 ?_
  refine ga_copy C wl_404 wl_406 wl_405 wl_42 (arr_pl hi1) (arr_pl hi) (by decide) ⟨Nat.le_of_ble_eq_true rfl, Nat.le_of_ble_eq_true rfl⟩ dX3_copy_15 ?_
  refine g_aload_n C dX3_copy_18 1 rfl rfl ?_
  refine rg_X3_lasts C i1 hi1 dX3_copy_19 ?_
  refine g_iconst C dX3_copy_22 (v := 0) (by decide) ?_
  refine g_aload_n C dX3_copy_23 0 rfl rfl ?_
  refine rg_X3_lasts C i hi dX3_copy_24 ?_
  refine g_iconst C dX3_copy_27 (v := 0) (by decide) ?_
  refine g_aload_n C dX3_copy_28 0 rfl rfl ?_
  refine rg_X3_lasts C i hi dX3_copy_29 ?_
  refine ga_len C (arr_la hi) dX3_copy_32 ?_
  refine ga_copy C wl_404 wl_406 wl_405 wl_42 (arr_la hi1) (arr_la hi) (by decide) ⟨Nat.le_of_ble_eq_true rfl, Nat.le_of_ble_eq_true rfl⟩ dX3_copy_33 ?_
  refine g_aload_n C dX3_copy_36 1 rfl rfl ?_
  refine rg_X3_wetness C i1 hi1 dX3_copy_37 ?_
  refine g_iconst C dX3_copy_40 (v := 0) (by decide) ?_
  refine g_aload_n C dX3_copy_41 0 rfl rfl ?_
  refine rg_X3_wetness C i hi dX3_copy_42 ?_
  refine g_iconst C dX3_copy_45 (v := 0) (by decide) ?_
  refine g_aload_n C dX3_copy_46 0 rfl rfl ?_
  refine rg_X3_wetness C i hi dX3_copy_47 ?_
  refine ga_len C (arr_we hi) dX3_copy_50 ?_
  refine ga_copy C wl_404 wl_406 wl_405 wl_42 (arr_we hi1) (arr_we hi) (by decide) ⟨Nat.le_of_ble_eq_true rfl, Nat.le_of_ble_eq_true rfl⟩ dX3_copy_51 ?_
  refine g_aload_n C dX3_copy_54 1 rfl rfl ?_
  refine rg_X3_fates C i1 hi1 dX3_copy_55 ?_
  refine g_iconst C dX3_copy_58 (v := 0) (by decide) ?_
  refine g_aload_n C dX3_copy_59 0 rfl rfl ?_
  refine rg_X3_fates C i hi dX3_copy_60 ?_
  refine g_iconst C dX3_copy_63 (v := 0) (by decide) ?_
  refine g_aload_n C dX3_copy_64 0 rfl rfl ?_
  refine rg_X3_fates C i hi dX3_copy_65 ?_
  refine ga_len C (arr_fa hi) dX3_copy_68 ?_
  refine ga_copy C wl_404 wl_406 wl_405 wl_42 (arr_fa hi1) (arr_fa hi) (by decide) ⟨Nat.le_of_ble_eq_true rfl, Nat.le_of_ble_eq_true rfl⟩ dX3_copy_69 ?_
  refine g_aload_n C dX3_copy_72 0 rfl rfl ?_
  refine g_aload_n C dX3_copy_73 1 rfl rfl ?_
  refine rg_X3_opened C i1 hi1 dX3_copy_74 ?_
  refine rp_X3_opened C i hi dX3_copy_77 ?_
  refine g_aload_n C dX3_copy_80 0 rfl rfl ?_
  refine g_aload_n C dX3_copy_81 1 rfl rfl ?_
  refine rg_X3_time C i1 hi1 dX3_copy_82 ?_
  refine rp_X3_time C i hi dX3_copy_85 ?_
  refine g_ve (copy_ve a cI cS i i1 hi M) ?_
  exact g_vret C dX3_copy_88 rfl
set_option maxHeartbeats 4000000 in
set_option maxRecDepth 100000 in
theorem k_X1_add {l : Launch} {dC : Nat → ClassId} {dI : Nat → Nat → Nat} {a : Nat → Nat} {cI cZ cS : ClassId} (i1 : Nat) (hi1 : i1 < 18) (M M2 : MM) (r : Unit) (hq : q_X1_add i1 M = some (r, M2)) : KQ l (dC, dI) vwCl (tyW cI cZ cS) yX1_add cX1_add 3 none 2 61 [.ref (a 9), .ref (a (16 + 5 * i1))] (wC a cI cS M) (qV (dC, dI) vwCl (wC a cI cS M2)) := by
  refine KQ.of (by decide) (Nat.le_of_ble_eq_true rfl) rfl ?_
  intro p e s m args below meth c A0 C
  have J_61 : ∀  (M : MM), q_X1_add_61 i1  M = some (r, M2) → gG p l e ({ frames := 2, cells := 0, slots := 0, locals := 61 }) s m args below meth c 3 (dC, dI) vwCl A0 s.heap 0 0 (MQ below ((qV (dC, dI) vwCl (wC a cI cS M2)) A0) args s 0 0 A0) (wC a cI cS M) 61 [(0, .ref (a 9))] [] := by
    intro M hq
    unfold q_X1_add_61 at hq
    refine g_aload_n C dX1_add_61 0 rfl rfl ?_
    refine g_dup C dX1_add_62 rfl ?_
    refine rg_X1_count C dX1_add_63 ?_
    refine g_iconst C dX1_add_66 (v := 1) (by decide) ?_
    refine g_iadd C dX1_add_67 ?_
    refine rp_X1_count C dX1_add_68 ?_
    exact g_vret C dX1_add_71 (congrArg (wC a cI cS) (som2 hq).2)
  have J_32 : ∀  (M : MM), q_X1_add_32 i1  M = some (r, M2) → gG p l e ({ frames := 2, cells := 0, slots := 0, locals := 61 }) s m args below meth c 3 (dC, dI) vwCl A0 s.heap 0 0 (MQ below ((qV (dC, dI) vwCl (wC a cI cS M2)) A0) args s 0 0 A0) (wC a cI cS M) 32 [(0, .ref (a 9)), (1, .ref (a (16 + 5 * i1)))] [] := by
    intro M hq
    unfold q_X1_add_32 at hq
    refine g_aload_n C dX1_add_32 0 rfl rfl ?_
    refine rg_X1_found C dX1_add_33 ?_
    refine g_aload_n C dX1_add_36 0 rfl rfl ?_
    refine rg_X1_first C dX1_add_37 ?_
    refine g_aload_n C dX1_add_40 0 rfl rfl ?_
    refine rg_X1_count C dX1_add_41 ?_
    refine g_iadd C dX1_add_44 ?_
    refine g_bipush C dX1_add_45 (v := 14) (by decide) ?_
    refine g_irem C dX1_add_47 (by decide) ?_
    refine gc_Nq C (k_X6_sceneAt 10 14 2 (by decide) (((M.1 0 3) + (M.1 0 4)) - ((M.1 0 3) + (M.1 0 4)) / (14 : Int32) * (14 : Int32)) M) nl_397 ok_X6_sceneAt ⟨Nat.le_of_ble_eq_true rfl, Nat.le_of_ble_eq_true rfl⟩ ⟨Nat.le_of_ble_eq_true rfl, Nat.le_of_ble_eq_true rfl⟩ rfl (Nat.le_of_ble_eq_true rfl) dX1_add_48 ?_
    cases c6 : scAt 14 2 (((M.1 0 3) + (M.1 0 4)) - ((M.1 0 3) + (M.1 0 4)) / (14 : Int32) * (14 : Int32)) with
    | none =>
      rw [c6] at hq
      refine g_astore_n_null C (lv2 := [(2, _), (0, _), (1, _)]) dX1_add_51 rfl (by decide) rfl ?_
      refine g_aload_n_null C dX1_add_52 0 rfl rfl ?_
      refine g_ifnull_null C (tgt := 61) dX1_add_53 (by decide) ?_
      exact g_sub [1] rfl (J_61 M hq)
    | some j7 =>
      rw [c6] at hq
      refine g_astore_n C (lv2 := [(2, _), (0, _), (1, _)]) dX1_add_51 rfl (by decide) rfl ?_
      refine g_aload_n C dX1_add_52 0 rfl rfl ?_
      refine g_ifnull_ref C dX1_add_53 ?_
      refine g_aload_n C dX1_add_56 0 rfl rfl ?_
      refine g_aload_n C dX1_add_57 2 rfl rfl ?_
      refine gc_Vv C (k_X3_copy j7 (scAt_lt c6 (by decide)) i1 hi1 M) wl_400 ok_X3_copy (rv_X3 j7 (scAt_lt c6 (by decide))) rfl ⟨Nat.le_of_ble_eq_true rfl, Nat.le_of_ble_eq_true rfl⟩ ⟨Nat.le_of_ble_eq_true rfl, Nat.le_of_ble_eq_true rfl⟩ rfl (Nat.le_of_ble_eq_true rfl) dX1_add_58 ?_
      exact g_sub [1] rfl (J_61 (mR M (9 + j7) (M.1 (9 + i1))) hq)
  unfold q_X1_add at hq
  refine g_aload_n C dX1_add_0 0 rfl rfl ?_
  refine rg_X1_count C dX1_add_1 ?_
  refine g_bipush C dX1_add_4 (v := 14) (by decide) ?_
  refine g_icmp_ne C (tgt := 32) dX1_add_6 (by decide) (fun c9 => ?_) (fun c9 => ?_)
  · have hq := iq c9 hq
    exact g_sub [0, 1] rfl (J_32 M hq)
  · have hq := ip c9 hq
    refine g_aload_n C dX1_add_9 0 rfl rfl ?_
    refine g_aload_n C dX1_add_10 0 rfl rfl ?_
    refine rg_X1_first C dX1_add_11 ?_
    refine g_iconst C dX1_add_14 (v := 1) (by decide) ?_
    refine g_iadd C dX1_add_15 ?_
    refine g_bipush C dX1_add_16 (v := 14) (by decide) ?_
    refine g_irem C dX1_add_18 (by decide) ?_
    refine rp_X1_first C dX1_add_19 ?_
    refine g_aload_n C dX1_add_22 0 rfl rfl ?_
    refine g_dup C dX1_add_23 rfl ?_
    refine rg_X1_count C dX1_add_24 ?_
    refine g_iconst C dX1_add_27 (v := 1) (by decide) ?_
    refine g_isub C dX1_add_28 ?_
    refine rp_X1_count C dX1_add_29 ?_
    exact g_sub [0, 1] rfl (J_32 (mU (mU M 0 3 (((M.1 0 3) + (1 : Int32)) - ((M.1 0 3) + (1 : Int32)) / (14 : Int32) * (14 : Int32))) 0 4 (((mU M 0 3 (((M.1 0 3) + (1 : Int32)) - ((M.1 0 3) + (1 : Int32)) / (14 : Int32) * (14 : Int32))).1 0 4) - (1 : Int32))) hq)
set_option maxHeartbeats 4000000 in
set_option maxRecDepth 100000 in
theorem k_X1_takeLast {l : Launch} {dC : Nat → ClassId} {dI : Nat → Nat → Nat} {a : Nat → Nat} {cI cZ cS : ClassId} (i1 : Nat) (hi1 : i1 < 18) (M M2 : MM) (r : Unit) (hq : q_X1_takeLast i1 M = some (r, M2)) : KQ l (dC, dI) vwCl (tyW cI cZ cS) yX1_takeLast cX1_takeLast 3 none 2 61 [.ref (a 9), .ref (a (16 + 5 * i1))] (wC a cI cS M) (qV (dC, dI) vwCl (wC a cI cS M2)) := by
  refine KQ.of (by decide) (Nat.le_of_ble_eq_true rfl) rfl ?_
  intro p e s m args below meth c A0 C
  unfold q_X1_takeLast at hq
  refine g_aload_n C dX1_takeLast_0 0 rfl rfl ?_
  refine rg_X1_count C dX1_takeLast_1 ?_
  refine g_if_le C (tgt := 46) dX1_takeLast_4 (by decide) (fun c7 => ?_) (fun c7 => ?_)
  · have hq := ip c7 hq
    exact g_vret C dX1_takeLast_46 (congrArg (wC a cI cS) (som2 hq).2)
  · have hq := iq c7 hq
    refine g_aload_n C dX1_takeLast_7 0 rfl rfl ?_
    refine g_dup C dX1_takeLast_8 rfl ?_
    refine rg_X1_count C dX1_takeLast_9 ?_
    refine g_iconst C dX1_takeLast_12 (v := 1) (by decide) ?_
    refine g_isub C dX1_takeLast_13 ?_
    refine rp_X1_count C dX1_takeLast_14 ?_
    refine g_aload_n C dX1_takeLast_17 0 rfl rfl ?_
    refine rg_X1_found C dX1_takeLast_18 ?_
    refine g_aload_n C dX1_takeLast_21 0 rfl rfl ?_
    refine rg_X1_first C dX1_takeLast_22 ?_
    refine g_aload_n C dX1_takeLast_25 0 rfl rfl ?_
    refine rg_X1_count C dX1_takeLast_26 ?_
    refine g_iadd C dX1_takeLast_29 ?_
    refine g_bipush C dX1_takeLast_30 (v := 14) (by decide) ?_
    refine g_irem C dX1_takeLast_32 (by decide) ?_
    refine gc_Nq C (k_X6_sceneAt 10 14 2 (by decide) ((((mU M 0 4 ((M.1 0 4) - (1 : Int32))).1 0 3) + ((mU M 0 4 ((M.1 0 4) - (1 : Int32))).1 0 4)) - (((mU M 0 4 ((M.1 0 4) - (1 : Int32))).1 0 3) + ((mU M 0 4 ((M.1 0 4) - (1 : Int32))).1 0 4)) / (14 : Int32) * (14 : Int32)) (mU M 0 4 ((M.1 0 4) - (1 : Int32)))) nl_397 ok_X6_sceneAt ⟨Nat.le_of_ble_eq_true rfl, Nat.le_of_ble_eq_true rfl⟩ ⟨Nat.le_of_ble_eq_true rfl, Nat.le_of_ble_eq_true rfl⟩ rfl (Nat.le_of_ble_eq_true rfl) dX1_takeLast_33 ?_
    cases c8 : scAt 14 2 ((((mU M 0 4 ((M.1 0 4) - (1 : Int32))).1 0 3) + ((mU M 0 4 ((M.1 0 4) - (1 : Int32))).1 0 4)) - (((mU M 0 4 ((M.1 0 4) - (1 : Int32))).1 0 3) + ((mU M 0 4 ((M.1 0 4) - (1 : Int32))).1 0 4)) / (14 : Int32) * (14 : Int32)) with
    | none =>
      rw [c8] at hq
      refine g_astore_n_null C (lv2 := [(2, _), (0, _), (1, _)]) dX1_takeLast_36 rfl (by decide) rfl ?_
      refine g_aload_n_null C dX1_takeLast_37 0 rfl rfl ?_
      refine g_ifnull_null C (tgt := 46) dX1_takeLast_38 (by decide) ?_
      exact g_vret C dX1_takeLast_46 (congrArg (wC a cI cS) (som2 hq).2)
    | some j9 =>
      rw [c8] at hq
      refine g_astore_n C (lv2 := [(2, _), (0, _), (1, _)]) dX1_takeLast_36 rfl (by decide) rfl ?_
      refine g_aload_n C dX1_takeLast_37 0 rfl rfl ?_
      refine g_ifnull_ref C dX1_takeLast_38 ?_
      refine g_aload_n C dX1_takeLast_41 2 rfl rfl ?_
      refine g_aload_n C dX1_takeLast_42 0 rfl rfl ?_
      refine gc_Vv C (k_X3_copy i1 hi1 j9 (scAt_lt c8 (by decide)) (mU M 0 4 ((M.1 0 4) - (1 : Int32)))) wl_400 ok_X3_copy (rv_X3 i1 hi1) rfl ⟨Nat.le_of_ble_eq_true rfl, Nat.le_of_ble_eq_true rfl⟩ ⟨Nat.le_of_ble_eq_true rfl, Nat.le_of_ble_eq_true rfl⟩ rfl (Nat.le_of_ble_eq_true rfl) dX1_takeLast_43 ?_
      exact g_vret C dX1_takeLast_46 (congrArg (wC a cI cS) (som2 hq).2)
set_option maxHeartbeats 4000000 in
set_option maxRecDepth 100000 in
theorem k_X4_length {l : Launch} {dC : Nat → ClassId} {dI : Nat → Nat → Nat} {a : Nat → Nat} {cI cZ cS : ClassId}  (M : MM) : KQ l (dC, dI) vwCl (tyW cI cZ cS) yX4_length cX4_length 1 (some .int) 0 0 [.ref (a 1)] (wC a cI cS M) (qI (dC, dI) vwCl (wC a cI cS M) (t_X4_length  M)) := by
  generalize hq : t_X4_length  M = r
  refine KQ.of (by decide) (Nat.le_of_ble_eq_true rfl) rfl ?_
  intro p e s m args below meth c A0 C
  unfold t_X4_length at hq
  refine g_aload_n C dX4_length_0 0 rfl rfl ?_
  refine rg_X4_length C dX4_length_1 ?_
  exact g_iret C dX4_length_4 hq rfl
set_option maxHeartbeats 4000000 in
set_option maxRecDepth 100000 in
theorem k_X4_byteAt {l : Launch} {dC : Nat → ClassId} {dI : Nat → Nat → Nat} {a : Nat → Nat} {cI cZ cS : ClassId} (x1 : Int32) (M : MM) : KQ l (dC, dI) vwCl (tyW cI cZ cS) yX4_byteAt cX4_byteAt 2 (some .int) 1 21 [.ref (a 1), .int x1] (wC a cI cS M) (qI (dC, dI) vwCl (wC a cI cS M) (t_X4_byteAt x1 M)) := by
  generalize hq : t_X4_byteAt x1 M = r
  refine KQ.of (by decide) (Nat.le_of_ble_eq_true rfl) rfl ?_
  intro p e s m args below meth c A0 C
  unfold t_X4_byteAt at hq
  refine g_aload_n C dX4_byteAt_0 0 rfl rfl ?_
  refine rg_X4_bytes C dX4_byteAt_1 ?_
  refine g_iload_n C dX4_byteAt_4 1 rfl rfl ?_
  refine gc_Ni C (kn_X6_at 2 1 0 48 arr_2 x1 M) nl_236 ok_X6_at ⟨Nat.le_of_ble_eq_true rfl, Nat.le_of_ble_eq_true rfl⟩ ⟨Nat.le_of_ble_eq_true rfl, Nat.le_of_ble_eq_true rfl⟩ rfl (Nat.le_of_ble_eq_true rfl) dX4_byteAt_5 ?_
  exact g_iret C dX4_byteAt_8 hq rfl
set_option maxHeartbeats 4000000 in
set_option maxRecDepth 100000 in
theorem k_X4_figureAt {l : Launch} {dC : Nat → ClassId} {dI : Nat → Nat → Nat} {a : Nat → Nat} {cI cZ cS : ClassId} (x1 : Int32) (M : MM) : KQ l (dC, dI) vwCl (tyW cI cZ cS) yX4_figureAt cX4_figureAt 2 (some .int) 2 42 [.ref (a 1), .int x1] (wC a cI cS M) (qI (dC, dI) vwCl (wC a cI cS M) (t_X4_figureAt x1 M)) := by
  generalize hq : t_X4_figureAt x1 M = r
  refine KQ.of (by decide) (Nat.le_of_ble_eq_true rfl) rfl ?_
  intro p e s m args below meth c A0 C
  unfold t_X4_figureAt at hq
  refine g_aload_n C dX4_figureAt_0 0 rfl rfl ?_
  refine g_iload_n C dX4_figureAt_1 1 rfl rfl ?_
  refine gc_Vi C (k_X4_byteAt x1 M) wl_232 ok_X4_byteAt rv_X4 rfl ⟨Nat.le_of_ble_eq_true rfl, Nat.le_of_ble_eq_true rfl⟩ ⟨Nat.le_of_ble_eq_true rfl, Nat.le_of_ble_eq_true rfl⟩ rfl (Nat.le_of_ble_eq_true rfl) dX4_figureAt_2 ?_
  refine g_bipush C dX4_figureAt_5 (v := 48) (by decide) ?_
  refine g_isub C dX4_figureAt_7 ?_
  exact g_iret C dX4_figureAt_8 hq rfl
set_option maxHeartbeats 4000000 in
set_option maxRecDepth 100000 in
theorem k_X2_readFrom {l : Launch} {dC : Nat → ClassId} {dI : Nat → Nat → Nat} {a : Nat → Nat} {cI cZ cS : ClassId}  (M M2 : MM) (r : Unit) (hq : q_X2_readFrom  M = some (r, M2)) : KQ l (dC, dI) vwCl (tyW cI cZ cS) yX2_readFrom cX2_readFrom 3 none 3 63 [.ref (a 3), .ref (a 1)] (wC a cI cS M) (qV (dC, dI) vwCl (wC a cI cS M2)) := by
  refine KQ.of (by decide) (Nat.le_of_ble_eq_true rfl) rfl ?_
  intro p e s m args below meth c A0 C
  have L_12 : ∀ (f : Nat) (v2 : Int32) (M : MM), q_X2_readFrom_12   f v2 M = some (r, M2) → gG p l e ({ frames := 3, cells := 0, slots := 0, locals := 63 }) s m args below meth c 3 (dC, dI) vwCl A0 s.heap 0 0 (MQ below ((qV (dC, dI) vwCl (wC a cI cS M2)) A0) args s 0 0 A0) (wC a cI cS M) 12 [(0, .ref (a 3)), (1, .ref (a 1)), (2, .int v2)] [] := by
    intro f
    induction f with
    | zero => intro v2 M hq; cases hq
    | succ f_12 ih_12 =>
      have J_153 : ∀ (v2 : Int32) (M : MM), q_X2_readFrom_153  (q_X2_readFrom_12   f_12) v2 M = some (r, M2) → gG p l e ({ frames := 3, cells := 0, slots := 0, locals := 63 }) s m args below meth c 3 (dC, dI) vwCl A0 s.heap 0 0 (MQ below ((qV (dC, dI) vwCl (wC a cI cS M2)) A0) args s 0 0 A0) (wC a cI cS M) 153 [(0, .ref (a 3)), (1, .ref (a 1)), (2, .int v2)] [] := by
        intro v2 M hq
        unfold q_X2_readFrom_153 at hq
        refine g_iinc C (v := (v2 + (1 : Int32))) (lv2 := [(2, _), (0, _), (1, _)]) dX2_readFrom_153 2 rfl rfl (by decide) rfl ?_
        refine g_goto C (tgt := 12) dX2_readFrom_156 (by decide) ?_
        exact g_sub [1, 2, 0] rfl (ih_12 (v2 + (1 : Int32)) M hq)
      intro v2 M hq
      rw [q_X2_readFrom_12] at hq
      refine g_iload_n C dX2_readFrom_12 2 rfl rfl ?_
      refine g_aload_n C dX2_readFrom_13 1 rfl rfl ?_
      refine gc_Vi C (k_X4_length  M) wl_255 ok_X4_length rv_X4 rfl ⟨Nat.le_of_ble_eq_true rfl, Nat.le_of_ble_eq_true rfl⟩ ⟨Nat.le_of_ble_eq_true rfl, Nat.le_of_ble_eq_true rfl⟩ rfl (Nat.le_of_ble_eq_true rfl) dX2_readFrom_14 ?_
      refine g_icmp_ge C (tgt := 159) dX2_readFrom_17 (by decide) (fun c7 => ?_) (fun c7 => ?_)
      · have hq := ip c7 hq
        exact g_vret C dX2_readFrom_159 (congrArg (wC a cI cS) (som2 hq).2)
      · have hq := iq c7 hq
        refine g_aload_n C dX2_readFrom_20 1 rfl rfl ?_
        refine g_iload_n C dX2_readFrom_21 2 rfl rfl ?_
        refine gc_Vi C (k_X4_byteAt v2 M) wl_256 ok_X4_byteAt rv_X4 rfl ⟨Nat.le_of_ble_eq_true rfl, Nat.le_of_ble_eq_true rfl⟩ ⟨Nat.le_of_ble_eq_true rfl, Nat.le_of_ble_eq_true rfl⟩ rfl (Nat.le_of_ble_eq_true rfl) dX2_readFrom_22 ?_
        refine g_bipush C dX2_readFrom_25 (v := 87) (by decide) ?_
        refine g_icmp_ne C (tgt := 79) dX2_readFrom_27 (by decide) (fun c8 => ?_) (fun c8 => ?_)
        · have hq := iq c8 hq
          refine g_aload_n C dX2_readFrom_79 1 rfl rfl ?_
          refine g_iload_n C dX2_readFrom_80 2 rfl rfl ?_
          refine gc_Vi C (k_X4_byteAt v2 M) wl_256 ok_X4_byteAt rv_X4 rfl ⟨Nat.le_of_ble_eq_true rfl, Nat.le_of_ble_eq_true rfl⟩ ⟨Nat.le_of_ble_eq_true rfl, Nat.le_of_ble_eq_true rfl⟩ rfl (Nat.le_of_ble_eq_true rfl) dX2_readFrom_81 ?_
          refine g_bipush C dX2_readFrom_84 (v := 78) (by decide) ?_
          refine g_icmp_ne C (tgt := 153) dX2_readFrom_86 (by decide) (fun c9 => ?_) (fun c9 => ?_)
          · have hq := iq c9 hq
            exact g_sub [0, 1, 2] rfl (J_153 v2 M hq)
          · have hq := ip c9 hq
            refine g_aload_n C dX2_readFrom_89 0 rfl rfl ?_
            refine rg_X2_needStreets C dX2_readFrom_90 ?_
            refine g_aload_n C dX2_readFrom_93 0 rfl rfl ?_
            refine rg_X2_needs C dX2_readFrom_94 ?_
            refine g_aload_n C dX2_readFrom_97 1 rfl rfl ?_
            refine g_iload_n C dX2_readFrom_98 2 rfl rfl ?_
            refine g_iconst C dX2_readFrom_99 (v := 1) (by decide) ?_
            refine g_iadd C dX2_readFrom_100 ?_
            refine gc_Vi C (k_X4_figureAt (v2 + (1 : Int32)) M) wl_257 ok_X4_figureAt rv_X4 rfl ⟨Nat.le_of_ble_eq_true rfl, Nat.le_of_ble_eq_true rfl⟩ ⟨Nat.le_of_ble_eq_true rfl, Nat.le_of_ble_eq_true rfl⟩ rfl (Nat.le_of_ble_eq_true rfl) dX2_readFrom_101 ?_
            refine gc_Nv C (kn_X6_put 6 4 0 5 arr_6 (M.1 0 2) (t_X4_figureAt (v2 + (1 : Int32)) M) M) nl_258 ok_X6_put ⟨Nat.le_of_ble_eq_true rfl, Nat.le_of_ble_eq_true rfl⟩ ⟨Nat.le_of_ble_eq_true rfl, Nat.le_of_ble_eq_true rfl⟩ rfl (Nat.le_of_ble_eq_true rfl) dX2_readFrom_104 ?_
            refine g_aload_n C dX2_readFrom_107 0 rfl rfl ?_
            refine rg_X2_needSorts C dX2_readFrom_108 ?_
            refine g_aload_n C dX2_readFrom_111 0 rfl rfl ?_
            refine rg_X2_needs C dX2_readFrom_112 ?_
            refine g_aload_n C dX2_readFrom_115 1 rfl rfl ?_
            refine g_iload_n C dX2_readFrom_116 2 rfl rfl ?_
            refine g_iconst C dX2_readFrom_117 (v := 2) (by decide) ?_
            refine g_iadd C dX2_readFrom_118 ?_
            refine gc_Vi C (k_X4_figureAt (v2 + (2 : Int32)) (t_put 4 0 5 (M.1 0 2) (t_X4_figureAt (v2 + (1 : Int32)) M) M)) wl_257 ok_X4_figureAt rv_X4 rfl ⟨Nat.le_of_ble_eq_true rfl, Nat.le_of_ble_eq_true rfl⟩ ⟨Nat.le_of_ble_eq_true rfl, Nat.le_of_ble_eq_true rfl⟩ rfl (Nat.le_of_ble_eq_true rfl) dX2_readFrom_119 ?_
            refine gc_Nv C (kn_X6_put 7 5 0 5 arr_7 ((t_put 4 0 5 (M.1 0 2) (t_X4_figureAt (v2 + (1 : Int32)) M) M).1 0 2) (t_X4_figureAt (v2 + (2 : Int32)) (t_put 4 0 5 (M.1 0 2) (t_X4_figureAt (v2 + (1 : Int32)) M) M)) (t_put 4 0 5 (M.1 0 2) (t_X4_figureAt (v2 + (1 : Int32)) M) M)) nl_258 ok_X6_put ⟨Nat.le_of_ble_eq_true rfl, Nat.le_of_ble_eq_true rfl⟩ ⟨Nat.le_of_ble_eq_true rfl, Nat.le_of_ble_eq_true rfl⟩ rfl (Nat.le_of_ble_eq_true rfl) dX2_readFrom_122 ?_
            refine g_aload_n C dX2_readFrom_125 0 rfl rfl ?_
            refine rg_X2_needFigures C dX2_readFrom_126 ?_
            refine g_aload_n C dX2_readFrom_129 0 rfl rfl ?_
            refine rg_X2_needs C dX2_readFrom_130 ?_
            refine g_aload_n C dX2_readFrom_133 1 rfl rfl ?_
            refine g_iload_n C dX2_readFrom_134 2 rfl rfl ?_
            refine g_iconst C dX2_readFrom_135 (v := 3) (by decide) ?_
            refine g_iadd C dX2_readFrom_136 ?_
            refine gc_Vi C (k_X4_figureAt (v2 + (3 : Int32)) (t_put 5 0 5 ((t_put 4 0 5 (M.1 0 2) (t_X4_figureAt (v2 + (1 : Int32)) M) M).1 0 2) (t_X4_figureAt (v2 + (2 : Int32)) (t_put 4 0 5 (M.1 0 2) (t_X4_figureAt (v2 + (1 : Int32)) M) M)) (t_put 4 0 5 (M.1 0 2) (t_X4_figureAt (v2 + (1 : Int32)) M) M))) wl_257 ok_X4_figureAt rv_X4 rfl ⟨Nat.le_of_ble_eq_true rfl, Nat.le_of_ble_eq_true rfl⟩ ⟨Nat.le_of_ble_eq_true rfl, Nat.le_of_ble_eq_true rfl⟩ rfl (Nat.le_of_ble_eq_true rfl) dX2_readFrom_137 ?_
            refine gc_Nv C (kn_X6_put 8 6 0 5 arr_8 ((t_put 5 0 5 ((t_put 4 0 5 (M.1 0 2) (t_X4_figureAt (v2 + (1 : Int32)) M) M).1 0 2) (t_X4_figureAt (v2 + (2 : Int32)) (t_put 4 0 5 (M.1 0 2) (t_X4_figureAt (v2 + (1 : Int32)) M) M)) (t_put 4 0 5 (M.1 0 2) (t_X4_figureAt (v2 + (1 : Int32)) M) M)).1 0 2) (t_X4_figureAt (v2 + (3 : Int32)) (t_put 5 0 5 ((t_put 4 0 5 (M.1 0 2) (t_X4_figureAt (v2 + (1 : Int32)) M) M).1 0 2) (t_X4_figureAt (v2 + (2 : Int32)) (t_put 4 0 5 (M.1 0 2) (t_X4_figureAt (v2 + (1 : Int32)) M) M)) (t_put 4 0 5 (M.1 0 2) (t_X4_figureAt (v2 + (1 : Int32)) M) M))) (t_put 5 0 5 ((t_put 4 0 5 (M.1 0 2) (t_X4_figureAt (v2 + (1 : Int32)) M) M).1 0 2) (t_X4_figureAt (v2 + (2 : Int32)) (t_put 4 0 5 (M.1 0 2) (t_X4_figureAt (v2 + (1 : Int32)) M) M)) (t_put 4 0 5 (M.1 0 2) (t_X4_figureAt (v2 + (1 : Int32)) M) M))) nl_258 ok_X6_put ⟨Nat.le_of_ble_eq_true rfl, Nat.le_of_ble_eq_true rfl⟩ ⟨Nat.le_of_ble_eq_true rfl, Nat.le_of_ble_eq_true rfl⟩ rfl (Nat.le_of_ble_eq_true rfl) dX2_readFrom_140 ?_
            refine g_aload_n C dX2_readFrom_143 0 rfl rfl ?_
            refine g_dup C dX2_readFrom_144 rfl ?_
            refine rg_X2_needs C dX2_readFrom_145 ?_
            refine g_iconst C dX2_readFrom_148 (v := 1) (by decide) ?_
            refine g_iadd C dX2_readFrom_149 ?_
            refine rp_X2_needs C dX2_readFrom_150 ?_
            exact g_sub [0, 1, 2] rfl (J_153 v2 (mU (t_put 6 0 5 ((t_put 5 0 5 ((t_put 4 0 5 (M.1 0 2) (t_X4_figureAt (v2 + (1 : Int32)) M) M).1 0 2) (t_X4_figureAt (v2 + (2 : Int32)) (t_put 4 0 5 (M.1 0 2) (t_X4_figureAt (v2 + (1 : Int32)) M) M)) (t_put 4 0 5 (M.1 0 2) (t_X4_figureAt (v2 + (1 : Int32)) M) M)).1 0 2) (t_X4_figureAt (v2 + (3 : Int32)) (t_put 5 0 5 ((t_put 4 0 5 (M.1 0 2) (t_X4_figureAt (v2 + (1 : Int32)) M) M).1 0 2) (t_X4_figureAt (v2 + (2 : Int32)) (t_put 4 0 5 (M.1 0 2) (t_X4_figureAt (v2 + (1 : Int32)) M) M)) (t_put 4 0 5 (M.1 0 2) (t_X4_figureAt (v2 + (1 : Int32)) M) M))) (t_put 5 0 5 ((t_put 4 0 5 (M.1 0 2) (t_X4_figureAt (v2 + (1 : Int32)) M) M).1 0 2) (t_X4_figureAt (v2 + (2 : Int32)) (t_put 4 0 5 (M.1 0 2) (t_X4_figureAt (v2 + (1 : Int32)) M) M)) (t_put 4 0 5 (M.1 0 2) (t_X4_figureAt (v2 + (1 : Int32)) M) M))) 0 2 (((t_put 6 0 5 ((t_put 5 0 5 ((t_put 4 0 5 (M.1 0 2) (t_X4_figureAt (v2 + (1 : Int32)) M) M).1 0 2) (t_X4_figureAt (v2 + (2 : Int32)) (t_put 4 0 5 (M.1 0 2) (t_X4_figureAt (v2 + (1 : Int32)) M) M)) (t_put 4 0 5 (M.1 0 2) (t_X4_figureAt (v2 + (1 : Int32)) M) M)).1 0 2) (t_X4_figureAt (v2 + (3 : Int32)) (t_put 5 0 5 ((t_put 4 0 5 (M.1 0 2) (t_X4_figureAt (v2 + (1 : Int32)) M) M).1 0 2) (t_X4_figureAt (v2 + (2 : Int32)) (t_put 4 0 5 (M.1 0 2) (t_X4_figureAt (v2 + (1 : Int32)) M) M)) (t_put 4 0 5 (M.1 0 2) (t_X4_figureAt (v2 + (1 : Int32)) M) M))) (t_put 5 0 5 ((t_put 4 0 5 (M.1 0 2) (t_X4_figureAt (v2 + (1 : Int32)) M) M).1 0 2) (t_X4_figureAt (v2 + (2 : Int32)) (t_put 4 0 5 (M.1 0 2) (t_X4_figureAt (v2 + (1 : Int32)) M) M)) (t_put 4 0 5 (M.1 0 2) (t_X4_figureAt (v2 + (1 : Int32)) M) M))).1 0 2) + (1 : Int32))) hq)
        · have hq := ip c8 hq
          refine g_aload_n C dX2_readFrom_30 0 rfl rfl ?_
          refine rg_X2_homes C dX2_readFrom_31 ?_
          refine g_aload_n C dX2_readFrom_34 0 rfl rfl ?_
          refine rg_X2_walkers C dX2_readFrom_35 ?_
          refine g_aload_n C dX2_readFrom_38 1 rfl rfl ?_
          refine g_iload_n C dX2_readFrom_39 2 rfl rfl ?_
          refine g_iconst C dX2_readFrom_40 (v := 1) (by decide) ?_
          refine g_iadd C dX2_readFrom_41 ?_
          refine gc_Vi C (k_X4_figureAt (v2 + (1 : Int32)) M) wl_257 ok_X4_figureAt rv_X4 rfl ⟨Nat.le_of_ble_eq_true rfl, Nat.le_of_ble_eq_true rfl⟩ ⟨Nat.le_of_ble_eq_true rfl, Nat.le_of_ble_eq_true rfl⟩ rfl (Nat.le_of_ble_eq_true rfl) dX2_readFrom_42 ?_
          refine gc_Nv C (kn_X6_put 4 2 0 5 arr_4 (M.1 0 1) (t_X4_figureAt (v2 + (1 : Int32)) M) M) nl_258 ok_X6_put ⟨Nat.le_of_ble_eq_true rfl, Nat.le_of_ble_eq_true rfl⟩ ⟨Nat.le_of_ble_eq_true rfl, Nat.le_of_ble_eq_true rfl⟩ rfl (Nat.le_of_ble_eq_true rfl) dX2_readFrom_45 ?_
          refine g_aload_n C dX2_readFrom_48 0 rfl rfl ?_
          refine rg_X2_stuffs C dX2_readFrom_49 ?_
          refine g_aload_n C dX2_readFrom_52 0 rfl rfl ?_
          refine rg_X2_walkers C dX2_readFrom_53 ?_
          refine g_aload_n C dX2_readFrom_56 1 rfl rfl ?_
          refine g_iload_n C dX2_readFrom_57 2 rfl rfl ?_
          refine g_iconst C dX2_readFrom_58 (v := 2) (by decide) ?_
          refine g_iadd C dX2_readFrom_59 ?_
          refine gc_Vi C (k_X4_figureAt (v2 + (2 : Int32)) (t_put 2 0 5 (M.1 0 1) (t_X4_figureAt (v2 + (1 : Int32)) M) M)) wl_257 ok_X4_figureAt rv_X4 rfl ⟨Nat.le_of_ble_eq_true rfl, Nat.le_of_ble_eq_true rfl⟩ ⟨Nat.le_of_ble_eq_true rfl, Nat.le_of_ble_eq_true rfl⟩ rfl (Nat.le_of_ble_eq_true rfl) dX2_readFrom_60 ?_
          refine gc_Nv C (kn_X6_put 5 3 0 5 arr_5 ((t_put 2 0 5 (M.1 0 1) (t_X4_figureAt (v2 + (1 : Int32)) M) M).1 0 1) (t_X4_figureAt (v2 + (2 : Int32)) (t_put 2 0 5 (M.1 0 1) (t_X4_figureAt (v2 + (1 : Int32)) M) M)) (t_put 2 0 5 (M.1 0 1) (t_X4_figureAt (v2 + (1 : Int32)) M) M)) nl_258 ok_X6_put ⟨Nat.le_of_ble_eq_true rfl, Nat.le_of_ble_eq_true rfl⟩ ⟨Nat.le_of_ble_eq_true rfl, Nat.le_of_ble_eq_true rfl⟩ rfl (Nat.le_of_ble_eq_true rfl) dX2_readFrom_63 ?_
          refine g_aload_n C dX2_readFrom_66 0 rfl rfl ?_
          refine g_dup C dX2_readFrom_67 rfl ?_
          refine rg_X2_walkers C dX2_readFrom_68 ?_
          refine g_iconst C dX2_readFrom_71 (v := 1) (by decide) ?_
          refine g_iadd C dX2_readFrom_72 ?_
          refine rp_X2_walkers C dX2_readFrom_73 ?_
          refine g_goto C (tgt := 153) dX2_readFrom_76 (by decide) ?_
          exact g_sub [0, 1, 2] rfl (J_153 v2 (mU (t_put 3 0 5 ((t_put 2 0 5 (M.1 0 1) (t_X4_figureAt (v2 + (1 : Int32)) M) M).1 0 1) (t_X4_figureAt (v2 + (2 : Int32)) (t_put 2 0 5 (M.1 0 1) (t_X4_figureAt (v2 + (1 : Int32)) M) M)) (t_put 2 0 5 (M.1 0 1) (t_X4_figureAt (v2 + (1 : Int32)) M) M)) 0 1 (((t_put 3 0 5 ((t_put 2 0 5 (M.1 0 1) (t_X4_figureAt (v2 + (1 : Int32)) M) M).1 0 1) (t_X4_figureAt (v2 + (2 : Int32)) (t_put 2 0 5 (M.1 0 1) (t_X4_figureAt (v2 + (1 : Int32)) M) M)) (t_put 2 0 5 (M.1 0 1) (t_X4_figureAt (v2 + (1 : Int32)) M) M)).1 0 1) + (1 : Int32))) hq)
  unfold q_X2_readFrom at hq
  refine g_aload_n C dX2_readFrom_0 0 rfl rfl ?_
  refine g_iconst C dX2_readFrom_1 (v := 0) (by decide) ?_
  refine rp_X2_walkers C dX2_readFrom_2 ?_
  refine g_aload_n C dX2_readFrom_5 0 rfl rfl ?_
  refine g_iconst C dX2_readFrom_6 (v := 0) (by decide) ?_
  refine rp_X2_needs C dX2_readFrom_7 ?_
  refine g_iconst C dX2_readFrom_10 (v := 1) (by decide) ?_
  refine g_istore_n C (lv2 := [(2, _), (0, _), (1, _)]) dX2_readFrom_11 rfl (by decide) rfl ?_
  exact g_sub [1, 2, 0] rfl (L_12 FU (1 : Int32) (mU (mU M 0 1 (0 : Int32)) 0 2 (0 : Int32)) hq)
set_option maxHeartbeats 4000000 in
set_option maxRecDepth 100000 in
theorem k_X2_walkerCount {l : Launch} {dC : Nat → ClassId} {dI : Nat → Nat → Nat} {a : Nat → Nat} {cI cZ cS : ClassId}  (M : MM) : KQ l (dC, dI) vwCl (tyW cI cZ cS) yX2_walkerCount cX2_walkerCount 1 (some .int) 0 0 [.ref (a 3)] (wC a cI cS M) (qI (dC, dI) vwCl (wC a cI cS M) (t_X2_walkerCount  M)) := by
  generalize hq : t_X2_walkerCount  M = r
  refine KQ.of (by decide) (Nat.le_of_ble_eq_true rfl) rfl ?_
  intro p e s m args below meth c A0 C
  unfold t_X2_walkerCount at hq
  refine g_aload_n C dX2_walkerCount_0 0 rfl rfl ?_
  refine rg_X2_walkers C dX2_walkerCount_1 ?_
  exact g_iret C dX2_walkerCount_4 hq rfl
set_option maxHeartbeats 4000000 in
set_option maxRecDepth 100000 in
theorem k_X2_needCount {l : Launch} {dC : Nat → ClassId} {dI : Nat → Nat → Nat} {a : Nat → Nat} {cI cZ cS : ClassId}  (M : MM) : KQ l (dC, dI) vwCl (tyW cI cZ cS) yX2_needCount cX2_needCount 1 (some .int) 0 0 [.ref (a 3)] (wC a cI cS M) (qI (dC, dI) vwCl (wC a cI cS M) (t_X2_needCount  M)) := by
  generalize hq : t_X2_needCount  M = r
  refine KQ.of (by decide) (Nat.le_of_ble_eq_true rfl) rfl ?_
  intro p e s m args below meth c A0 C
  unfold t_X2_needCount at hq
  refine g_aload_n C dX2_needCount_0 0 rfl rfl ?_
  refine rg_X2_needs C dX2_needCount_1 ?_
  exact g_iret C dX2_needCount_4 hq rfl
set_option maxHeartbeats 4000000 in
set_option maxRecDepth 100000 in
theorem k_X2_hasWalker {l : Launch} {dC : Nat → ClassId} {dI : Nat → Nat → Nat} {a : Nat → Nat} {cI cZ cS : ClassId} (x1 : Int32) (M : MM) : KQ l (dC, dI) vwCl (tyW cI cZ cS) yX2_hasWalker cX2_hasWalker 2 (some .boolean) 0 0 [.ref (a 3), .int x1] (wC a cI cS M) (qI (dC, dI) vwCl (wC a cI cS M) (b2i (t_X2_hasWalker x1 M))) := by
  generalize hq : t_X2_hasWalker x1 M = r
  refine KQ.of (by decide) (Nat.le_of_ble_eq_true rfl) rfl ?_
  intro p e s m args below meth c A0 C
  unfold t_X2_hasWalker at hq
  refine g_iload_n C dX2_hasWalker_0 1 rfl rfl ?_
  refine g_if_lt C (tgt := 16) dX2_hasWalker_1 (by decide) (fun c5 => ?_) (fun c5 => ?_)
  · have hq := ip c5 hq
    refine g_iconst C dX2_hasWalker_16 (v := 0) (by decide) ?_
    exact g_zret C dX2_hasWalker_17 (Or.inl rfl) (congrArg b2i hq) rfl
  · have hq := iq c5 hq
    refine g_iload_n C dX2_hasWalker_4 1 rfl rfl ?_
    refine g_aload_n C dX2_hasWalker_5 0 rfl rfl ?_
    refine rg_X2_walkers C dX2_hasWalker_6 ?_
    refine g_icmp_ge C (tgt := 16) dX2_hasWalker_9 (by decide) (fun c6 => ?_) (fun c6 => ?_)
    · have hq := ip c6 hq
      refine g_iconst C dX2_hasWalker_16 (v := 0) (by decide) ?_
      exact g_zret C dX2_hasWalker_17 (Or.inl rfl) (congrArg b2i hq) rfl
    · have hq := iq c6 hq
      refine g_iconst C dX2_hasWalker_12 (v := 1) (by decide) ?_
      refine g_goto C (tgt := 17) dX2_hasWalker_13 (by decide) ?_
      exact g_zret C dX2_hasWalker_17 (Or.inr rfl) (congrArg b2i hq) rfl
set_option maxHeartbeats 4000000 in
set_option maxRecDepth 100000 in
theorem k_X2_hasNeed {l : Launch} {dC : Nat → ClassId} {dI : Nat → Nat → Nat} {a : Nat → Nat} {cI cZ cS : ClassId} (x1 : Int32) (M : MM) : KQ l (dC, dI) vwCl (tyW cI cZ cS) yX2_hasNeed cX2_hasNeed 2 (some .boolean) 0 0 [.ref (a 3), .int x1] (wC a cI cS M) (qI (dC, dI) vwCl (wC a cI cS M) (b2i (t_X2_hasNeed x1 M))) := by
  generalize hq : t_X2_hasNeed x1 M = r
  refine KQ.of (by decide) (Nat.le_of_ble_eq_true rfl) rfl ?_
  intro p e s m args below meth c A0 C
  unfold t_X2_hasNeed at hq
  refine g_iload_n C dX2_hasNeed_0 1 rfl rfl ?_
  refine g_if_lt C (tgt := 16) dX2_hasNeed_1 (by decide) (fun c5 => ?_) (fun c5 => ?_)
  · have hq := ip c5 hq
    refine g_iconst C dX2_hasNeed_16 (v := 0) (by decide) ?_
    exact g_zret C dX2_hasNeed_17 (Or.inl rfl) (congrArg b2i hq) rfl
  · have hq := iq c5 hq
    refine g_iload_n C dX2_hasNeed_4 1 rfl rfl ?_
    refine g_aload_n C dX2_hasNeed_5 0 rfl rfl ?_
    refine rg_X2_needs C dX2_hasNeed_6 ?_
    refine g_icmp_ge C (tgt := 16) dX2_hasNeed_9 (by decide) (fun c6 => ?_) (fun c6 => ?_)
    · have hq := ip c6 hq
      refine g_iconst C dX2_hasNeed_16 (v := 0) (by decide) ?_
      exact g_zret C dX2_hasNeed_17 (Or.inl rfl) (congrArg b2i hq) rfl
    · have hq := iq c6 hq
      refine g_iconst C dX2_hasNeed_12 (v := 1) (by decide) ?_
      refine g_goto C (tgt := 17) dX2_hasNeed_13 (by decide) ?_
      exact g_zret C dX2_hasNeed_17 (Or.inr rfl) (congrArg b2i hq) rfl
set_option maxHeartbeats 4000000 in
set_option maxRecDepth 100000 in
theorem k_X2_homeOf {l : Launch} {dC : Nat → ClassId} {dI : Nat → Nat → Nat} {a : Nat → Nat} {cI cZ cS : ClassId} (x1 : Int32) (M : MM) : KQ l (dC, dI) vwCl (tyW cI cZ cS) yX2_homeOf cX2_homeOf 2 (some .int) 1 21 [.ref (a 3), .int x1] (wC a cI cS M) (qI (dC, dI) vwCl (wC a cI cS M) (t_X2_homeOf x1 M)) := by
  generalize hq : t_X2_homeOf x1 M = r
  refine KQ.of (by decide) (Nat.le_of_ble_eq_true rfl) rfl ?_
  intro p e s m args below meth c A0 C
  unfold t_X2_homeOf at hq
  refine g_aload_n C dX2_homeOf_0 0 rfl rfl ?_
  refine rg_X2_homes C dX2_homeOf_1 ?_
  refine g_iload_n C dX2_homeOf_4 1 rfl rfl ?_
  refine gc_Ni C (kn_X6_at 4 2 0 5 arr_4 x1 M) nl_267 ok_X6_at ⟨Nat.le_of_ble_eq_true rfl, Nat.le_of_ble_eq_true rfl⟩ ⟨Nat.le_of_ble_eq_true rfl, Nat.le_of_ble_eq_true rfl⟩ rfl (Nat.le_of_ble_eq_true rfl) dX2_homeOf_5 ?_
  exact g_iret C dX2_homeOf_8 hq rfl
set_option maxHeartbeats 4000000 in
set_option maxRecDepth 100000 in
theorem k_X2_stuffOf {l : Launch} {dC : Nat → ClassId} {dI : Nat → Nat → Nat} {a : Nat → Nat} {cI cZ cS : ClassId} (x1 : Int32) (M : MM) : KQ l (dC, dI) vwCl (tyW cI cZ cS) yX2_stuffOf cX2_stuffOf 2 (some .int) 1 21 [.ref (a 3), .int x1] (wC a cI cS M) (qI (dC, dI) vwCl (wC a cI cS M) (t_X2_stuffOf x1 M)) := by
  generalize hq : t_X2_stuffOf x1 M = r
  refine KQ.of (by decide) (Nat.le_of_ble_eq_true rfl) rfl ?_
  intro p e s m args below meth c A0 C
  unfold t_X2_stuffOf at hq
  refine g_aload_n C dX2_stuffOf_0 0 rfl rfl ?_
  refine rg_X2_stuffs C dX2_stuffOf_1 ?_
  refine g_iload_n C dX2_stuffOf_4 1 rfl rfl ?_
  refine gc_Ni C (kn_X6_at 5 3 0 5 arr_5 x1 M) nl_267 ok_X6_at ⟨Nat.le_of_ble_eq_true rfl, Nat.le_of_ble_eq_true rfl⟩ ⟨Nat.le_of_ble_eq_true rfl, Nat.le_of_ble_eq_true rfl⟩ rfl (Nat.le_of_ble_eq_true rfl) dX2_stuffOf_5 ?_
  exact g_iret C dX2_stuffOf_8 hq rfl
set_option maxHeartbeats 4000000 in
set_option maxRecDepth 100000 in
theorem k_X2_streetOfNeed {l : Launch} {dC : Nat → ClassId} {dI : Nat → Nat → Nat} {a : Nat → Nat} {cI cZ cS : ClassId} (x1 : Int32) (M : MM) : KQ l (dC, dI) vwCl (tyW cI cZ cS) yX2_streetOfNeed cX2_streetOfNeed 2 (some .int) 1 21 [.ref (a 3), .int x1] (wC a cI cS M) (qI (dC, dI) vwCl (wC a cI cS M) (t_X2_streetOfNeed x1 M)) := by
  generalize hq : t_X2_streetOfNeed x1 M = r
  refine KQ.of (by decide) (Nat.le_of_ble_eq_true rfl) rfl ?_
  intro p e s m args below meth c A0 C
  unfold t_X2_streetOfNeed at hq
  refine g_aload_n C dX2_streetOfNeed_0 0 rfl rfl ?_
  refine rg_X2_needStreets C dX2_streetOfNeed_1 ?_
  refine g_iload_n C dX2_streetOfNeed_4 1 rfl rfl ?_
  refine gc_Ni C (kn_X6_at 6 4 0 5 arr_6 x1 M) nl_267 ok_X6_at ⟨Nat.le_of_ble_eq_true rfl, Nat.le_of_ble_eq_true rfl⟩ ⟨Nat.le_of_ble_eq_true rfl, Nat.le_of_ble_eq_true rfl⟩ rfl (Nat.le_of_ble_eq_true rfl) dX2_streetOfNeed_5 ?_
  exact g_iret C dX2_streetOfNeed_8 hq rfl
set_option maxHeartbeats 4000000 in
set_option maxRecDepth 100000 in
theorem k_X2_sortOfNeed {l : Launch} {dC : Nat → ClassId} {dI : Nat → Nat → Nat} {a : Nat → Nat} {cI cZ cS : ClassId} (x1 : Int32) (M : MM) : KQ l (dC, dI) vwCl (tyW cI cZ cS) yX2_sortOfNeed cX2_sortOfNeed 2 (some .int) 1 21 [.ref (a 3), .int x1] (wC a cI cS M) (qI (dC, dI) vwCl (wC a cI cS M) (t_X2_sortOfNeed x1 M)) := by
  generalize hq : t_X2_sortOfNeed x1 M = r
  refine KQ.of (by decide) (Nat.le_of_ble_eq_true rfl) rfl ?_
  intro p e s m args below meth c A0 C
  unfold t_X2_sortOfNeed at hq
  refine g_aload_n C dX2_sortOfNeed_0 0 rfl rfl ?_
  refine rg_X2_needSorts C dX2_sortOfNeed_1 ?_
  refine g_iload_n C dX2_sortOfNeed_4 1 rfl rfl ?_
  refine gc_Ni C (kn_X6_at 7 5 0 5 arr_7 x1 M) nl_267 ok_X6_at ⟨Nat.le_of_ble_eq_true rfl, Nat.le_of_ble_eq_true rfl⟩ ⟨Nat.le_of_ble_eq_true rfl, Nat.le_of_ble_eq_true rfl⟩ rfl (Nat.le_of_ble_eq_true rfl) dX2_sortOfNeed_5 ?_
  exact g_iret C dX2_sortOfNeed_8 hq rfl
set_option maxHeartbeats 4000000 in
set_option maxRecDepth 100000 in
theorem k_X2_figureOfNeed {l : Launch} {dC : Nat → ClassId} {dI : Nat → Nat → Nat} {a : Nat → Nat} {cI cZ cS : ClassId} (x1 : Int32) (M : MM) : KQ l (dC, dI) vwCl (tyW cI cZ cS) yX2_figureOfNeed cX2_figureOfNeed 2 (some .int) 1 21 [.ref (a 3), .int x1] (wC a cI cS M) (qI (dC, dI) vwCl (wC a cI cS M) (t_X2_figureOfNeed x1 M)) := by
  generalize hq : t_X2_figureOfNeed x1 M = r
  refine KQ.of (by decide) (Nat.le_of_ble_eq_true rfl) rfl ?_
  intro p e s m args below meth c A0 C
  unfold t_X2_figureOfNeed at hq
  refine g_aload_n C dX2_figureOfNeed_0 0 rfl rfl ?_
  refine rg_X2_needFigures C dX2_figureOfNeed_1 ?_
  refine g_iload_n C dX2_figureOfNeed_4 1 rfl rfl ?_
  refine gc_Ni C (kn_X6_at 8 6 0 5 arr_8 x1 M) nl_267 ok_X6_at ⟨Nat.le_of_ble_eq_true rfl, Nat.le_of_ble_eq_true rfl⟩ ⟨Nat.le_of_ble_eq_true rfl, Nat.le_of_ble_eq_true rfl⟩ rfl (Nat.le_of_ble_eq_true rfl) dX2_figureOfNeed_5 ?_
  exact g_iret C dX2_figureOfNeed_8 hq rfl
set_option maxHeartbeats 4000000 in
set_option maxRecDepth 100000 in
theorem k_J7_fill_53178 {l : Launch} {dC : Nat → ClassId} {dI : Nat → Nat → Nat} {a : Nat → Nat} {cI cZ cS : ClassId} (k0 r0 o0 n0 : Nat) (hA0 : arr k0 r0 o0 n0) (x1 : Int32) (M M2 : MM) (r : Unit) (hq : q_J7_fill_53178 r0 o0 n0 x1 M = some (r, M2)) : KQ l (dC, dI) vwCl (tyW cI cZ cS) yJ7_fill_53178 cJ7_fill_53178 4 none 0 0 [.ref (a k0), .int x1] (wC a cI cS M) (qV (dC, dI) vwCl (wC a cI cS M2)) := by
  refine KQ.of (by decide) (Nat.le_of_ble_eq_true rfl) rfl ?_
  intro p e s m args below meth c A0 C
  have L_5 : ∀ (f : Nat) (v2 : Int32) (v3 : Int32) (M : MM), q_J7_fill_53178_5 r0 o0 n0 x1  f v2 v3 M = some (r, M2) → gG p l e ({ frames := 0, cells := 0, slots := 0, locals := 0 }) s m args below meth c 4 (dC, dI) vwCl A0 s.heap 0 0 (MQ below ((qV (dC, dI) vwCl (wC a cI cS M2)) A0) args s 0 0 A0) (wC a cI cS M) 5 [(0, .ref (a k0)), (1, .int x1), (2, .int v2), (3, .int v3)] [] := by
    intro f
    induction f with
    | zero => intro v2 v3 M hq; cases hq
    | succ f_5 ih_5 =>
      intro v2 v3 M hq
      rw [q_J7_fill_53178_5] at hq
      refine g_iload_n C dJ7_fill_53178_5 2 rfl rfl ?_
      refine g_iload_n C dJ7_fill_53178_6 3 rfl rfl ?_
      refine g_icmp_ge C (tgt := 20) dJ7_fill_53178_7 (by decide) (fun c5 => ?_) (fun c5 => ?_)
      · have hq := ip c5 hq
        exact g_vret C dJ7_fill_53178_20 (congrArg (wC a cI cS) (som2 hq).2)
      · have hq := iq c5 hq
        refine g_aload_n C dJ7_fill_53178_10 0 rfl rfl ?_
        refine g_iload_n C dJ7_fill_53178_11 2 rfl rfl ?_
        refine g_iload_n C dJ7_fill_53178_12 1 rfl rfl ?_
        obtain ⟨h6, hq⟩ := ogd_some hq
        refine ga_st C hA0 h6 dJ7_fill_53178_13 ?_
        refine g_iinc C (v := (v2 + (1 : Int32))) (lv2 := [(2, _), (0, _), (1, _), (3, _)]) dJ7_fill_53178_14 2 rfl rfl (by decide) rfl ?_
        refine g_goto C (tgt := 5) dJ7_fill_53178_17 (by decide) ?_
        exact g_sub [1, 2, 0, 3] rfl (ih_5 (v2 + (1 : Int32)) v3 (mU M r0 (o0 + v2.toNatClampNeg) x1) hq)
  unfold q_J7_fill_53178 at hq
  refine g_iconst C dJ7_fill_53178_0 (v := 0) (by decide) ?_
  refine g_istore_n C (lv2 := [(2, _), (0, _), (1, _)]) dJ7_fill_53178_1 rfl (by decide) rfl ?_
  refine g_aload_n C dJ7_fill_53178_2 1 rfl rfl ?_
  refine ga_len C hA0 dJ7_fill_53178_3 ?_
  refine g_istore_n C (lv2 := [(3, _), (2, _), (0, _), (1, _)]) dJ7_fill_53178_4 rfl (by decide) rfl ?_
  exact g_sub [2, 3, 1, 0] rfl (L_5 FU (0 : Int32) (nI n0) M hq)
set_option maxHeartbeats 4000000 in
set_option maxRecDepth 100000 in
theorem k_X3_begin {l : Launch} {dC : Nat → ClassId} {dI : Nat → Nat → Nat} {a : Nat → Nat} {cI cZ cS : ClassId} (i : Nat) (hi : i < 18) (M M2 : MM) (r : Unit) (hq : q_X3_begin i M = some (r, M2)) : KQ l (dC, dI) vwCl (tyW cI cZ cS) yX3_begin cX3_begin 2 none 2 42 [.ref (a (16 + 5 * i))] (wC a cI cS M) (qV (dC, dI) vwCl (wC a cI cS M2)) := by
  refine KQ.of (by decide) (Nat.le_of_ble_eq_true rfl) rfl ?_
  intro p e s m args below meth c A0 C
  have L_2 : ∀ (f : Nat) (v1 : Int32) (M : MM), q_X3_begin_2 i  f v1 M = some (r, M2) → gG p l e ({ frames := 2, cells := 0, slots := 0, locals := 42 }) s m args below meth c 2 (dC, dI) vwCl A0 s.heap 0 0 (MQ below ((qV (dC, dI) vwCl (wC a cI cS M2)) A0) args s 0 0 A0) (wC a cI cS M) 2 [(0, .ref (a (16 + 5 * i))), (1, .int v1)] [] := by
    intro f
    induction f with
    | zero => intro v1 M hq; cases hq
    | succ f_2 ih_2 =>
      intro v1 M hq
      rw [q_X3_begin_2] at hq
      refine g_iload_n C dX3_begin_2 1 rfl rfl ?_
      refine g_aload_n C dX3_begin_3 0 rfl rfl ?_
      refine rg_X3_places C i hi dX3_begin_4 ?_
      refine ga_len C (arr_pl hi) dX3_begin_7 ?_
      refine g_icmp_ge C (tgt := 31) dX3_begin_8 (by decide) (fun c17 => ?_) (fun c17 => ?_)
      · have hq := ip c17 hq
        refine g_aload_n C dX3_begin_31 0 rfl rfl ?_
        refine rg_X3_lasts C i hi dX3_begin_32 ?_
        refine g_iconst C dX3_begin_35 (v := 0) (by decide) ?_
        obtain ⟨z18, Mz18, h19, hq⟩ := obd_some hq
        refine gc_Sv C (k_J7_fill_53178 (16 + 5 * i + 2) (9 + i) 6 6 (arr_la hi) (0 : Int32) M Mz18 z18 h19) wl_268 ok_J7_fill_53178 ⟨Nat.le_of_ble_eq_true rfl, Nat.le_of_ble_eq_true rfl⟩ ⟨Nat.le_of_ble_eq_true rfl, Nat.le_of_ble_eq_true rfl⟩ rfl (Nat.le_of_ble_eq_true rfl) dX3_begin_36 ?_
        refine g_aload_n C dX3_begin_39 0 rfl rfl ?_
        refine rg_X3_wetness C i hi dX3_begin_40 ?_
        refine g_iconst C dX3_begin_43 (v := 0) (by decide) ?_
        obtain ⟨z20, Mz20, h21, hq⟩ := obd_some hq
        refine gc_Sv C (k_J7_fill_53178 (16 + 5 * i + 3) (9 + i) 12 6 (arr_we hi) (0 : Int32) Mz18 Mz20 z20 h21) wl_268 ok_J7_fill_53178 ⟨Nat.le_of_ble_eq_true rfl, Nat.le_of_ble_eq_true rfl⟩ ⟨Nat.le_of_ble_eq_true rfl, Nat.le_of_ble_eq_true rfl⟩ rfl (Nat.le_of_ble_eq_true rfl) dX3_begin_44 ?_
        refine g_aload_n C dX3_begin_47 0 rfl rfl ?_
        refine rg_X3_fates C i hi dX3_begin_48 ?_
        refine g_iconst C dX3_begin_51 (v := 0) (by decide) ?_
        obtain ⟨z22, Mz22, h23, hq⟩ := obd_some hq
        refine gc_Sv C (k_J7_fill_53178 (16 + 5 * i + 4) (9 + i) 18 5 (arr_fa hi) (0 : Int32) Mz20 Mz22 z22 h23) wl_268 ok_J7_fill_53178 ⟨Nat.le_of_ble_eq_true rfl, Nat.le_of_ble_eq_true rfl⟩ ⟨Nat.le_of_ble_eq_true rfl, Nat.le_of_ble_eq_true rfl⟩ rfl (Nat.le_of_ble_eq_true rfl) dX3_begin_52 ?_
        refine g_aload_n C dX3_begin_55 0 rfl rfl ?_
        refine g_iconst C dX3_begin_56 (v := 0) (by decide) ?_
        refine rp_X3_opened C i hi dX3_begin_57 ?_
        refine g_aload_n C dX3_begin_60 0 rfl rfl ?_
        refine g_iconst C dX3_begin_61 (v := 0) (by decide) ?_
        refine rp_X3_time C i hi dX3_begin_62 ?_
        exact g_vret C dX3_begin_65 (congrArg (wC a cI cS) (som2 hq).2)
      · have hq := iq c17 hq
        refine g_aload_n C dX3_begin_11 0 rfl rfl ?_
        refine rg_X3_places C i hi dX3_begin_12 ?_
        refine g_iload_n C dX3_begin_15 1 rfl rfl ?_
        refine g_aload_n C dX3_begin_16 0 rfl rfl ?_
        refine rg_X3_plan C i hi dX3_begin_17 ?_
        refine g_iload_n C dX3_begin_20 1 rfl rfl ?_
        refine gc_Vi C (k_X2_homeOf v1 M) wl_263 ok_X2_homeOf rv_X2 rfl ⟨Nat.le_of_ble_eq_true rfl, Nat.le_of_ble_eq_true rfl⟩ ⟨Nat.le_of_ble_eq_true rfl, Nat.le_of_ble_eq_true rfl⟩ rfl (Nat.le_of_ble_eq_true rfl) dX3_begin_21 ?_
        obtain ⟨h24, hq⟩ := ogd_some hq
        refine ga_st C (arr_pl hi) h24 dX3_begin_24 ?_
        refine g_iinc C (v := (v1 + (1 : Int32))) (lv2 := [(1, _), (0, _)]) dX3_begin_25 1 rfl rfl (by decide) rfl ?_
        refine g_goto C (tgt := 2) dX3_begin_28 (by decide) ?_
        exact g_sub [1, 0] rfl (ih_2 (v1 + (1 : Int32)) (mU M (9 + i) (0 + v1.toNatClampNeg) (t_X2_homeOf v1 M)) hq)
  unfold q_X3_begin at hq
  refine g_iconst C dX3_begin_0 (v := 0) (by decide) ?_
  refine g_istore_n C (lv2 := [(1, _), (0, _)]) dX3_begin_1 rfl (by decide) rfl ?_
  exact g_sub [1, 0] rfl (L_2 FU (0 : Int32) M hq)
set_option maxHeartbeats 4000000 in
set_option maxRecDepth 100000 in
theorem k_X3_time {l : Launch} {dC : Nat → ClassId} {dI : Nat → Nat → Nat} {a : Nat → Nat} {cI cZ cS : ClassId} (i : Nat) (hi : i < 18) (M : MM) : KQ l (dC, dI) vwCl (tyW cI cZ cS) yX3_time cX3_time 1 (some .int) 0 0 [.ref (a (16 + 5 * i))] (wC a cI cS M) (qI (dC, dI) vwCl (wC a cI cS M) (t_X3_time i M)) := by
  generalize hq : t_X3_time i M = r
  refine KQ.of (by decide) (Nat.le_of_ble_eq_true rfl) rfl ?_
  intro p e s m args below meth c A0 C
  unfold t_X3_time at hq
  refine g_aload_n C dX3_time_0 0 rfl rfl ?_
  refine rg_X3_time C i hi dX3_time_1 ?_
  exact g_iret C dX3_time_4 hq rfl
set_option maxHeartbeats 4000000 in
set_option maxRecDepth 100000 in
theorem k_X3_placeOf {l : Launch} {dC : Nat → ClassId} {dI : Nat → Nat → Nat} {a : Nat → Nat} {cI cZ cS : ClassId} (i : Nat) (hi : i < 18) (x1 : Int32) (M : MM) : KQ l (dC, dI) vwCl (tyW cI cZ cS) yX3_placeOf cX3_placeOf 2 (some .int) 1 21 [.ref (a (16 + 5 * i)), .int x1] (wC a cI cS M) (qI (dC, dI) vwCl (wC a cI cS M) (t_X3_placeOf i x1 M)) := by
  generalize hq : t_X3_placeOf i x1 M = r
  refine KQ.of (by decide) (Nat.le_of_ble_eq_true rfl) rfl ?_
  intro p e s m args below meth c A0 C
  unfold t_X3_placeOf at hq
  refine g_aload_n C dX3_placeOf_0 0 rfl rfl ?_
  refine rg_X3_places C i hi dX3_placeOf_1 ?_
  refine g_iload_n C dX3_placeOf_4 1 rfl rfl ?_
  refine gc_Ni C (kn_X6_at (16 + 5 * i + 1) (9 + i) 0 5 (arr_pl hi) x1 M) nl_323 ok_X6_at ⟨Nat.le_of_ble_eq_true rfl, Nat.le_of_ble_eq_true rfl⟩ ⟨Nat.le_of_ble_eq_true rfl, Nat.le_of_ble_eq_true rfl⟩ rfl (Nat.le_of_ble_eq_true rfl) dX3_placeOf_5 ?_
  exact g_iret C dX3_placeOf_8 hq rfl
set_option maxHeartbeats 4000000 in
set_option maxRecDepth 100000 in
theorem k_X3_lastsIn {l : Launch} {dC : Nat → ClassId} {dI : Nat → Nat → Nat} {a : Nat → Nat} {cI cZ cS : ClassId} (i : Nat) (hi : i < 18) (x1 : Int32) (M : MM) : KQ l (dC, dI) vwCl (tyW cI cZ cS) yX3_lastsIn cX3_lastsIn 2 (some .int) 1 21 [.ref (a (16 + 5 * i)), .int x1] (wC a cI cS M) (qI (dC, dI) vwCl (wC a cI cS M) (t_X3_lastsIn i x1 M)) := by
  generalize hq : t_X3_lastsIn i x1 M = r
  refine KQ.of (by decide) (Nat.le_of_ble_eq_true rfl) rfl ?_
  intro p e s m args below meth c A0 C
  unfold t_X3_lastsIn at hq
  refine g_aload_n C dX3_lastsIn_0 0 rfl rfl ?_
  refine rg_X3_lasts C i hi dX3_lastsIn_1 ?_
  refine g_iload_n C dX3_lastsIn_4 1 rfl rfl ?_
  refine gc_Ni C (kn_X6_at (16 + 5 * i + 2) (9 + i) 6 6 (arr_la hi) x1 M) nl_323 ok_X6_at ⟨Nat.le_of_ble_eq_true rfl, Nat.le_of_ble_eq_true rfl⟩ ⟨Nat.le_of_ble_eq_true rfl, Nat.le_of_ble_eq_true rfl⟩ rfl (Nat.le_of_ble_eq_true rfl) dX3_lastsIn_5 ?_
  exact g_iret C dX3_lastsIn_8 hq rfl
set_option maxHeartbeats 4000000 in
set_option maxRecDepth 100000 in
theorem k_X3_wetnessOf {l : Launch} {dC : Nat → ClassId} {dI : Nat → Nat → Nat} {a : Nat → Nat} {cI cZ cS : ClassId} (i : Nat) (hi : i < 18) (x1 : Int32) (M : MM) : KQ l (dC, dI) vwCl (tyW cI cZ cS) yX3_wetnessOf cX3_wetnessOf 2 (some .int) 1 21 [.ref (a (16 + 5 * i)), .int x1] (wC a cI cS M) (qI (dC, dI) vwCl (wC a cI cS M) (t_X3_wetnessOf i x1 M)) := by
  generalize hq : t_X3_wetnessOf i x1 M = r
  refine KQ.of (by decide) (Nat.le_of_ble_eq_true rfl) rfl ?_
  intro p e s m args below meth c A0 C
  unfold t_X3_wetnessOf at hq
  refine g_aload_n C dX3_wetnessOf_0 0 rfl rfl ?_
  refine rg_X3_wetness C i hi dX3_wetnessOf_1 ?_
  refine g_iload_n C dX3_wetnessOf_4 1 rfl rfl ?_
  refine gc_Ni C (kn_X6_at (16 + 5 * i + 3) (9 + i) 12 6 (arr_we hi) x1 M) nl_323 ok_X6_at ⟨Nat.le_of_ble_eq_true rfl, Nat.le_of_ble_eq_true rfl⟩ ⟨Nat.le_of_ble_eq_true rfl, Nat.le_of_ble_eq_true rfl⟩ rfl (Nat.le_of_ble_eq_true rfl) dX3_wetnessOf_5 ?_
  exact g_iret C dX3_wetnessOf_8 hq rfl
set_option maxHeartbeats 4000000 in
set_option maxRecDepth 100000 in
theorem k_X3_fateOf {l : Launch} {dC : Nat → ClassId} {dI : Nat → Nat → Nat} {a : Nat → Nat} {cI cZ cS : ClassId} (i : Nat) (hi : i < 18) (x1 : Int32) (M : MM) : KQ l (dC, dI) vwCl (tyW cI cZ cS) yX3_fateOf cX3_fateOf 2 (some .int) 1 21 [.ref (a (16 + 5 * i)), .int x1] (wC a cI cS M) (qI (dC, dI) vwCl (wC a cI cS M) (t_X3_fateOf i x1 M)) := by
  generalize hq : t_X3_fateOf i x1 M = r
  refine KQ.of (by decide) (Nat.le_of_ble_eq_true rfl) rfl ?_
  intro p e s m args below meth c A0 C
  unfold t_X3_fateOf at hq
  refine g_aload_n C dX3_fateOf_0 0 rfl rfl ?_
  refine rg_X3_fates C i hi dX3_fateOf_1 ?_
  refine g_iload_n C dX3_fateOf_4 1 rfl rfl ?_
  refine gc_Ni C (kn_X6_at (16 + 5 * i + 4) (9 + i) 18 5 (arr_fa hi) x1 M) nl_323 ok_X6_at ⟨Nat.le_of_ble_eq_true rfl, Nat.le_of_ble_eq_true rfl⟩ ⟨Nat.le_of_ble_eq_true rfl, Nat.le_of_ble_eq_true rfl⟩ rfl (Nat.le_of_ble_eq_true rfl) dX3_fateOf_5 ?_
  exact g_iret C dX3_fateOf_8 hq rfl
set_option maxHeartbeats 4000000 in
set_option maxRecDepth 100000 in
theorem k_X3_openBits {l : Launch} {dC : Nat → ClassId} {dI : Nat → Nat → Nat} {a : Nat → Nat} {cI cZ cS : ClassId} (i : Nat) (hi : i < 18) (M : MM) : KQ l (dC, dI) vwCl (tyW cI cZ cS) yX3_openBits cX3_openBits 1 (some .int) 0 0 [.ref (a (16 + 5 * i))] (wC a cI cS M) (qI (dC, dI) vwCl (wC a cI cS M) (t_X3_openBits i M)) := by
  generalize hq : t_X3_openBits i M = r
  refine KQ.of (by decide) (Nat.le_of_ble_eq_true rfl) rfl ?_
  intro p e s m args below meth c A0 C
  unfold t_X3_openBits at hq
  refine g_aload_n C dX3_openBits_0 0 rfl rfl ?_
  refine rg_X3_opened C i hi dX3_openBits_1 ?_
  exact g_iret C dX3_openBits_4 hq rfl
set_option maxHeartbeats 4000000 in
set_option maxRecDepth 100000 in
theorem k_X3_shutBits {l : Launch} {dC : Nat → ClassId} {dI : Nat → Nat → Nat} {a : Nat → Nat} {cI cZ cS : ClassId} (i : Nat) (hi : i < 18) (M : MM) : KQ l (dC, dI) vwCl (tyW cI cZ cS) yX3_shutBits cX3_shutBits 1 (some .int) 1 20 [.ref (a (16 + 5 * i))] (wC a cI cS M) (qI (dC, dI) vwCl (wC a cI cS M) (t_X3_shutBits i M)) := by
  generalize hq : t_X3_shutBits i M = r
  refine KQ.of (by decide) (Nat.le_of_ble_eq_true rfl) rfl ?_
  intro p e s m args below meth c A0 C
  unfold t_X3_shutBits at hq
  refine g_iconst C dX3_shutBits_0 (v := 1) (by decide) ?_
  refine g_aload_n C dX3_shutBits_1 0 rfl rfl ?_
  refine rg_X3_plan C i hi dX3_shutBits_2 ?_
  refine gc_Vi C (k_X2_walkerCount  M) wl_524 ok_X2_walkerCount rv_X2 rfl ⟨Nat.le_of_ble_eq_true rfl, Nat.le_of_ble_eq_true rfl⟩ ⟨Nat.le_of_ble_eq_true rfl, Nat.le_of_ble_eq_true rfl⟩ rfl (Nat.le_of_ble_eq_true rfl) dX3_shutBits_5 ?_
  refine g_ishl C dX3_shutBits_8 ?_
  refine g_iconst C dX3_shutBits_9 (v := 1) (by decide) ?_
  refine g_isub C dX3_shutBits_10 ?_
  refine g_aload_n C dX3_shutBits_11 0 rfl rfl ?_
  refine rg_X3_opened C i hi dX3_shutBits_12 ?_
  refine g_iconst C dX3_shutBits_15 (v := -1) (by decide) ?_
  refine g_ixor C dX3_shutBits_16 ?_
  refine g_iand C dX3_shutBits_17 ?_
  exact g_iret C dX3_shutBits_18 hq rfl
set_option maxHeartbeats 4000000 in
set_option maxRecDepth 100000 in
theorem k_X3_isOpen {l : Launch} {dC : Nat → ClassId} {dI : Nat → Nat → Nat} {a : Nat → Nat} {cI cZ cS : ClassId} (i : Nat) (hi : i < 18) (x1 : Int32) (M : MM) : KQ l (dC, dI) vwCl (tyW cI cZ cS) yX3_isOpen cX3_isOpen 2 (some .boolean) 1 21 [.ref (a (16 + 5 * i)), .int x1] (wC a cI cS M) (qI (dC, dI) vwCl (wC a cI cS M) (b2i (t_X3_isOpen i x1 M))) := by
  generalize hq : t_X3_isOpen i x1 M = r
  refine KQ.of (by decide) (Nat.le_of_ble_eq_true rfl) rfl ?_
  intro p e s m args below meth c A0 C
  unfold t_X3_isOpen at hq
  refine g_aload_n C dX3_isOpen_0 0 rfl rfl ?_
  refine rg_X3_opened C i hi dX3_isOpen_1 ?_
  refine g_iload_n C dX3_isOpen_4 1 rfl rfl ?_
  refine gc_Ni C (k_X6_has (M.1 (9 + i) 5) x1 M) nl_303 ok_X6_has ⟨Nat.le_of_ble_eq_true rfl, Nat.le_of_ble_eq_true rfl⟩ ⟨Nat.le_of_ble_eq_true rfl, Nat.le_of_ble_eq_true rfl⟩ rfl (Nat.le_of_ble_eq_true rfl) dX3_isOpen_5 ?_
  exact g_zret C dX3_isOpen_8 (b2i_z _) (congrArg b2i hq) rfl
set_option maxHeartbeats 4000000 in
set_option maxRecDepth 100000 in
theorem k_X3_openIn {l : Launch} {dC : Nat → ClassId} {dI : Nat → Nat → Nat} {a : Nat → Nat} {cI cZ cS : ClassId} (i : Nat) (hi : i < 18) (x1 : Int32) (M M2 : MM) (r : Int32) (hq : q_X3_openIn i x1 M = some (r, M2)) : KQ l (dC, dI) vwCl (tyW cI cZ cS) yX3_openIn cX3_openIn 4 (some .int) 1 21 [.ref (a (16 + 5 * i)), .int x1] (wC a cI cS M) (qI (dC, dI) vwCl (wC a cI cS M2) r) := by
  refine KQ.of (by decide) (Nat.le_of_ble_eq_true rfl) rfl ?_
  intro p e s m args below meth c A0 C
  have L_4 : ∀ (f : Nat) (v2 : Int32) (v3 : Int32) (M : MM), q_X3_openIn_4 i x1  f v2 v3 M = some (r, M2) → gG p l e ({ frames := 1, cells := 0, slots := 0, locals := 21 }) s m args below meth c 4 (dC, dI) vwCl A0 s.heap 0 0 (MQ below ((qI (dC, dI) vwCl (wC a cI cS M2) r) A0) args s 0 0 A0) (wC a cI cS M) 4 [(0, .ref (a (16 + 5 * i))), (1, .int x1), (2, .int v2), (3, .int v3)] [] := by
    intro f
    induction f with
    | zero => intro v2 v3 M hq; cases hq
    | succ f_4 ih_4 =>
      have J_40 : ∀ (v3 : Int32) (s0 : Int32) (s1 : Int32) (M : MM), q_X3_openIn_40 i x1 (q_X3_openIn_4 i x1  f_4) v3 s0 s1 M = some (r, M2) → gG p l e ({ frames := 1, cells := 0, slots := 0, locals := 21 }) s m args below meth c 4 (dC, dI) vwCl A0 s.heap 0 0 (MQ below ((qI (dC, dI) vwCl (wC a cI cS M2) r) A0) args s 0 0 A0) (wC a cI cS M) 40 [(0, .ref (a (16 + 5 * i))), (1, .int x1), (3, .int v3)] [.int s1, .int s0] := by
        intro v3 s0 s1 M hq
        unfold q_X3_openIn_40 at hq
        refine g_iadd C dX3_openIn_40 ?_
        refine g_istore_n C (lv2 := [(2, _), (0, _), (1, _), (3, _)]) dX3_openIn_41 rfl (by decide) rfl ?_
        refine g_iinc C (v := (v3 + (1 : Int32))) (lv2 := [(3, _), (2, _), (0, _), (1, _)]) dX3_openIn_42 3 rfl rfl (by decide) rfl ?_
        refine g_goto C (tgt := 4) dX3_openIn_45 (by decide) ?_
        exact g_sub [2, 3, 1, 0] rfl (ih_4 (s0 + s1) (v3 + (1 : Int32)) M hq)
      have J_39 : ∀ (v3 : Int32) (s0 : Int32) (M : MM), q_X3_openIn_39 i x1 (q_X3_openIn_4 i x1  f_4) v3 s0 M = some (r, M2) → gG p l e ({ frames := 1, cells := 0, slots := 0, locals := 21 }) s m args below meth c 4 (dC, dI) vwCl A0 s.heap 0 0 (MQ below ((qI (dC, dI) vwCl (wC a cI cS M2) r) A0) args s 0 0 A0) (wC a cI cS M) 39 [(0, .ref (a (16 + 5 * i))), (1, .int x1), (3, .int v3)] [.int s0] := by
        intro v3 s0 M hq
        unfold q_X3_openIn_39 at hq
        refine g_iconst C dX3_openIn_39 (v := 0) (by decide) ?_
        exact g_sub [0, 1, 2] rfl (J_40 v3 s0 (0 : Int32) M hq)
      intro v2 v3 M hq
      rw [q_X3_openIn_4] at hq
      refine g_iload_n C dX3_openIn_4 3 rfl rfl ?_
      refine g_aload_n C dX3_openIn_5 0 rfl rfl ?_
      refine rg_X3_places C i hi dX3_openIn_6 ?_
      refine ga_len C (arr_pl hi) dX3_openIn_9 ?_
      refine g_icmp_ge C (tgt := 48) dX3_openIn_10 (by decide) (fun c9 => ?_) (fun c9 => ?_)
      · have hq := ip c9 hq
        refine g_iload_n C dX3_openIn_48 2 rfl rfl ?_
        exact g_iret C dX3_openIn_49 (som2 hq).1 (congrArg (wC a cI cS) (som2 hq).2)
      · have hq := iq c9 hq
        refine g_iload_n C dX3_openIn_13 2 rfl rfl ?_
        refine g_aload_n C dX3_openIn_14 0 rfl rfl ?_
        refine rg_X3_opened C i hi dX3_openIn_15 ?_
        refine g_iload_n C dX3_openIn_18 3 rfl rfl ?_
        refine gc_Ni C (k_X6_has (M.1 (9 + i) 5) v3 M) nl_303 ok_X6_has ⟨Nat.le_of_ble_eq_true rfl, Nat.le_of_ble_eq_true rfl⟩ ⟨Nat.le_of_ble_eq_true rfl, Nat.le_of_ble_eq_true rfl⟩ rfl (Nat.le_of_ble_eq_true rfl) dX3_openIn_19 ?_
        refine g_if_eq C (tgt := 39) dX3_openIn_22 (by decide) (fun c10 => ?_) (fun c10 => ?_)
        · have hq := ip c10 hq
          exact g_sub [0, 1, 3] rfl (J_39 v3 v2 M hq)
        · have hq := iq c10 hq
          refine g_aload_n C dX3_openIn_25 0 rfl rfl ?_
          refine rg_X3_places C i hi dX3_openIn_26 ?_
          refine g_iload_n C dX3_openIn_29 3 rfl rfl ?_
          obtain ⟨h11, hq⟩ := ogd_some hq
          refine ga_ld C (arr_pl hi) h11 dX3_openIn_30 ?_
          refine g_iload_n C dX3_openIn_31 1 rfl rfl ?_
          refine g_icmp_ne C (tgt := 39) dX3_openIn_32 (by decide) (fun c12 => ?_) (fun c12 => ?_)
          · have hq := iq c12 hq
            exact g_sub [0, 1, 3] rfl (J_39 v3 v2 M hq)
          · have hq := ip c12 hq
            refine g_iconst C dX3_openIn_35 (v := 1) (by decide) ?_
            refine g_goto C (tgt := 40) dX3_openIn_36 (by decide) ?_
            exact g_sub [0, 1, 3] rfl (J_40 v3 v2 (1 : Int32) M hq)
  unfold q_X3_openIn at hq
  refine g_iconst C dX3_openIn_0 (v := 0) (by decide) ?_
  refine g_istore_n C (lv2 := [(2, _), (0, _), (1, _)]) dX3_openIn_1 rfl (by decide) rfl ?_
  refine g_iconst C dX3_openIn_2 (v := 0) (by decide) ?_
  refine g_istore_n C (lv2 := [(3, _), (2, _), (0, _), (1, _)]) dX3_openIn_3 rfl (by decide) rfl ?_
  exact g_sub [2, 3, 1, 0] rfl (L_4 FU (0 : Int32) (0 : Int32) M hq)
set_option maxHeartbeats 4000000 in
set_option maxRecDepth 100000 in
theorem k_X3_rainBits {l : Launch} {dC : Nat → ClassId} {dI : Nat → Nat → Nat} {a : Nat → Nat} {cI cZ cS : ClassId} (i : Nat) (hi : i < 18) (M M2 : MM) (r : Int32) (hq : q_X3_rainBits i M = some (r, M2)) : KQ l (dC, dI) vwCl (tyW cI cZ cS) yX3_rainBits cX3_rainBits 4 (some .int) 2 42 [.ref (a (16 + 5 * i))] (wC a cI cS M) (qI (dC, dI) vwCl (wC a cI cS M2) r) := by
  refine KQ.of (by decide) (Nat.le_of_ble_eq_true rfl) rfl ?_
  intro p e s m args below meth c A0 C
  have L_69 : ∀ (f : Nat) (v1 : Int32) (v2 : Int32) (M : MM), q_X3_rainBits_69 i  f v1 v2 M = some (r, M2) → gG p l e ({ frames := 2, cells := 0, slots := 0, locals := 42 }) s m args below meth c 4 (dC, dI) vwCl A0 s.heap 0 0 (MQ below ((qI (dC, dI) vwCl (wC a cI cS M2) r) A0) args s 0 0 A0) (wC a cI cS M) 69 [(0, .ref (a (16 + 5 * i))), (1, .int v1), (2, .int v2)] [] := by
    intro f
    induction f with
    | zero => intro v1 v2 M hq; cases hq
    | succ f_69 ih_69 =>
      have J_95 : ∀ (v2 : Int32) (s0 : Int32) (s1 : Int32) (M : MM), q_X3_rainBits_95 i (q_X3_rainBits_69 i  f_69) v2 s0 s1 M = some (r, M2) → gG p l e ({ frames := 2, cells := 0, slots := 0, locals := 42 }) s m args below meth c 4 (dC, dI) vwCl A0 s.heap 0 0 (MQ below ((qI (dC, dI) vwCl (wC a cI cS M2) r) A0) args s 0 0 A0) (wC a cI cS M) 95 [(0, .ref (a (16 + 5 * i))), (2, .int v2)] [.int s1, .int s0] := by
        intro v2 s0 s1 M hq
        unfold q_X3_rainBits_95 at hq
        refine g_ior C dX3_rainBits_95 ?_
        refine g_istore_n C (lv2 := [(1, _), (0, _), (2, _)]) dX3_rainBits_96 rfl (by decide) rfl ?_
        refine g_iinc C (v := (v2 + (1 : Int32))) (lv2 := [(2, _), (1, _), (0, _)]) dX3_rainBits_97 2 rfl rfl (by decide) rfl ?_
        refine g_goto C (tgt := 69) dX3_rainBits_100 (by decide) ?_
        exact g_sub [2, 1, 0] rfl (ih_69 (s0 ||| s1) (v2 + (1 : Int32)) M hq)
      intro v1 v2 M hq
      rw [q_X3_rainBits_69] at hq
      refine g_iload_n C dX3_rainBits_69 2 rfl rfl ?_
      refine g_aload_n C dX3_rainBits_70 0 rfl rfl ?_
      refine rg_X3_lasts C i hi dX3_rainBits_71 ?_
      refine ga_len C (arr_la hi) dX3_rainBits_74 ?_
      refine g_icmp_ge C (tgt := 103) dX3_rainBits_75 (by decide) (fun c11 => ?_) (fun c11 => ?_)
      · have hq := ip c11 hq
        refine g_iload_n C dX3_rainBits_103 1 rfl rfl ?_
        refine g_bipush C dX3_rainBits_104 (v := 63) (by decide) ?_
        refine g_iand C dX3_rainBits_106 ?_
        exact g_iret C dX3_rainBits_107 (som2 hq).1 (congrArg (wC a cI cS) (som2 hq).2)
      · have hq := iq c11 hq
        refine g_iload_n C dX3_rainBits_78 1 rfl rfl ?_
        refine g_aload_n C dX3_rainBits_79 0 rfl rfl ?_
        refine rg_X3_lasts C i hi dX3_rainBits_80 ?_
        refine g_iload_n C dX3_rainBits_83 2 rfl rfl ?_
        obtain ⟨h12, hq⟩ := ogd_some hq
        refine ga_ld C (arr_la hi) h12 dX3_rainBits_84 ?_
        refine g_if_le C (tgt := 94) dX3_rainBits_85 (by decide) (fun c13 => ?_) (fun c13 => ?_)
        · have hq := ip c13 hq
          refine g_iconst C dX3_rainBits_94 (v := 0) (by decide) ?_
          exact g_sub [0, 2] rfl (J_95 v2 v1 (0 : Int32) M hq)
        · have hq := iq c13 hq
          refine g_iconst C dX3_rainBits_88 (v := 1) (by decide) ?_
          refine g_iload_n C dX3_rainBits_89 2 rfl rfl ?_
          refine g_ishl C dX3_rainBits_90 ?_
          refine g_goto C (tgt := 95) dX3_rainBits_91 (by decide) ?_
          exact g_sub [0, 2] rfl (J_95 v2 v1 ((1 : Int32) <<< (v2 &&& 31)) M hq)
  have L_4 : ∀ (f : Nat) (v1 : Int32) (v2 : Int32) (M : MM), q_X3_rainBits_4 i  f v1 v2 M = some (r, M2) → gG p l e ({ frames := 2, cells := 0, slots := 0, locals := 42 }) s m args below meth c 4 (dC, dI) vwCl A0 s.heap 0 0 (MQ below ((qI (dC, dI) vwCl (wC a cI cS M2) r) A0) args s 0 0 A0) (wC a cI cS M) 4 [(0, .ref (a (16 + 5 * i))), (1, .int v1), (2, .int v2)] [] := by
    intro f
    induction f with
    | zero => intro v1 v2 M hq; cases hq
    | succ f_4 ih_4 =>
      have J_61 : ∀ (v1 : Int32) (v2 : Int32) (M : MM), q_X3_rainBits_61 i (q_X3_rainBits_4 i  f_4) v1 v2 M = some (r, M2) → gG p l e ({ frames := 2, cells := 0, slots := 0, locals := 42 }) s m args below meth c 4 (dC, dI) vwCl A0 s.heap 0 0 (MQ below ((qI (dC, dI) vwCl (wC a cI cS M2) r) A0) args s 0 0 A0) (wC a cI cS M) 61 [(0, .ref (a (16 + 5 * i))), (1, .int v1), (2, .int v2)] [] := by
        intro v1 v2 M hq
        unfold q_X3_rainBits_61 at hq
        refine g_iinc C (v := (v2 + (1 : Int32))) (lv2 := [(2, _), (0, _), (1, _)]) dX3_rainBits_61 2 rfl rfl (by decide) rfl ?_
        refine g_goto C (tgt := 4) dX3_rainBits_64 (by decide) ?_
        exact g_sub [1, 2, 0] rfl (ih_4 v1 (v2 + (1 : Int32)) M hq)
      have J_59 : ∀ (v2 : Int32) (s0 : Int32) (s1 : Int32) (M : MM), q_X3_rainBits_59 i (q_X3_rainBits_4 i  f_4) v2 s0 s1 M = some (r, M2) → gG p l e ({ frames := 2, cells := 0, slots := 0, locals := 42 }) s m args below meth c 4 (dC, dI) vwCl A0 s.heap 0 0 (MQ below ((qI (dC, dI) vwCl (wC a cI cS M2) r) A0) args s 0 0 A0) (wC a cI cS M) 59 [(0, .ref (a (16 + 5 * i))), (2, .int v2)] [.int s1, .int s0] := by
        intro v2 s0 s1 M hq
        unfold q_X3_rainBits_59 at hq
        refine g_ior C dX3_rainBits_59 ?_
        refine g_istore_n C (lv2 := [(1, _), (0, _), (2, _)]) dX3_rainBits_60 rfl (by decide) rfl ?_
        exact g_sub [1, 0, 2] rfl (J_61 (s0 ||| s1) v2 M hq)
      intro v1 v2 M hq
      rw [q_X3_rainBits_4] at hq
      refine g_iload_n C dX3_rainBits_4 2 rfl rfl ?_
      refine g_aload_n C dX3_rainBits_5 0 rfl rfl ?_
      refine rg_X3_places C i hi dX3_rainBits_6 ?_
      refine ga_len C (arr_pl hi) dX3_rainBits_9 ?_
      refine g_icmp_ge C (tgt := 67) dX3_rainBits_10 (by decide) (fun c18 => ?_) (fun c18 => ?_)
      · have hq := ip c18 hq
        refine g_iconst C dX3_rainBits_67 (v := 0) (by decide) ?_
        refine g_istore_n C (lv2 := [(2, _), (0, _), (1, _)]) dX3_rainBits_68 rfl (by decide) rfl ?_
        exact g_sub [1, 2, 0] rfl (L_69 FU v1 (0 : Int32) M hq)
      · have hq := iq c18 hq
        refine g_aload_n C dX3_rainBits_13 0 rfl rfl ?_
        refine rg_X3_opened C i hi dX3_rainBits_14 ?_
        refine g_iload_n C dX3_rainBits_17 2 rfl rfl ?_
        refine gc_Ni C (k_X6_has (M.1 (9 + i) 5) v2 M) nl_303 ok_X6_has ⟨Nat.le_of_ble_eq_true rfl, Nat.le_of_ble_eq_true rfl⟩ ⟨Nat.le_of_ble_eq_true rfl, Nat.le_of_ble_eq_true rfl⟩ rfl (Nat.le_of_ble_eq_true rfl) dX3_rainBits_18 ?_
        refine g_if_eq C (tgt := 61) dX3_rainBits_21 (by decide) (fun c19 => ?_) (fun c19 => ?_)
        · have hq := ip c19 hq
          exact g_sub [0, 1, 2] rfl (J_61 v1 v2 M hq)
        · have hq := iq c19 hq
          refine g_iconst C dX3_rainBits_24 (v := 1) (by decide) ?_
          refine g_aload_n C dX3_rainBits_25 0 rfl rfl ?_
          refine rg_X3_places C i hi dX3_rainBits_26 ?_
          refine g_iload_n C dX3_rainBits_29 2 rfl rfl ?_
          obtain ⟨h20, hq⟩ := ogd_some hq
          refine ga_ld C (arr_pl hi) h20 dX3_rainBits_30 ?_
          refine g_ishl C dX3_rainBits_31 ?_
          refine g_istore_n C (lv2 := [(3, _), (0, _), (1, _), (2, _)]) dX3_rainBits_32 rfl (by decide) rfl ?_
          refine g_iload_n C dX3_rainBits_33 2 rfl rfl ?_
          refine g_aload_n C dX3_rainBits_34 1 rfl rfl ?_
          refine rg_X3_plan C i hi dX3_rainBits_35 ?_
          refine g_iload_n C dX3_rainBits_38 3 rfl rfl ?_
          refine gc_Vi C (k_X2_stuffOf v2 M) wl_306 ok_X2_stuffOf rv_X2 rfl ⟨Nat.le_of_ble_eq_true rfl, Nat.le_of_ble_eq_true rfl⟩ ⟨Nat.le_of_ble_eq_true rfl, Nat.le_of_ble_eq_true rfl⟩ rfl (Nat.le_of_ble_eq_true rfl) dX3_rainBits_39 ?_
          refine g_iconst C dX3_rainBits_42 (v := 3) (by decide) ?_
          refine g_icmp_ne C (tgt := 58) dX3_rainBits_43 (by decide) (fun c21 => ?_) (fun c21 => ?_)
          · have hq := iq c21 hq
            refine g_iload_n C dX3_rainBits_58 0 rfl rfl ?_
            exact g_sub [1, 3] rfl (J_59 v2 v1 ((1 : Int32) <<< ((M.1 (9 + i) (0 + v2.toNatClampNeg)) &&& 31)) M hq)
          · have hq := ip c21 hq
            refine g_iload_n C dX3_rainBits_46 0 rfl rfl ?_
            refine g_iconst C dX3_rainBits_47 (v := 1) (by decide) ?_
            refine g_ishl C dX3_rainBits_48 ?_
            refine g_iload_n C dX3_rainBits_49 0 rfl rfl ?_
            refine g_ior C dX3_rainBits_50 ?_
            refine g_iload_n C dX3_rainBits_51 0 rfl rfl ?_
            refine g_iconst C dX3_rainBits_52 (v := 1) (by decide) ?_
            refine g_ishr C dX3_rainBits_53 ?_
            refine g_ior C dX3_rainBits_54 ?_
            refine g_goto C (tgt := 59) dX3_rainBits_55 (by decide) ?_
            exact g_sub [1, 3] rfl (J_59 v2 v1 (((((1 : Int32) <<< ((M.1 (9 + i) (0 + v2.toNatClampNeg)) &&& 31)) <<< ((1 : Int32) &&& 31)) ||| ((1 : Int32) <<< ((M.1 (9 + i) (0 + v2.toNatClampNeg)) &&& 31))) ||| (((1 : Int32) <<< ((M.1 (9 + i) (0 + v2.toNatClampNeg)) &&& 31)) >>> ((1 : Int32) &&& 31))) M hq)
  unfold q_X3_rainBits at hq
  refine g_iconst C dX3_rainBits_0 (v := 0) (by decide) ?_
  refine g_istore_n C (lv2 := [(1, _), (0, _)]) dX3_rainBits_1 rfl (by decide) rfl ?_
  refine g_iconst C dX3_rainBits_2 (v := 0) (by decide) ?_
  refine g_istore_n C (lv2 := [(2, _), (1, _), (0, _)]) dX3_rainBits_3 rfl (by decide) rfl ?_
  exact g_sub [2, 1, 0] rfl (L_4 FU (0 : Int32) (0 : Int32) M hq)
set_option maxHeartbeats 4000000 in
set_option maxRecDepth 100000 in
theorem k_X3_hailBits {l : Launch} {dC : Nat → ClassId} {dI : Nat → Nat → Nat} {a : Nat → Nat} {cI cZ cS : ClassId} (i : Nat) (hi : i < 18) (M M2 : MM) (r : Int32) (hq : q_X3_hailBits i M = some (r, M2)) : KQ l (dC, dI) vwCl (tyW cI cZ cS) yX3_hailBits cX3_hailBits 5 (some .int) 1 21 [.ref (a (16 + 5 * i))] (wC a cI cS M) (qI (dC, dI) vwCl (wC a cI cS M2) r) := by
  refine KQ.of (by decide) (Nat.le_of_ble_eq_true rfl) rfl ?_
  intro p e s m args below meth c A0 C
  have L_6 : ∀ (f : Nat) (v1 : Int32) (v2 : Int32) (v3 : Int32) (M : MM), q_X3_hailBits_6 i  f v1 v2 v3 M = some (r, M2) → gG p l e ({ frames := 1, cells := 0, slots := 0, locals := 21 }) s m args below meth c 5 (dC, dI) vwCl A0 s.heap 0 0 (MQ below ((qI (dC, dI) vwCl (wC a cI cS M2) r) A0) args s 0 0 A0) (wC a cI cS M) 6 [(0, .ref (a (16 + 5 * i))), (1, .int v1), (2, .int v2), (3, .int v3)] [] := by
    intro f
    induction f with
    | zero => intro v1 v2 v3 M hq; cases hq
    | succ f_6 ih_6 =>
      have J_38 : ∀ (v1 : Int32) (v2 : Int32) (v3 : Int32) (s0 : Int32) (M : MM), q_X3_hailBits_38 i (q_X3_hailBits_6 i  f_6) v1 v2 v3 s0 M = some (r, M2) → gG p l e ({ frames := 1, cells := 0, slots := 0, locals := 21 }) s m args below meth c 5 (dC, dI) vwCl A0 s.heap 0 0 (MQ below ((qI (dC, dI) vwCl (wC a cI cS M2) r) A0) args s 0 0 A0) (wC a cI cS M) 38 [(0, .ref (a (16 + 5 * i))), (1, .int v1), (2, .int v2), (3, .int v3)] [.int s0] := by
        intro v1 v2 v3 s0 M hq
        unfold q_X3_hailBits_38 at hq
        refine g_istore C (lv2 := [(4, _), (0, _), (1, _), (2, _), (3, _)]) dX3_hailBits_38 (by decide) rfl ?_
        refine g_iload_n C dX3_hailBits_40 3 rfl rfl ?_
        refine g_iload_n C dX3_hailBits_41 2 rfl rfl ?_
        refine g_iload C dX3_hailBits_42 0 rfl ?_
        refine g_iand C dX3_hailBits_44 ?_
        refine g_ior C dX3_hailBits_45 ?_
        refine g_istore_n C (lv2 := [(2, _), (4, _), (0, _), (1, _), (3, _)]) dX3_hailBits_46 rfl (by decide) rfl ?_
        refine g_iload_n C dX3_hailBits_47 3 rfl rfl ?_
        refine g_iload C dX3_hailBits_48 1 rfl ?_
        refine g_ior C dX3_hailBits_50 ?_
        refine g_istore_n C (lv2 := [(1, _), (2, _), (4, _), (0, _), (3, _)]) dX3_hailBits_51 rfl (by decide) rfl ?_
        refine g_iinc C (v := (v3 + (1 : Int32))) (lv2 := [(3, _), (1, _), (2, _), (4, _), (0, _)]) dX3_hailBits_52 4 rfl rfl (by decide) rfl ?_
        refine g_goto C (tgt := 6) dX3_hailBits_55 (by decide) ?_
        exact g_sub [4, 1, 2, 0] rfl (ih_6 (v1 ||| s0) (v2 ||| (v1 &&& s0)) (v3 + (1 : Int32)) M hq)
      intro v1 v2 v3 M hq
      rw [q_X3_hailBits_6] at hq
      refine g_iload_n C dX3_hailBits_6 3 rfl rfl ?_
      refine g_aload_n C dX3_hailBits_7 0 rfl rfl ?_
      refine rg_X3_places C i hi dX3_hailBits_8 ?_
      refine ga_len C (arr_pl hi) dX3_hailBits_11 ?_
      refine g_icmp_ge C (tgt := 58) dX3_hailBits_12 (by decide) (fun c7 => ?_) (fun c7 => ?_)
      · have hq := ip c7 hq
        refine g_iload_n C dX3_hailBits_58 2 rfl rfl ?_
        exact g_iret C dX3_hailBits_59 (som2 hq).1 (congrArg (wC a cI cS) (som2 hq).2)
      · have hq := iq c7 hq
        refine g_aload_n C dX3_hailBits_15 0 rfl rfl ?_
        refine rg_X3_opened C i hi dX3_hailBits_16 ?_
        refine g_iload_n C dX3_hailBits_19 3 rfl rfl ?_
        refine gc_Ni C (k_X6_has (M.1 (9 + i) 5) v3 M) nl_303 ok_X6_has ⟨Nat.le_of_ble_eq_true rfl, Nat.le_of_ble_eq_true rfl⟩ ⟨Nat.le_of_ble_eq_true rfl, Nat.le_of_ble_eq_true rfl⟩ rfl (Nat.le_of_ble_eq_true rfl) dX3_hailBits_20 ?_
        refine g_if_eq C (tgt := 37) dX3_hailBits_23 (by decide) (fun c8 => ?_) (fun c8 => ?_)
        · have hq := ip c8 hq
          refine g_iconst C dX3_hailBits_37 (v := 0) (by decide) ?_
          exact g_sub [0, 1, 2, 3] rfl (J_38 v1 v2 v3 (0 : Int32) M hq)
        · have hq := iq c8 hq
          refine g_iconst C dX3_hailBits_26 (v := 1) (by decide) ?_
          refine g_aload_n C dX3_hailBits_27 0 rfl rfl ?_
          refine rg_X3_places C i hi dX3_hailBits_28 ?_
          refine g_iload_n C dX3_hailBits_31 3 rfl rfl ?_
          obtain ⟨h9, hq⟩ := ogd_some hq
          refine ga_ld C (arr_pl hi) h9 dX3_hailBits_32 ?_
          refine g_ishl C dX3_hailBits_33 ?_
          refine g_goto C (tgt := 38) dX3_hailBits_34 (by decide) ?_
          exact g_sub [0, 1, 2, 3] rfl (J_38 v1 v2 v3 ((1 : Int32) <<< ((M.1 (9 + i) (0 + v3.toNatClampNeg)) &&& 31)) M hq)
  unfold q_X3_hailBits at hq
  refine g_iconst C dX3_hailBits_0 (v := 0) (by decide) ?_
  refine g_istore_n C (lv2 := [(1, _), (0, _)]) dX3_hailBits_1 rfl (by decide) rfl ?_
  refine g_iconst C dX3_hailBits_2 (v := 0) (by decide) ?_
  refine g_istore_n C (lv2 := [(2, _), (1, _), (0, _)]) dX3_hailBits_3 rfl (by decide) rfl ?_
  refine g_iconst C dX3_hailBits_4 (v := 0) (by decide) ?_
  refine g_istore_n C (lv2 := [(3, _), (2, _), (1, _), (0, _)]) dX3_hailBits_5 rfl (by decide) rfl ?_
  exact g_sub [3, 2, 1, 0] rfl (L_6 FU (0 : Int32) (0 : Int32) (0 : Int32) M hq)
set_option maxHeartbeats 4000000 in
set_option maxRecDepth 100000 in
theorem k_X3_needBits {l : Launch} {dC : Nat → ClassId} {dI : Nat → Nat → Nat} {a : Nat → Nat} {cI cZ cS : ClassId} (i : Nat) (hi : i < 18) (x1 : Int32) (M M2 : MM) (r : Int32) (hq : q_X3_needBits i x1 M = some (r, M2)) : KQ l (dC, dI) vwCl (tyW cI cZ cS) yX3_needBits cX3_needBits 4 (some .int) 2 42 [.ref (a (16 + 5 * i)), .int x1] (wC a cI cS M) (qI (dC, dI) vwCl (wC a cI cS M2) r) := by
  refine KQ.of (by decide) (Nat.le_of_ble_eq_true rfl) rfl ?_
  intro p e s m args below meth c A0 C
  have L_4 : ∀ (f : Nat) (v2 : Int32) (v3 : Int32) (M : MM), q_X3_needBits_4 i x1  f v2 v3 M = some (r, M2) → gG p l e ({ frames := 2, cells := 0, slots := 0, locals := 42 }) s m args below meth c 4 (dC, dI) vwCl A0 s.heap 0 0 (MQ below ((qI (dC, dI) vwCl (wC a cI cS M2) r) A0) args s 0 0 A0) (wC a cI cS M) 4 [(0, .ref (a (16 + 5 * i))), (1, .int x1), (2, .int v2), (3, .int v3)] [] := by
    intro f
    induction f with
    | zero => intro v2 v3 M hq; cases hq
    | succ f_4 ih_4 =>
      have J_32 : ∀ (v3 : Int32) (s0 : Int32) (s1 : Int32) (M : MM), q_X3_needBits_32 i x1 (q_X3_needBits_4 i x1  f_4) v3 s0 s1 M = some (r, M2) → gG p l e ({ frames := 2, cells := 0, slots := 0, locals := 42 }) s m args below meth c 4 (dC, dI) vwCl A0 s.heap 0 0 (MQ below ((qI (dC, dI) vwCl (wC a cI cS M2) r) A0) args s 0 0 A0) (wC a cI cS M) 32 [(0, .ref (a (16 + 5 * i))), (1, .int x1), (3, .int v3)] [.int s1, .int s0] := by
        intro v3 s0 s1 M hq
        unfold q_X3_needBits_32 at hq
        refine g_ior C dX3_needBits_32 ?_
        refine g_istore_n C (lv2 := [(2, _), (0, _), (1, _), (3, _)]) dX3_needBits_33 rfl (by decide) rfl ?_
        refine g_iinc C (v := (v3 + (1 : Int32))) (lv2 := [(3, _), (2, _), (0, _), (1, _)]) dX3_needBits_34 3 rfl rfl (by decide) rfl ?_
        refine g_goto C (tgt := 4) dX3_needBits_37 (by decide) ?_
        exact g_sub [2, 3, 1, 0] rfl (ih_4 (s0 ||| s1) (v3 + (1 : Int32)) M hq)
      intro v2 v3 M hq
      rw [q_X3_needBits_4] at hq
      refine g_iload_n C dX3_needBits_4 3 rfl rfl ?_
      refine g_aload_n C dX3_needBits_5 0 rfl rfl ?_
      refine rg_X3_plan C i hi dX3_needBits_6 ?_
      refine gc_Vi C (k_X2_needCount  M) wl_318 ok_X2_needCount rv_X2 rfl ⟨Nat.le_of_ble_eq_true rfl, Nat.le_of_ble_eq_true rfl⟩ ⟨Nat.le_of_ble_eq_true rfl, Nat.le_of_ble_eq_true rfl⟩ rfl (Nat.le_of_ble_eq_true rfl) dX3_needBits_9 ?_
      refine g_icmp_ge C (tgt := 40) dX3_needBits_12 (by decide) (fun c5 => ?_) (fun c5 => ?_)
      · have hq := ip c5 hq
        refine g_iload_n C dX3_needBits_40 2 rfl rfl ?_
        exact g_iret C dX3_needBits_41 (som2 hq).1 (congrArg (wC a cI cS) (som2 hq).2)
      · have hq := iq c5 hq
        refine g_iload_n C dX3_needBits_15 2 rfl rfl ?_
        refine g_aload_n C dX3_needBits_16 0 rfl rfl ?_
        refine g_iload_n C dX3_needBits_17 3 rfl rfl ?_
        refine gc_Vi C (k_X3_fateOf i hi v3 M) wl_319 ok_X3_fateOf (rv_X3 i hi) rfl ⟨Nat.le_of_ble_eq_true rfl, Nat.le_of_ble_eq_true rfl⟩ ⟨Nat.le_of_ble_eq_true rfl, Nat.le_of_ble_eq_true rfl⟩ rfl (Nat.le_of_ble_eq_true rfl) dX3_needBits_18 ?_
        refine g_iload_n C dX3_needBits_21 1 rfl rfl ?_
        refine g_icmp_ne C (tgt := 31) dX3_needBits_22 (by decide) (fun c6 => ?_) (fun c6 => ?_)
        · have hq := iq c6 hq
          refine g_iconst C dX3_needBits_31 (v := 0) (by decide) ?_
          exact g_sub [0, 1, 3] rfl (J_32 v3 v2 (0 : Int32) M hq)
        · have hq := ip c6 hq
          refine g_iconst C dX3_needBits_25 (v := 1) (by decide) ?_
          refine g_iload_n C dX3_needBits_26 3 rfl rfl ?_
          refine g_ishl C dX3_needBits_27 ?_
          refine g_goto C (tgt := 32) dX3_needBits_28 (by decide) ?_
          exact g_sub [0, 1, 3] rfl (J_32 v3 v2 ((1 : Int32) <<< (v3 &&& 31)) M hq)
  unfold q_X3_needBits at hq
  refine g_iconst C dX3_needBits_0 (v := 0) (by decide) ?_
  refine g_istore_n C (lv2 := [(2, _), (0, _), (1, _)]) dX3_needBits_1 rfl (by decide) rfl ?_
  refine g_iconst C dX3_needBits_2 (v := 0) (by decide) ?_
  refine g_istore_n C (lv2 := [(3, _), (2, _), (0, _), (1, _)]) dX3_needBits_3 rfl (by decide) rfl ?_
  exact g_sub [2, 3, 1, 0] rfl (L_4 FU (0 : Int32) (0 : Int32) M hq)
set_option maxHeartbeats 4000000 in
set_option maxRecDepth 100000 in
theorem k_J6_bitCount_0f7a4 {l : Launch} {dC : Nat → ClassId} {dI : Nat → Nat → Nat} {a : Nat → Nat} {cI cZ cS : ClassId} (x0 : Int32) (M : MM) : KQ l (dC, dI) vwCl (tyW cI cZ cS) yJ6_bitCount_0f7a4 cJ6_bitCount_0f7a4 1 (some .int) 0 0 [.int x0] (wC a cI cS M) (qI (dC, dI) vwCl (wC a cI cS M) (t_J6_bitCount_0f7a4 x0)) := by
  generalize hq : t_J6_bitCount_0f7a4 x0 = r
  refine KQ.of (by decide) (Nat.le_of_ble_eq_true rfl) rfl ?_
  intro p e s m args below meth c A0 C
  unfold t_J6_bitCount_0f7a4 at hq
  refine g_iload_n C dJ6_bitCount_0f7a4_0 0 rfl rfl ?_
  refine g_iload_n C dJ6_bitCount_0f7a4_1 0 rfl rfl ?_
  refine g_iconst C dJ6_bitCount_0f7a4_2 (v := 1) (by decide) ?_
  refine g_iushr C dJ6_bitCount_0f7a4_3 rfl ?_
  refine g_ldcw C wl_517 dJ6_bitCount_0f7a4_4 ?_
  refine g_iand C dJ6_bitCount_0f7a4_7 ?_
  refine g_isub C dJ6_bitCount_0f7a4_8 ?_
  refine g_istore_n C (lv2 := [(0, _)]) dJ6_bitCount_0f7a4_9 rfl (by decide) rfl ?_
  refine g_iload_n C dJ6_bitCount_0f7a4_10 0 rfl rfl ?_
  refine g_ldcw C wl_518 dJ6_bitCount_0f7a4_11 ?_
  refine g_iand C dJ6_bitCount_0f7a4_14 ?_
  refine g_iload_n C dJ6_bitCount_0f7a4_15 0 rfl rfl ?_
  refine g_iconst C dJ6_bitCount_0f7a4_16 (v := 2) (by decide) ?_
  refine g_iushr C dJ6_bitCount_0f7a4_17 rfl ?_
  refine g_ldcw C wl_518 dJ6_bitCount_0f7a4_18 ?_
  refine g_iand C dJ6_bitCount_0f7a4_21 ?_
  refine g_iadd C dJ6_bitCount_0f7a4_22 ?_
  refine g_istore_n C (lv2 := [(0, _)]) dJ6_bitCount_0f7a4_23 rfl (by decide) rfl ?_
  refine g_iload_n C dJ6_bitCount_0f7a4_24 0 rfl rfl ?_
  refine g_iload_n C dJ6_bitCount_0f7a4_25 0 rfl rfl ?_
  refine g_iconst C dJ6_bitCount_0f7a4_26 (v := 4) (by decide) ?_
  refine g_iushr C dJ6_bitCount_0f7a4_27 rfl ?_
  refine g_iadd C dJ6_bitCount_0f7a4_28 ?_
  refine g_ldcw C wl_519 dJ6_bitCount_0f7a4_29 ?_
  refine g_iand C dJ6_bitCount_0f7a4_32 ?_
  refine g_istore_n C (lv2 := [(0, _)]) dJ6_bitCount_0f7a4_33 rfl (by decide) rfl ?_
  refine g_iload_n C dJ6_bitCount_0f7a4_34 0 rfl rfl ?_
  refine g_iload_n C dJ6_bitCount_0f7a4_35 0 rfl rfl ?_
  refine g_bipush C dJ6_bitCount_0f7a4_36 (v := 8) (by decide) ?_
  refine g_iushr C dJ6_bitCount_0f7a4_38 rfl ?_
  refine g_iadd C dJ6_bitCount_0f7a4_39 ?_
  refine g_istore_n C (lv2 := [(0, _)]) dJ6_bitCount_0f7a4_40 rfl (by decide) rfl ?_
  refine g_iload_n C dJ6_bitCount_0f7a4_41 0 rfl rfl ?_
  refine g_iload_n C dJ6_bitCount_0f7a4_42 0 rfl rfl ?_
  refine g_bipush C dJ6_bitCount_0f7a4_43 (v := 16) (by decide) ?_
  refine g_iushr C dJ6_bitCount_0f7a4_45 rfl ?_
  refine g_iadd C dJ6_bitCount_0f7a4_46 ?_
  refine g_istore_n C (lv2 := [(0, _)]) dJ6_bitCount_0f7a4_47 rfl (by decide) rfl ?_
  refine g_iload_n C dJ6_bitCount_0f7a4_48 0 rfl rfl ?_
  refine g_bipush C dJ6_bitCount_0f7a4_49 (v := 63) (by decide) ?_
  refine g_iand C dJ6_bitCount_0f7a4_51 ?_
  exact g_iret C dJ6_bitCount_0f7a4_52 hq rfl
set_option maxHeartbeats 4000000 in
set_option maxRecDepth 100000 in
theorem k_X3_keptCount {l : Launch} {dC : Nat → ClassId} {dI : Nat → Nat → Nat} {a : Nat → Nat} {cI cZ cS : ClassId} (i : Nat) (hi : i < 18) (M M2 : MM) (r : Int32) (hq : q_X3_keptCount i M = some (r, M2)) : KQ l (dC, dI) vwCl (tyW cI cZ cS) yX3_keptCount cX3_keptCount 1 (some .int) 3 65 [.ref (a (16 + 5 * i))] (wC a cI cS M) (qI (dC, dI) vwCl (wC a cI cS M2) r) := by
  refine KQ.of (by decide) (Nat.le_of_ble_eq_true rfl) rfl ?_
  intro p e s m args below meth c A0 C
  unfold q_X3_keptCount at hq
  refine g_aload_n C dX3_keptCount_0 0 rfl rfl ?_
  refine g_iconst C dX3_keptCount_1 (v := 1) (by decide) ?_
  obtain ⟨z5, Mz5, h6, hq⟩ := obd_some hq
  refine gc_Vi C (k_X3_needBits i hi (1 : Int32) M Mz5 z5 h6) wl_513 ok_X3_needBits (rv_X3 i hi) rfl ⟨Nat.le_of_ble_eq_true rfl, Nat.le_of_ble_eq_true rfl⟩ ⟨Nat.le_of_ble_eq_true rfl, Nat.le_of_ble_eq_true rfl⟩ rfl (Nat.le_of_ble_eq_true rfl) dX3_keptCount_2 ?_
  refine gc_Si C (k_J6_bitCount_0f7a4 z5 Mz5) wl_514 ok_J6_bitCount_0f7a4 ⟨Nat.le_of_ble_eq_true rfl, Nat.le_of_ble_eq_true rfl⟩ ⟨Nat.le_of_ble_eq_true rfl, Nat.le_of_ble_eq_true rfl⟩ rfl (Nat.le_of_ble_eq_true rfl) dX3_keptCount_5 ?_
  exact g_iret C dX3_keptCount_8 (som2 hq).1 (congrArg (wC a cI cS) (som2 hq).2)
set_option maxHeartbeats 4000000 in
set_option maxRecDepth 100000 in
theorem k_X3_lastAtLeast {l : Launch} {dC : Nat → ClassId} {dI : Nat → Nat → Nat} {a : Nat → Nat} {cI cZ cS : ClassId} (i : Nat) (hi : i < 18) (x1 : Int32) (x2 : Int32) (M M2 : MM) (r : Unit) (hq : q_X3_lastAtLeast i x1 x2 M = some (r, M2)) : KQ l (dC, dI) vwCl (tyW cI cZ cS) yX3_lastAtLeast cX3_lastAtLeast 3 none 1 22 [.ref (a (16 + 5 * i)), .int x1, .int x2] (wC a cI cS M) (qV (dC, dI) vwCl (wC a cI cS M2)) := by
  refine KQ.of (by decide) (Nat.le_of_ble_eq_true rfl) rfl ?_
  intro p e s m args below meth c A0 C
  unfold q_X3_lastAtLeast at hq
  refine g_aload_n C dX3_lastAtLeast_0 0 rfl rfl ?_
  refine rg_X3_lasts C i hi dX3_lastAtLeast_1 ?_
  refine g_iload_n C dX3_lastAtLeast_4 1 rfl rfl ?_
  refine g_aload_n C dX3_lastAtLeast_5 0 rfl rfl ?_
  refine rg_X3_lasts C i hi dX3_lastAtLeast_6 ?_
  refine g_iload_n C dX3_lastAtLeast_9 1 rfl rfl ?_
  refine gc_Ni C (kn_X6_at (16 + 5 * i + 2) (9 + i) 6 6 (arr_la hi) x1 M) nl_323 ok_X6_at ⟨Nat.le_of_ble_eq_true rfl, Nat.le_of_ble_eq_true rfl⟩ ⟨Nat.le_of_ble_eq_true rfl, Nat.le_of_ble_eq_true rfl⟩ rfl (Nat.le_of_ble_eq_true rfl) dX3_lastAtLeast_10 ?_
  refine g_iload_n C dX3_lastAtLeast_13 2 rfl rfl ?_
  refine g_mmax C wl_418 wl_419 wl_43 wl_420 ⟨Nat.le_of_ble_eq_true rfl, Nat.le_of_ble_eq_true rfl, Nat.le_of_ble_eq_true rfl, Nat.le_of_ble_eq_true rfl⟩ dX3_lastAtLeast_14 ?_
  refine gc_Nv C (kn_X6_put (16 + 5 * i + 2) (9 + i) 6 6 (arr_la hi) x1 (if (t_at (9 + i) 6 6 x1 M) < x2 then x2 else (t_at (9 + i) 6 6 x1 M)) M) nl_421 ok_X6_put ⟨Nat.le_of_ble_eq_true rfl, Nat.le_of_ble_eq_true rfl⟩ ⟨Nat.le_of_ble_eq_true rfl, Nat.le_of_ble_eq_true rfl⟩ rfl (Nat.le_of_ble_eq_true rfl) dX3_lastAtLeast_17 ?_
  exact g_vret C dX3_lastAtLeast_20 (congrArg (wC a cI cS) (som2 hq).2)
set_option maxHeartbeats 4000000 in
set_option maxRecDepth 100000 in
theorem k_X3_raise {l : Launch} {dC : Nat → ClassId} {dI : Nat → Nat → Nat} {a : Nat → Nat} {cI cZ cS : ClassId} (i : Nat) (hi : i < 18) (x1 : Int32) (M M2 : MM) (r : Bool) (hq : q_X3_raise i x1 M = some (r, M2)) : KQ l (dC, dI) vwCl (tyW cI cZ cS) yX3_raise cX3_raise 2 (some .boolean) 2 44 [.ref (a (16 + 5 * i)), .int x1] (wC a cI cS M) (qI (dC, dI) vwCl (wC a cI cS M2) (b2i r)) := by
  refine KQ.of (by decide) (Nat.le_of_ble_eq_true rfl) rfl ?_
  intro p e s m args below meth c A0 C
  unfold q_X3_raise at hq
  refine g_aload_n C dX3_raise_0 0 rfl rfl ?_
  refine rg_X3_plan C i hi dX3_raise_1 ?_
  refine g_iload_n C dX3_raise_4 1 rfl rfl ?_
  refine gc_Vi C (k_X2_hasWalker x1 M) wl_411 ok_X2_hasWalker rv_X2 rfl ⟨Nat.le_of_ble_eq_true rfl, Nat.le_of_ble_eq_true rfl⟩ ⟨Nat.le_of_ble_eq_true rfl, Nat.le_of_ble_eq_true rfl⟩ rfl (Nat.le_of_ble_eq_true rfl) dX3_raise_5 ?_
  refine g_if_eq C (tgt := 19) dX3_raise_8 (by decide) (fun c11 => ?_) (fun c11 => ?_)
  · have hq := ip c11 hq
    refine g_iconst C dX3_raise_19 (v := 0) (by decide) ?_
    exact g_zret C dX3_raise_20 (Or.inl rfl) (congrArg b2i (som2 hq).1) (congrArg (wC a cI cS) (som2 hq).2)
  · have hq := iq c11 hq
    refine g_aload_n C dX3_raise_11 0 rfl rfl ?_
    refine g_iload_n C dX3_raise_12 1 rfl rfl ?_
    refine gc_Vi C (k_X3_isOpen i hi x1 M) wl_412 ok_X3_isOpen (rv_X3 i hi) rfl ⟨Nat.le_of_ble_eq_true rfl, Nat.le_of_ble_eq_true rfl⟩ ⟨Nat.le_of_ble_eq_true rfl, Nat.le_of_ble_eq_true rfl⟩ rfl (Nat.le_of_ble_eq_true rfl) dX3_raise_13 ?_
    refine g_if_eq C (tgt := 21) dX3_raise_16 (by decide) (fun c12 => ?_) (fun c12 => ?_)
    · have hq := ip c12 hq
      refine g_aload_n C dX3_raise_21 0 rfl rfl ?_
      refine g_dup C dX3_raise_22 rfl ?_
      refine rg_X3_opened C i hi dX3_raise_23 ?_
      refine g_iconst C dX3_raise_26 (v := 1) (by decide) ?_
      refine g_iload_n C dX3_raise_27 1 rfl rfl ?_
      refine g_ishl C dX3_raise_28 ?_
      refine g_ior C dX3_raise_29 ?_
      refine rp_X3_opened C i hi dX3_raise_30 ?_
      refine g_aload_n C dX3_raise_33 0 rfl rfl ?_
      refine rg_X3_plan C i hi dX3_raise_34 ?_
      refine g_iload_n C dX3_raise_37 1 rfl rfl ?_
      refine gc_Vi C (k_X2_stuffOf x1 (mU M (9 + i) 5 ((M.1 (9 + i) 5) ||| ((1 : Int32) <<< (x1 &&& 31))))) wl_306 ok_X2_stuffOf rv_X2 rfl ⟨Nat.le_of_ble_eq_true rfl, Nat.le_of_ble_eq_true rfl⟩ ⟨Nat.le_of_ble_eq_true rfl, Nat.le_of_ble_eq_true rfl⟩ rfl (Nat.le_of_ble_eq_true rfl) dX3_raise_38 ?_
      refine g_iconst C dX3_raise_41 (v := 2) (by decide) ?_
      refine g_icmp_ne C (tgt := 56) dX3_raise_42 (by decide) (fun c13 => ?_) (fun c13 => ?_)
      · have hq := iq c13 hq
        refine g_iconst C dX3_raise_56 (v := 1) (by decide) ?_
        exact g_zret C dX3_raise_57 (Or.inr rfl) (congrArg b2i (som2 hq).1) (congrArg (wC a cI cS) (som2 hq).2)
      · have hq := ip c13 hq
        refine g_aload_n C dX3_raise_45 0 rfl rfl ?_
        refine g_aload_n C dX3_raise_46 0 rfl rfl ?_
        refine g_iload_n C dX3_raise_47 1 rfl rfl ?_
        refine gc_Vi C (k_X3_placeOf i hi x1 (mU M (9 + i) 5 ((M.1 (9 + i) 5) ||| ((1 : Int32) <<< (x1 &&& 31))))) wl_413 ok_X3_placeOf (rv_X3 i hi) rfl ⟨Nat.le_of_ble_eq_true rfl, Nat.le_of_ble_eq_true rfl⟩ ⟨Nat.le_of_ble_eq_true rfl, Nat.le_of_ble_eq_true rfl⟩ rfl (Nat.le_of_ble_eq_true rfl) dX3_raise_48 ?_
        refine g_bipush C dX3_raise_51 (v := 7) (by decide) ?_
        obtain ⟨z14, Mz14, h15, hq⟩ := obd_some hq
        refine gc_Vv C (k_X3_lastAtLeast i hi (t_X3_placeOf i x1 (mU M (9 + i) 5 ((M.1 (9 + i) 5) ||| ((1 : Int32) <<< (x1 &&& 31))))) (7 : Int32) (mU M (9 + i) 5 ((M.1 (9 + i) 5) ||| ((1 : Int32) <<< (x1 &&& 31)))) Mz14 z14 h15) wl_414 ok_X3_lastAtLeast (rv_X3 i hi) rfl ⟨Nat.le_of_ble_eq_true rfl, Nat.le_of_ble_eq_true rfl⟩ ⟨Nat.le_of_ble_eq_true rfl, Nat.le_of_ble_eq_true rfl⟩ rfl (Nat.le_of_ble_eq_true rfl) dX3_raise_53 ?_
        refine g_iconst C dX3_raise_56 (v := 1) (by decide) ?_
        exact g_zret C dX3_raise_57 (Or.inr rfl) (congrArg b2i (som2 hq).1) (congrArg (wC a cI cS) (som2 hq).2)
    · have hq := iq c12 hq
      refine g_iconst C dX3_raise_19 (v := 0) (by decide) ?_
      exact g_zret C dX3_raise_20 (Or.inl rfl) (congrArg b2i (som2 hq).1) (congrArg (wC a cI cS) (som2 hq).2)
set_option maxHeartbeats 4000000 in
set_option maxRecDepth 100000 in
theorem k_X3_raiseAll {l : Launch} {dC : Nat → ClassId} {dI : Nat → Nat → Nat} {a : Nat → Nat} {cI cZ cS : ClassId} (i : Nat) (hi : i < 18) (x1 : Int32) (M M2 : MM) (r : Unit) (hq : q_X3_raiseAll i x1 M = some (r, M2)) : KQ l (dC, dI) vwCl (tyW cI cZ cS) yX3_raiseAll cX3_raiseAll 3 none 3 65 [.ref (a (16 + 5 * i)), .int x1] (wC a cI cS M) (qV (dC, dI) vwCl (wC a cI cS M2)) := by
  refine KQ.of (by decide) (Nat.le_of_ble_eq_true rfl) rfl ?_
  intro p e s m args below meth c A0 C
  have L_2 : ∀ (f : Nat) (v2 : Int32) (M : MM), q_X3_raiseAll_2 i x1  f v2 M = some (r, M2) → gG p l e ({ frames := 3, cells := 0, slots := 0, locals := 65 }) s m args below meth c 3 (dC, dI) vwCl A0 s.heap 0 0 (MQ below ((qV (dC, dI) vwCl (wC a cI cS M2)) A0) args s 0 0 A0) (wC a cI cS M) 2 [(0, .ref (a (16 + 5 * i))), (1, .int x1), (2, .int v2)] [] := by
    intro f
    induction f with
    | zero => intro v2 M hq; cases hq
    | succ f_2 ih_2 =>
      have J_21 : ∀ (v2 : Int32) (M : MM), q_X3_raiseAll_21 i x1 (q_X3_raiseAll_2 i x1  f_2) v2 M = some (r, M2) → gG p l e ({ frames := 3, cells := 0, slots := 0, locals := 65 }) s m args below meth c 3 (dC, dI) vwCl A0 s.heap 0 0 (MQ below ((qV (dC, dI) vwCl (wC a cI cS M2)) A0) args s 0 0 A0) (wC a cI cS M) 21 [(0, .ref (a (16 + 5 * i))), (1, .int x1), (2, .int v2)] [] := by
        intro v2 M hq
        unfold q_X3_raiseAll_21 at hq
        refine g_iinc C (v := (v2 + (1 : Int32))) (lv2 := [(2, _), (0, _), (1, _)]) dX3_raiseAll_21 2 rfl rfl (by decide) rfl ?_
        refine g_goto C (tgt := 2) dX3_raiseAll_24 (by decide) ?_
        exact g_sub [1, 2, 0] rfl (ih_2 (v2 + (1 : Int32)) M hq)
      intro v2 M hq
      rw [q_X3_raiseAll_2] at hq
      refine g_iload_n C dX3_raiseAll_2 2 rfl rfl ?_
      refine g_iconst C dX3_raiseAll_3 (v := 5) (by decide) ?_
      refine g_icmp_ge C (tgt := 27) dX3_raiseAll_4 (by decide) (fun c9 => ?_) (fun c9 => ?_)
      · have hq := ip c9 hq
        exact g_vret C dX3_raiseAll_27 (congrArg (wC a cI cS) (som2 hq).2)
      · have hq := iq c9 hq
        refine g_iload_n C dX3_raiseAll_7 1 rfl rfl ?_
        refine g_iload_n C dX3_raiseAll_8 2 rfl rfl ?_
        refine gc_Ni C (k_X6_has x1 v2 M) nl_303 ok_X6_has ⟨Nat.le_of_ble_eq_true rfl, Nat.le_of_ble_eq_true rfl⟩ ⟨Nat.le_of_ble_eq_true rfl, Nat.le_of_ble_eq_true rfl⟩ rfl (Nat.le_of_ble_eq_true rfl) dX3_raiseAll_9 ?_
        refine g_if_eq C (tgt := 21) dX3_raiseAll_12 (by decide) (fun c10 => ?_) (fun c10 => ?_)
        · have hq := ip c10 hq
          exact g_sub [0, 1, 2] rfl (J_21 v2 M hq)
        · have hq := iq c10 hq
          refine g_aload_n C dX3_raiseAll_15 0 rfl rfl ?_
          refine g_iload_n C dX3_raiseAll_16 2 rfl rfl ?_
          obtain ⟨z11, Mz11, h12, hq⟩ := obd_some hq
          refine gc_Vi C (k_X3_raise i hi v2 M Mz11 z11 h12) wl_508 ok_X3_raise (rv_X3 i hi) rfl ⟨Nat.le_of_ble_eq_true rfl, Nat.le_of_ble_eq_true rfl⟩ ⟨Nat.le_of_ble_eq_true rfl, Nat.le_of_ble_eq_true rfl⟩ rfl (Nat.le_of_ble_eq_true rfl) dX3_raiseAll_17 ?_
          refine g_pop C dX3_raiseAll_20 rfl ?_
          exact g_sub [0, 1, 2] rfl (J_21 v2 Mz11 hq)
  unfold q_X3_raiseAll at hq
  refine g_iconst C dX3_raiseAll_0 (v := 0) (by decide) ?_
  refine g_istore_n C (lv2 := [(2, _), (0, _), (1, _)]) dX3_raiseAll_1 rfl (by decide) rfl ?_
  exact g_sub [1, 2, 0] rfl (L_2 FU (0 : Int32) M hq)
set_option maxHeartbeats 4000000 in
set_option maxRecDepth 100000 in
theorem k_X3_lower {l : Launch} {dC : Nat → ClassId} {dI : Nat → Nat → Nat} {a : Nat → Nat} {cI cZ cS : ClassId} (i : Nat) (hi : i < 18) (x1 : Int32) (M M2 : MM) (r : Bool) (hq : q_X3_lower i x1 M = some (r, M2)) : KQ l (dC, dI) vwCl (tyW cI cZ cS) yX3_lower cX3_lower 2 (some .boolean) 2 44 [.ref (a (16 + 5 * i)), .int x1] (wC a cI cS M) (qI (dC, dI) vwCl (wC a cI cS M2) (b2i r)) := by
  refine KQ.of (by decide) (Nat.le_of_ble_eq_true rfl) rfl ?_
  intro p e s m args below meth c A0 C
  unfold q_X3_lower at hq
  refine g_aload_n C dX3_lower_0 0 rfl rfl ?_
  refine rg_X3_plan C i hi dX3_lower_1 ?_
  refine g_iload_n C dX3_lower_4 1 rfl rfl ?_
  refine gc_Vi C (k_X2_hasWalker x1 M) wl_411 ok_X2_hasWalker rv_X2 rfl ⟨Nat.le_of_ble_eq_true rfl, Nat.le_of_ble_eq_true rfl⟩ ⟨Nat.le_of_ble_eq_true rfl, Nat.le_of_ble_eq_true rfl⟩ rfl (Nat.le_of_ble_eq_true rfl) dX3_lower_5 ?_
  refine g_if_eq C (tgt := 19) dX3_lower_8 (by decide) (fun c11 => ?_) (fun c11 => ?_)
  · have hq := ip c11 hq
    refine g_iconst C dX3_lower_19 (v := 0) (by decide) ?_
    exact g_zret C dX3_lower_20 (Or.inl rfl) (congrArg b2i (som2 hq).1) (congrArg (wC a cI cS) (som2 hq).2)
  · have hq := iq c11 hq
    refine g_aload_n C dX3_lower_11 0 rfl rfl ?_
    refine g_iload_n C dX3_lower_12 1 rfl rfl ?_
    refine gc_Vi C (k_X3_isOpen i hi x1 M) wl_412 ok_X3_isOpen (rv_X3 i hi) rfl ⟨Nat.le_of_ble_eq_true rfl, Nat.le_of_ble_eq_true rfl⟩ ⟨Nat.le_of_ble_eq_true rfl, Nat.le_of_ble_eq_true rfl⟩ rfl (Nat.le_of_ble_eq_true rfl) dX3_lower_13 ?_
    refine g_if_ne C (tgt := 21) dX3_lower_16 (by decide) (fun c12 => ?_) (fun c12 => ?_)
    · have hq := iq c12 hq
      refine g_aload_n C dX3_lower_21 0 rfl rfl ?_
      refine g_dup C dX3_lower_22 rfl ?_
      refine rg_X3_opened C i hi dX3_lower_23 ?_
      refine g_iconst C dX3_lower_26 (v := 1) (by decide) ?_
      refine g_iload_n C dX3_lower_27 1 rfl rfl ?_
      refine g_ishl C dX3_lower_28 ?_
      refine g_iconst C dX3_lower_29 (v := -1) (by decide) ?_
      refine g_ixor C dX3_lower_30 ?_
      refine g_iand C dX3_lower_31 ?_
      refine rp_X3_opened C i hi dX3_lower_32 ?_
      refine g_aload_n C dX3_lower_35 0 rfl rfl ?_
      refine rg_X3_plan C i hi dX3_lower_36 ?_
      refine g_iload_n C dX3_lower_39 1 rfl rfl ?_
      refine gc_Vi C (k_X2_stuffOf x1 (mU M (9 + i) 5 ((M.1 (9 + i) 5) &&& (((1 : Int32) <<< (x1 &&& 31)) ^^^ (-1 : Int32))))) wl_306 ok_X2_stuffOf rv_X2 rfl ⟨Nat.le_of_ble_eq_true rfl, Nat.le_of_ble_eq_true rfl⟩ ⟨Nat.le_of_ble_eq_true rfl, Nat.le_of_ble_eq_true rfl⟩ rfl (Nat.le_of_ble_eq_true rfl) dX3_lower_40 ?_
      refine g_iconst C dX3_lower_43 (v := 1) (by decide) ?_
      refine g_icmp_ne C (tgt := 57) dX3_lower_44 (by decide) (fun c13 => ?_) (fun c13 => ?_)
      · have hq := iq c13 hq
        refine g_iconst C dX3_lower_57 (v := 1) (by decide) ?_
        exact g_zret C dX3_lower_58 (Or.inr rfl) (congrArg b2i (som2 hq).1) (congrArg (wC a cI cS) (som2 hq).2)
      · have hq := ip c13 hq
        refine g_aload_n C dX3_lower_47 0 rfl rfl ?_
        refine g_aload_n C dX3_lower_48 0 rfl rfl ?_
        refine g_iload_n C dX3_lower_49 1 rfl rfl ?_
        refine gc_Vi C (k_X3_placeOf i hi x1 (mU M (9 + i) 5 ((M.1 (9 + i) 5) &&& (((1 : Int32) <<< (x1 &&& 31)) ^^^ (-1 : Int32))))) wl_413 ok_X3_placeOf (rv_X3 i hi) rfl ⟨Nat.le_of_ble_eq_true rfl, Nat.le_of_ble_eq_true rfl⟩ ⟨Nat.le_of_ble_eq_true rfl, Nat.le_of_ble_eq_true rfl⟩ rfl (Nat.le_of_ble_eq_true rfl) dX3_lower_50 ?_
        refine g_iconst C dX3_lower_53 (v := 1) (by decide) ?_
        obtain ⟨z14, Mz14, h15, hq⟩ := obd_some hq
        refine gc_Vv C (k_X3_lastAtLeast i hi (t_X3_placeOf i x1 (mU M (9 + i) 5 ((M.1 (9 + i) 5) &&& (((1 : Int32) <<< (x1 &&& 31)) ^^^ (-1 : Int32))))) (1 : Int32) (mU M (9 + i) 5 ((M.1 (9 + i) 5) &&& (((1 : Int32) <<< (x1 &&& 31)) ^^^ (-1 : Int32)))) Mz14 z14 h15) wl_414 ok_X3_lastAtLeast (rv_X3 i hi) rfl ⟨Nat.le_of_ble_eq_true rfl, Nat.le_of_ble_eq_true rfl⟩ ⟨Nat.le_of_ble_eq_true rfl, Nat.le_of_ble_eq_true rfl⟩ rfl (Nat.le_of_ble_eq_true rfl) dX3_lower_54 ?_
        refine g_iconst C dX3_lower_57 (v := 1) (by decide) ?_
        exact g_zret C dX3_lower_58 (Or.inr rfl) (congrArg b2i (som2 hq).1) (congrArg (wC a cI cS) (som2 hq).2)
    · have hq := ip c12 hq
      refine g_iconst C dX3_lower_19 (v := 0) (by decide) ?_
      exact g_zret C dX3_lower_20 (Or.inl rfl) (congrArg b2i (som2 hq).1) (congrArg (wC a cI cS) (som2 hq).2)
set_option maxHeartbeats 4000000 in
set_option maxRecDepth 100000 in
theorem k_X3_forget {l : Launch} {dC : Nat → ClassId} {dI : Nat → Nat → Nat} {a : Nat → Nat} {cI cZ cS : ClassId} (i : Nat) (hi : i < 18) (x1 : Int32) (M M2 : MM) (r : Unit) (hq : q_X3_forget i x1 M = some (r, M2)) : KQ l (dC, dI) vwCl (tyW cI cZ cS) yX3_forget cX3_forget 2 none 0 0 [.ref (a (16 + 5 * i)), .int x1] (wC a cI cS M) (qV (dC, dI) vwCl (wC a cI cS M2)) := by
  refine KQ.of (by decide) (Nat.le_of_ble_eq_true rfl) rfl ?_
  intro p e s m args below meth c A0 C
  unfold q_X3_forget at hq
  refine g_aload_n C dX3_forget_0 0 rfl rfl ?_
  refine g_dup C dX3_forget_1 rfl ?_
  refine rg_X3_opened C i hi dX3_forget_2 ?_
  refine g_iload_n C dX3_forget_5 1 rfl rfl ?_
  refine g_iconst C dX3_forget_6 (v := -1) (by decide) ?_
  refine g_ixor C dX3_forget_7 ?_
  refine g_iand C dX3_forget_8 ?_
  refine rp_X3_opened C i hi dX3_forget_9 ?_
  exact g_vret C dX3_forget_12 (congrArg (wC a cI cS) (som2 hq).2)
set_option maxHeartbeats 4000000 in
set_option maxRecDepth 100000 in
theorem k_X3_place {l : Launch} {dC : Nat → ClassId} {dI : Nat → Nat → Nat} {a : Nat → Nat} {cI cZ cS : ClassId} (i : Nat) (hi : i < 18) (x1 : Int32) (x2 : Int32) (M M2 : MM) (r : Unit) (hq : q_X3_place i x1 x2 M = some (r, M2)) : KQ l (dC, dI) vwCl (tyW cI cZ cS) yX3_place cX3_place 3 none 1 22 [.ref (a (16 + 5 * i)), .int x1, .int x2] (wC a cI cS M) (qV (dC, dI) vwCl (wC a cI cS M2)) := by
  refine KQ.of (by decide) (Nat.le_of_ble_eq_true rfl) rfl ?_
  intro p e s m args below meth c A0 C
  unfold q_X3_place at hq
  refine g_aload_n C dX3_place_0 0 rfl rfl ?_
  refine rg_X3_places C i hi dX3_place_1 ?_
  refine g_iload_n C dX3_place_4 1 rfl rfl ?_
  refine g_iload_n C dX3_place_5 2 rfl rfl ?_
  refine gc_Nv C (kn_X6_put (16 + 5 * i + 1) (9 + i) 0 5 (arr_pl hi) x1 x2 M) nl_421 ok_X6_put ⟨Nat.le_of_ble_eq_true rfl, Nat.le_of_ble_eq_true rfl⟩ ⟨Nat.le_of_ble_eq_true rfl, Nat.le_of_ble_eq_true rfl⟩ rfl (Nat.le_of_ble_eq_true rfl) dX3_place_6 ?_
  exact g_vret C dX3_place_9 (congrArg (wC a cI cS) (som2 hq).2)
set_option maxHeartbeats 4000000 in
set_option maxRecDepth 100000 in
theorem k_X6_isStreet {l : Launch} {dC : Nat → ClassId} {dI : Nat → Nat → Nat} {a : Nat → Nat} {cI cZ cS : ClassId} (x0 : Int32) (M : MM) : KQ l (dC, dI) vwCl (tyW cI cZ cS) yX6_isStreet cX6_isStreet 1 (some .boolean) 0 0 [.int x0] (wC a cI cS M) (qI (dC, dI) vwCl (wC a cI cS M) (b2i (t_X6_isStreet x0))) := by
  generalize hq : t_X6_isStreet x0 = r
  refine KQ.of (by decide) (Nat.le_of_ble_eq_true rfl) rfl ?_
  intro p e s m args below meth c A0 C
  unfold t_X6_isStreet at hq
  refine g_iload_n C dX6_isStreet_0 0 rfl rfl ?_
  refine g_if_lt C (tgt := 14) dX6_isStreet_1 (by decide) (fun c5 => ?_) (fun c5 => ?_)
  · have hq := ip c5 hq
    refine g_iconst C dX6_isStreet_14 (v := 0) (by decide) ?_
    exact g_zret C dX6_isStreet_15 (Or.inl rfl) (congrArg b2i hq) rfl
  · have hq := iq c5 hq
    refine g_iload_n C dX6_isStreet_4 0 rfl rfl ?_
    refine g_bipush C dX6_isStreet_5 (v := 6) (by decide) ?_
    refine g_icmp_ge C (tgt := 14) dX6_isStreet_7 (by decide) (fun c6 => ?_) (fun c6 => ?_)
    · have hq := ip c6 hq
      refine g_iconst C dX6_isStreet_14 (v := 0) (by decide) ?_
      exact g_zret C dX6_isStreet_15 (Or.inl rfl) (congrArg b2i hq) rfl
    · have hq := iq c6 hq
      refine g_iconst C dX6_isStreet_10 (v := 1) (by decide) ?_
      refine g_goto C (tgt := 15) dX6_isStreet_11 (by decide) ?_
      exact g_zret C dX6_isStreet_15 (Or.inr rfl) (congrArg b2i hq) rfl
set_option maxHeartbeats 4000000 in
set_option maxRecDepth 100000 in
theorem k_X3_canMove {l : Launch} {dC : Nat → ClassId} {dI : Nat → Nat → Nat} {a : Nat → Nat} {cI cZ cS : ClassId} (i : Nat) (hi : i < 18) (x1 : Int32) (x2 : Int32) (M : MM) : KQ l (dC, dI) vwCl (tyW cI cZ cS) yX3_canMove cX3_canMove 3 (some .boolean) 2 42 [.ref (a (16 + 5 * i)), .int x1, .int x2] (wC a cI cS M) (qI (dC, dI) vwCl (wC a cI cS M) (b2i (t_X3_canMove i x1 x2 M))) := by
  generalize hq : t_X3_canMove i x1 x2 M = r
  refine KQ.of (by decide) (Nat.le_of_ble_eq_true rfl) rfl ?_
  intro p e s m args below meth c A0 C
  have J_33 : ∀ (s0 : Int32) (s1 : Int32) (M : MM), t_X3_canMove_33 i x1 x2  s0 s1 M = r → gG p l e ({ frames := 2, cells := 0, slots := 0, locals := 42 }) s m args below meth c 3 (dC, dI) vwCl A0 s.heap 0 0 (MQ below ((qI (dC, dI) vwCl (wC a cI cS M) (b2i r)) A0) args s 0 0 A0) (wC a cI cS M) 33 [] [.int s1, .int s0] := by
    intro s0 s1 M hq
    unfold t_X3_canMove_33 at hq
    refine g_iadd C dX3_canMove_33 ?_
    refine gc_Ni C (k_X6_isStreet (s0 + s1) M) nl_438 ok_X6_isStreet ⟨Nat.le_of_ble_eq_true rfl, Nat.le_of_ble_eq_true rfl⟩ ⟨Nat.le_of_ble_eq_true rfl, Nat.le_of_ble_eq_true rfl⟩ rfl (Nat.le_of_ble_eq_true rfl) dX3_canMove_34 ?_
    refine g_if_eq C (tgt := 44) dX3_canMove_37 (by decide) (fun c6 => ?_) (fun c6 => ?_)
    · have hq := ip c6 hq
      refine g_iconst C dX3_canMove_44 (v := 0) (by decide) ?_
      exact g_zret C dX3_canMove_45 (Or.inl rfl) (congrArg b2i hq) rfl
    · have hq := iq c6 hq
      refine g_iconst C dX3_canMove_40 (v := 1) (by decide) ?_
      refine g_goto C (tgt := 45) dX3_canMove_41 (by decide) ?_
      exact g_zret C dX3_canMove_45 (Or.inr rfl) (congrArg b2i hq) rfl
  unfold t_X3_canMove at hq
  refine g_aload_n C dX3_canMove_0 0 rfl rfl ?_
  refine rg_X3_plan C i hi dX3_canMove_1 ?_
  refine g_iload_n C dX3_canMove_4 1 rfl rfl ?_
  refine gc_Vi C (k_X2_hasWalker x1 M) wl_411 ok_X2_hasWalker rv_X2 rfl ⟨Nat.le_of_ble_eq_true rfl, Nat.le_of_ble_eq_true rfl⟩ ⟨Nat.le_of_ble_eq_true rfl, Nat.le_of_ble_eq_true rfl⟩ rfl (Nat.le_of_ble_eq_true rfl) dX3_canMove_5 ?_
  refine g_if_eq C (tgt := 44) dX3_canMove_8 (by decide) (fun c10 => ?_) (fun c10 => ?_)
  · have hq := ip c10 hq
    refine g_iconst C dX3_canMove_44 (v := 0) (by decide) ?_
    exact g_zret C dX3_canMove_45 (Or.inl rfl) (congrArg b2i hq) rfl
  · have hq := iq c10 hq
    refine g_aload_n C dX3_canMove_11 0 rfl rfl ?_
    refine g_iload_n C dX3_canMove_12 1 rfl rfl ?_
    refine gc_Vi C (k_X3_isOpen i hi x1 M) wl_412 ok_X3_isOpen (rv_X3 i hi) rfl ⟨Nat.le_of_ble_eq_true rfl, Nat.le_of_ble_eq_true rfl⟩ ⟨Nat.le_of_ble_eq_true rfl, Nat.le_of_ble_eq_true rfl⟩ rfl (Nat.le_of_ble_eq_true rfl) dX3_canMove_13 ?_
    refine g_if_ne C (tgt := 44) dX3_canMove_16 (by decide) (fun c11 => ?_) (fun c11 => ?_)
    · have hq := iq c11 hq
      refine g_iconst C dX3_canMove_44 (v := 0) (by decide) ?_
      exact g_zret C dX3_canMove_45 (Or.inl rfl) (congrArg b2i hq) rfl
    · have hq := ip c11 hq
      refine g_aload_n C dX3_canMove_19 0 rfl rfl ?_
      refine g_iload_n C dX3_canMove_20 1 rfl rfl ?_
      refine gc_Vi C (k_X3_placeOf i hi x1 M) wl_413 ok_X3_placeOf (rv_X3 i hi) rfl ⟨Nat.le_of_ble_eq_true rfl, Nat.le_of_ble_eq_true rfl⟩ ⟨Nat.le_of_ble_eq_true rfl, Nat.le_of_ble_eq_true rfl⟩ rfl (Nat.le_of_ble_eq_true rfl) dX3_canMove_21 ?_
      refine g_iload_n C dX3_canMove_24 2 rfl rfl ?_
      refine g_if_eq C (tgt := 32) dX3_canMove_25 (by decide) (fun c12 => ?_) (fun c12 => ?_)
      · have hq := ip c12 hq
        refine g_iconst C dX3_canMove_32 (v := -1) (by decide) ?_
        exact g_sub [] rfl (J_33 (t_X3_placeOf i x1 M) (-1 : Int32) M hq)
      · have hq := iq c12 hq
        refine g_iconst C dX3_canMove_28 (v := 1) (by decide) ?_
        refine g_goto C (tgt := 33) dX3_canMove_29 (by decide) ?_
        exact g_sub [] rfl (J_33 (t_X3_placeOf i x1 M) (1 : Int32) M hq)
set_option maxHeartbeats 4000000 in
set_option maxRecDepth 100000 in
theorem k_X3_move {l : Launch} {dC : Nat → ClassId} {dI : Nat → Nat → Nat} {a : Nat → Nat} {cI cZ cS : ClassId} (i : Nat) (hi : i < 18) (x1 : Int32) (x2 : Int32) (M M2 : MM) (r : Bool) (hq : q_X3_move i x1 x2 M = some (r, M2)) : KQ l (dC, dI) vwCl (tyW cI cZ cS) yX3_move cX3_move 3 (some .boolean) 3 64 [.ref (a (16 + 5 * i)), .int x1, .int x2] (wC a cI cS M) (qI (dC, dI) vwCl (wC a cI cS M2) (b2i r)) := by
  refine KQ.of (by decide) (Nat.le_of_ble_eq_true rfl) rfl ?_
  intro p e s m args below meth c A0 C
  have J_27 : ∀ (s1 : Int32) (s2 : Int32) (s3 : Int32) (M : MM), q_X3_move_27 i x1 x2  s1 s2 s3 M = some (r, M2) → gG p l e ({ frames := 3, cells := 0, slots := 0, locals := 64 }) s m args below meth c 3 (dC, dI) vwCl A0 s.heap 0 0 (MQ below ((qI (dC, dI) vwCl (wC a cI cS M2) (b2i r)) A0) args s 0 0 A0) (wC a cI cS M) 27 [] [.int s3, .int s2, .int s1, .ref (a (16 + 5 * i))] := by
    intro s1 s2 s3 M hq
    unfold q_X3_move_27 at hq
    refine g_iadd C dX3_move_27 ?_
    obtain ⟨z7, Mz7, h8, hq⟩ := obd_some hq
    refine gc_Vv C (k_X3_place i hi s1 (s2 + s3) M Mz7 z7 h8) wl_444 ok_X3_place (rv_X3 i hi) rfl ⟨Nat.le_of_ble_eq_true rfl, Nat.le_of_ble_eq_true rfl⟩ ⟨Nat.le_of_ble_eq_true rfl, Nat.le_of_ble_eq_true rfl⟩ rfl (Nat.le_of_ble_eq_true rfl) dX3_move_28 ?_
    refine g_iconst C dX3_move_31 (v := 1) (by decide) ?_
    exact g_zret C dX3_move_32 (Or.inr rfl) (congrArg b2i (som2 hq).1) (congrArg (wC a cI cS) (som2 hq).2)
  unfold q_X3_move at hq
  refine g_aload_n C dX3_move_0 0 rfl rfl ?_
  refine g_iload_n C dX3_move_1 1 rfl rfl ?_
  refine g_iload_n C dX3_move_2 2 rfl rfl ?_
  refine gc_Vi C (k_X3_canMove i hi x1 x2 M) wl_443 ok_X3_canMove (rv_X3 i hi) rfl ⟨Nat.le_of_ble_eq_true rfl, Nat.le_of_ble_eq_true rfl⟩ ⟨Nat.le_of_ble_eq_true rfl, Nat.le_of_ble_eq_true rfl⟩ rfl (Nat.le_of_ble_eq_true rfl) dX3_move_3 ?_
  refine g_if_ne C (tgt := 11) dX3_move_6 (by decide) (fun c11 => ?_) (fun c11 => ?_)
  · have hq := iq c11 hq
    refine g_aload_n C dX3_move_11 0 rfl rfl ?_
    refine g_iload_n C dX3_move_12 1 rfl rfl ?_
    refine g_aload_n C dX3_move_13 0 rfl rfl ?_
    refine g_iload_n C dX3_move_14 1 rfl rfl ?_
    refine gc_Vi C (k_X3_placeOf i hi x1 M) wl_413 ok_X3_placeOf (rv_X3 i hi) rfl ⟨Nat.le_of_ble_eq_true rfl, Nat.le_of_ble_eq_true rfl⟩ ⟨Nat.le_of_ble_eq_true rfl, Nat.le_of_ble_eq_true rfl⟩ rfl (Nat.le_of_ble_eq_true rfl) dX3_move_15 ?_
    refine g_iload_n C dX3_move_18 2 rfl rfl ?_
    refine g_if_eq C (tgt := 26) dX3_move_19 (by decide) (fun c12 => ?_) (fun c12 => ?_)
    · have hq := ip c12 hq
      refine g_iconst C dX3_move_26 (v := -1) (by decide) ?_
      exact g_sub [] rfl (J_27 x1 (t_X3_placeOf i x1 M) (-1 : Int32) M hq)
    · have hq := iq c12 hq
      refine g_iconst C dX3_move_22 (v := 1) (by decide) ?_
      refine g_goto C (tgt := 27) dX3_move_23 (by decide) ?_
      exact g_sub [] rfl (J_27 x1 (t_X3_placeOf i x1 M) (1 : Int32) M hq)
  · have hq := ip c11 hq
    refine g_iconst C dX3_move_9 (v := 0) (by decide) ?_
    exact g_zret C dX3_move_10 (Or.inl rfl) (congrArg b2i (som2 hq).1) (congrArg (wC a cI cS) (som2 hq).2)
set_option maxHeartbeats 4000000 in
set_option maxRecDepth 100000 in
theorem k_X3_fateInHour {l : Launch} {dC : Nat → ClassId} {dI : Nat → Nat → Nat} {a : Nat → Nat} {cI cZ cS : ClassId} (i : Nat) (hi : i < 18) (x1 : Int32) (x2 : Int32) (M : MM) : KQ l (dC, dI) vwCl (tyW cI cZ cS) yX3_fateInHour cX3_fateInHour 5 (some .int) 2 42 [.ref (a (16 + 5 * i)), .int x1, .int x2] (wC a cI cS M) (qI (dC, dI) vwCl (wC a cI cS M) (t_X3_fateInHour i x1 x2 M)) := by
  generalize hq : t_X3_fateInHour i x1 x2 M = r
  refine KQ.of (by decide) (Nat.le_of_ble_eq_true rfl) rfl ?_
  intro p e s m args below meth c A0 C
  have J_80 : ∀ (v4 : Int32) (M : MM), t_X3_fateInHour_80 i x1 x2  v4 M = r → gG p l e ({ frames := 2, cells := 0, slots := 0, locals := 42 }) s m args below meth c 5 (dC, dI) vwCl A0 s.heap 0 0 (MQ below ((qI (dC, dI) vwCl (wC a cI cS M) r) A0) args s 0 0 A0) (wC a cI cS M) 80 [(4, .int v4)] [] := by
    intro v4 M hq
    unfold t_X3_fateInHour_80 at hq
    refine g_iload C dX3_fateInHour_80 0 rfl ?_
    refine g_if_eq C (tgt := 89) dX3_fateInHour_82 (by decide) (fun c9 => ?_) (fun c9 => ?_)
    · have hq := ip c9 hq
      refine g_iconst C dX3_fateInHour_89 (v := 0) (by decide) ?_
      exact g_iret C dX3_fateInHour_90 hq rfl
    · have hq := iq c9 hq
      refine g_iconst C dX3_fateInHour_85 (v := 1) (by decide) ?_
      refine g_goto C (tgt := 90) dX3_fateInHour_86 (by decide) ?_
      exact g_iret C dX3_fateInHour_90 hq rfl
  have J_56 : ∀ (s0 : Int32) (M : MM), t_X3_fateInHour_56 i x1 x2  s0 M = r → gG p l e ({ frames := 2, cells := 0, slots := 0, locals := 42 }) s m args below meth c 5 (dC, dI) vwCl A0 s.heap 0 0 (MQ below ((qI (dC, dI) vwCl (wC a cI cS M) r) A0) args s 0 0 A0) (wC a cI cS M) 56 [(0, .ref (a (16 + 5 * i))), (1, .int x1), (2, .int x2)] [.int s0] := by
    intro s0 M hq
    unfold t_X3_fateInHour_56 at hq
    refine g_istore C (lv2 := [(4, _), (0, _), (1, _), (2, _)]) dX3_fateInHour_56 (by decide) rfl ?_
    refine g_iload_n C dX3_fateInHour_58 3 rfl rfl ?_
    refine g_if_eq C (tgt := 80) dX3_fateInHour_59 (by decide) (fun c13 => ?_) (fun c13 => ?_)
    · have hq := ip c13 hq
      exact g_sub [0] rfl (J_80 s0 M hq)
    · have hq := iq c13 hq
      refine g_iload C dX3_fateInHour_62 0 rfl ?_
      refine g_if_ne C (tgt := 78) dX3_fateInHour_64 (by decide) (fun c14 => ?_) (fun c14 => ?_)
      · have hq := iq c14 hq
        refine g_iconst C dX3_fateInHour_78 (v := 2) (by decide) ?_
        exact g_iret C dX3_fateInHour_79 hq rfl
      · have hq := ip c14 hq
        refine g_aload_n C dX3_fateInHour_67 1 rfl rfl ?_
        refine rg_X3_plan C i hi dX3_fateInHour_68 ?_
        refine g_iload_n C dX3_fateInHour_71 2 rfl rfl ?_
        refine gc_Vi C (k_X2_sortOfNeed x1 M) wl_464 ok_X2_sortOfNeed rv_X2 rfl ⟨Nat.le_of_ble_eq_true rfl, Nat.le_of_ble_eq_true rfl⟩ ⟨Nat.le_of_ble_eq_true rfl, Nat.le_of_ble_eq_true rfl⟩ rfl (Nat.le_of_ble_eq_true rfl) dX3_fateInHour_72 ?_
        refine g_if_ne C (tgt := 80) dX3_fateInHour_75 (by decide) (fun c15 => ?_) (fun c15 => ?_)
        · have hq := iq c15 hq
          exact g_sub [0] rfl (J_80 s0 M hq)
        · have hq := ip c15 hq
          refine g_iconst C dX3_fateInHour_78 (v := 2) (by decide) ?_
          exact g_iret C dX3_fateInHour_79 hq rfl
  unfold t_X3_fateInHour at hq
  refine g_aload_n C dX3_fateInHour_0 0 rfl rfl ?_
  refine rg_X3_plan C i hi dX3_fateInHour_1 ?_
  refine g_iload_n C dX3_fateInHour_4 1 rfl rfl ?_
  refine gc_Vi C (k_X2_figureOfNeed x1 M) wl_463 ok_X2_figureOfNeed rv_X2 rfl ⟨Nat.le_of_ble_eq_true rfl, Nat.le_of_ble_eq_true rfl⟩ ⟨Nat.le_of_ble_eq_true rfl, Nat.le_of_ble_eq_true rfl⟩ rfl (Nat.le_of_ble_eq_true rfl) dX3_fateInHour_5 ?_
  refine g_istore_n C (lv2 := [(3, _), (0, _), (1, _), (2, _)]) dX3_fateInHour_8 rfl (by decide) rfl ?_
  refine g_aload_n C dX3_fateInHour_9 1 rfl rfl ?_
  refine rg_X3_plan C i hi dX3_fateInHour_10 ?_
  refine g_iload_n C dX3_fateInHour_13 2 rfl rfl ?_
  refine gc_Vi C (k_X2_sortOfNeed x1 M) wl_464 ok_X2_sortOfNeed rv_X2 rfl ⟨Nat.le_of_ble_eq_true rfl, Nat.le_of_ble_eq_true rfl⟩ ⟨Nat.le_of_ble_eq_true rfl, Nat.le_of_ble_eq_true rfl⟩ rfl (Nat.le_of_ble_eq_true rfl) dX3_fateInHour_14 ?_
  refine g_iconst C dX3_fateInHour_17 (v := 1) (by decide) ?_
  refine g_icmp_ne C (tgt := 43) dX3_fateInHour_18 (by decide) (fun c19 => ?_) (fun c19 => ?_)
  · have hq := iq c19 hq
    refine g_aload_n C dX3_fateInHour_43 1 rfl rfl ?_
    refine rg_X3_time C i hi dX3_fateInHour_44 ?_
    refine g_iload_n C dX3_fateInHour_47 0 rfl rfl ?_
    refine g_icmp_ne C (tgt := 55) dX3_fateInHour_48 (by decide) (fun c20 => ?_) (fun c20 => ?_)
    · have hq := iq c20 hq
      refine g_iconst C dX3_fateInHour_55 (v := 0) (by decide) ?_
      exact g_sub [1, 2, 3] rfl (J_56 (0 : Int32) M hq)
    · have hq := ip c20 hq
      refine g_iconst C dX3_fateInHour_51 (v := 1) (by decide) ?_
      refine g_goto C (tgt := 56) dX3_fateInHour_52 (by decide) ?_
      exact g_sub [1, 2, 3] rfl (J_56 (1 : Int32) M hq)
  · have hq := ip c19 hq
    refine g_aload_n C dX3_fateInHour_21 1 rfl rfl ?_
    refine g_aload_n C dX3_fateInHour_22 1 rfl rfl ?_
    refine rg_X3_plan C i hi dX3_fateInHour_23 ?_
    refine g_iload_n C dX3_fateInHour_26 2 rfl rfl ?_
    refine gc_Vi C (k_X2_streetOfNeed x1 M) wl_458 ok_X2_streetOfNeed rv_X2 rfl ⟨Nat.le_of_ble_eq_true rfl, Nat.le_of_ble_eq_true rfl⟩ ⟨Nat.le_of_ble_eq_true rfl, Nat.le_of_ble_eq_true rfl⟩ rfl (Nat.le_of_ble_eq_true rfl) dX3_fateInHour_27 ?_
    refine gc_Vi C (k_X3_wetnessOf i hi (t_X2_streetOfNeed x1 M) M) wl_465 ok_X3_wetnessOf (rv_X3 i hi) rfl ⟨Nat.le_of_ble_eq_true rfl, Nat.le_of_ble_eq_true rfl⟩ ⟨Nat.le_of_ble_eq_true rfl, Nat.le_of_ble_eq_true rfl⟩ rfl (Nat.le_of_ble_eq_true rfl) dX3_fateInHour_30 ?_
    refine g_iload_n C dX3_fateInHour_33 0 rfl rfl ?_
    refine g_icmp_lt C (tgt := 41) dX3_fateInHour_34 (by decide) (fun c21 => ?_) (fun c21 => ?_)
    · have hq := ip c21 hq
      refine g_iconst C dX3_fateInHour_41 (v := 0) (by decide) ?_
      exact g_iret C dX3_fateInHour_42 hq rfl
    · have hq := iq c21 hq
      refine g_iconst C dX3_fateInHour_37 (v := 1) (by decide) ?_
      refine g_goto C (tgt := 42) dX3_fateInHour_38 (by decide) ?_
      exact g_iret C dX3_fateInHour_42 hq rfl
set_option maxHeartbeats 4000000 in
set_option maxRecDepth 100000 in
theorem k_X3_passHour {l : Launch} {dC : Nat → ClassId} {dI : Nat → Nat → Nat} {a : Nat → Nat} {cI cZ cS : ClassId} (i : Nat) (hi : i < 18) (M M2 : MM) (r : Int32) (hq : q_X3_passHour i M = some (r, M2)) : KQ l (dC, dI) vwCl (tyW cI cZ cS) yX3_passHour cX3_passHour 4 (some .int) 3 66 [.ref (a (16 + 5 * i))] (wC a cI cS M) (qI (dC, dI) vwCl (wC a cI cS M2) r) := by
  refine KQ.of (by decide) (Nat.le_of_ble_eq_true rfl) rfl ?_
  intro p e s m args below meth c A0 C
  have L_115 : ∀ (f : Nat) (v1 : Int32) (v3 : Int32) (M : MM), q_X3_passHour_115 i  f v1 v3 M = some (r, M2) → gG p l e ({ frames := 3, cells := 0, slots := 0, locals := 66 }) s m args below meth c 4 (dC, dI) vwCl A0 s.heap 0 0 (MQ below ((qI (dC, dI) vwCl (wC a cI cS M2) r) A0) args s 0 0 A0) (wC a cI cS M) 115 [(0, .ref (a (16 + 5 * i))), (1, .int v1), (3, .int v3)] [] := by
    intro f
    induction f with
    | zero => intro v1 v3 M hq; cases hq
    | succ f_115 ih_115 =>
      intro v1 v3 M hq
      rw [q_X3_passHour_115] at hq
      refine g_iload_n C dX3_passHour_115 2 rfl rfl ?_
      refine g_aload_n C dX3_passHour_116 0 rfl rfl ?_
      refine rg_X3_lasts C i hi dX3_passHour_117 ?_
      refine ga_len C (arr_la hi) dX3_passHour_120 ?_
      refine g_icmp_ge C (tgt := 148) dX3_passHour_121 (by decide) (fun c18 => ?_) (fun c18 => ?_)
      · have hq := ip c18 hq
        refine g_aload_n C dX3_passHour_148 0 rfl rfl ?_
        refine g_dup C dX3_passHour_149 rfl ?_
        refine rg_X3_time C i hi dX3_passHour_150 ?_
        refine g_iconst C dX3_passHour_153 (v := 1) (by decide) ?_
        refine g_iadd C dX3_passHour_154 ?_
        refine rp_X3_time C i hi dX3_passHour_155 ?_
        refine g_iload_n C dX3_passHour_158 1 rfl rfl ?_
        exact g_iret C dX3_passHour_159 (som2 hq).1 (congrArg (wC a cI cS) (som2 hq).2)
      · have hq := iq c18 hq
        refine g_aload_n C dX3_passHour_124 0 rfl rfl ?_
        refine rg_X3_lasts C i hi dX3_passHour_125 ?_
        refine g_iload_n C dX3_passHour_128 2 rfl rfl ?_
        refine g_aload_n C dX3_passHour_129 0 rfl rfl ?_
        refine rg_X3_lasts C i hi dX3_passHour_130 ?_
        refine g_iload_n C dX3_passHour_133 2 rfl rfl ?_
        obtain ⟨h19, hq⟩ := ogd_some hq
        refine ga_ld C (arr_la hi) h19 dX3_passHour_134 ?_
        refine g_iconst C dX3_passHour_135 (v := 1) (by decide) ?_
        refine g_isub C dX3_passHour_136 ?_
        refine g_iconst C dX3_passHour_137 (v := 0) (by decide) ?_
        refine g_mmax C wl_418 wl_419 wl_43 wl_420 ⟨Nat.le_of_ble_eq_true rfl, Nat.le_of_ble_eq_true rfl, Nat.le_of_ble_eq_true rfl, Nat.le_of_ble_eq_true rfl⟩ dX3_passHour_138 ?_
        obtain ⟨h20, hq⟩ := ogd_some hq
        refine ga_st C (arr_la hi) h20 dX3_passHour_141 ?_
        refine g_iinc C (v := (v3 + (1 : Int32))) (lv2 := [(3, _), (0, _), (1, _)]) dX3_passHour_142 2 rfl rfl (by decide) rfl ?_
        refine g_goto C (tgt := 115) dX3_passHour_145 (by decide) ?_
        exact g_sub [1, 2, 0] rfl (ih_115 v1 (v3 + (1 : Int32)) (mU M (9 + i) (6 + v3.toNatClampNeg) (if ((M.1 (9 + i) (6 + v3.toNatClampNeg)) - (1 : Int32)) < (0 : Int32) then (0 : Int32) else ((M.1 (9 + i) (6 + v3.toNatClampNeg)) - (1 : Int32)))) hq)
  have L_63 : ∀ (f : Nat) (v1 : Int32) (v3 : Int32) (M : MM), q_X3_passHour_63 i  f v1 v3 M = some (r, M2) → gG p l e ({ frames := 3, cells := 0, slots := 0, locals := 66 }) s m args below meth c 4 (dC, dI) vwCl A0 s.heap 0 0 (MQ below ((qI (dC, dI) vwCl (wC a cI cS M2) r) A0) args s 0 0 A0) (wC a cI cS M) 63 [(0, .ref (a (16 + 5 * i))), (1, .int v1), (3, .int v3)] [] := by
    intro f
    induction f with
    | zero => intro v1 v3 M hq; cases hq
    | succ f_63 ih_63 =>
      have J_107 : ∀ (v1 : Int32) (v3 : Int32) (M : MM), q_X3_passHour_107 i (q_X3_passHour_63 i  f_63) v1 v3 M = some (r, M2) → gG p l e ({ frames := 3, cells := 0, slots := 0, locals := 66 }) s m args below meth c 4 (dC, dI) vwCl A0 s.heap 0 0 (MQ below ((qI (dC, dI) vwCl (wC a cI cS M2) r) A0) args s 0 0 A0) (wC a cI cS M) 107 [(0, .ref (a (16 + 5 * i))), (1, .int v1), (3, .int v3)] [] := by
        intro v1 v3 M hq
        unfold q_X3_passHour_107 at hq
        refine g_iinc C (v := (v3 + (1 : Int32))) (lv2 := [(3, _), (0, _), (1, _)]) dX3_passHour_107 2 rfl rfl (by decide) rfl ?_
        refine g_goto C (tgt := 63) dX3_passHour_110 (by decide) ?_
        exact g_sub [1, 2, 0] rfl (ih_63 v1 (v3 + (1 : Int32)) M hq)
      intro v1 v3 M hq
      rw [q_X3_passHour_63] at hq
      refine g_iload_n C dX3_passHour_63 2 rfl rfl ?_
      refine g_aload_n C dX3_passHour_64 0 rfl rfl ?_
      refine rg_X3_plan C i hi dX3_passHour_65 ?_
      refine gc_Vi C (k_X2_needCount  M) wl_318 ok_X2_needCount rv_X2 rfl ⟨Nat.le_of_ble_eq_true rfl, Nat.le_of_ble_eq_true rfl⟩ ⟨Nat.le_of_ble_eq_true rfl, Nat.le_of_ble_eq_true rfl⟩ rfl (Nat.le_of_ble_eq_true rfl) dX3_passHour_68 ?_
      refine g_icmp_ge C (tgt := 113) dX3_passHour_71 (by decide) (fun c23 => ?_) (fun c23 => ?_)
      · have hq := ip c23 hq
        refine g_iconst C dX3_passHour_113 (v := 0) (by decide) ?_
        refine g_istore_n C (lv2 := [(3, _), (0, _), (1, _)]) dX3_passHour_114 rfl (by decide) rfl ?_
        exact g_sub [1, 2, 0] rfl (L_115 FU v1 (0 : Int32) M hq)
      · have hq := iq c23 hq
        refine g_aload_n C dX3_passHour_74 0 rfl rfl ?_
        refine g_iload_n C dX3_passHour_75 2 rfl rfl ?_
        refine gc_Vi C (k_X3_fateOf i hi v3 M) wl_319 ok_X3_fateOf (rv_X3 i hi) rfl ⟨Nat.le_of_ble_eq_true rfl, Nat.le_of_ble_eq_true rfl⟩ ⟨Nat.le_of_ble_eq_true rfl, Nat.le_of_ble_eq_true rfl⟩ rfl (Nat.le_of_ble_eq_true rfl) dX3_passHour_76 ?_
        refine g_if_ne C (tgt := 107) dX3_passHour_79 (by decide) (fun c24 => ?_) (fun c24 => ?_)
        · have hq := iq c24 hq
          exact g_sub [0, 1, 2] rfl (J_107 v1 v3 M hq)
        · have hq := ip c24 hq
          refine g_aload_n C dX3_passHour_82 0 rfl rfl ?_
          refine rg_X3_fates C i hi dX3_passHour_83 ?_
          refine g_iload_n C dX3_passHour_86 2 rfl rfl ?_
          refine g_aload_n C dX3_passHour_87 0 rfl rfl ?_
          refine g_iload_n C dX3_passHour_88 2 rfl rfl ?_
          refine g_iload_n C dX3_passHour_89 1 rfl rfl ?_
          refine g_aload_n C dX3_passHour_90 0 rfl rfl ?_
          refine rg_X3_plan C i hi dX3_passHour_91 ?_
          refine g_iload_n C dX3_passHour_94 2 rfl rfl ?_
          refine gc_Vi C (k_X2_streetOfNeed v3 M) wl_458 ok_X2_streetOfNeed rv_X2 rfl ⟨Nat.le_of_ble_eq_true rfl, Nat.le_of_ble_eq_true rfl⟩ ⟨Nat.le_of_ble_eq_true rfl, Nat.le_of_ble_eq_true rfl⟩ rfl (Nat.le_of_ble_eq_true rfl) dX3_passHour_95 ?_
          refine gc_Ni C (k_X6_has v1 (t_X2_streetOfNeed v3 M) M) nl_303 ok_X6_has ⟨Nat.le_of_ble_eq_true rfl, Nat.le_of_ble_eq_true rfl⟩ ⟨Nat.le_of_ble_eq_true rfl, Nat.le_of_ble_eq_true rfl⟩ rfl (Nat.le_of_ble_eq_true rfl) dX3_passHour_98 ?_
          refine gc_Vi C (k_X3_fateInHour i hi v3 (b2i (t_X6_has v1 (t_X2_streetOfNeed v3 M))) M) wl_459 ok_X3_fateInHour (rv_X3 i hi) rfl ⟨Nat.le_of_ble_eq_true rfl, Nat.le_of_ble_eq_true rfl⟩ ⟨Nat.le_of_ble_eq_true rfl, Nat.le_of_ble_eq_true rfl⟩ rfl (Nat.le_of_ble_eq_true rfl) dX3_passHour_101 ?_
          refine gc_Nv C (kn_X6_put (16 + 5 * i + 4) (9 + i) 18 5 (arr_fa hi) v3 (t_X3_fateInHour i v3 (b2i (t_X6_has v1 (t_X2_streetOfNeed v3 M))) M) M) nl_421 ok_X6_put ⟨Nat.le_of_ble_eq_true rfl, Nat.le_of_ble_eq_true rfl⟩ ⟨Nat.le_of_ble_eq_true rfl, Nat.le_of_ble_eq_true rfl⟩ rfl (Nat.le_of_ble_eq_true rfl) dX3_passHour_104 ?_
          exact g_sub [0, 1, 2] rfl (J_107 v1 v3 (t_put (9 + i) 18 5 v3 (t_X3_fateInHour i v3 (b2i (t_X6_has v1 (t_X2_streetOfNeed v3 M))) M) M) hq)
  have L_12 : ∀ (f : Nat) (v1 : Int32) (v2 : Int32) (v3 : Int32) (M : MM), q_X3_passHour_12 i  f v1 v2 v3 M = some (r, M2) → gG p l e ({ frames := 3, cells := 0, slots := 0, locals := 66 }) s m args below meth c 4 (dC, dI) vwCl A0 s.heap 0 0 (MQ below ((qI (dC, dI) vwCl (wC a cI cS M2) r) A0) args s 0 0 A0) (wC a cI cS M) 12 [(0, .ref (a (16 + 5 * i))), (1, .int v1), (2, .int v2), (3, .int v3)] [] := by
    intro f
    induction f with
    | zero => intro v1 v2 v3 M hq; cases hq
    | succ f_12 ih_12 =>
      have J_53 : ∀ (v1 : Int32) (v2 : Int32) (v3 : Int32) (s1 : Int32) (s2 : Int32) (s3 : Int32) (M : MM), q_X3_passHour_53 i (q_X3_passHour_12 i  f_12) v1 v2 v3 s1 s2 s3 M = some (r, M2) → gG p l e ({ frames := 3, cells := 0, slots := 0, locals := 66 }) s m args below meth c 4 (dC, dI) vwCl A0 s.heap 0 0 (MQ below ((qI (dC, dI) vwCl (wC a cI cS M2) r) A0) args s 0 0 A0) (wC a cI cS M) 53 [(0, .ref (a (16 + 5 * i))), (1, .int v1), (2, .int v2), (3, .int v3)] [.int s3, .int s2, .int s1, .ref (a (16 + 5 * i + 3))] := by
        intro v1 v2 v3 s1 s2 s3 M hq
        unfold q_X3_passHour_53 at hq
        refine g_iadd C dX3_passHour_53 ?_
        obtain ⟨h26, hq⟩ := ogd_some hq
        refine ga_st C (arr_we hi) h26 dX3_passHour_54 ?_
        refine g_iinc C (v := (v3 + (1 : Int32))) (lv2 := [(3, _), (0, _), (1, _), (2, _)]) dX3_passHour_55 3 rfl rfl (by decide) rfl ?_
        refine g_goto C (tgt := 12) dX3_passHour_58 (by decide) ?_
        exact g_sub [1, 2, 3, 0] rfl (ih_12 v1 v2 (v3 + (1 : Int32)) (mU M (9 + i) (12 + s1.toNatClampNeg) (s2 + s3)) hq)
      intro v1 v2 v3 M hq
      rw [q_X3_passHour_12] at hq
      refine g_iload_n C dX3_passHour_12 3 rfl rfl ?_
      refine g_aload_n C dX3_passHour_13 0 rfl rfl ?_
      refine rg_X3_wetness C i hi dX3_passHour_14 ?_
      refine ga_len C (arr_we hi) dX3_passHour_17 ?_
      refine g_icmp_ge C (tgt := 61) dX3_passHour_18 (by decide) (fun c31 => ?_) (fun c31 => ?_)
      · have hq := ip c31 hq
        refine g_iconst C dX3_passHour_61 (v := 0) (by decide) ?_
        refine g_istore_n C (lv2 := [(3, _), (0, _), (1, _), (2, _)]) dX3_passHour_62 rfl (by decide) rfl ?_
        exact g_sub [1, 2, 0] rfl (L_63 FU v1 (0 : Int32) M hq)
      · have hq := iq c31 hq
        refine g_aload_n C dX3_passHour_21 0 rfl rfl ?_
        refine rg_X3_wetness C i hi dX3_passHour_22 ?_
        refine g_iload_n C dX3_passHour_25 3 rfl rfl ?_
        refine g_dup2_11 C dX3_passHour_26 rfl rfl ?_
        obtain ⟨h32, hq⟩ := ogd_some hq
        refine ga_ld C (arr_we hi) h32 dX3_passHour_27 ?_
        refine g_iload_n C dX3_passHour_28 2 rfl rfl ?_
        refine g_iload_n C dX3_passHour_29 3 rfl rfl ?_
        refine gc_Ni C (k_X6_has v2 v3 M) nl_303 ok_X6_has ⟨Nat.le_of_ble_eq_true rfl, Nat.le_of_ble_eq_true rfl⟩ ⟨Nat.le_of_ble_eq_true rfl, Nat.le_of_ble_eq_true rfl⟩ rfl (Nat.le_of_ble_eq_true rfl) dX3_passHour_30 ?_
        refine g_if_eq C (tgt := 40) dX3_passHour_33 (by decide) (fun c33 => ?_) (fun c33 => ?_)
        · have hq := ip c33 hq
          refine g_iload_n C dX3_passHour_40 1 rfl rfl ?_
          refine g_iload_n C dX3_passHour_41 3 rfl rfl ?_
          refine gc_Ni C (k_X6_has v1 v3 M) nl_303 ok_X6_has ⟨Nat.le_of_ble_eq_true rfl, Nat.le_of_ble_eq_true rfl⟩ ⟨Nat.le_of_ble_eq_true rfl, Nat.le_of_ble_eq_true rfl⟩ rfl (Nat.le_of_ble_eq_true rfl) dX3_passHour_42 ?_
          refine g_if_eq C (tgt := 52) dX3_passHour_45 (by decide) (fun c34 => ?_) (fun c34 => ?_)
          · have hq := ip c34 hq
            refine g_iconst C dX3_passHour_52 (v := 0) (by decide) ?_
            exact g_sub [0, 1, 2, 3] rfl (J_53 v1 v2 v3 v3 (M.1 (9 + i) (12 + v3.toNatClampNeg)) (0 : Int32) M hq)
          · have hq := iq c34 hq
            refine g_iconst C dX3_passHour_48 (v := 1) (by decide) ?_
            refine g_goto C (tgt := 53) dX3_passHour_49 (by decide) ?_
            exact g_sub [0, 1, 2, 3] rfl (J_53 v1 v2 v3 v3 (M.1 (9 + i) (12 + v3.toNatClampNeg)) (1 : Int32) M hq)
        · have hq := iq c33 hq
          refine g_iconst C dX3_passHour_36 (v := 2) (by decide) ?_
          refine g_goto C (tgt := 53) dX3_passHour_37 (by decide) ?_
          exact g_sub [0, 1, 2, 3] rfl (J_53 v1 v2 v3 v3 (M.1 (9 + i) (12 + v3.toNatClampNeg)) (2 : Int32) M hq)
  unfold q_X3_passHour at hq
  refine g_aload_n C dX3_passHour_0 0 rfl rfl ?_
  obtain ⟨z39, Mz39, h40, hq⟩ := obd_some hq
  refine gc_Vi C (k_X3_rainBits i hi M Mz39 z39 h40) wl_456 ok_X3_rainBits (rv_X3 i hi) rfl ⟨Nat.le_of_ble_eq_true rfl, Nat.le_of_ble_eq_true rfl⟩ ⟨Nat.le_of_ble_eq_true rfl, Nat.le_of_ble_eq_true rfl⟩ rfl (Nat.le_of_ble_eq_true rfl) dX3_passHour_1 ?_
  refine g_istore_n C (lv2 := [(1, _), (0, _)]) dX3_passHour_4 rfl (by decide) rfl ?_
  refine g_aload_n C dX3_passHour_5 1 rfl rfl ?_
  obtain ⟨z41, Mz41, h42, hq⟩ := obd_some hq
  refine gc_Vi C (k_X3_hailBits i hi Mz39 Mz41 z41 h42) wl_457 ok_X3_hailBits (rv_X3 i hi) rfl ⟨Nat.le_of_ble_eq_true rfl, Nat.le_of_ble_eq_true rfl⟩ ⟨Nat.le_of_ble_eq_true rfl, Nat.le_of_ble_eq_true rfl⟩ rfl (Nat.le_of_ble_eq_true rfl) dX3_passHour_6 ?_
  refine g_istore_n C (lv2 := [(2, _), (1, _), (0, _)]) dX3_passHour_9 rfl (by decide) rfl ?_
  refine g_iconst C dX3_passHour_10 (v := 0) (by decide) ?_
  refine g_istore_n C (lv2 := [(3, _), (2, _), (1, _), (0, _)]) dX3_passHour_11 rfl (by decide) rfl ?_
  exact g_sub [3, 2, 1, 0] rfl (L_12 FU z39 z41 (0 : Int32) Mz41 hq)
set_option maxHeartbeats 4000000 in
set_option maxRecDepth 100000 in
theorem k_X3_passHours {l : Launch} {dC : Nat → ClassId} {dI : Nat → Nat → Nat} {a : Nat → Nat} {cI cZ cS : ClassId} (i : Nat) (hi : i < 18) (x1 : Int32) (M M2 : MM) (r : Unit) (hq : q_X3_passHours i x1 M = some (r, M2)) : KQ l (dC, dI) vwCl (tyW cI cZ cS) yX3_passHours cX3_passHours 3 none 4 89 [.ref (a (16 + 5 * i)), .int x1] (wC a cI cS M) (qV (dC, dI) vwCl (wC a cI cS M2)) := by
  refine KQ.of (by decide) (Nat.le_of_ble_eq_true rfl) rfl ?_
  intro p e s m args below meth c A0 C
  have L_2 : ∀ (f : Nat) (v2 : Int32) (M : MM), q_X3_passHours_2 i x1  f v2 M = some (r, M2) → gG p l e ({ frames := 4, cells := 0, slots := 0, locals := 89 }) s m args below meth c 3 (dC, dI) vwCl A0 s.heap 0 0 (MQ below ((qV (dC, dI) vwCl (wC a cI cS M2)) A0) args s 0 0 A0) (wC a cI cS M) 2 [(0, .ref (a (16 + 5 * i))), (1, .int x1), (2, .int v2)] [] := by
    intro f
    induction f with
    | zero => intro v2 M hq; cases hq
    | succ f_2 ih_2 =>
      intro v2 M hq
      rw [q_X3_passHours_2] at hq
      refine g_iload_n C dX3_passHours_2 2 rfl rfl ?_
      refine g_iload_n C dX3_passHours_3 1 rfl rfl ?_
      refine g_icmp_ge C (tgt := 18) dX3_passHours_4 (by decide) (fun c7 => ?_) (fun c7 => ?_)
      · have hq := ip c7 hq
        exact g_vret C dX3_passHours_18 (congrArg (wC a cI cS) (som2 hq).2)
      · have hq := iq c7 hq
        refine g_aload_n C dX3_passHours_7 0 rfl rfl ?_
        obtain ⟨z8, Mz8, h9, hq⟩ := obd_some hq
        refine gc_Vi C (k_X3_passHour i hi M Mz8 z8 h9) wl_483 ok_X3_passHour (rv_X3 i hi) rfl ⟨Nat.le_of_ble_eq_true rfl, Nat.le_of_ble_eq_true rfl⟩ ⟨Nat.le_of_ble_eq_true rfl, Nat.le_of_ble_eq_true rfl⟩ rfl (Nat.le_of_ble_eq_true rfl) dX3_passHours_8 ?_
        refine g_pop C dX3_passHours_11 rfl ?_
        refine g_iinc C (v := (v2 + (1 : Int32))) (lv2 := [(2, _), (0, _), (1, _)]) dX3_passHours_12 2 rfl rfl (by decide) rfl ?_
        refine g_goto C (tgt := 2) dX3_passHours_15 (by decide) ?_
        exact g_sub [1, 2, 0] rfl (ih_2 (v2 + (1 : Int32)) Mz8 hq)
  unfold q_X3_passHours at hq
  refine g_iconst C dX3_passHours_0 (v := 0) (by decide) ?_
  refine g_istore_n C (lv2 := [(2, _), (0, _), (1, _)]) dX3_passHours_1 rfl (by decide) rfl ?_
  exact g_sub [1, 2, 0] rfl (L_2 FU (0 : Int32) M hq)
set_option maxHeartbeats 4000000 in
set_option maxRecDepth 100000 in
theorem k_X4_clear {l : Launch} {dC : Nat → ClassId} {dI : Nat → Nat → Nat} {a : Nat → Nat} {cI cZ cS : ClassId}  (M M2 : MM) (r : Unit) (hq : q_X4_clear  M = some (r, M2)) : KQ l (dC, dI) vwCl (tyW cI cZ cS) yX4_clear cX4_clear 1 none 0 0 [.ref (a 1)] (wC a cI cS M) (qV (dC, dI) vwCl (wC a cI cS M2)) := by
  refine KQ.of (by decide) (Nat.le_of_ble_eq_true rfl) rfl ?_
  intro p e s m args below meth c A0 C
  unfold q_X4_clear at hq
  refine g_aload_n C dX4_clear_0 0 rfl rfl ?_
  refine g_iconst C dX4_clear_1 (v := 0) (by decide) ?_
  refine rp_X4_length C dX4_clear_2 ?_
  exact g_vret C dX4_clear_5 (congrArg (wC a cI cS) (som2 hq).2)
set_option maxHeartbeats 4000000 in
set_option maxRecDepth 100000 in
theorem k_X4_append {l : Launch} {dC : Nat → ClassId} {dI : Nat → Nat → Nat} {a : Nat → Nat} {cI cZ cS : ClassId} (x1 : Int32) (M M2 : MM) (r : Bool) (hq : q_X4_append x1 M = some (r, M2)) : KQ l (dC, dI) vwCl (tyW cI cZ cS) yX4_append cX4_append 2 (some .boolean) 1 22 [.ref (a 1), .int x1] (wC a cI cS M) (qI (dC, dI) vwCl (wC a cI cS M2) (b2i r)) := by
  refine KQ.of (by decide) (Nat.le_of_ble_eq_true rfl) rfl ?_
  intro p e s m args below meth c A0 C
  unfold q_X4_append at hq
  refine g_aload_n C dX4_append_0 0 rfl rfl ?_
  refine rg_X4_length C dX4_append_1 ?_
  refine g_aload_n C dX4_append_4 0 rfl rfl ?_
  refine rg_X4_bytes C dX4_append_5 ?_
  refine ga_len C arr_2 dX4_append_8 ?_
  refine g_icmp_lt C (tgt := 14) dX4_append_9 (by decide) (fun c3 => ?_) (fun c3 => ?_)
  · have hq := ip c3 hq
    refine g_aload_n C dX4_append_14 0 rfl rfl ?_
    refine rg_X4_bytes C dX4_append_15 ?_
    refine g_aload_n C dX4_append_18 0 rfl rfl ?_
    refine rg_X4_length C dX4_append_19 ?_
    refine g_iload_n C dX4_append_22 1 rfl rfl ?_
    refine gc_Nv C (kn_X6_put 2 1 0 48 arr_2 (M.1 0 0) x1 M) nl_209 ok_X6_put ⟨Nat.le_of_ble_eq_true rfl, Nat.le_of_ble_eq_true rfl⟩ ⟨Nat.le_of_ble_eq_true rfl, Nat.le_of_ble_eq_true rfl⟩ rfl (Nat.le_of_ble_eq_true rfl) dX4_append_23 ?_
    refine g_aload_n C dX4_append_26 0 rfl rfl ?_
    refine g_dup C dX4_append_27 rfl ?_
    refine rg_X4_length C dX4_append_28 ?_
    refine g_iconst C dX4_append_31 (v := 1) (by decide) ?_
    refine g_iadd C dX4_append_32 ?_
    refine rp_X4_length C dX4_append_33 ?_
    refine g_iconst C dX4_append_36 (v := 1) (by decide) ?_
    exact g_zret C dX4_append_37 (Or.inr rfl) (congrArg b2i (som2 hq).1) (congrArg (wC a cI cS) (som2 hq).2)
  · have hq := iq c3 hq
    refine g_iconst C dX4_append_12 (v := 0) (by decide) ?_
    exact g_zret C dX4_append_13 (Or.inl rfl) (congrArg b2i (som2 hq).1) (congrArg (wC a cI cS) (som2 hq).2)
set_option maxHeartbeats 4000000 in
set_option maxRecDepth 100000 in
theorem k_X4_isFitting {l : Launch} {dC : Nat → ClassId} {dI : Nat → Nat → Nat} {a : Nat → Nat} {cI cZ cS : ClassId} (x1 : Int32) (x2 : Int32) (M : MM) : KQ l (dC, dI) vwCl (tyW cI cZ cS) yX4_isFitting cX4_isFitting 6 (some .boolean) 3 63 [.ref (a 1), .int x1, .int x2] (wC a cI cS M) (qI (dC, dI) vwCl (wC a cI cS M) (b2i (t_X4_isFitting x1 x2 M))) := by
  generalize hq : t_X4_isFitting x1 x2 M = r
  refine KQ.of (by decide) (Nat.le_of_ble_eq_true rfl) rfl ?_
  intro p e s m args below meth c A0 C
  have J_67 : ∀ (v3 : Int32) (v4 : Int32) (v5 : Int32) (M : MM), t_X4_isFitting_67 x1 x2  v3 v4 v5 M = r → gG p l e ({ frames := 3, cells := 0, slots := 0, locals := 63 }) s m args below meth c 6 (dC, dI) vwCl A0 s.heap 0 0 (MQ below ((qI (dC, dI) vwCl (wC a cI cS M) (b2i r)) A0) args s 0 0 A0) (wC a cI cS M) 67 [(3, .int v3), (4, .int v4), (5, .int v5)] [] := by
    intro v3 v4 v5 M hq
    unfold t_X4_isFitting_67 at hq
    refine g_iload_n C dX4_isFitting_67 0 rfl rfl ?_
    refine g_iload C dX4_isFitting_68 1 rfl ?_
    refine g_icmp_lt C (tgt := 83) dX4_isFitting_70 (by decide) (fun c9 => ?_) (fun c9 => ?_)
    · have hq := ip c9 hq
      refine g_iconst C dX4_isFitting_83 (v := 0) (by decide) ?_
      exact g_zret C dX4_isFitting_84 (Or.inl rfl) (congrArg b2i hq) rfl
    · have hq := iq c9 hq
      refine g_iload_n C dX4_isFitting_73 0 rfl rfl ?_
      refine g_iload C dX4_isFitting_74 2 rfl ?_
      refine g_icmp_ge C (tgt := 83) dX4_isFitting_76 (by decide) (fun c10 => ?_) (fun c10 => ?_)
      · have hq := ip c10 hq
        refine g_iconst C dX4_isFitting_83 (v := 0) (by decide) ?_
        exact g_zret C dX4_isFitting_84 (Or.inl rfl) (congrArg b2i hq) rfl
      · have hq := iq c10 hq
        refine g_iconst C dX4_isFitting_79 (v := 1) (by decide) ?_
        refine g_goto C (tgt := 84) dX4_isFitting_80 (by decide) ?_
        exact g_zret C dX4_isFitting_84 (Or.inr rfl) (congrArg b2i hq) rfl
  have J_61 : ∀ (v3 : Int32) (s0 : Int32) (M : MM), t_X4_isFitting_61 x1 x2  v3 s0 M = r → gG p l e ({ frames := 3, cells := 0, slots := 0, locals := 63 }) s m args below meth c 6 (dC, dI) vwCl A0 s.heap 0 0 (MQ below ((qI (dC, dI) vwCl (wC a cI cS M) (b2i r)) A0) args s 0 0 A0) (wC a cI cS M) 61 [(3, .int v3)] [.int s0] := by
    intro v3 s0 M hq
    unfold t_X4_isFitting_61 at hq
    refine g_istore C (lv2 := [(4, _), (3, _)]) dX4_isFitting_61 (by decide) rfl ?_
    refine g_bipush C dX4_isFitting_63 (v := 10) (by decide) ?_
    refine g_istore C (lv2 := [(5, _), (4, _), (3, _)]) dX4_isFitting_65 (by decide) rfl ?_
    exact g_sub [2, 1, 0] rfl (J_67 v3 s0 (10 : Int32) M hq)
  have J_35 : ∀ (v3 : Int32) (v4 : Int32) (s0 : Int32) (M : MM), t_X4_isFitting_35 x1 x2  v3 v4 s0 M = r → gG p l e ({ frames := 3, cells := 0, slots := 0, locals := 63 }) s m args below meth c 6 (dC, dI) vwCl A0 s.heap 0 0 (MQ below ((qI (dC, dI) vwCl (wC a cI cS M) (b2i r)) A0) args s 0 0 A0) (wC a cI cS M) 35 [(3, .int v3), (4, .int v4)] [.int s0] := by
    intro v3 v4 s0 M hq
    unfold t_X4_isFitting_35 at hq
    refine g_istore C (lv2 := [(5, _), (3, _), (4, _)]) dX4_isFitting_35 (by decide) rfl ?_
    refine g_goto C (tgt := 67) dX4_isFitting_37 (by decide) ?_
    exact g_sub [1, 2, 0] rfl (J_67 v3 v4 s0 M hq)
  unfold t_X4_isFitting at hq
  refine g_aload_n C dX4_isFitting_0 0 rfl rfl ?_
  refine g_iload_n C dX4_isFitting_1 1 rfl rfl ?_
  refine g_iload_n C dX4_isFitting_2 2 rfl rfl ?_
  refine g_iadd C dX4_isFitting_3 ?_
  refine gc_Vi C (k_X4_figureAt (x1 + x2) M) wl_243 ok_X4_figureAt rv_X4 rfl ⟨Nat.le_of_ble_eq_true rfl, Nat.le_of_ble_eq_true rfl⟩ ⟨Nat.le_of_ble_eq_true rfl, Nat.le_of_ble_eq_true rfl⟩ rfl (Nat.le_of_ble_eq_true rfl) dX4_isFitting_4 ?_
  refine g_istore_n C (lv2 := [(3, _), (0, _), (1, _), (2, _)]) dX4_isFitting_7 rfl (by decide) rfl ?_
  refine g_iconst C dX4_isFitting_8 (v := 0) (by decide) ?_
  refine g_istore C (lv2 := [(4, _), (3, _), (0, _), (1, _), (2, _)]) dX4_isFitting_9 (by decide) rfl ?_
  refine g_bipush C dX4_isFitting_11 (v := 6) (by decide) ?_
  refine g_istore C (lv2 := [(5, _), (4, _), (3, _), (0, _), (1, _), (2, _)]) dX4_isFitting_13 (by decide) rfl ?_
  refine g_iload_n C dX4_isFitting_15 5 rfl rfl ?_
  refine g_iconst C dX4_isFitting_16 (v := 2) (by decide) ?_
  refine g_icmp_ne C (tgt := 40) dX4_isFitting_17 (by decide) (fun c15 => ?_) (fun c15 => ?_)
  · have hq := iq c15 hq
    refine g_iload_n C dX4_isFitting_40 5 rfl rfl ?_
    refine g_iconst C dX4_isFitting_41 (v := 3) (by decide) ?_
    refine g_icmp_ne C (tgt := 67) dX4_isFitting_42 (by decide) (fun c16 => ?_) (fun c16 => ?_)
    · have hq := iq c16 hq
      exact g_sub [2, 1, 0] rfl (J_67 (t_X4_figureAt (x1 + x2) M) (0 : Int32) (6 : Int32) M hq)
    · have hq := ip c16 hq
      refine g_aload_n C dX4_isFitting_45 3 rfl rfl ?_
      refine g_iload_n C dX4_isFitting_46 4 rfl rfl ?_
      refine g_iconst C dX4_isFitting_47 (v := 2) (by decide) ?_
      refine g_iadd C dX4_isFitting_48 ?_
      refine gc_Vi C (k_X4_figureAt (x1 + (2 : Int32)) M) wl_243 ok_X4_figureAt rv_X4 rfl ⟨Nat.le_of_ble_eq_true rfl, Nat.le_of_ble_eq_true rfl⟩ ⟨Nat.le_of_ble_eq_true rfl, Nat.le_of_ble_eq_true rfl⟩ rfl (Nat.le_of_ble_eq_true rfl) dX4_isFitting_49 ?_
      refine g_iconst C dX4_isFitting_52 (v := 1) (by decide) ?_
      refine g_icmp_ne C (tgt := 60) dX4_isFitting_53 (by decide) (fun c17 => ?_) (fun c17 => ?_)
      · have hq := iq c17 hq
        refine g_iconst C dX4_isFitting_60 (v := 0) (by decide) ?_
        exact g_sub [2] rfl (J_61 (t_X4_figureAt (x1 + x2) M) (0 : Int32) M hq)
      · have hq := ip c17 hq
        refine g_iconst C dX4_isFitting_56 (v := 1) (by decide) ?_
        refine g_goto C (tgt := 61) dX4_isFitting_57 (by decide) ?_
        exact g_sub [2] rfl (J_61 (t_X4_figureAt (x1 + x2) M) (1 : Int32) M hq)
  · have hq := ip c15 hq
    refine g_aload_n C dX4_isFitting_20 3 rfl rfl ?_
    refine g_iload_n C dX4_isFitting_21 4 rfl rfl ?_
    refine gc_Vi C (k_X4_byteAt x1 M) wl_232 ok_X4_byteAt rv_X4 rfl ⟨Nat.le_of_ble_eq_true rfl, Nat.le_of_ble_eq_true rfl⟩ ⟨Nat.le_of_ble_eq_true rfl, Nat.le_of_ble_eq_true rfl⟩ rfl (Nat.le_of_ble_eq_true rfl) dX4_isFitting_22 ?_
    refine g_bipush C dX4_isFitting_25 (v := 87) (by decide) ?_
    refine g_icmp_ne C (tgt := 34) dX4_isFitting_27 (by decide) (fun c18 => ?_) (fun c18 => ?_)
    · have hq := iq c18 hq
      refine g_iconst C dX4_isFitting_34 (v := 3) (by decide) ?_
      exact g_sub [2, 1] rfl (J_35 (t_X4_figureAt (x1 + x2) M) (0 : Int32) (3 : Int32) M hq)
    · have hq := ip c18 hq
      refine g_iconst C dX4_isFitting_30 (v := 4) (by decide) ?_
      refine g_goto C (tgt := 35) dX4_isFitting_31 (by decide) ?_
      exact g_sub [2, 1] rfl (J_35 (t_X4_figureAt (x1 + x2) M) (0 : Int32) (4 : Int32) M hq)
