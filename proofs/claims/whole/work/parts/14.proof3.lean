set_option maxHeartbeats 4000000 in
set_option maxRecDepth 100000 in
theorem k_X7_goHours {l : Launch} {dC : Nat → ClassId} {dI : Nat → Nat → Nat} {a : Nat → Nat} {cI cZ cS : ClassId} (x1 : Int32) (M M2 : MM) (r : Unit) (hq : q_X7_goHours x1 M = some (r, M2)) : KQ l (dC, dI) vwCl (tyW cI cZ cS) yX7_goHours cX7_goHours 3 none 4 92 [.ref (a 0), .int x1] (wD a cI cZ M) (qV (dC, dI) vwCl (wD a cI cZ M2)) := by
  refine KQ.of (by decide) (Nat.le_of_ble_eq_true rfl) rfl ?_
  intro p e s m args below meth c A0 C
  have L_2 : ∀ (f : Nat) (v2 : Int32) (M : MM), q_X7_goHours_2 x1  f v2 M = some (r, M2) → gG p l e ({ frames := 4, cells := 0, slots := 0, locals := 92 }) s m args below meth c 3 (dC, dI) vwCl A0 s.heap 0 0 (MQ below ((qV (dC, dI) vwCl (wD a cI cZ M2)) A0) args s 0 0 A0) (wD a cI cZ M) 2 [(0, .ref (a 0)), (1, .int x1), (2, .int v2)] [] := by
    intro f
    induction f with
    | zero => intro v2 M hq; cases hq
    | succ f_2 ih_2 =>
      intro v2 M hq
      rw [q_X7_goHours_2] at hq
      refine g_iload_n C dX7_goHours_2 2 rfl rfl ?_
      refine g_iload_n C dX7_goHours_3 1 rfl rfl ?_
      refine g_icmp_ge C (tgt := 22) dX7_goHours_4 (by decide) (fun c7 => ?_) (fun c7 => ?_)
      · have hq := ip c7 hq
        exact g_vret C dX7_goHours_22 (congrArg (wD a cI cZ) (som2 hq).2)
      · have hq := iq c7 hq
        refine g_aload_n C dX7_goHours_7 0 rfl rfl ?_
        refine g_aload_n C dX7_goHours_8 0 rfl rfl ?_
        refine rg_X7_trial C dX7_goHours_9 ?_
        obtain ⟨z8, Mz8, h9, hq⟩ := obd_some hq
        refine gc_Vi C (k_X7_goHour 7 (Or.inr rfl) M Mz8 z8 h9) wl_881 ok_X7_goHour rv_X7 rfl ⟨Nat.le_of_ble_eq_true rfl, Nat.le_of_ble_eq_true rfl⟩ ⟨Nat.le_of_ble_eq_true rfl, Nat.le_of_ble_eq_true rfl⟩ rfl (Nat.le_of_ble_eq_true rfl) dX7_goHours_12 ?_
        refine g_pop C dX7_goHours_15 rfl ?_
        refine g_iinc C (v := (v2 + (1 : Int32))) (lv2 := [(2, _), (0, _), (1, _)]) dX7_goHours_16 2 rfl rfl (by decide) rfl ?_
        refine g_goto C (tgt := 2) dX7_goHours_19 (by decide) ?_
        exact g_sub [1, 2, 0] rfl (ih_2 (v2 + (1 : Int32)) Mz8 hq)
  unfold q_X7_goHours at hq
  refine g_iconst C dX7_goHours_0 (v := 0) (by decide) ?_
  refine g_istore_n C (lv2 := [(2, _), (0, _), (1, _)]) dX7_goHours_1 rfl (by decide) rfl ?_
  exact g_sub [1, 2, 0] rfl (L_2 FU (0 : Int32) M hq)
set_option maxHeartbeats 4000000 in
set_option maxRecDepth 100000 in
theorem k_X7_needsThat {l : Launch} {dC : Nat → ClassId} {dI : Nat → Nat → Nat} {a : Nat → Nat} {cI cZ cS : ClassId} (p1 : Nat) (hp1 : p1 = 6 ∨ p1 = 7) (x2 : Int32) (M M2 : MM) (r : Int32) (hq : q_X7_needsThat p1 x2 M = some (r, M2)) : KQ l (dC, dI) vwCl (tyW cI cZ cS) yX7_needsThat cX7_needsThat 5 (some .int) 0 0 [.ref (a 0), .ref (a p1), .int x2] (wD a cI cZ M) (qI (dC, dI) vwCl (wD a cI cZ M2) r) := by
  refine KQ.of (by decide) (Nat.le_of_ble_eq_true rfl) rfl ?_
  intro p e s m args below meth c A0 C
  have L_5 : ∀ (f : Nat) (v3 : Int32) (v4 : Int32) (M : MM), q_X7_needsThat_5 p1 x2  f v3 v4 M = some (r, M2) → gG p l e ({ frames := 0, cells := 0, slots := 0, locals := 0 }) s m args below meth c 5 (dC, dI) vwCl A0 s.heap 0 0 (MQ below ((qI (dC, dI) vwCl (wD a cI cZ M2) r) A0) args s 0 0 A0) (wD a cI cZ M) 5 [(0, .ref (a 0)), (1, .ref (a p1)), (2, .int x2), (3, .int v3), (4, .int v4)] [] := by
    intro f
    induction f with
    | zero => intro v3 v4 M hq; cases hq
    | succ f_5 ih_5 =>
      have J_34 : ∀ (v4 : Int32) (s0 : Int32) (s1 : Int32) (M : MM), q_X7_needsThat_34 p1 x2 (q_X7_needsThat_5 p1 x2  f_5) v4 s0 s1 M = some (r, M2) → gG p l e ({ frames := 0, cells := 0, slots := 0, locals := 0 }) s m args below meth c 5 (dC, dI) vwCl A0 s.heap 0 0 (MQ below ((qI (dC, dI) vwCl (wD a cI cZ M2) r) A0) args s 0 0 A0) (wD a cI cZ M) 34 [(0, .ref (a 0)), (1, .ref (a p1)), (2, .int x2), (4, .int v4)] [.int s1, .int s0] := by
        intro v4 s0 s1 M hq
        unfold q_X7_needsThat_34 at hq
        refine g_ior C dX7_needsThat_34 ?_
        refine g_istore_n C (lv2 := [(3, _), (0, _), (1, _), (2, _), (4, _)]) dX7_needsThat_35 rfl (by decide) rfl ?_
        refine g_iinc C (v := (v4 + (1 : Int32))) (lv2 := [(4, _), (3, _), (0, _), (1, _), (2, _)]) dX7_needsThat_36 4 rfl rfl (by decide) rfl ?_
        refine g_goto C (tgt := 5) dX7_needsThat_39 (by decide) ?_
        exact g_sub [2, 3, 4, 1, 0] rfl (ih_5 (s0 ||| s1) (v4 + (1 : Int32)) M hq)
      intro v3 v4 M hq
      rw [q_X7_needsThat_5] at hq
      refine g_iload C dX7_needsThat_5 4 rfl ?_
      refine g_aload_n C dX7_needsThat_7 0 rfl rfl ?_
      refine rg_X7_needs C dX7_needsThat_8 ?_
      refine g_icmp_ge C (tgt := 42) dX7_needsThat_11 (by decide) (fun c7 => ?_) (fun c7 => ?_)
      · have hq := ip c7 hq
        refine g_iload_n C dX7_needsThat_42 3 rfl rfl ?_
        exact g_iret C dX7_needsThat_43 (som2 hq).1 (congrArg (wD a cI cZ) (som2 hq).2)
      · have hq := iq c7 hq
        refine g_iload_n C dX7_needsThat_14 3 rfl rfl ?_
        refine g_aload_n C dX7_needsThat_15 1 rfl rfl ?_
        refine g_bipush C dX7_needsThat_16 (v := 18) (by decide) ?_
        refine g_iload C dX7_needsThat_18 4 rfl ?_
        refine g_iadd C dX7_needsThat_20 ?_
        obtain ⟨h8, hq⟩ := ogd_some hq
        refine gb_ld C (arD_p hp1) h8 dX7_needsThat_21 ?_
        refine g_iload_n C dX7_needsThat_22 2 rfl rfl ?_
        refine g_icmp_ne C (tgt := 33) dX7_needsThat_23 (by decide) (fun c9 => ?_) (fun c9 => ?_)
        · have hq := iq c9 hq
          refine g_iconst C dX7_needsThat_33 (v := 0) (by decide) ?_
          exact g_sub [0, 1, 2, 4] rfl (J_34 v4 v3 (0 : Int32) M hq)
        · have hq := ip c9 hq
          refine g_iconst C dX7_needsThat_26 (v := 1) (by decide) ?_
          refine g_iload C dX7_needsThat_27 4 rfl ?_
          refine g_ishl C dX7_needsThat_29 ?_
          refine g_goto C (tgt := 34) dX7_needsThat_30 (by decide) ?_
          exact g_sub [0, 1, 2, 4] rfl (J_34 v4 v3 ((1 : Int32) <<< (v4 &&& 31)) M hq)
  unfold q_X7_needsThat at hq
  refine g_iconst C dX7_needsThat_0 (v := 0) (by decide) ?_
  refine g_istore_n C (lv2 := [(3, _), (0, _), (1, _), (2, _)]) dX7_needsThat_1 rfl (by decide) rfl ?_
  refine g_iconst C dX7_needsThat_2 (v := 0) (by decide) ?_
  refine g_istore C (lv2 := [(4, _), (3, _), (0, _), (1, _), (2, _)]) dX7_needsThat_3 (by decide) rfl ?_
  exact g_sub [2, 3, 4, 1, 0] rfl (L_5 FU (0 : Int32) (0 : Int32) M hq)
set_option maxHeartbeats 4000000 in
set_option maxRecDepth 100000 in
theorem k_X7_about {l : Launch} {dC : Nat → ClassId} {dI : Nat → Nat → Nat} {a : Nat → Nat} {cI cZ cS : ClassId} (x1 : Int32) (M M2 : MM) (r : Int32) (hq : q_X7_about x1 M = some (r, M2)) : KQ l (dC, dI) vwCl (tyW cI cZ cS) yX7_about cX7_about 2 (some .int) 3 68 [.ref (a 0), .int x1] (wD a cI cZ M) (qI (dC, dI) vwCl (wD a cI cZ M2) r) := by
  refine KQ.of (by decide) (Nat.le_of_ble_eq_true rfl) rfl ?_
  intro p e s m args below meth c A0 C
  unfold q_X7_about at hq
  refine g_aload_n C dX7_about_0 0 rfl rfl ?_
  refine g_iconst C dX7_about_1 (v := 0) (by decide) ?_
  refine rp_X7_thrown C dX7_about_2 ?_
  refine g_iload_n C dX7_about_5 1 rfl rfl ?_
  by_cases c43 : x1 = (0 : Int32)
  · have hq := ip c43 hq
    refine g_tsIn C (tgt := 64) (0 : Int32) c43 dX7_about_6 (by decide) (by decide) rfl (by decide) ?_
    refine g_aload_n C dX7_about_64 0 rfl rfl ?_
    refine rg_X7_walkers C dX7_about_65 ?_
    exact g_iret C dX7_about_68 (som2 hq).1 (congrArg (wD a cI cZ) (som2 hq).2)
  have hq := iq c43 hq
  by_cases c44 : x1 = (1 : Int32)
  · have hq := ip c44 hq
    refine g_tsIn C (tgt := 69) (1 : Int32) c44 dX7_about_6 (by decide) (by decide) rfl (by decide) ?_
    refine g_aload_n C dX7_about_69 0 rfl rfl ?_
    refine rg_X7_needs C dX7_about_70 ?_
    exact g_iret C dX7_about_73 (som2 hq).1 (congrArg (wD a cI cZ) (som2 hq).2)
  have hq := iq c44 hq
  by_cases c45 : x1 = (2 : Int32)
  · have hq := ip c45 hq
    refine g_tsIn C (tgt := 74) (2 : Int32) c45 dX7_about_6 (by decide) (by decide) rfl (by decide) ?_
    refine g_aload_n C dX7_about_74 0 rfl rfl ?_
    refine rg_X7_page C dX7_about_75 ?_
    refine g_bipush C dX7_about_78 (v := 23) (by decide) ?_
    obtain ⟨h46, hq⟩ := ogd_some hq
    refine gb_ld C (show arD 6 24 from ⟨by decide, by decide, by decide, by decide⟩) h46 dX7_about_80 ?_
    exact g_iret C dX7_about_81 (som2 hq).1 (congrArg (wD a cI cZ) (som2 hq).2)
  have hq := iq c45 hq
  by_cases c47 : x1 = (3 : Int32)
  · have hq := ip c47 hq
    refine g_tsIn C (tgt := 82) (3 : Int32) c47 dX7_about_6 (by decide) (by decide) rfl (by decide) ?_
    refine g_aload_n C dX7_about_82 0 rfl rfl ?_
    refine rg_X7_page C dX7_about_83 ?_
    refine g_iconst C dX7_about_86 (v := 5) (by decide) ?_
    obtain ⟨h48, hq⟩ := ogd_some hq
    refine gb_ld C (show arD 6 24 from ⟨by decide, by decide, by decide, by decide⟩) h48 dX7_about_87 ?_
    exact g_iret C dX7_about_88 (som2 hq).1 (congrArg (wD a cI cZ) (som2 hq).2)
  have hq := iq c47 hq
  by_cases c49 : x1 = (4 : Int32)
  · have hq := ip c49 hq
    refine g_tsIn C (tgt := 89) (4 : Int32) c49 dX7_about_6 (by decide) (by decide) rfl (by decide) ?_
    refine g_aload_n C dX7_about_89 0 rfl rfl ?_
    refine g_aload_n C dX7_about_90 0 rfl rfl ?_
    refine rg_X7_page C dX7_about_91 ?_
    obtain ⟨z50, Mz50, h51, hq⟩ := obd_some hq
    refine gc_Vi C (k_X7_rainOf 6 (Or.inl rfl) (mU M 0 0 (0 : Int32)) Mz50 z50 h51) wl_807 ok_X7_rainOf rv_X7 rfl ⟨Nat.le_of_ble_eq_true rfl, Nat.le_of_ble_eq_true rfl⟩ ⟨Nat.le_of_ble_eq_true rfl, Nat.le_of_ble_eq_true rfl⟩ rfl (Nat.le_of_ble_eq_true rfl) dX7_about_94 ?_
    exact g_iret C dX7_about_97 (som2 hq).1 (congrArg (wD a cI cZ) (som2 hq).2)
  have hq := iq c49 hq
  by_cases c52 : x1 = (5 : Int32)
  · have hq := ip c52 hq
    refine g_tsIn C (tgt := 98) (5 : Int32) c52 dX7_about_6 (by decide) (by decide) rfl (by decide) ?_
    refine g_aload_n C dX7_about_98 0 rfl rfl ?_
    refine g_aload_n C dX7_about_99 0 rfl rfl ?_
    refine rg_X7_page C dX7_about_100 ?_
    obtain ⟨z53, Mz53, h54, hq⟩ := obd_some hq
    refine gc_Vi C (k_X7_hailOf 6 (Or.inl rfl) (mU M 0 0 (0 : Int32)) Mz53 z53 h54) wl_814 ok_X7_hailOf rv_X7 rfl ⟨Nat.le_of_ble_eq_true rfl, Nat.le_of_ble_eq_true rfl⟩ ⟨Nat.le_of_ble_eq_true rfl, Nat.le_of_ble_eq_true rfl⟩ rfl (Nat.le_of_ble_eq_true rfl) dX7_about_103 ?_
    exact g_iret C dX7_about_106 (som2 hq).1 (congrArg (wD a cI cZ) (som2 hq).2)
  have hq := iq c52 hq
  by_cases c55 : x1 = (6 : Int32)
  · have hq := ip c55 hq
    refine g_tsIn C (tgt := 107) (6 : Int32) c55 dX7_about_6 (by decide) (by decide) rfl (by decide) ?_
    refine g_aload_n C dX7_about_107 0 rfl rfl ?_
    refine g_aload_n C dX7_about_108 0 rfl rfl ?_
    refine rg_X7_page C dX7_about_109 ?_
    refine g_iconst C dX7_about_112 (v := 1) (by decide) ?_
    obtain ⟨z56, Mz56, h57, hq⟩ := obd_some hq
    refine gc_Vi C (k_X7_needsThat 6 (Or.inl rfl) (1 : Int32) (mU M 0 0 (0 : Int32)) Mz56 z56 h57) wl_822 ok_X7_needsThat rv_X7 rfl ⟨Nat.le_of_ble_eq_true rfl, Nat.le_of_ble_eq_true rfl⟩ ⟨Nat.le_of_ble_eq_true rfl, Nat.le_of_ble_eq_true rfl⟩ rfl (Nat.le_of_ble_eq_true rfl) dX7_about_113 ?_
    exact g_iret C dX7_about_116 (som2 hq).1 (congrArg (wD a cI cZ) (som2 hq).2)
  have hq := iq c55 hq
  by_cases c58 : x1 = (7 : Int32)
  · have hq := ip c58 hq
    refine g_tsIn C (tgt := 117) (7 : Int32) c58 dX7_about_6 (by decide) (by decide) rfl (by decide) ?_
    refine g_aload_n C dX7_about_117 0 rfl rfl ?_
    refine g_aload_n C dX7_about_118 0 rfl rfl ?_
    refine rg_X7_page C dX7_about_119 ?_
    refine g_iconst C dX7_about_122 (v := 2) (by decide) ?_
    obtain ⟨z59, Mz59, h60, hq⟩ := obd_some hq
    refine gc_Vi C (k_X7_needsThat 6 (Or.inl rfl) (2 : Int32) (mU M 0 0 (0 : Int32)) Mz59 z59 h60) wl_822 ok_X7_needsThat rv_X7 rfl ⟨Nat.le_of_ble_eq_true rfl, Nat.le_of_ble_eq_true rfl⟩ ⟨Nat.le_of_ble_eq_true rfl, Nat.le_of_ble_eq_true rfl⟩ rfl (Nat.le_of_ble_eq_true rfl) dX7_about_123 ?_
    exact g_iret C dX7_about_126 (som2 hq).1 (congrArg (wD a cI cZ) (som2 hq).2)
  have hq := iq c58 hq
  by_cases c61 : x1 = (8 : Int32)
  · have hq := ip c61 hq
    refine g_tsIn C (tgt := 127) (8 : Int32) c61 dX7_about_6 (by decide) (by decide) rfl (by decide) ?_
    refine g_aload_n C dX7_about_127 0 rfl rfl ?_
    refine rg_X7_acts C dX7_about_128 ?_
    exact g_iret C dX7_about_131 (som2 hq).1 (congrArg (wD a cI cZ) (som2 hq).2)
  have hq := iq c61 hq
  by_cases c62 : x1 = (9 : Int32)
  · have hq := ip c62 hq
    refine g_tsIn C (tgt := 132) (9 : Int32) c62 dX7_about_6 (by decide) (by decide) rfl (by decide) ?_
    refine g_aload_n C dX7_about_132 0 rfl rfl ?_
    refine rg_X7_felt C dX7_about_133 ?_
    exact g_iret C dX7_about_136 (som2 hq).1 (congrArg (wD a cI cZ) (som2 hq).2)
  have hq := iq c62 hq
  by_cases c63 : x1 = (10 : Int32)
  · have hq := ip c63 hq
    refine g_tsIn C (tgt := 137) (10 : Int32) c63 dX7_about_6 (by decide) (by decide) rfl (by decide) ?_
    refine g_aload_n C dX7_about_137 0 rfl rfl ?_
    refine rg_X7_textSize C dX7_about_138 ?_
    exact g_iret C dX7_about_141 (som2 hq).1 (congrArg (wD a cI cZ) (som2 hq).2)
  have hq := iq c63 hq
  refine g_tsOut C (tgt := 142) dX7_about_6 (by have ec43 := lv_neT (a := 0) c43 (by decide); have ec44 := lv_neT (a := 1) c44 (by decide); have ec45 := lv_neT (a := 2) c45 (by decide); have ec47 := lv_neT (a := 3) c47 (by decide); have ec49 := lv_neT (a := 4) c49 (by decide); have ec52 := lv_neT (a := 5) c52 (by decide); have ec55 := lv_neT (a := 6) c55 (by decide); have ec58 := lv_neT (a := 7) c58 (by decide); have ec61 := lv_neT (a := 8) c61 (by decide); have ec62 := lv_neT (a := 9) c62 (by decide); have ec63 := lv_neT (a := 10) c63 (by decide); omega) (by decide) ?_
  refine g_bipush C dX7_about_142 (v := -2) (by decide) ?_
  exact g_iret C dX7_about_144 (som2 hq).1 (congrArg (wD a cI cZ) (som2 hq).2)
set_option maxHeartbeats 4000000 in
set_option maxRecDepth 100000 in
theorem k_X7_walker {l : Launch} {dC : Nat → ClassId} {dI : Nat → Nat → Nat} {a : Nat → Nat} {cI cZ cS : ClassId} (x1 : Int32) (x2 : Int32) (M M2 : MM) (r : Int32) (hq : q_X7_walker x1 x2 M = some (r, M2)) : KQ l (dC, dI) vwCl (tyW cI cZ cS) yX7_walker cX7_walker 3 (some .int) 2 46 [.ref (a 0), .int x1, .int x2] (wD a cI cZ M) (qI (dC, dI) vwCl (wD a cI cZ M2) r) := by
  refine KQ.of (by decide) (Nat.le_of_ble_eq_true rfl) rfl ?_
  intro p e s m args below meth c A0 C
  unfold q_X7_walker at hq
  refine g_aload_n C dX7_walker_0 0 rfl rfl ?_
  refine g_iconst C dX7_walker_1 (v := 0) (by decide) ?_
  refine rp_X7_thrown C dX7_walker_2 ?_
  refine g_aload_n C dX7_walker_5 0 rfl rfl ?_
  refine g_iload_n C dX7_walker_6 1 rfl rfl ?_
  refine gc_Vi C (k_X7_noWalker x1 (mU M 0 0 (0 : Int32))) wl_830 ok_X7_noWalker rv_X7 rfl ⟨Nat.le_of_ble_eq_true rfl, Nat.le_of_ble_eq_true rfl⟩ ⟨Nat.le_of_ble_eq_true rfl, Nat.le_of_ble_eq_true rfl⟩ rfl (Nat.le_of_ble_eq_true rfl) dX7_walker_7 ?_
  refine g_if_eq C (tgt := 15) dX7_walker_10 (by decide) (fun c15 => ?_) (fun c15 => ?_)
  · have hq := ip c15 hq
    refine g_iload_n C dX7_walker_15 2 rfl rfl ?_
    by_cases c16 : x2 = (0 : Int32)
    · have hq := ip c16 hq
      refine g_tsIn C (tgt := 44) (0 : Int32) c16 dX7_walker_16 (by decide) (by decide) rfl (by decide) ?_
      refine g_aload_n C dX7_walker_44 0 rfl rfl ?_
      refine rg_X7_page C dX7_walker_45 ?_
      refine g_iload_n C dX7_walker_48 1 rfl rfl ?_
      obtain ⟨h17, hq⟩ := ogd_some hq
      refine gb_ld C (show arD 6 24 from ⟨by decide, by decide, by decide, by decide⟩) h17 dX7_walker_49 ?_
      exact g_iret C dX7_walker_50 (som2 hq).1 (congrArg (wD a cI cZ) (som2 hq).2)
    have hq := iq c16 hq
    by_cases c18 : x2 = (1 : Int32)
    · have hq := ip c18 hq
      refine g_tsIn C (tgt := 51) (1 : Int32) c18 dX7_walker_16 (by decide) (by decide) rfl (by decide) ?_
      refine g_aload_n C dX7_walker_51 0 rfl rfl ?_
      refine rg_X7_stuff C dX7_walker_52 ?_
      refine g_iload_n C dX7_walker_55 1 rfl rfl ?_
      obtain ⟨h19, hq⟩ := ogd_some hq
      refine gb_ld C (show arD 2 5 from ⟨by decide, by decide, by decide, by decide⟩) h19 dX7_walker_56 ?_
      exact g_iret C dX7_walker_57 (som2 hq).1 (congrArg (wD a cI cZ) (som2 hq).2)
    have hq := iq c18 hq
    by_cases c20 : x2 = (2 : Int32)
    · have hq := ip c20 hq
      refine g_tsIn C (tgt := 58) (2 : Int32) c20 dX7_walker_16 (by decide) (by decide) rfl (by decide) ?_
      refine g_aload_n C dX7_walker_58 0 rfl rfl ?_
      refine rg_X7_page C dX7_walker_59 ?_
      refine g_iconst C dX7_walker_62 (v := 5) (by decide) ?_
      obtain ⟨h21, hq⟩ := ogd_some hq
      refine gb_ld C (show arD 6 24 from ⟨by decide, by decide, by decide, by decide⟩) h21 dX7_walker_63 ?_
      refine g_iload_n C dX7_walker_64 1 rfl rfl ?_
      refine g_ishr C dX7_walker_65 ?_
      refine g_iconst C dX7_walker_66 (v := 1) (by decide) ?_
      refine g_iand C dX7_walker_67 ?_
      exact g_iret C dX7_walker_68 (som2 hq).1 (congrArg (wD a cI cZ) (som2 hq).2)
    have hq := iq c20 hq
    refine g_tsOut C (tgt := 69) dX7_walker_16 (by have ec16 := lv_neT (a := 0) c16 (by decide); have ec18 := lv_neT (a := 1) c18 (by decide); have ec20 := lv_neT (a := 2) c20 (by decide); omega) (by decide) ?_
    refine g_bipush C dX7_walker_69 (v := -2) (by decide) ?_
    exact g_iret C dX7_walker_71 (som2 hq).1 (congrArg (wD a cI cZ) (som2 hq).2)
  · have hq := iq c15 hq
    refine g_iconst C dX7_walker_13 (v := -1) (by decide) ?_
    exact g_iret C dX7_walker_14 (som2 hq).1 (congrArg (wD a cI cZ) (som2 hq).2)
set_option maxHeartbeats 4000000 in
set_option maxRecDepth 100000 in
theorem k_X7_need {l : Launch} {dC : Nat → ClassId} {dI : Nat → Nat → Nat} {a : Nat → Nat} {cI cZ cS : ClassId} (x1 : Int32) (x2 : Int32) (M M2 : MM) (r : Int32) (hq : q_X7_need x1 x2 M = some (r, M2)) : KQ l (dC, dI) vwCl (tyW cI cZ cS) yX7_need cX7_need 3 (some .int) 1 25 [.ref (a 0), .int x1, .int x2] (wD a cI cZ M) (qI (dC, dI) vwCl (wD a cI cZ M2) r) := by
  refine KQ.of (by decide) (Nat.le_of_ble_eq_true rfl) rfl ?_
  intro p e s m args below meth c A0 C
  unfold q_X7_need at hq
  refine g_aload_n C dX7_need_0 0 rfl rfl ?_
  refine g_iconst C dX7_need_1 (v := 0) (by decide) ?_
  refine rp_X7_thrown C dX7_need_2 ?_
  refine g_iload_n C dX7_need_5 1 rfl rfl ?_
  refine g_i2l C dX7_need_6 rfl ?_
  refine g_lconst C dX7_need_7 (v := 0) (by decide) ?_
  refine g_aload_n C dX7_need_8 0 rfl rfl ?_
  refine rg_X7_needs C dX7_need_9 ?_
  refine g_iconst C dX7_need_12 (v := 1) (by decide) ?_
  refine g_isub C dX7_need_13 ?_
  refine g_i2l C dX7_need_14 rfl ?_
  refine gc_Si C (k_X7_in (x1.toInt64) (0 : Int64) ((((mU M 0 0 (0 : Int32)).1 0 4) - (1 : Int32)).toInt64) (mU M 0 0 (0 : Int32))) wl_768 ok_X7_in ⟨Nat.le_of_ble_eq_true rfl, Nat.le_of_ble_eq_true rfl⟩ ⟨Nat.le_of_ble_eq_true rfl, Nat.le_of_ble_eq_true rfl⟩ rfl (Nat.le_of_ble_eq_true rfl) dX7_need_15 ?_
  refine g_if_ne C (tgt := 23) dX7_need_18 (by decide) (fun c11 => ?_) (fun c11 => ?_)
  · have hq := iq c11 hq
    refine g_iload_n C dX7_need_23 2 rfl rfl ?_
    refine g_i2l C dX7_need_24 rfl ?_
    refine g_lconst C dX7_need_25 (v := 0) (by decide) ?_
    refine g_ldc2 C wl_838 dX7_need_26 ?_
    refine gc_Si C (k_X7_in (x2.toInt64) (0 : Int64) (2 : Int64) (mU M 0 0 (0 : Int32))) wl_768 ok_X7_in ⟨Nat.le_of_ble_eq_true rfl, Nat.le_of_ble_eq_true rfl⟩ ⟨Nat.le_of_ble_eq_true rfl, Nat.le_of_ble_eq_true rfl⟩ rfl (Nat.le_of_ble_eq_true rfl) dX7_need_29 ?_
    refine g_if_eq C (tgt := 48) dX7_need_32 (by decide) (fun c12 => ?_) (fun c12 => ?_)
    · have hq := ip c12 hq
      refine g_iload_n C dX7_need_48 2 rfl rfl ?_
      refine g_iconst C dX7_need_49 (v := 3) (by decide) ?_
      refine g_icmp_ne C (tgt := 65) dX7_need_50 (by decide) (fun c13 => ?_) (fun c13 => ?_)
      · have hq := iq c13 hq
        refine g_bipush C dX7_need_65 (v := -2) (by decide) ?_
        exact g_iret C dX7_need_67 (som2 hq).1 (congrArg (wD a cI cZ) (som2 hq).2)
      · have hq := ip c13 hq
        refine g_aload_n C dX7_need_53 0 rfl rfl ?_
        refine rg_X7_page C dX7_need_54 ?_
        refine g_bipush C dX7_need_57 (v := 18) (by decide) ?_
        refine g_iload_n C dX7_need_59 1 rfl rfl ?_
        refine g_iadd C dX7_need_60 ?_
        obtain ⟨h14, hq⟩ := ogd_some hq
        refine gb_ld C (show arD 6 24 from ⟨by decide, by decide, by decide, by decide⟩) h14 dX7_need_61 ?_
        refine g_goto C (tgt := 67) dX7_need_62 (by decide) ?_
        exact g_iret C dX7_need_67 (som2 hq).1 (congrArg (wD a cI cZ) (som2 hq).2)
    · have hq := iq c12 hq
      refine g_aload_n C dX7_need_35 0 rfl rfl ?_
      refine rg_X7_need C dX7_need_36 ?_
      refine g_iconst C dX7_need_39 (v := 3) (by decide) ?_
      refine g_iload_n C dX7_need_40 1 rfl rfl ?_
      refine g_imul C dX7_need_41 ?_
      refine g_iload_n C dX7_need_42 2 rfl rfl ?_
      refine g_iadd C dX7_need_43 ?_
      obtain ⟨h15, hq⟩ := ogd_some hq
      refine gb_ld C (show arD 3 15 from ⟨by decide, by decide, by decide, by decide⟩) h15 dX7_need_44 ?_
      refine g_goto C (tgt := 67) dX7_need_45 (by decide) ?_
      exact g_iret C dX7_need_67 (som2 hq).1 (congrArg (wD a cI cZ) (som2 hq).2)
  · have hq := ip c11 hq
    refine g_iconst C dX7_need_21 (v := -1) (by decide) ?_
    exact g_iret C dX7_need_22 (som2 hq).1 (congrArg (wD a cI cZ) (som2 hq).2)
set_option maxHeartbeats 4000000 in
set_option maxRecDepth 100000 in
theorem k_X7_street {l : Launch} {dC : Nat → ClassId} {dI : Nat → Nat → Nat} {a : Nat → Nat} {cI cZ cS : ClassId} (x1 : Int32) (x2 : Int32) (M M2 : MM) (r : Int32) (hq : q_X7_street x1 x2 M = some (r, M2)) : KQ l (dC, dI) vwCl (tyW cI cZ cS) yX7_street cX7_street 3 (some .int) 2 45 [.ref (a 0), .int x1, .int x2] (wD a cI cZ M) (qI (dC, dI) vwCl (wD a cI cZ M2) r) := by
  refine KQ.of (by decide) (Nat.le_of_ble_eq_true rfl) rfl ?_
  intro p e s m args below meth c A0 C
  unfold q_X7_street at hq
  refine g_aload_n C dX7_street_0 0 rfl rfl ?_
  refine g_iconst C dX7_street_1 (v := 0) (by decide) ?_
  refine rp_X7_thrown C dX7_street_2 ?_
  refine g_iload_n C dX7_street_5 1 rfl rfl ?_
  refine gc_Si C (k_X7_noStreet x1 (mU M 0 0 (0 : Int32))) wl_843 ok_X7_noStreet ⟨Nat.le_of_ble_eq_true rfl, Nat.le_of_ble_eq_true rfl⟩ ⟨Nat.le_of_ble_eq_true rfl, Nat.le_of_ble_eq_true rfl⟩ rfl (Nat.le_of_ble_eq_true rfl) dX7_street_6 ?_
  refine g_if_eq C (tgt := 14) dX7_street_9 (by decide) (fun c17 => ?_) (fun c17 => ?_)
  · have hq := ip c17 hq
    refine g_iload_n C dX7_street_14 2 rfl rfl ?_
    by_cases c18 : x2 = (0 : Int32)
    · have hq := ip c18 hq
      refine g_tsIn C (tgt := 40) (0 : Int32) c18 dX7_street_15 (by decide) (by decide) rfl (by decide) ?_
      refine g_aload_n C dX7_street_40 0 rfl rfl ?_
      refine rg_X7_page C dX7_street_41 ?_
      refine g_bipush C dX7_street_44 (v := 12) (by decide) ?_
      refine g_iload_n C dX7_street_46 1 rfl rfl ?_
      refine g_iadd C dX7_street_47 ?_
      obtain ⟨h19, hq⟩ := ogd_some hq
      refine gb_ld C (show arD 6 24 from ⟨by decide, by decide, by decide, by decide⟩) h19 dX7_street_48 ?_
      exact g_iret C dX7_street_49 (som2 hq).1 (congrArg (wD a cI cZ) (som2 hq).2)
    have hq := iq c18 hq
    by_cases c20 : x2 = (1 : Int32)
    · have hq := ip c20 hq
      refine g_tsIn C (tgt := 50) (1 : Int32) c20 dX7_street_15 (by decide) (by decide) rfl (by decide) ?_
      refine g_aload_n C dX7_street_50 0 rfl rfl ?_
      refine rg_X7_page C dX7_street_51 ?_
      refine g_bipush C dX7_street_54 (v := 6) (by decide) ?_
      refine g_iload_n C dX7_street_56 1 rfl rfl ?_
      refine g_iadd C dX7_street_57 ?_
      obtain ⟨h21, hq⟩ := ogd_some hq
      refine gb_ld C (show arD 6 24 from ⟨by decide, by decide, by decide, by decide⟩) h21 dX7_street_58 ?_
      exact g_iret C dX7_street_59 (som2 hq).1 (congrArg (wD a cI cZ) (som2 hq).2)
    have hq := iq c20 hq
    by_cases c22 : x2 = (2 : Int32)
    · have hq := ip c22 hq
      refine g_tsIn C (tgt := 60) (2 : Int32) c22 dX7_street_15 (by decide) (by decide) rfl (by decide) ?_
      refine g_aload_n C dX7_street_60 0 rfl rfl ?_
      refine g_aload_n C dX7_street_61 0 rfl rfl ?_
      refine rg_X7_page C dX7_street_62 ?_
      refine g_iload_n C dX7_street_65 1 rfl rfl ?_
      obtain ⟨z23, Mz23, h24, hq⟩ := obd_some hq
      refine gc_Vi C (k_X7_openIn 6 (Or.inl rfl) x1 (mU M 0 0 (0 : Int32)) Mz23 z23 h24) wl_818 ok_X7_openIn rv_X7 rfl ⟨Nat.le_of_ble_eq_true rfl, Nat.le_of_ble_eq_true rfl⟩ ⟨Nat.le_of_ble_eq_true rfl, Nat.le_of_ble_eq_true rfl⟩ rfl (Nat.le_of_ble_eq_true rfl) dX7_street_66 ?_
      exact g_iret C dX7_street_69 (som2 hq).1 (congrArg (wD a cI cZ) (som2 hq).2)
    have hq := iq c22 hq
    refine g_tsOut C (tgt := 70) dX7_street_15 (by have ec18 := lv_neT (a := 0) c18 (by decide); have ec20 := lv_neT (a := 1) c20 (by decide); have ec22 := lv_neT (a := 2) c22 (by decide); omega) (by decide) ?_
    refine g_bipush C dX7_street_70 (v := -2) (by decide) ?_
    exact g_iret C dX7_street_72 (som2 hq).1 (congrArg (wD a cI cZ) (som2 hq).2)
  · have hq := iq c17 hq
    refine g_iconst C dX7_street_12 (v := -1) (by decide) ?_
    exact g_iret C dX7_street_13 (som2 hq).1 (congrArg (wD a cI cZ) (som2 hq).2)
set_option maxHeartbeats 4000000 in
set_option maxRecDepth 100000 in
theorem k_X7_note {l : Launch} {dC : Nat → ClassId} {dI : Nat → Nat → Nat} {a : Nat → Nat} {cI cZ cS : ClassId}  (M M2 : MM) (r : Unit) (hq : q_X7_note  M = some (r, M2)) : KQ l (dC, dI) vwCl (tyW cI cZ cS) yX7_note cX7_note 2 none 0 0 [.ref (a 0)] (wD a cI cZ M) (qV (dC, dI) vwCl (wD a cI cZ M2)) := by
  refine KQ.of (by decide) (Nat.le_of_ble_eq_true rfl) rfl ?_
  intro p e s m args below meth c A0 C
  have L_51 : ∀ (f : Nat) (v1 : Int32) (M : MM), q_X7_note_51   f v1 M = some (r, M2) → gG p l e ({ frames := 0, cells := 0, slots := 0, locals := 0 }) s m args below meth c 2 (dC, dI) vwCl A0 s.heap 0 0 (MQ below ((qV (dC, dI) vwCl (wD a cI cZ M2)) A0) args s 0 0 A0) (wD a cI cZ M) 51 [(0, .ref (a 0)), (1, .int v1)] [] := by
    intro f
    induction f with
    | zero => intro v1 M hq; cases hq
    | succ f_51 ih_51 =>
      intro v1 M hq
      rw [q_X7_note_51] at hq
      refine g_iload_n C dX7_note_51 1 rfl rfl ?_
      refine g_bipush C dX7_note_52 (v := 24) (by decide) ?_
      refine g_icmp_ge C (tgt := 83) dX7_note_54 (by decide) (fun c11 => ?_) (fun c11 => ?_)
      · have hq := ip c11 hq
        refine g_aload_n C dX7_note_83 0 rfl rfl ?_
        refine g_dup C dX7_note_84 rfl ?_
        refine rg_X7_acts C dX7_note_85 ?_
        refine g_iconst C dX7_note_88 (v := 1) (by decide) ?_
        refine g_iadd C dX7_note_89 ?_
        refine rp_X7_acts C dX7_note_90 ?_
        exact g_vret C dX7_note_93 (congrArg (wD a cI cZ) (som2 hq).2)
      · have hq := iq c11 hq
        refine g_aload_n C dX7_note_57 0 rfl rfl ?_
        refine rg_X7_book C dX7_note_58 ?_
        refine g_bipush C dX7_note_61 (v := 24) (by decide) ?_
        refine g_aload_n C dX7_note_63 0 rfl rfl ?_
        refine rg_X7_acts C dX7_note_64 ?_
        refine g_imul C dX7_note_67 ?_
        refine g_iload_n C dX7_note_68 1 rfl rfl ?_
        refine g_iadd C dX7_note_69 ?_
        refine g_aload_n C dX7_note_70 0 rfl rfl ?_
        refine rg_X7_page C dX7_note_71 ?_
        refine g_iload_n C dX7_note_74 1 rfl rfl ?_
        obtain ⟨h12, hq⟩ := ogd_some hq
        refine gb_ld C (show arD 6 24 from ⟨by decide, by decide, by decide, by decide⟩) h12 dX7_note_75 ?_
        obtain ⟨h13, hq⟩ := ogd_some hq
        refine gb_st C (show arD 8 336 from ⟨by decide, by decide, by decide, by decide⟩) h13 dX7_note_76 ?_
        refine g_iinc C (v := (v1 + (1 : Int32))) (lv2 := [(1, _), (0, _)]) dX7_note_77 1 rfl rfl (by decide) rfl ?_
        refine g_goto C (tgt := 51) dX7_note_80 (by decide) ?_
        exact g_sub [1, 0] rfl (ih_51 (v1 + (1 : Int32)) (mU M 8 (((24 : Int32) * (M.1 0 7)) + v1).toNatClampNeg (M.1 6 v1.toNatClampNeg)) hq)
  have J_49 : ∀  (M : MM), q_X7_note_49   M = some (r, M2) → gG p l e ({ frames := 0, cells := 0, slots := 0, locals := 0 }) s m args below meth c 2 (dC, dI) vwCl A0 s.heap 0 0 (MQ below ((qV (dC, dI) vwCl (wD a cI cZ M2)) A0) args s 0 0 A0) (wD a cI cZ M) 49 [(0, .ref (a 0))] [] := by
    intro M hq
    unfold q_X7_note_49 at hq
    refine g_iconst C dX7_note_49 (v := 0) (by decide) ?_
    refine g_istore_n C (lv2 := [(1, _), (0, _)]) dX7_note_50 rfl (by decide) rfl ?_
    exact g_sub [1, 0] rfl (L_51 FU (0 : Int32) M hq)
  have L_11 : ∀ (f : Nat) (v1 : Int32) (M : MM), q_X7_note_11   f v1 M = some (r, M2) → gG p l e ({ frames := 0, cells := 0, slots := 0, locals := 0 }) s m args below meth c 2 (dC, dI) vwCl A0 s.heap 0 0 (MQ below ((qV (dC, dI) vwCl (wD a cI cZ M2)) A0) args s 0 0 A0) (wD a cI cZ M) 11 [(0, .ref (a 0)), (1, .int v1)] [] := by
    intro f
    induction f with
    | zero => intro v1 M hq; cases hq
    | succ f_11 ih_11 =>
      intro v1 M hq
      rw [q_X7_note_11] at hq
      refine g_iload_n C dX7_note_11 1 rfl rfl ?_
      refine g_sipush C dX7_note_12 (v := 312) (by decide) ?_
      refine g_icmp_ge C (tgt := 39) dX7_note_15 (by decide) (fun c17 => ?_) (fun c17 => ?_)
      · have hq := ip c17 hq
        refine g_aload_n C dX7_note_39 0 rfl rfl ?_
        refine g_dup C dX7_note_40 rfl ?_
        refine rg_X7_acts C dX7_note_41 ?_
        refine g_iconst C dX7_note_44 (v := 1) (by decide) ?_
        refine g_isub C dX7_note_45 ?_
        refine rp_X7_acts C dX7_note_46 ?_
        exact g_sub [0] rfl (J_49 (mU M 0 7 ((M.1 0 7) - (1 : Int32))) hq)
      · have hq := iq c17 hq
        refine g_aload_n C dX7_note_18 0 rfl rfl ?_
        refine rg_X7_book C dX7_note_19 ?_
        refine g_iload_n C dX7_note_22 1 rfl rfl ?_
        refine g_aload_n C dX7_note_23 0 rfl rfl ?_
        refine rg_X7_book C dX7_note_24 ?_
        refine g_iload_n C dX7_note_27 1 rfl rfl ?_
        refine g_bipush C dX7_note_28 (v := 24) (by decide) ?_
        refine g_iadd C dX7_note_30 ?_
        obtain ⟨h18, hq⟩ := ogd_some hq
        refine gb_ld C (show arD 8 336 from ⟨by decide, by decide, by decide, by decide⟩) h18 dX7_note_31 ?_
        obtain ⟨h19, hq⟩ := ogd_some hq
        refine gb_st C (show arD 8 336 from ⟨by decide, by decide, by decide, by decide⟩) h19 dX7_note_32 ?_
        refine g_iinc C (v := (v1 + (1 : Int32))) (lv2 := [(1, _), (0, _)]) dX7_note_33 1 rfl rfl (by decide) rfl ?_
        refine g_goto C (tgt := 11) dX7_note_36 (by decide) ?_
        exact g_sub [1, 0] rfl (ih_11 (v1 + (1 : Int32)) (mU M 8 v1.toNatClampNeg (M.1 8 (v1 + (24 : Int32)).toNatClampNeg)) hq)
  unfold q_X7_note at hq
  refine g_aload_n C dX7_note_0 0 rfl rfl ?_
  refine rg_X7_acts C dX7_note_1 ?_
  refine g_bipush C dX7_note_4 (v := 14) (by decide) ?_
  refine g_icmp_ne C (tgt := 49) dX7_note_6 (by decide) (fun c21 => ?_) (fun c21 => ?_)
  · have hq := iq c21 hq
    exact g_sub [0] rfl (J_49 M hq)
  · have hq := ip c21 hq
    refine g_iconst C dX7_note_9 (v := 0) (by decide) ?_
    refine g_istore_n C (lv2 := [(1, _), (0, _)]) dX7_note_10 rfl (by decide) rfl ?_
    exact g_sub [1, 0] rfl (L_11 FU (0 : Int32) M hq)
set_option maxHeartbeats 4000000 in
set_option maxRecDepth 100000 in
theorem k_X7_open {l : Launch} {dC : Nat → ClassId} {dI : Nat → Nat → Nat} {a : Nat → Nat} {cI cZ cS : ClassId} (x1 : Int32) (M M2 : MM) (r : Int32) (hq : q_X7_open x1 M = some (r, M2)) : KQ l (dC, dI) vwCl (tyW cI cZ cS) yX7_open cX7_open 2 (some .int) 2 46 [.ref (a 0), .int x1] (wD a cI cZ M) (qI (dC, dI) vwCl (wD a cI cZ M2) r) := by
  refine KQ.of (by decide) (Nat.le_of_ble_eq_true rfl) rfl ?_
  intro p e s m args below meth c A0 C
  unfold q_X7_open at hq
  refine g_aload_n C dX7_open_0 0 rfl rfl ?_
  refine g_iconst C dX7_open_1 (v := 0) (by decide) ?_
  refine rp_X7_thrown C dX7_open_2 ?_
  refine g_aload_n C dX7_open_5 0 rfl rfl ?_
  refine g_iload_n C dX7_open_6 1 rfl rfl ?_
  refine gc_Vi C (k_X7_noWalker x1 (mU M 0 0 (0 : Int32))) wl_830 ok_X7_noWalker rv_X7 rfl ⟨Nat.le_of_ble_eq_true rfl, Nat.le_of_ble_eq_true rfl⟩ ⟨Nat.le_of_ble_eq_true rfl, Nat.le_of_ble_eq_true rfl⟩ rfl (Nat.le_of_ble_eq_true rfl) dX7_open_7 ?_
  refine g_if_eq C (tgt := 15) dX7_open_10 (by decide) (fun c21 => ?_) (fun c21 => ?_)
  · have hq := ip c21 hq
    refine g_aload_n C dX7_open_15 0 rfl rfl ?_
    refine rg_X7_page C dX7_open_16 ?_
    refine g_iconst C dX7_open_19 (v := 5) (by decide) ?_
    obtain ⟨h22, hq⟩ := ogd_some hq
    refine gb_ld C (show arD 6 24 from ⟨by decide, by decide, by decide, by decide⟩) h22 dX7_open_20 ?_
    refine g_iload_n C dX7_open_21 1 rfl rfl ?_
    refine gc_Si C (k_X7_has ((mU M 0 0 (0 : Int32)).1 6 (5 : Int32).toNatClampNeg) x1 (mU M 0 0 (0 : Int32))) wl_811 ok_X7_has ⟨Nat.le_of_ble_eq_true rfl, Nat.le_of_ble_eq_true rfl⟩ ⟨Nat.le_of_ble_eq_true rfl, Nat.le_of_ble_eq_true rfl⟩ rfl (Nat.le_of_ble_eq_true rfl) dX7_open_22 ?_
    refine g_if_eq C (tgt := 31) dX7_open_25 (by decide) (fun c23 => ?_) (fun c23 => ?_)
    · have hq := ip c23 hq
      refine g_aload_n C dX7_open_31 0 rfl rfl ?_
      obtain ⟨z24, Mz24, h25, hq⟩ := obd_some hq
      refine gc_Vv C (k_X7_note  (mU M 0 0 (0 : Int32)) Mz24 z24 h25) wl_851 ok_X7_note rv_X7 rfl ⟨Nat.le_of_ble_eq_true rfl, Nat.le_of_ble_eq_true rfl⟩ ⟨Nat.le_of_ble_eq_true rfl, Nat.le_of_ble_eq_true rfl⟩ rfl (Nat.le_of_ble_eq_true rfl) dX7_open_32 ?_
      refine g_aload_n C dX7_open_35 0 rfl rfl ?_
      refine g_aload_n C dX7_open_36 0 rfl rfl ?_
      refine rg_X7_page C dX7_open_37 ?_
      refine g_iload_n C dX7_open_40 1 rfl rfl ?_
      obtain ⟨z26, Mz26, h27, hq⟩ := obd_some hq
      refine gc_Vv C (k_X7_goOpen 6 (Or.inl rfl) x1 Mz24 Mz26 z26 h27) wl_855 ok_X7_goOpen rv_X7 rfl ⟨Nat.le_of_ble_eq_true rfl, Nat.le_of_ble_eq_true rfl⟩ ⟨Nat.le_of_ble_eq_true rfl, Nat.le_of_ble_eq_true rfl⟩ rfl (Nat.le_of_ble_eq_true rfl) dX7_open_41 ?_
      refine g_aload_n C dX7_open_44 0 rfl rfl ?_
      refine g_aload_n C dX7_open_45 0 rfl rfl ?_
      refine rg_X7_page C dX7_open_46 ?_
      refine g_aload_n C dX7_open_49 0 rfl rfl ?_
      refine rg_X7_page C dX7_open_50 ?_
      refine g_iload_n C dX7_open_53 1 rfl rfl ?_
      obtain ⟨h28, hq⟩ := ogd_some hq
      refine gb_ld C (show arD 6 24 from ⟨by decide, by decide, by decide, by decide⟩) h28 dX7_open_54 ?_
      obtain ⟨z29, Mz29, h30, hq⟩ := obd_some hq
      refine gc_Vi C (k_X7_openIn 6 (Or.inl rfl) (Mz26.1 6 x1.toNatClampNeg) Mz26 Mz29 z29 h30) wl_818 ok_X7_openIn rv_X7 rfl ⟨Nat.le_of_ble_eq_true rfl, Nat.le_of_ble_eq_true rfl⟩ ⟨Nat.le_of_ble_eq_true rfl, Nat.le_of_ble_eq_true rfl⟩ rfl (Nat.le_of_ble_eq_true rfl) dX7_open_55 ?_
      exact g_iret C dX7_open_58 (som2 hq).1 (congrArg (wD a cI cZ) (som2 hq).2)
    · have hq := iq c23 hq
      refine g_bipush C dX7_open_28 (v := -3) (by decide) ?_
      exact g_iret C dX7_open_30 (som2 hq).1 (congrArg (wD a cI cZ) (som2 hq).2)
  · have hq := iq c21 hq
    refine g_iconst C dX7_open_13 (v := -1) (by decide) ?_
    exact g_iret C dX7_open_14 (som2 hq).1 (congrArg (wD a cI cZ) (som2 hq).2)
set_option maxHeartbeats 4000000 in
set_option maxRecDepth 100000 in
theorem k_X7_shut {l : Launch} {dC : Nat → ClassId} {dI : Nat → Nat → Nat} {a : Nat → Nat} {cI cZ cS : ClassId} (x1 : Int32) (M M2 : MM) (r : Int32) (hq : q_X7_shut x1 M = some (r, M2)) : KQ l (dC, dI) vwCl (tyW cI cZ cS) yX7_shut cX7_shut 2 (some .int) 2 46 [.ref (a 0), .int x1] (wD a cI cZ M) (qI (dC, dI) vwCl (wD a cI cZ M2) r) := by
  refine KQ.of (by decide) (Nat.le_of_ble_eq_true rfl) rfl ?_
  intro p e s m args below meth c A0 C
  unfold q_X7_shut at hq
  refine g_aload_n C dX7_shut_0 0 rfl rfl ?_
  refine g_iconst C dX7_shut_1 (v := 0) (by decide) ?_
  refine rp_X7_thrown C dX7_shut_2 ?_
  refine g_aload_n C dX7_shut_5 0 rfl rfl ?_
  refine g_iload_n C dX7_shut_6 1 rfl rfl ?_
  refine gc_Vi C (k_X7_noWalker x1 (mU M 0 0 (0 : Int32))) wl_830 ok_X7_noWalker rv_X7 rfl ⟨Nat.le_of_ble_eq_true rfl, Nat.le_of_ble_eq_true rfl⟩ ⟨Nat.le_of_ble_eq_true rfl, Nat.le_of_ble_eq_true rfl⟩ rfl (Nat.le_of_ble_eq_true rfl) dX7_shut_7 ?_
  refine g_if_eq C (tgt := 15) dX7_shut_10 (by decide) (fun c21 => ?_) (fun c21 => ?_)
  · have hq := ip c21 hq
    refine g_aload_n C dX7_shut_15 0 rfl rfl ?_
    refine rg_X7_page C dX7_shut_16 ?_
    refine g_iconst C dX7_shut_19 (v := 5) (by decide) ?_
    obtain ⟨h22, hq⟩ := ogd_some hq
    refine gb_ld C (show arD 6 24 from ⟨by decide, by decide, by decide, by decide⟩) h22 dX7_shut_20 ?_
    refine g_iload_n C dX7_shut_21 1 rfl rfl ?_
    refine gc_Si C (k_X7_has ((mU M 0 0 (0 : Int32)).1 6 (5 : Int32).toNatClampNeg) x1 (mU M 0 0 (0 : Int32))) wl_811 ok_X7_has ⟨Nat.le_of_ble_eq_true rfl, Nat.le_of_ble_eq_true rfl⟩ ⟨Nat.le_of_ble_eq_true rfl, Nat.le_of_ble_eq_true rfl⟩ rfl (Nat.le_of_ble_eq_true rfl) dX7_shut_22 ?_
    refine g_if_ne C (tgt := 31) dX7_shut_25 (by decide) (fun c23 => ?_) (fun c23 => ?_)
    · have hq := iq c23 hq
      refine g_aload_n C dX7_shut_31 0 rfl rfl ?_
      obtain ⟨z24, Mz24, h25, hq⟩ := obd_some hq
      refine gc_Vv C (k_X7_note  (mU M 0 0 (0 : Int32)) Mz24 z24 h25) wl_851 ok_X7_note rv_X7 rfl ⟨Nat.le_of_ble_eq_true rfl, Nat.le_of_ble_eq_true rfl⟩ ⟨Nat.le_of_ble_eq_true rfl, Nat.le_of_ble_eq_true rfl⟩ rfl (Nat.le_of_ble_eq_true rfl) dX7_shut_32 ?_
      refine g_aload_n C dX7_shut_35 0 rfl rfl ?_
      refine g_aload_n C dX7_shut_36 0 rfl rfl ?_
      refine rg_X7_page C dX7_shut_37 ?_
      refine g_iload_n C dX7_shut_40 1 rfl rfl ?_
      obtain ⟨z26, Mz26, h27, hq⟩ := obd_some hq
      refine gc_Vv C (k_X7_goShut 6 (Or.inl rfl) x1 Mz24 Mz26 z26 h27) wl_866 ok_X7_goShut rv_X7 rfl ⟨Nat.le_of_ble_eq_true rfl, Nat.le_of_ble_eq_true rfl⟩ ⟨Nat.le_of_ble_eq_true rfl, Nat.le_of_ble_eq_true rfl⟩ rfl (Nat.le_of_ble_eq_true rfl) dX7_shut_41 ?_
      refine g_aload_n C dX7_shut_44 0 rfl rfl ?_
      refine g_aload_n C dX7_shut_45 0 rfl rfl ?_
      refine rg_X7_page C dX7_shut_46 ?_
      refine g_aload_n C dX7_shut_49 0 rfl rfl ?_
      refine rg_X7_page C dX7_shut_50 ?_
      refine g_iload_n C dX7_shut_53 1 rfl rfl ?_
      obtain ⟨h28, hq⟩ := ogd_some hq
      refine gb_ld C (show arD 6 24 from ⟨by decide, by decide, by decide, by decide⟩) h28 dX7_shut_54 ?_
      obtain ⟨z29, Mz29, h30, hq⟩ := obd_some hq
      refine gc_Vi C (k_X7_openIn 6 (Or.inl rfl) (Mz26.1 6 x1.toNatClampNeg) Mz26 Mz29 z29 h30) wl_818 ok_X7_openIn rv_X7 rfl ⟨Nat.le_of_ble_eq_true rfl, Nat.le_of_ble_eq_true rfl⟩ ⟨Nat.le_of_ble_eq_true rfl, Nat.le_of_ble_eq_true rfl⟩ rfl (Nat.le_of_ble_eq_true rfl) dX7_shut_55 ?_
      exact g_iret C dX7_shut_58 (som2 hq).1 (congrArg (wD a cI cZ) (som2 hq).2)
    · have hq := ip c23 hq
      refine g_bipush C dX7_shut_28 (v := -3) (by decide) ?_
      exact g_iret C dX7_shut_30 (som2 hq).1 (congrArg (wD a cI cZ) (som2 hq).2)
  · have hq := iq c21 hq
    refine g_iconst C dX7_shut_13 (v := -1) (by decide) ?_
    exact g_iret C dX7_shut_14 (som2 hq).1 (congrArg (wD a cI cZ) (som2 hq).2)
set_option maxHeartbeats 4000000 in
set_option maxRecDepth 100000 in
theorem k_X7_canWalk {l : Launch} {dC : Nat → ClassId} {dI : Nat → Nat → Nat} {a : Nat → Nat} {cI cZ cS : ClassId} (p0 : Nat) (hp0 : p0 = 6 ∨ p0 = 7) (x1 : Int32) (x2 : Int32) (M M2 : MM) (r : Bool) (hq : q_X7_canWalk p0 x1 x2 M = some (r, M2)) : KQ l (dC, dI) vwCl (tyW cI cZ cS) yX7_canWalk cX7_canWalk 3 (some .boolean) 2 45 [.ref (a p0), .int x1, .int x2] (wD a cI cZ M) (qI (dC, dI) vwCl (wD a cI cZ M2) (b2i r)) := by
  refine KQ.of (by decide) (Nat.le_of_ble_eq_true rfl) rfl ?_
  intro p e s m args below meth c A0 C
  unfold q_X7_canWalk at hq
  refine g_aload_n C dX7_canWalk_0 0 rfl rfl ?_
  refine g_iload_n C dX7_canWalk_1 1 rfl rfl ?_
  obtain ⟨h9, hq⟩ := ogd_some hq
  refine gb_ld C (arD_p hp0) h9 dX7_canWalk_2 ?_
  refine g_iload_n C dX7_canWalk_3 2 rfl rfl ?_
  refine g_iadd C dX7_canWalk_4 ?_
  refine gc_Si C (k_X7_noStreet ((M.1 p0 x1.toNatClampNeg) + x2) M) wl_843 ok_X7_noStreet ⟨Nat.le_of_ble_eq_true rfl, Nat.le_of_ble_eq_true rfl⟩ ⟨Nat.le_of_ble_eq_true rfl, Nat.le_of_ble_eq_true rfl⟩ rfl (Nat.le_of_ble_eq_true rfl) dX7_canWalk_5 ?_
  refine g_if_ne C (tgt := 25) dX7_canWalk_8 (by decide) (fun c10 => ?_) (fun c10 => ?_)
  · have hq := iq c10 hq
    refine g_iconst C dX7_canWalk_25 (v := 0) (by decide) ?_
    exact g_zret C dX7_canWalk_26 (Or.inl rfl) (congrArg b2i (som2 hq).1) (congrArg (wD a cI cZ) (som2 hq).2)
  · have hq := ip c10 hq
    refine g_aload_n C dX7_canWalk_11 0 rfl rfl ?_
    refine g_iconst C dX7_canWalk_12 (v := 5) (by decide) ?_
    obtain ⟨h11, hq⟩ := ogd_some hq
    refine gb_ld C (arD_p hp0) h11 dX7_canWalk_13 ?_
    refine g_iload_n C dX7_canWalk_14 1 rfl rfl ?_
    refine gc_Si C (k_X7_has (M.1 p0 (5 : Int32).toNatClampNeg) x1 M) wl_811 ok_X7_has ⟨Nat.le_of_ble_eq_true rfl, Nat.le_of_ble_eq_true rfl⟩ ⟨Nat.le_of_ble_eq_true rfl, Nat.le_of_ble_eq_true rfl⟩ rfl (Nat.le_of_ble_eq_true rfl) dX7_canWalk_15 ?_
    refine g_if_ne C (tgt := 25) dX7_canWalk_18 (by decide) (fun c12 => ?_) (fun c12 => ?_)
    · have hq := iq c12 hq
      refine g_iconst C dX7_canWalk_25 (v := 0) (by decide) ?_
      exact g_zret C dX7_canWalk_26 (Or.inl rfl) (congrArg b2i (som2 hq).1) (congrArg (wD a cI cZ) (som2 hq).2)
    · have hq := ip c12 hq
      refine g_iconst C dX7_canWalk_21 (v := 1) (by decide) ?_
      refine g_goto C (tgt := 26) dX7_canWalk_22 (by decide) ?_
      exact g_zret C dX7_canWalk_26 (Or.inr rfl) (congrArg b2i (som2 hq).1) (congrArg (wD a cI cZ) (som2 hq).2)
set_option maxHeartbeats 4000000 in
set_option maxRecDepth 100000 in
theorem k_X7_walk {l : Launch} {dC : Nat → ClassId} {dI : Nat → Nat → Nat} {a : Nat → Nat} {cI cZ cS : ClassId} (x1 : Int32) (x2 : Int32) (M M2 : MM) (r : Int32) (hq : q_X7_walk x1 x2 M = some (r, M2)) : KQ l (dC, dI) vwCl (tyW cI cZ cS) yX7_walk cX7_walk 4 (some .int) 3 67 [.ref (a 0), .int x1, .int x2] (wD a cI cZ M) (qI (dC, dI) vwCl (wD a cI cZ M2) r) := by
  refine KQ.of (by decide) (Nat.le_of_ble_eq_true rfl) rfl ?_
  intro p e s m args below meth c A0 C
  have J_24 : ∀ (s0 : Int32) (M : MM), q_X7_walk_24 x1 x2  s0 M = some (r, M2) → gG p l e ({ frames := 3, cells := 0, slots := 0, locals := 67 }) s m args below meth c 4 (dC, dI) vwCl A0 s.heap 0 0 (MQ below ((qI (dC, dI) vwCl (wD a cI cZ M2) r) A0) args s 0 0 A0) (wD a cI cZ M) 24 [(0, .ref (a 0)), (1, .int x1)] [.int s0] := by
    intro s0 M hq
    unfold q_X7_walk_24 at hq
    refine g_istore_n C (lv2 := [(3, _), (0, _), (1, _)]) dX7_walk_24 rfl (by decide) rfl ?_
    refine g_aload_n C dX7_walk_25 1 rfl rfl ?_
    refine rg_X7_page C dX7_walk_26 ?_
    refine g_iload_n C dX7_walk_29 2 rfl rfl ?_
    refine g_iload_n C dX7_walk_30 0 rfl rfl ?_
    obtain ⟨z19, Mz19, h20, hq⟩ := obd_some hq
    refine gc_Si C (k_X7_canWalk 6 (Or.inl rfl) x1 s0 M Mz19 z19 h20) wl_874 ok_X7_canWalk ⟨Nat.le_of_ble_eq_true rfl, Nat.le_of_ble_eq_true rfl⟩ ⟨Nat.le_of_ble_eq_true rfl, Nat.le_of_ble_eq_true rfl⟩ rfl (Nat.le_of_ble_eq_true rfl) dX7_walk_31 ?_
    refine g_if_ne C (tgt := 40) dX7_walk_34 (by decide) (fun c21 => ?_) (fun c21 => ?_)
    · have hq := iq c21 hq
      refine g_aload_n C dX7_walk_40 1 rfl rfl ?_
      obtain ⟨z22, Mz22, h23, hq⟩ := obd_some hq
      refine gc_Vv C (k_X7_note  Mz19 Mz22 z22 h23) wl_851 ok_X7_note rv_X7 rfl ⟨Nat.le_of_ble_eq_true rfl, Nat.le_of_ble_eq_true rfl⟩ ⟨Nat.le_of_ble_eq_true rfl, Nat.le_of_ble_eq_true rfl⟩ rfl (Nat.le_of_ble_eq_true rfl) dX7_walk_41 ?_
      refine g_aload_n C dX7_walk_44 1 rfl rfl ?_
      refine rg_X7_page C dX7_walk_45 ?_
      refine g_iload_n C dX7_walk_48 2 rfl rfl ?_
      refine g_dup2_11 C dX7_walk_49 rfl rfl ?_
      obtain ⟨h24, hq⟩ := ogd_some hq
      refine gb_ld C (show arD 6 24 from ⟨by decide, by decide, by decide, by decide⟩) h24 dX7_walk_50 ?_
      refine g_iload_n C dX7_walk_51 0 rfl rfl ?_
      refine g_iadd C dX7_walk_52 ?_
      obtain ⟨h25, hq⟩ := ogd_some hq
      refine gb_st C (show arD 6 24 from ⟨by decide, by decide, by decide, by decide⟩) h25 dX7_walk_53 ?_
      refine g_aload_n C dX7_walk_54 1 rfl rfl ?_
      refine rg_X7_page C dX7_walk_55 ?_
      refine g_iload_n C dX7_walk_58 2 rfl rfl ?_
      obtain ⟨h26, hq⟩ := ogd_some hq
      refine gb_ld C (show arD 6 24 from ⟨by decide, by decide, by decide, by decide⟩) h26 dX7_walk_59 ?_
      exact g_iret C dX7_walk_60 (som2 hq).1 (congrArg (wD a cI cZ) (som2 hq).2)
    · have hq := ip c21 hq
      refine g_bipush C dX7_walk_37 (v := -3) (by decide) ?_
      exact g_iret C dX7_walk_39 (som2 hq).1 (congrArg (wD a cI cZ) (som2 hq).2)
  unfold q_X7_walk at hq
  refine g_aload_n C dX7_walk_0 0 rfl rfl ?_
  refine g_iconst C dX7_walk_1 (v := 0) (by decide) ?_
  refine rp_X7_thrown C dX7_walk_2 ?_
  refine g_aload_n C dX7_walk_5 0 rfl rfl ?_
  refine g_iload_n C dX7_walk_6 1 rfl rfl ?_
  refine gc_Vi C (k_X7_noWalker x1 (mU M 0 0 (0 : Int32))) wl_830 ok_X7_noWalker rv_X7 rfl ⟨Nat.le_of_ble_eq_true rfl, Nat.le_of_ble_eq_true rfl⟩ ⟨Nat.le_of_ble_eq_true rfl, Nat.le_of_ble_eq_true rfl⟩ rfl (Nat.le_of_ble_eq_true rfl) dX7_walk_7 ?_
  refine g_if_eq C (tgt := 15) dX7_walk_10 (by decide) (fun c29 => ?_) (fun c29 => ?_)
  · have hq := ip c29 hq
    refine g_iload_n C dX7_walk_15 2 rfl rfl ?_
    refine g_if_eq C (tgt := 23) dX7_walk_16 (by decide) (fun c30 => ?_) (fun c30 => ?_)
    · have hq := ip c30 hq
      refine g_iconst C dX7_walk_23 (v := -1) (by decide) ?_
      exact g_sub [0, 1] rfl (J_24 (-1 : Int32) (mU M 0 0 (0 : Int32)) hq)
    · have hq := iq c30 hq
      refine g_iconst C dX7_walk_19 (v := 1) (by decide) ?_
      refine g_goto C (tgt := 24) dX7_walk_20 (by decide) ?_
      exact g_sub [0, 1] rfl (J_24 (1 : Int32) (mU M 0 0 (0 : Int32)) hq)
  · have hq := iq c29 hq
    refine g_iconst C dX7_walk_13 (v := -1) (by decide) ?_
    exact g_iret C dX7_walk_14 (som2 hq).1 (congrArg (wD a cI cZ) (som2 hq).2)
set_option maxHeartbeats 4000000 in
set_option maxRecDepth 100000 in
theorem k_X7_hour {l : Launch} {dC : Nat → ClassId} {dI : Nat → Nat → Nat} {a : Nat → Nat} {cI cZ cS : ClassId}  (M M2 : MM) (r : Int32) (hq : q_X7_hour  M = some (r, M2)) : KQ l (dC, dI) vwCl (tyW cI cZ cS) yX7_hour cX7_hour 1 (some .int) 4 92 [.ref (a 0)] (wD a cI cZ M) (qI (dC, dI) vwCl (wD a cI cZ M2) r) := by
  refine KQ.of (by decide) (Nat.le_of_ble_eq_true rfl) rfl ?_
  intro p e s m args below meth c A0 C
  unfold q_X7_hour at hq
  refine g_aload_n C dX7_hour_0 0 rfl rfl ?_
  refine g_iconst C dX7_hour_1 (v := 0) (by decide) ?_
  refine rp_X7_thrown C dX7_hour_2 ?_
  refine g_aload_n C dX7_hour_5 0 rfl rfl ?_
  obtain ⟨z9, Mz9, h10, hq⟩ := obd_some hq
  refine gc_Vv C (k_X7_note  (mU M 0 0 (0 : Int32)) Mz9 z9 h10) wl_851 ok_X7_note rv_X7 rfl ⟨Nat.le_of_ble_eq_true rfl, Nat.le_of_ble_eq_true rfl⟩ ⟨Nat.le_of_ble_eq_true rfl, Nat.le_of_ble_eq_true rfl⟩ rfl (Nat.le_of_ble_eq_true rfl) dX7_hour_6 ?_
  refine g_aload_n C dX7_hour_9 0 rfl rfl ?_
  refine g_aload_n C dX7_hour_10 0 rfl rfl ?_
  refine rg_X7_page C dX7_hour_11 ?_
  obtain ⟨z11, Mz11, h12, hq⟩ := obd_some hq
  refine gc_Vi C (k_X7_goHour 6 (Or.inl rfl) Mz9 Mz11 z11 h12) wl_881 ok_X7_goHour rv_X7 rfl ⟨Nat.le_of_ble_eq_true rfl, Nat.le_of_ble_eq_true rfl⟩ ⟨Nat.le_of_ble_eq_true rfl, Nat.le_of_ble_eq_true rfl⟩ rfl (Nat.le_of_ble_eq_true rfl) dX7_hour_14 ?_
  exact g_iret C dX7_hour_17 (som2 hq).1 (congrArg (wD a cI cZ) (som2 hq).2)
set_option maxHeartbeats 4000000 in
set_option maxRecDepth 100000 in
theorem k_X7_undo {l : Launch} {dC : Nat → ClassId} {dI : Nat → Nat → Nat} {a : Nat → Nat} {cI cZ cS : ClassId}  (M M2 : MM) (r : Int32) (hq : q_X7_undo  M = some (r, M2)) : KQ l (dC, dI) vwCl (tyW cI cZ cS) yX7_undo cX7_undo 2 (some .int) 0 0 [.ref (a 0)] (wD a cI cZ M) (qI (dC, dI) vwCl (wD a cI cZ M2) r) := by
  refine KQ.of (by decide) (Nat.le_of_ble_eq_true rfl) rfl ?_
  intro p e s m args below meth c A0 C
  have L_27 : ∀ (f : Nat) (v1 : Int32) (M : MM), q_X7_undo_27   f v1 M = some (r, M2) → gG p l e ({ frames := 0, cells := 0, slots := 0, locals := 0 }) s m args below meth c 2 (dC, dI) vwCl A0 s.heap 0 0 (MQ below ((qI (dC, dI) vwCl (wD a cI cZ M2) r) A0) args s 0 0 A0) (wD a cI cZ M) 27 [(0, .ref (a 0)), (1, .int v1)] [] := by
    intro f
    induction f with
    | zero => intro v1 M hq; cases hq
    | succ f_27 ih_27 =>
      intro v1 M hq
      rw [q_X7_undo_27] at hq
      refine g_iload_n C dX7_undo_27 1 rfl rfl ?_
      refine g_bipush C dX7_undo_28 (v := 24) (by decide) ?_
      refine g_icmp_ge C (tgt := 59) dX7_undo_30 (by decide) (fun c8 => ?_) (fun c8 => ?_)
      · have hq := ip c8 hq
        refine g_aload_n C dX7_undo_59 0 rfl rfl ?_
        refine rg_X7_acts C dX7_undo_60 ?_
        exact g_iret C dX7_undo_63 (som2 hq).1 (congrArg (wD a cI cZ) (som2 hq).2)
      · have hq := iq c8 hq
        refine g_aload_n C dX7_undo_33 0 rfl rfl ?_
        refine rg_X7_page C dX7_undo_34 ?_
        refine g_iload_n C dX7_undo_37 1 rfl rfl ?_
        refine g_aload_n C dX7_undo_38 0 rfl rfl ?_
        refine rg_X7_book C dX7_undo_39 ?_
        refine g_bipush C dX7_undo_42 (v := 24) (by decide) ?_
        refine g_aload_n C dX7_undo_44 0 rfl rfl ?_
        refine rg_X7_acts C dX7_undo_45 ?_
        refine g_imul C dX7_undo_48 ?_
        refine g_iload_n C dX7_undo_49 1 rfl rfl ?_
        refine g_iadd C dX7_undo_50 ?_
        obtain ⟨h9, hq⟩ := ogd_some hq
        refine gb_ld C (show arD 8 336 from ⟨by decide, by decide, by decide, by decide⟩) h9 dX7_undo_51 ?_
        obtain ⟨h10, hq⟩ := ogd_some hq
        refine gb_st C (show arD 6 24 from ⟨by decide, by decide, by decide, by decide⟩) h10 dX7_undo_52 ?_
        refine g_iinc C (v := (v1 + (1 : Int32))) (lv2 := [(1, _), (0, _)]) dX7_undo_53 1 rfl rfl (by decide) rfl ?_
        refine g_goto C (tgt := 27) dX7_undo_56 (by decide) ?_
        exact g_sub [1, 0] rfl (ih_27 (v1 + (1 : Int32)) (mU M 6 v1.toNatClampNeg (M.1 8 (((24 : Int32) * (M.1 0 7)) + v1).toNatClampNeg)) hq)
  unfold q_X7_undo at hq
  refine g_aload_n C dX7_undo_0 0 rfl rfl ?_
  refine g_iconst C dX7_undo_1 (v := 0) (by decide) ?_
  refine rp_X7_thrown C dX7_undo_2 ?_
  refine g_aload_n C dX7_undo_5 0 rfl rfl ?_
  refine rg_X7_acts C dX7_undo_6 ?_
  refine g_if_ne C (tgt := 15) dX7_undo_9 (by decide) (fun c12 => ?_) (fun c12 => ?_)
  · have hq := iq c12 hq
    refine g_aload_n C dX7_undo_15 0 rfl rfl ?_
    refine g_dup C dX7_undo_16 rfl ?_
    refine rg_X7_acts C dX7_undo_17 ?_
    refine g_iconst C dX7_undo_20 (v := 1) (by decide) ?_
    refine g_isub C dX7_undo_21 ?_
    refine rp_X7_acts C dX7_undo_22 ?_
    refine g_iconst C dX7_undo_25 (v := 0) (by decide) ?_
    refine g_istore_n C (lv2 := [(1, _), (0, _)]) dX7_undo_26 rfl (by decide) rfl ?_
    exact g_sub [1, 0] rfl (L_27 FU (0 : Int32) (mU (mU M 0 0 (0 : Int32)) 0 7 (((mU M 0 0 (0 : Int32)).1 0 7) - (1 : Int32))) hq)
  · have hq := ip c12 hq
    refine g_bipush C dX7_undo_12 (v := -3) (by decide) ?_
    exact g_iret C dX7_undo_14 (som2 hq).1 (congrArg (wD a cI cZ) (som2 hq).2)
set_option maxHeartbeats 4000000 in
set_option maxRecDepth 100000 in
theorem k_X7_begin {l : Launch} {dC : Nat → ClassId} {dI : Nat → Nat → Nat} {a : Nat → Nat} {cI cZ cS : ClassId}  (M M2 : MM) (r : Unit) (hq : q_X7_begin  M = some (r, M2)) : KQ l (dC, dI) vwCl (tyW cI cZ cS) yX7_begin cX7_begin 2 none 0 0 [.ref (a 0)] (wD a cI cZ M) (qV (dC, dI) vwCl (wD a cI cZ M2)) := by
  refine KQ.of (by decide) (Nat.le_of_ble_eq_true rfl) rfl ?_
  intro p e s m args below meth c A0 C
  have L_2 : ∀ (f : Nat) (v1 : Int32) (M : MM), q_X7_begin_2   f v1 M = some (r, M2) → gG p l e ({ frames := 0, cells := 0, slots := 0, locals := 0 }) s m args below meth c 2 (dC, dI) vwCl A0 s.heap 0 0 (MQ below ((qV (dC, dI) vwCl (wD a cI cZ M2)) A0) args s 0 0 A0) (wD a cI cZ M) 2 [(0, .ref (a 0)), (1, .int v1)] [] := by
    intro f
    induction f with
    | zero => intro v1 M hq; cases hq
    | succ f_2 ih_2 =>
      intro v1 M hq
      rw [q_X7_begin_2] at hq
      refine g_iload_n C dX7_begin_2 1 rfl rfl ?_
      refine g_bipush C dX7_begin_3 (v := 24) (by decide) ?_
      refine g_icmp_ge C (tgt := 26) dX7_begin_5 (by decide) (fun c7 => ?_) (fun c7 => ?_)
      · have hq := ip c7 hq
        exact g_vret C dX7_begin_26 (congrArg (wD a cI cZ) (som2 hq).2)
      · have hq := iq c7 hq
        refine g_aload_n C dX7_begin_8 0 rfl rfl ?_
        refine rg_X7_trial C dX7_begin_9 ?_
        refine g_iload_n C dX7_begin_12 1 rfl rfl ?_
        refine g_aload_n C dX7_begin_13 0 rfl rfl ?_
        refine rg_X7_page C dX7_begin_14 ?_
        refine g_iload_n C dX7_begin_17 1 rfl rfl ?_
        obtain ⟨h8, hq⟩ := ogd_some hq
        refine gb_ld C (show arD 6 24 from ⟨by decide, by decide, by decide, by decide⟩) h8 dX7_begin_18 ?_
        obtain ⟨h9, hq⟩ := ogd_some hq
        refine gb_st C (show arD 7 24 from ⟨by decide, by decide, by decide, by decide⟩) h9 dX7_begin_19 ?_
        refine g_iinc C (v := (v1 + (1 : Int32))) (lv2 := [(1, _), (0, _)]) dX7_begin_20 1 rfl rfl (by decide) rfl ?_
        refine g_goto C (tgt := 2) dX7_begin_23 (by decide) ?_
        exact g_sub [1, 0] rfl (ih_2 (v1 + (1 : Int32)) (mU M 7 v1.toNatClampNeg (M.1 6 v1.toNatClampNeg)) hq)
  unfold q_X7_begin at hq
  refine g_iconst C dX7_begin_0 (v := 0) (by decide) ?_
  refine g_istore_n C (lv2 := [(1, _), (0, _)]) dX7_begin_1 rfl (by decide) rfl ?_
  exact g_sub [1, 0] rfl (L_2 FU (0 : Int32) M hq)
set_option maxHeartbeats 4000000 in
set_option maxRecDepth 100000 in
theorem k_X7_wet {l : Launch} {dC : Nat → ClassId} {dI : Nat → Nat → Nat} {a : Nat → Nat} {cI cZ cS : ClassId} (x1 : Int32) (x2 : Int32) (M M2 : MM) (r : Int32) (hq : q_X7_wet x1 x2 M = some (r, M2)) : KQ l (dC, dI) vwCl (tyW cI cZ cS) yX7_wet cX7_wet 3 (some .int) 5 114 [.ref (a 0), .int x1, .int x2] (wD a cI cZ M) (qI (dC, dI) vwCl (wD a cI cZ M2) r) := by
  refine KQ.of (by decide) (Nat.le_of_ble_eq_true rfl) rfl ?_
  intro p e s m args below meth c A0 C
  unfold q_X7_wet at hq
  refine g_aload_n C dX7_wet_0 0 rfl rfl ?_
  refine g_iconst C dX7_wet_1 (v := 0) (by decide) ?_
  refine rp_X7_thrown C dX7_wet_2 ?_
  refine g_iload_n C dX7_wet_5 1 rfl rfl ?_
  refine gc_Si C (k_X7_noStreet x1 (mU M 0 0 (0 : Int32))) wl_843 ok_X7_noStreet ⟨Nat.le_of_ble_eq_true rfl, Nat.le_of_ble_eq_true rfl⟩ ⟨Nat.le_of_ble_eq_true rfl, Nat.le_of_ble_eq_true rfl⟩ rfl (Nat.le_of_ble_eq_true rfl) dX7_wet_6 ?_
  refine g_if_eq C (tgt := 14) dX7_wet_9 (by decide) (fun c15 => ?_) (fun c15 => ?_)
  · have hq := ip c15 hq
    refine g_iload_n C dX7_wet_14 2 rfl rfl ?_
    refine g_i2l C dX7_wet_15 rfl ?_
    refine g_lconst C dX7_wet_16 (v := 0) (by decide) ?_
    refine g_ldc2 C wl_897 dX7_wet_17 ?_
    refine gc_Si C (k_X7_in (x2.toInt64) (0 : Int64) (20 : Int64) (mU M 0 0 (0 : Int32))) wl_768 ok_X7_in ⟨Nat.le_of_ble_eq_true rfl, Nat.le_of_ble_eq_true rfl⟩ ⟨Nat.le_of_ble_eq_true rfl, Nat.le_of_ble_eq_true rfl⟩ rfl (Nat.le_of_ble_eq_true rfl) dX7_wet_20 ?_
    refine g_if_ne C (tgt := 29) dX7_wet_23 (by decide) (fun c16 => ?_) (fun c16 => ?_)
    · have hq := iq c16 hq
      refine g_aload_n C dX7_wet_29 0 rfl rfl ?_
      obtain ⟨z17, Mz17, h18, hq⟩ := obd_some hq
      refine gc_Vv C (k_X7_begin  (mU M 0 0 (0 : Int32)) Mz17 z17 h18) wl_898 ok_X7_begin rv_X7 rfl ⟨Nat.le_of_ble_eq_true rfl, Nat.le_of_ble_eq_true rfl⟩ ⟨Nat.le_of_ble_eq_true rfl, Nat.le_of_ble_eq_true rfl⟩ rfl (Nat.le_of_ble_eq_true rfl) dX7_wet_30 ?_
      refine g_aload_n C dX7_wet_33 0 rfl rfl ?_
      refine g_iload_n C dX7_wet_34 2 rfl rfl ?_
      obtain ⟨z19, Mz19, h20, hq⟩ := obd_some hq
      refine gc_Vv C (k_X7_goHours x2 Mz17 Mz19 z19 h20) wl_902 ok_X7_goHours rv_X7 rfl ⟨Nat.le_of_ble_eq_true rfl, Nat.le_of_ble_eq_true rfl⟩ ⟨Nat.le_of_ble_eq_true rfl, Nat.le_of_ble_eq_true rfl⟩ rfl (Nat.le_of_ble_eq_true rfl) dX7_wet_35 ?_
      refine g_aload_n C dX7_wet_38 0 rfl rfl ?_
      refine rg_X7_trial C dX7_wet_39 ?_
      refine g_bipush C dX7_wet_42 (v := 12) (by decide) ?_
      refine g_iload_n C dX7_wet_44 1 rfl rfl ?_
      refine g_iadd C dX7_wet_45 ?_
      obtain ⟨h21, hq⟩ := ogd_some hq
      refine gb_ld C (show arD 7 24 from ⟨by decide, by decide, by decide, by decide⟩) h21 dX7_wet_46 ?_
      exact g_iret C dX7_wet_47 (som2 hq).1 (congrArg (wD a cI cZ) (som2 hq).2)
    · have hq := ip c16 hq
      refine g_bipush C dX7_wet_26 (v := -2) (by decide) ?_
      exact g_iret C dX7_wet_28 (som2 hq).1 (congrArg (wD a cI cZ) (som2 hq).2)
  · have hq := iq c15 hq
    refine g_iconst C dX7_wet_12 (v := -1) (by decide) ?_
    exact g_iret C dX7_wet_13 (som2 hq).1 (congrArg (wD a cI cZ) (som2 hq).2)
set_option maxHeartbeats 4000000 in
set_option maxRecDepth 100000 in
theorem k_X7_needs {l : Launch} {dC : Nat → ClassId} {dI : Nat → Nat → Nat} {a : Nat → Nat} {cI cZ cS : ClassId} (x1 : Int32) (x2 : Int32) (M M2 : MM) (r : Int32) (hq : q_X7_needs x1 x2 M = some (r, M2)) : KQ l (dC, dI) vwCl (tyW cI cZ cS) yX7_needs cX7_needs 3 (some .int) 5 114 [.ref (a 0), .int x1, .int x2] (wD a cI cZ M) (qI (dC, dI) vwCl (wD a cI cZ M2) r) := by
  refine KQ.of (by decide) (Nat.le_of_ble_eq_true rfl) rfl ?_
  intro p e s m args below meth c A0 C
  unfold q_X7_needs at hq
  refine g_aload_n C dX7_needs_0 0 rfl rfl ?_
  refine g_iconst C dX7_needs_1 (v := 0) (by decide) ?_
  refine rp_X7_thrown C dX7_needs_2 ?_
  refine g_iload_n C dX7_needs_5 1 rfl rfl ?_
  refine g_i2l C dX7_needs_6 rfl ?_
  refine g_lconst C dX7_needs_7 (v := 0) (by decide) ?_
  refine g_ldc2 C wl_897 dX7_needs_8 ?_
  refine gc_Si C (k_X7_in (x1.toInt64) (0 : Int64) (20 : Int64) (mU M 0 0 (0 : Int32))) wl_768 ok_X7_in ⟨Nat.le_of_ble_eq_true rfl, Nat.le_of_ble_eq_true rfl⟩ ⟨Nat.le_of_ble_eq_true rfl, Nat.le_of_ble_eq_true rfl⟩ rfl (Nat.le_of_ble_eq_true rfl) dX7_needs_11 ?_
  refine g_if_eq C (tgt := 27) dX7_needs_14 (by decide) (fun c17 => ?_) (fun c17 => ?_)
  · have hq := ip c17 hq
    refine g_bipush C dX7_needs_27 (v := -2) (by decide) ?_
    exact g_iret C dX7_needs_29 (som2 hq).1 (congrArg (wD a cI cZ) (som2 hq).2)
  · have hq := iq c17 hq
    refine g_iload_n C dX7_needs_17 2 rfl rfl ?_
    refine g_i2l C dX7_needs_18 rfl ?_
    refine g_lconst C dX7_needs_19 (v := 0) (by decide) ?_
    refine g_lconst C dX7_needs_20 (v := 1) (by decide) ?_
    refine gc_Si C (k_X7_in (x2.toInt64) (0 : Int64) (1 : Int64) (mU M 0 0 (0 : Int32))) wl_768 ok_X7_in ⟨Nat.le_of_ble_eq_true rfl, Nat.le_of_ble_eq_true rfl⟩ ⟨Nat.le_of_ble_eq_true rfl, Nat.le_of_ble_eq_true rfl⟩ rfl (Nat.le_of_ble_eq_true rfl) dX7_needs_21 ?_
    refine g_if_ne C (tgt := 30) dX7_needs_24 (by decide) (fun c18 => ?_) (fun c18 => ?_)
    · have hq := iq c18 hq
      refine g_aload_n C dX7_needs_30 0 rfl rfl ?_
      obtain ⟨z19, Mz19, h20, hq⟩ := obd_some hq
      refine gc_Vv C (k_X7_begin  (mU M 0 0 (0 : Int32)) Mz19 z19 h20) wl_898 ok_X7_begin rv_X7 rfl ⟨Nat.le_of_ble_eq_true rfl, Nat.le_of_ble_eq_true rfl⟩ ⟨Nat.le_of_ble_eq_true rfl, Nat.le_of_ble_eq_true rfl⟩ rfl (Nat.le_of_ble_eq_true rfl) dX7_needs_31 ?_
      refine g_aload_n C dX7_needs_34 0 rfl rfl ?_
      refine g_iload_n C dX7_needs_35 1 rfl rfl ?_
      obtain ⟨z21, Mz21, h22, hq⟩ := obd_some hq
      refine gc_Vv C (k_X7_goHours x1 Mz19 Mz21 z21 h22) wl_902 ok_X7_goHours rv_X7 rfl ⟨Nat.le_of_ble_eq_true rfl, Nat.le_of_ble_eq_true rfl⟩ ⟨Nat.le_of_ble_eq_true rfl, Nat.le_of_ble_eq_true rfl⟩ rfl (Nat.le_of_ble_eq_true rfl) dX7_needs_36 ?_
      refine g_aload_n C dX7_needs_39 0 rfl rfl ?_
      refine g_aload_n C dX7_needs_40 0 rfl rfl ?_
      refine rg_X7_trial C dX7_needs_41 ?_
      refine g_iload_n C dX7_needs_44 2 rfl rfl ?_
      refine g_iconst C dX7_needs_45 (v := 1) (by decide) ?_
      refine g_iadd C dX7_needs_46 ?_
      obtain ⟨z23, Mz23, h24, hq⟩ := obd_some hq
      refine gc_Vi C (k_X7_needsThat 7 (Or.inr rfl) (x2 + (1 : Int32)) Mz21 Mz23 z23 h24) wl_822 ok_X7_needsThat rv_X7 rfl ⟨Nat.le_of_ble_eq_true rfl, Nat.le_of_ble_eq_true rfl⟩ ⟨Nat.le_of_ble_eq_true rfl, Nat.le_of_ble_eq_true rfl⟩ rfl (Nat.le_of_ble_eq_true rfl) dX7_needs_47 ?_
      exact g_iret C dX7_needs_50 (som2 hq).1 (congrArg (wD a cI cZ) (som2 hq).2)
    · have hq := ip c18 hq
      refine g_bipush C dX7_needs_27 (v := -2) (by decide) ?_
      exact g_iret C dX7_needs_29 (som2 hq).1 (congrArg (wD a cI cZ) (som2 hq).2)
set_option maxHeartbeats 4000000 in
set_option maxRecDepth 100000 in
theorem k_X7_dry {l : Launch} {dC : Nat → ClassId} {dI : Nat → Nat → Nat} {a : Nat → Nat} {cI cZ cS : ClassId} (x1 : Int32) (M M2 : MM) (r : Int32) (hq : q_X7_dry x1 M = some (r, M2)) : KQ l (dC, dI) vwCl (tyW cI cZ cS) yX7_dry cX7_dry 3 (some .int) 4 92 [.ref (a 0), .int x1] (wD a cI cZ M) (qI (dC, dI) vwCl (wD a cI cZ M2) r) := by
  refine KQ.of (by decide) (Nat.le_of_ble_eq_true rfl) rfl ?_
  intro p e s m args below meth c A0 C
  have L_20 : ∀ (f : Nat) (v2 : Int32) (M : MM), q_X7_dry_20 x1  f v2 M = some (r, M2) → gG p l e ({ frames := 4, cells := 0, slots := 0, locals := 92 }) s m args below meth c 3 (dC, dI) vwCl A0 s.heap 0 0 (MQ below ((qI (dC, dI) vwCl (wD a cI cZ M2) r) A0) args s 0 0 A0) (wD a cI cZ M) 20 [(0, .ref (a 0)), (1, .int x1), (2, .int v2)] [] := by
    intro f
    induction f with
    | zero => intro v2 M hq; cases hq
    | succ f_20 ih_20 =>
      intro v2 M hq
      rw [q_X7_dry_20] at hq
      refine g_iload_n C dX7_dry_20 2 rfl rfl ?_
      refine g_bipush C dX7_dry_21 (v := 20) (by decide) ?_
      refine g_icmp_gt C (tgt := 58) dX7_dry_23 (by decide) (fun c16 => ?_) (fun c16 => ?_)
      · have hq := ip c16 hq
        refine g_bipush C dX7_dry_58 (v := -9) (by decide) ?_
        exact g_iret C dX7_dry_60 (som2 hq).1 (congrArg (wD a cI cZ) (som2 hq).2)
      · have hq := iq c16 hq
        refine g_aload_n C dX7_dry_26 0 rfl rfl ?_
        refine g_aload_n C dX7_dry_27 0 rfl rfl ?_
        refine rg_X7_trial C dX7_dry_28 ?_
        obtain ⟨z17, Mz17, h18, hq⟩ := obd_some hq
        refine gc_Vi C (k_X7_rainOf 7 (Or.inr rfl) M Mz17 z17 h18) wl_807 ok_X7_rainOf rv_X7 rfl ⟨Nat.le_of_ble_eq_true rfl, Nat.le_of_ble_eq_true rfl⟩ ⟨Nat.le_of_ble_eq_true rfl, Nat.le_of_ble_eq_true rfl⟩ rfl (Nat.le_of_ble_eq_true rfl) dX7_dry_31 ?_
        refine g_iload_n C dX7_dry_34 1 rfl rfl ?_
        refine gc_Si C (k_X7_has z17 x1 Mz17) wl_811 ok_X7_has ⟨Nat.le_of_ble_eq_true rfl, Nat.le_of_ble_eq_true rfl⟩ ⟨Nat.le_of_ble_eq_true rfl, Nat.le_of_ble_eq_true rfl⟩ rfl (Nat.le_of_ble_eq_true rfl) dX7_dry_35 ?_
        refine g_if_ne C (tgt := 43) dX7_dry_38 (by decide) (fun c19 => ?_) (fun c19 => ?_)
        · have hq := iq c19 hq
          refine g_aload_n C dX7_dry_43 0 rfl rfl ?_
          refine g_aload_n C dX7_dry_44 0 rfl rfl ?_
          refine rg_X7_trial C dX7_dry_45 ?_
          obtain ⟨z20, Mz20, h21, hq⟩ := obd_some hq
          refine gc_Vi C (k_X7_goHour 7 (Or.inr rfl) Mz17 Mz20 z20 h21) wl_881 ok_X7_goHour rv_X7 rfl ⟨Nat.le_of_ble_eq_true rfl, Nat.le_of_ble_eq_true rfl⟩ ⟨Nat.le_of_ble_eq_true rfl, Nat.le_of_ble_eq_true rfl⟩ rfl (Nat.le_of_ble_eq_true rfl) dX7_dry_48 ?_
          refine g_pop C dX7_dry_51 rfl ?_
          refine g_iinc C (v := (v2 + (1 : Int32))) (lv2 := [(2, _), (0, _), (1, _)]) dX7_dry_52 2 rfl rfl (by decide) rfl ?_
          refine g_goto C (tgt := 20) dX7_dry_55 (by decide) ?_
          exact g_sub [1, 2, 0] rfl (ih_20 (v2 + (1 : Int32)) Mz20 hq)
        · have hq := ip c19 hq
          refine g_iload_n C dX7_dry_41 2 rfl rfl ?_
          exact g_iret C dX7_dry_42 (som2 hq).1 (congrArg (wD a cI cZ) (som2 hq).2)
  unfold q_X7_dry at hq
  refine g_aload_n C dX7_dry_0 0 rfl rfl ?_
  refine g_iconst C dX7_dry_1 (v := 0) (by decide) ?_
  refine rp_X7_thrown C dX7_dry_2 ?_
  refine g_iload_n C dX7_dry_5 1 rfl rfl ?_
  refine gc_Si C (k_X7_noStreet x1 (mU M 0 0 (0 : Int32))) wl_843 ok_X7_noStreet ⟨Nat.le_of_ble_eq_true rfl, Nat.le_of_ble_eq_true rfl⟩ ⟨Nat.le_of_ble_eq_true rfl, Nat.le_of_ble_eq_true rfl⟩ rfl (Nat.le_of_ble_eq_true rfl) dX7_dry_6 ?_
  refine g_if_eq C (tgt := 14) dX7_dry_9 (by decide) (fun c25 => ?_) (fun c25 => ?_)
  · have hq := ip c25 hq
    refine g_aload_n C dX7_dry_14 0 rfl rfl ?_
    obtain ⟨z26, Mz26, h27, hq⟩ := obd_some hq
    refine gc_Vv C (k_X7_begin  (mU M 0 0 (0 : Int32)) Mz26 z26 h27) wl_898 ok_X7_begin rv_X7 rfl ⟨Nat.le_of_ble_eq_true rfl, Nat.le_of_ble_eq_true rfl⟩ ⟨Nat.le_of_ble_eq_true rfl, Nat.le_of_ble_eq_true rfl⟩ rfl (Nat.le_of_ble_eq_true rfl) dX7_dry_15 ?_
    refine g_iconst C dX7_dry_18 (v := 0) (by decide) ?_
    refine g_istore_n C (lv2 := [(2, _), (0, _), (1, _)]) dX7_dry_19 rfl (by decide) rfl ?_
    exact g_sub [1, 2, 0] rfl (L_20 FU (0 : Int32) Mz26 hq)
  · have hq := iq c25 hq
    refine g_iconst C dX7_dry_12 (v := -1) (by decide) ?_
    exact g_iret C dX7_dry_13 (som2 hq).1 (congrArg (wD a cI cZ) (som2 hq).2)
set_option maxHeartbeats 4000000 in
set_option maxRecDepth 100000 in
theorem k_X7_keptThen {l : Launch} {dC : Nat → ClassId} {dI : Nat → Nat → Nat} {a : Nat → Nat} {cI cZ cS : ClassId}  (M M2 : MM) (r : Int32) (hq : q_X7_keptThen  M = some (r, M2)) : KQ l (dC, dI) vwCl (tyW cI cZ cS) yX7_keptThen cX7_keptThen 1 (some .int) 5 114 [.ref (a 0)] (wD a cI cZ M) (qI (dC, dI) vwCl (wD a cI cZ M2) r) := by
  refine KQ.of (by decide) (Nat.le_of_ble_eq_true rfl) rfl ?_
  intro p e s m args below meth c A0 C
  unfold q_X7_keptThen at hq
  refine g_aload_n C dX7_keptThen_0 0 rfl rfl ?_
  refine g_bipush C dX7_keptThen_1 (v := 9) (by decide) ?_
  obtain ⟨z13, Mz13, h14, hq⟩ := obd_some hq
  refine gc_Vv C (k_X7_goHours (9 : Int32) M Mz13 z13 h14) wl_902 ok_X7_goHours rv_X7 rfl ⟨Nat.le_of_ble_eq_true rfl, Nat.le_of_ble_eq_true rfl⟩ ⟨Nat.le_of_ble_eq_true rfl, Nat.le_of_ble_eq_true rfl⟩ rfl (Nat.le_of_ble_eq_true rfl) dX7_keptThen_3 ?_
  refine g_aload_n C dX7_keptThen_6 0 rfl rfl ?_
  refine g_aload_n C dX7_keptThen_7 0 rfl rfl ?_
  refine rg_X7_trial C dX7_keptThen_8 ?_
  refine g_iconst C dX7_keptThen_11 (v := 1) (by decide) ?_
  obtain ⟨z15, Mz15, h16, hq⟩ := obd_some hq
  refine gc_Vi C (k_X7_needsThat 7 (Or.inr rfl) (1 : Int32) Mz13 Mz15 z15 h16) wl_822 ok_X7_needsThat rv_X7 rfl ⟨Nat.le_of_ble_eq_true rfl, Nat.le_of_ble_eq_true rfl⟩ ⟨Nat.le_of_ble_eq_true rfl, Nat.le_of_ble_eq_true rfl⟩ rfl (Nat.le_of_ble_eq_true rfl) dX7_keptThen_12 ?_
  obtain ⟨z17, Mz17, h18, hq⟩ := obd_some hq
  refine gc_Si C (k_X7_many z15 Mz15 Mz17 z17 h18) wl_926 ok_X7_many ⟨Nat.le_of_ble_eq_true rfl, Nat.le_of_ble_eq_true rfl⟩ ⟨Nat.le_of_ble_eq_true rfl, Nat.le_of_ble_eq_true rfl⟩ rfl (Nat.le_of_ble_eq_true rfl) dX7_keptThen_15 ?_
  exact g_iret C dX7_keptThen_18 (som2 hq).1 (congrArg (wD a cI cZ) (som2 hq).2)
set_option maxHeartbeats 4000000 in
set_option maxRecDepth 100000 in
theorem k_X7_openAll {l : Launch} {dC : Nat → ClassId} {dI : Nat → Nat → Nat} {a : Nat → Nat} {cI cZ cS : ClassId} (x1 : Int32) (M M2 : MM) (r : Unit) (hq : q_X7_openAll x1 M = some (r, M2)) : KQ l (dC, dI) vwCl (tyW cI cZ cS) yX7_openAll cX7_openAll 3 none 2 44 [.ref (a 0), .int x1] (wD a cI cZ M) (qV (dC, dI) vwCl (wD a cI cZ M2)) := by
  refine KQ.of (by decide) (Nat.le_of_ble_eq_true rfl) rfl ?_
  intro p e s m args below meth c A0 C
  have L_2 : ∀ (f : Nat) (v2 : Int32) (M : MM), q_X7_openAll_2 x1  f v2 M = some (r, M2) → gG p l e ({ frames := 2, cells := 0, slots := 0, locals := 44 }) s m args below meth c 3 (dC, dI) vwCl A0 s.heap 0 0 (MQ below ((qV (dC, dI) vwCl (wD a cI cZ M2)) A0) args s 0 0 A0) (wD a cI cZ M) 2 [(0, .ref (a 0)), (1, .int x1), (2, .int v2)] [] := by
    intro f
    induction f with
    | zero => intro v2 M hq; cases hq
    | succ f_2 ih_2 =>
      have J_27 : ∀ (v2 : Int32) (M : MM), q_X7_openAll_27 x1 (q_X7_openAll_2 x1  f_2) v2 M = some (r, M2) → gG p l e ({ frames := 2, cells := 0, slots := 0, locals := 44 }) s m args below meth c 3 (dC, dI) vwCl A0 s.heap 0 0 (MQ below ((qV (dC, dI) vwCl (wD a cI cZ M2)) A0) args s 0 0 A0) (wD a cI cZ M) 27 [(0, .ref (a 0)), (1, .int x1), (2, .int v2)] [] := by
        intro v2 M hq
        unfold q_X7_openAll_27 at hq
        refine g_iinc C (v := (v2 + (1 : Int32))) (lv2 := [(2, _), (0, _), (1, _)]) dX7_openAll_27 2 rfl rfl (by decide) rfl ?_
        refine g_goto C (tgt := 2) dX7_openAll_30 (by decide) ?_
        exact g_sub [1, 2, 0] rfl (ih_2 (v2 + (1 : Int32)) M hq)
      intro v2 M hq
      rw [q_X7_openAll_2] at hq
      refine g_iload_n C dX7_openAll_2 2 rfl rfl ?_
      refine g_aload_n C dX7_openAll_3 0 rfl rfl ?_
      refine rg_X7_walkers C dX7_openAll_4 ?_
      refine g_icmp_ge C (tgt := 33) dX7_openAll_7 (by decide) (fun c9 => ?_) (fun c9 => ?_)
      · have hq := ip c9 hq
        exact g_vret C dX7_openAll_33 (congrArg (wD a cI cZ) (som2 hq).2)
      · have hq := iq c9 hq
        refine g_iload_n C dX7_openAll_10 1 rfl rfl ?_
        refine g_iload_n C dX7_openAll_11 2 rfl rfl ?_
        refine gc_Si C (k_X7_has x1 v2 M) wl_811 ok_X7_has ⟨Nat.le_of_ble_eq_true rfl, Nat.le_of_ble_eq_true rfl⟩ ⟨Nat.le_of_ble_eq_true rfl, Nat.le_of_ble_eq_true rfl⟩ rfl (Nat.le_of_ble_eq_true rfl) dX7_openAll_12 ?_
        refine g_if_eq C (tgt := 27) dX7_openAll_15 (by decide) (fun c10 => ?_) (fun c10 => ?_)
        · have hq := ip c10 hq
          exact g_sub [0, 1, 2] rfl (J_27 v2 M hq)
        · have hq := iq c10 hq
          refine g_aload_n C dX7_openAll_18 0 rfl rfl ?_
          refine g_aload_n C dX7_openAll_19 0 rfl rfl ?_
          refine rg_X7_trial C dX7_openAll_20 ?_
          refine g_iload_n C dX7_openAll_23 2 rfl rfl ?_
          obtain ⟨z11, Mz11, h12, hq⟩ := obd_some hq
          refine gc_Vv C (k_X7_goOpen 7 (Or.inr rfl) v2 M Mz11 z11 h12) wl_855 ok_X7_goOpen rv_X7 rfl ⟨Nat.le_of_ble_eq_true rfl, Nat.le_of_ble_eq_true rfl⟩ ⟨Nat.le_of_ble_eq_true rfl, Nat.le_of_ble_eq_true rfl⟩ rfl (Nat.le_of_ble_eq_true rfl) dX7_openAll_24 ?_
          exact g_sub [0, 1, 2] rfl (J_27 v2 Mz11 hq)
  unfold q_X7_openAll at hq
  refine g_iconst C dX7_openAll_0 (v := 0) (by decide) ?_
  refine g_istore_n C (lv2 := [(2, _), (0, _), (1, _)]) dX7_openAll_1 rfl (by decide) rfl ?_
  exact g_sub [1, 2, 0] rfl (L_2 FU (0 : Int32) M hq)
set_option maxHeartbeats 4000000 in
set_option maxRecDepth 100000 in
theorem k_X7_asked {l : Launch} {dC : Nat → ClassId} {dI : Nat → Nat → Nat} {a : Nat → Nat} {cI cZ cS : ClassId} (x1 : Int32) (M M2 : MM) (r : Int32) (hq : q_X7_asked x1 M = some (r, M2)) : KQ l (dC, dI) vwCl (tyW cI cZ cS) yX7_asked cX7_asked 4 (some .int) 6 134 [.ref (a 0), .int x1] (wD a cI cZ M) (qI (dC, dI) vwCl (wD a cI cZ M2) r) := by
  refine KQ.of (by decide) (Nat.le_of_ble_eq_true rfl) rfl ?_
  intro p e s m args below meth c A0 C
  have L_31 : ∀ (f : Nat) (v2 : Int32) (M : MM), q_X7_asked_31 x1  f v2 M = some (r, M2) → gG p l e ({ frames := 6, cells := 0, slots := 0, locals := 134 }) s m args below meth c 4 (dC, dI) vwCl A0 s.heap 0 0 (MQ below ((qI (dC, dI) vwCl (wD a cI cZ M2) r) A0) args s 0 0 A0) (wD a cI cZ M) 31 [(0, .ref (a 0)), (1, .int x1), (2, .int v2)] [] := by
    intro f
    induction f with
    | zero => intro v2 M hq; cases hq
    | succ f_31 ih_31 =>
      have J_106 : ∀ (v2 : Int32) (M : MM), q_X7_asked_106 x1 (q_X7_asked_31 x1  f_31) v2 M = some (r, M2) → gG p l e ({ frames := 6, cells := 0, slots := 0, locals := 134 }) s m args below meth c 4 (dC, dI) vwCl A0 s.heap 0 0 (MQ below ((qI (dC, dI) vwCl (wD a cI cZ M2) r) A0) args s 0 0 A0) (wD a cI cZ M) 106 [(0, .ref (a 0)), (1, .int x1), (2, .int v2)] [] := by
        intro v2 M hq
        unfold q_X7_asked_106 at hq
        refine g_iinc C (v := (v2 + (1 : Int32))) (lv2 := [(2, _), (0, _), (1, _)]) dX7_asked_106 2 rfl rfl (by decide) rfl ?_
        refine g_goto C (tgt := 31) dX7_asked_109 (by decide) ?_
        exact g_sub [1, 2, 0] rfl (ih_31 (v2 + (1 : Int32)) M hq)
      have J_96 : ∀ (v2 : Int32) (v3 : Int32) (M : MM), q_X7_asked_96 x1 (q_X7_asked_31 x1  f_31) v2 v3 M = some (r, M2) → gG p l e ({ frames := 6, cells := 0, slots := 0, locals := 134 }) s m args below meth c 4 (dC, dI) vwCl A0 s.heap 0 0 (MQ below ((qI (dC, dI) vwCl (wD a cI cZ M2) r) A0) args s 0 0 A0) (wD a cI cZ M) 96 [(0, .ref (a 0)), (1, .int x1), (2, .int v2), (3, .int v3)] [] := by
        intro v2 v3 M hq
        unfold q_X7_asked_96 at hq
        refine g_aload_n C dX7_asked_96 0 rfl rfl ?_
        refine g_iload_n C dX7_asked_97 3 rfl rfl ?_
        refine rp_X7_bestMany C dX7_asked_98 ?_
        refine g_aload_n C dX7_asked_101 0 rfl rfl ?_
        refine g_iload_n C dX7_asked_102 2 rfl rfl ?_
        refine rp_X7_bestWhich C dX7_asked_103 ?_
        exact g_sub [0, 1, 2] rfl (J_106 v2 (mU (mU M 0 10 v3) 0 9 v2) hq)
      intro v2 M hq
      rw [q_X7_asked_31] at hq
      refine g_iload_n C dX7_asked_31 2 rfl rfl ?_
      refine g_iconst C dX7_asked_32 (v := 1) (by decide) ?_
      refine g_aload_n C dX7_asked_33 0 rfl rfl ?_
      refine rg_X7_walkers C dX7_asked_34 ?_
      refine g_ishl C dX7_asked_37 ?_
      refine g_icmp_ge C (tgt := 112) dX7_asked_38 (by decide) (fun c36 => ?_) (fun c36 => ?_)
      · have hq := ip c36 hq
        refine g_iload_n C dX7_asked_112 1 rfl rfl ?_
        refine g_if_ne C (tgt := 123) dX7_asked_113 (by decide) (fun c37 => ?_) (fun c37 => ?_)
        · have hq := iq c37 hq
          refine g_aload_n C dX7_asked_123 0 rfl rfl ?_
          refine rg_X7_bestMany C dX7_asked_124 ?_
          exact g_iret C dX7_asked_127 (som2 hq).1 (congrArg (wD a cI cZ) (som2 hq).2)
        · have hq := ip c37 hq
          refine g_aload_n C dX7_asked_116 0 rfl rfl ?_
          refine rg_X7_bestWhich C dX7_asked_117 ?_
          refine g_goto C (tgt := 127) dX7_asked_120 (by decide) ?_
          exact g_iret C dX7_asked_127 (som2 hq).1 (congrArg (wD a cI cZ) (som2 hq).2)
      · have hq := iq c36 hq
        refine g_iload_n C dX7_asked_41 2 rfl rfl ?_
        refine g_aload_n C dX7_asked_42 0 rfl rfl ?_
        refine rg_X7_page C dX7_asked_43 ?_
        refine g_iconst C dX7_asked_46 (v := 5) (by decide) ?_
        obtain ⟨h38, hq⟩ := ogd_some hq
        refine gb_ld C (show arD 6 24 from ⟨by decide, by decide, by decide, by decide⟩) h38 dX7_asked_47 ?_
        refine g_iand C dX7_asked_48 ?_
        refine g_if_ne C (tgt := 106) dX7_asked_49 (by decide) (fun c39 => ?_) (fun c39 => ?_)
        · have hq := iq c39 hq
          exact g_sub [0, 1, 2] rfl (J_106 v2 M hq)
        · have hq := ip c39 hq
          refine g_aload_n C dX7_asked_52 0 rfl rfl ?_
          obtain ⟨z40, Mz40, h41, hq⟩ := obd_some hq
          refine gc_Vv C (k_X7_begin  M Mz40 z40 h41) wl_898 ok_X7_begin rv_X7 rfl ⟨Nat.le_of_ble_eq_true rfl, Nat.le_of_ble_eq_true rfl⟩ ⟨Nat.le_of_ble_eq_true rfl, Nat.le_of_ble_eq_true rfl⟩ rfl (Nat.le_of_ble_eq_true rfl) dX7_asked_53 ?_
          refine g_aload_n C dX7_asked_56 0 rfl rfl ?_
          refine g_iload_n C dX7_asked_57 2 rfl rfl ?_
          obtain ⟨z42, Mz42, h43, hq⟩ := obd_some hq
          refine gc_Vv C (k_X7_openAll v2 Mz40 Mz42 z42 h43) wl_918 ok_X7_openAll rv_X7 rfl ⟨Nat.le_of_ble_eq_true rfl, Nat.le_of_ble_eq_true rfl⟩ ⟨Nat.le_of_ble_eq_true rfl, Nat.le_of_ble_eq_true rfl⟩ rfl (Nat.le_of_ble_eq_true rfl) dX7_asked_58 ?_
          refine g_aload_n C dX7_asked_61 0 rfl rfl ?_
          obtain ⟨z44, Mz44, h45, hq⟩ := obd_some hq
          refine gc_Vi C (k_X7_keptThen  Mz42 Mz44 z44 h45) wl_922 ok_X7_keptThen rv_X7 rfl ⟨Nat.le_of_ble_eq_true rfl, Nat.le_of_ble_eq_true rfl⟩ ⟨Nat.le_of_ble_eq_true rfl, Nat.le_of_ble_eq_true rfl⟩ rfl (Nat.le_of_ble_eq_true rfl) dX7_asked_62 ?_
          refine g_istore_n C (lv2 := [(3, _), (0, _), (1, _), (2, _)]) dX7_asked_65 rfl (by decide) rfl ?_
          refine g_iload_n C dX7_asked_66 0 rfl rfl ?_
          refine g_aload_n C dX7_asked_67 1 rfl rfl ?_
          refine rg_X7_bestMany C dX7_asked_68 ?_
          refine g_icmp_gt C (tgt := 96) dX7_asked_71 (by decide) (fun c46 => ?_) (fun c46 => ?_)
          · have hq := ip c46 hq
            exact g_sub [1, 2, 3, 0] rfl (J_96 v2 z44 Mz44 hq)
          · have hq := iq c46 hq
            refine g_iload_n C dX7_asked_74 0 rfl rfl ?_
            refine g_aload_n C dX7_asked_75 1 rfl rfl ?_
            refine rg_X7_bestMany C dX7_asked_76 ?_
            refine g_icmp_ne C (tgt := 106) dX7_asked_79 (by decide) (fun c47 => ?_) (fun c47 => ?_)
            · have hq := iq c47 hq
              exact g_sub [1, 2, 3] rfl (J_106 v2 Mz44 hq)
            · have hq := ip c47 hq
              refine g_iload_n C dX7_asked_82 3 rfl rfl ?_
              obtain ⟨z48, Mz48, h49, hq⟩ := obd_some hq
              refine gc_Si C (k_X7_many v2 Mz44 Mz48 z48 h49) wl_926 ok_X7_many ⟨Nat.le_of_ble_eq_true rfl, Nat.le_of_ble_eq_true rfl⟩ ⟨Nat.le_of_ble_eq_true rfl, Nat.le_of_ble_eq_true rfl⟩ rfl (Nat.le_of_ble_eq_true rfl) dX7_asked_83 ?_
              refine g_aload_n C dX7_asked_86 1 rfl rfl ?_
              refine rg_X7_bestWhich C dX7_asked_87 ?_
              obtain ⟨z50, Mz50, h51, hq⟩ := obd_some hq
              refine gc_Si C (k_X7_many (Mz48.1 0 9) Mz48 Mz50 z50 h51) wl_926 ok_X7_many ⟨Nat.le_of_ble_eq_true rfl, Nat.le_of_ble_eq_true rfl⟩ ⟨Nat.le_of_ble_eq_true rfl, Nat.le_of_ble_eq_true rfl⟩ rfl (Nat.le_of_ble_eq_true rfl) dX7_asked_90 ?_
              refine g_icmp_ge C (tgt := 106) dX7_asked_93 (by decide) (fun c52 => ?_) (fun c52 => ?_)
              · have hq := ip c52 hq
                exact g_sub [1, 2, 3] rfl (J_106 v2 Mz50 hq)
              · have hq := iq c52 hq
                exact g_sub [1, 2, 3, 0] rfl (J_96 v2 z44 Mz50 hq)
  unfold q_X7_asked at hq
  refine g_aload_n C dX7_asked_0 0 rfl rfl ?_
  refine g_iconst C dX7_asked_1 (v := 0) (by decide) ?_
  refine rp_X7_thrown C dX7_asked_2 ?_
  refine g_iload_n C dX7_asked_5 1 rfl rfl ?_
  refine g_i2l C dX7_asked_6 rfl ?_
  refine g_lconst C dX7_asked_7 (v := 0) (by decide) ?_
  refine g_lconst C dX7_asked_8 (v := 1) (by decide) ?_
  refine gc_Si C (k_X7_in (x1.toInt64) (0 : Int64) (1 : Int64) (mU M 0 0 (0 : Int32))) wl_768 ok_X7_in ⟨Nat.le_of_ble_eq_true rfl, Nat.le_of_ble_eq_true rfl⟩ ⟨Nat.le_of_ble_eq_true rfl, Nat.le_of_ble_eq_true rfl⟩ rfl (Nat.le_of_ble_eq_true rfl) dX7_asked_9 ?_
  refine g_if_ne C (tgt := 18) dX7_asked_12 (by decide) (fun c54 => ?_) (fun c54 => ?_)
  · have hq := iq c54 hq
    refine g_aload_n C dX7_asked_18 0 rfl rfl ?_
    refine g_iconst C dX7_asked_19 (v := 0) (by decide) ?_
    refine rp_X7_bestWhich C dX7_asked_20 ?_
    refine g_aload_n C dX7_asked_23 0 rfl rfl ?_
    refine g_bipush C dX7_asked_24 (v := -9) (by decide) ?_
    refine rp_X7_bestMany C dX7_asked_26 ?_
    refine g_iconst C dX7_asked_29 (v := 0) (by decide) ?_
    refine g_istore_n C (lv2 := [(2, _), (0, _), (1, _)]) dX7_asked_30 rfl (by decide) rfl ?_
    exact g_sub [1, 2, 0] rfl (L_31 FU (0 : Int32) (mU (mU (mU M 0 0 (0 : Int32)) 0 9 (0 : Int32)) 0 10 (-9 : Int32)) hq)
  · have hq := ip c54 hq
    refine g_bipush C dX7_asked_15 (v := -2) (by decide) ?_
    exact g_iret C dX7_asked_17 (som2 hq).1 (congrArg (wD a cI cZ) (som2 hq).2)
set_option maxHeartbeats 4000000 in
set_option maxRecDepth 100000 in
theorem k_X7_sent {l : Launch} {dC : Nat → ClassId} {dI : Nat → Nat → Nat} {a : Nat → Nat} {cI cZ cS : ClassId} (x1 : Int32) (x2 : Int32) (M M2 : MM) (r : Int32) (hq : q_X7_sent x1 x2 M = some (r, M2)) : KQ l (dC, dI) vwCl (tyW cI cZ cS) yX7_sent cX7_sent 5 (some .int) 6 134 [.ref (a 0), .int x1, .int x2] (wD a cI cZ M) (qI (dC, dI) vwCl (wD a cI cZ M2) r) := by
  refine KQ.of (by decide) (Nat.le_of_ble_eq_true rfl) rfl ?_
  intro p e s m args below meth c A0 C
  have L_57 : ∀ (f : Nat) (v3 : Int32) (M : MM), q_X7_sent_57 x1 x2  f v3 M = some (r, M2) → gG p l e ({ frames := 6, cells := 0, slots := 0, locals := 134 }) s m args below meth c 5 (dC, dI) vwCl A0 s.heap 0 0 (MQ below ((qI (dC, dI) vwCl (wD a cI cZ M2) r) A0) args s 0 0 A0) (wD a cI cZ M) 57 [(0, .ref (a 0)), (1, .int x1), (2, .int x2), (3, .int v3)] [] := by
    intro f
    induction f with
    | zero => intro v3 M hq; cases hq
    | succ f_57 ih_57 =>
      have J_129 : ∀ (v3 : Int32) (s1 : Int32) (M : MM), q_X7_sent_129 x1 x2 (q_X7_sent_57 x1 x2  f_57) v3 s1 M = some (r, M2) → gG p l e ({ frames := 6, cells := 0, slots := 0, locals := 134 }) s m args below meth c 5 (dC, dI) vwCl A0 s.heap 0 0 (MQ below ((qI (dC, dI) vwCl (wD a cI cZ M2) r) A0) args s 0 0 A0) (wD a cI cZ M) 129 [(0, .ref (a 0)), (1, .int x1), (2, .int x2), (3, .int v3)] [.int s1, .ref (a 0)] := by
        intro v3 s1 M hq
        unfold q_X7_sent_129 at hq
        refine rp_X7_bestMany C dX7_sent_129 ?_
        refine g_iinc C (v := (v3 + (1 : Int32))) (lv2 := [(3, _), (0, _), (1, _), (2, _)]) dX7_sent_132 3 rfl rfl (by decide) rfl ?_
        refine g_goto C (tgt := 57) dX7_sent_135 (by decide) ?_
        exact g_sub [1, 2, 3, 0] rfl (ih_57 (v3 + (1 : Int32)) (mU M 0 10 s1) hq)
      have J_107 : ∀ (v3 : Int32) (v4 : Int32) (s1 : Int32) (M : MM), q_X7_sent_107 x1 x2 (q_X7_sent_57 x1 x2  f_57) v3 v4 s1 M = some (r, M2) → gG p l e ({ frames := 6, cells := 0, slots := 0, locals := 134 }) s m args below meth c 5 (dC, dI) vwCl A0 s.heap 0 0 (MQ below ((qI (dC, dI) vwCl (wD a cI cZ M2) r) A0) args s 0 0 A0) (wD a cI cZ M) 107 [(0, .ref (a 0)), (1, .int x1), (2, .int x2), (3, .int v3), (4, .int v4)] [.int s1, .ref (a 0)] := by
        intro v3 v4 s1 M hq
        unfold q_X7_sent_107 at hq
        refine rp_X7_bestWhich C dX7_sent_107 ?_
        refine g_aload_n C dX7_sent_110 0 rfl rfl ?_
        refine g_iload C dX7_sent_111 4 rfl ?_
        refine g_aload_n C dX7_sent_113 0 rfl rfl ?_
        refine rg_X7_bestMany C dX7_sent_114 ?_
        refine g_icmp_le C (tgt := 125) dX7_sent_117 (by decide) (fun c17 => ?_) (fun c17 => ?_)
        · have hq := ip c17 hq
          refine g_aload_n C dX7_sent_125 0 rfl rfl ?_
          refine rg_X7_bestMany C dX7_sent_126 ?_
          exact g_sub [0, 1, 2, 3] rfl (J_129 v3 ((mU M 0 9 s1).1 0 10) (mU M 0 9 s1) hq)
        · have hq := iq c17 hq
          refine g_iload C dX7_sent_120 4 rfl ?_
          refine g_goto C (tgt := 129) dX7_sent_122 (by decide) ?_
          exact g_sub [0, 1, 2, 3] rfl (J_129 v3 v4 (mU M 0 9 s1) hq)
      intro v3 M hq
      rw [q_X7_sent_57] at hq
      refine g_iload_n C dX7_sent_57 3 rfl rfl ?_
      refine g_bipush C dX7_sent_58 (v := 6) (by decide) ?_
      refine g_icmp_ge C (tgt := 138) dX7_sent_60 (by decide) (fun c28 => ?_) (fun c28 => ?_)
      · have hq := ip c28 hq
        refine g_iload_n C dX7_sent_138 2 rfl rfl ?_
        refine g_if_ne C (tgt := 149) dX7_sent_139 (by decide) (fun c29 => ?_) (fun c29 => ?_)
        · have hq := iq c29 hq
          refine g_aload_n C dX7_sent_149 0 rfl rfl ?_
          refine rg_X7_bestMany C dX7_sent_150 ?_
          exact g_iret C dX7_sent_153 (som2 hq).1 (congrArg (wD a cI cZ) (som2 hq).2)
        · have hq := ip c29 hq
          refine g_aload_n C dX7_sent_142 0 rfl rfl ?_
          refine rg_X7_bestWhich C dX7_sent_143 ?_
          refine g_goto C (tgt := 153) dX7_sent_146 (by decide) ?_
          exact g_iret C dX7_sent_153 (som2 hq).1 (congrArg (wD a cI cZ) (som2 hq).2)
      · have hq := iq c28 hq
        refine g_aload_n C dX7_sent_63 0 rfl rfl ?_
        obtain ⟨z30, Mz30, h31, hq⟩ := obd_some hq
        refine gc_Vv C (k_X7_begin  M Mz30 z30 h31) wl_898 ok_X7_begin rv_X7 rfl ⟨Nat.le_of_ble_eq_true rfl, Nat.le_of_ble_eq_true rfl⟩ ⟨Nat.le_of_ble_eq_true rfl, Nat.le_of_ble_eq_true rfl⟩ rfl (Nat.le_of_ble_eq_true rfl) dX7_sent_64 ?_
        refine g_aload_n C dX7_sent_67 0 rfl rfl ?_
        refine rg_X7_trial C dX7_sent_68 ?_
        refine g_iload_n C dX7_sent_71 1 rfl rfl ?_
        refine g_iload_n C dX7_sent_72 3 rfl rfl ?_
        obtain ⟨h32, hq⟩ := ogd_some hq
        refine gb_st C (show arD 7 24 from ⟨by decide, by decide, by decide, by decide⟩) h32 dX7_sent_73 ?_
        refine g_aload_n C dX7_sent_74 0 rfl rfl ?_
        refine g_aload_n C dX7_sent_75 0 rfl rfl ?_
        refine rg_X7_trial C dX7_sent_76 ?_
        refine g_iload_n C dX7_sent_79 1 rfl rfl ?_
        obtain ⟨z33, Mz33, h34, hq⟩ := obd_some hq
        refine gc_Vv C (k_X7_goOpen 7 (Or.inr rfl) x1 (mU Mz30 7 x1.toNatClampNeg v3) Mz33 z33 h34) wl_855 ok_X7_goOpen rv_X7 rfl ⟨Nat.le_of_ble_eq_true rfl, Nat.le_of_ble_eq_true rfl⟩ ⟨Nat.le_of_ble_eq_true rfl, Nat.le_of_ble_eq_true rfl⟩ rfl (Nat.le_of_ble_eq_true rfl) dX7_sent_80 ?_
        refine g_aload_n C dX7_sent_83 0 rfl rfl ?_
        obtain ⟨z35, Mz35, h36, hq⟩ := obd_some hq
        refine gc_Vi C (k_X7_keptThen  Mz33 Mz35 z35 h36) wl_922 ok_X7_keptThen rv_X7 rfl ⟨Nat.le_of_ble_eq_true rfl, Nat.le_of_ble_eq_true rfl⟩ ⟨Nat.le_of_ble_eq_true rfl, Nat.le_of_ble_eq_true rfl⟩ rfl (Nat.le_of_ble_eq_true rfl) dX7_sent_84 ?_
        refine g_istore C (lv2 := [(4, _), (0, _), (1, _), (2, _), (3, _)]) dX7_sent_87 (by decide) rfl ?_
        refine g_aload_n C dX7_sent_89 1 rfl rfl ?_
        refine g_iload C dX7_sent_90 0 rfl ?_
        refine g_aload_n C dX7_sent_92 1 rfl rfl ?_
        refine rg_X7_bestMany C dX7_sent_93 ?_
        refine g_icmp_le C (tgt := 103) dX7_sent_96 (by decide) (fun c37 => ?_) (fun c37 => ?_)
        · have hq := ip c37 hq
          refine g_aload_n C dX7_sent_103 1 rfl rfl ?_
          refine rg_X7_bestWhich C dX7_sent_104 ?_
          exact g_sub [1, 2, 3, 4, 0] rfl (J_107 v3 z35 (Mz35.1 0 9) Mz35 hq)
        · have hq := iq c37 hq
          refine g_iload_n C dX7_sent_99 4 rfl rfl ?_
          refine g_goto C (tgt := 107) dX7_sent_100 (by decide) ?_
          exact g_sub [1, 2, 3, 4, 0] rfl (J_107 v3 z35 v3 Mz35 hq)
  unfold q_X7_sent at hq
  refine g_aload_n C dX7_sent_0 0 rfl rfl ?_
  refine g_iconst C dX7_sent_1 (v := 0) (by decide) ?_
  refine rp_X7_thrown C dX7_sent_2 ?_
  refine g_aload_n C dX7_sent_5 0 rfl rfl ?_
  refine g_iload_n C dX7_sent_6 1 rfl rfl ?_
  refine gc_Vi C (k_X7_noWalker x1 (mU M 0 0 (0 : Int32))) wl_830 ok_X7_noWalker rv_X7 rfl ⟨Nat.le_of_ble_eq_true rfl, Nat.le_of_ble_eq_true rfl⟩ ⟨Nat.le_of_ble_eq_true rfl, Nat.le_of_ble_eq_true rfl⟩ rfl (Nat.le_of_ble_eq_true rfl) dX7_sent_7 ?_
  refine g_if_eq C (tgt := 15) dX7_sent_10 (by decide) (fun c42 => ?_) (fun c42 => ?_)
  · have hq := ip c42 hq
    refine g_iload_n C dX7_sent_15 2 rfl rfl ?_
    refine g_i2l C dX7_sent_16 rfl ?_
    refine g_lconst C dX7_sent_17 (v := 0) (by decide) ?_
    refine g_lconst C dX7_sent_18 (v := 1) (by decide) ?_
    refine gc_Si C (k_X7_in (x2.toInt64) (0 : Int64) (1 : Int64) (mU M 0 0 (0 : Int32))) wl_768 ok_X7_in ⟨Nat.le_of_ble_eq_true rfl, Nat.le_of_ble_eq_true rfl⟩ ⟨Nat.le_of_ble_eq_true rfl, Nat.le_of_ble_eq_true rfl⟩ rfl (Nat.le_of_ble_eq_true rfl) dX7_sent_19 ?_
    refine g_if_ne C (tgt := 28) dX7_sent_22 (by decide) (fun c43 => ?_) (fun c43 => ?_)
    · have hq := iq c43 hq
      refine g_aload_n C dX7_sent_28 0 rfl rfl ?_
      refine rg_X7_page C dX7_sent_29 ?_
      refine g_iconst C dX7_sent_32 (v := 5) (by decide) ?_
      obtain ⟨h44, hq⟩ := ogd_some hq
      refine gb_ld C (show arD 6 24 from ⟨by decide, by decide, by decide, by decide⟩) h44 dX7_sent_33 ?_
      refine g_iload_n C dX7_sent_34 1 rfl rfl ?_
      refine gc_Si C (k_X7_has ((mU M 0 0 (0 : Int32)).1 6 (5 : Int32).toNatClampNeg) x1 (mU M 0 0 (0 : Int32))) wl_811 ok_X7_has ⟨Nat.le_of_ble_eq_true rfl, Nat.le_of_ble_eq_true rfl⟩ ⟨Nat.le_of_ble_eq_true rfl, Nat.le_of_ble_eq_true rfl⟩ rfl (Nat.le_of_ble_eq_true rfl) dX7_sent_35 ?_
      refine g_if_eq C (tgt := 44) dX7_sent_38 (by decide) (fun c45 => ?_) (fun c45 => ?_)
      · have hq := ip c45 hq
        refine g_aload_n C dX7_sent_44 0 rfl rfl ?_
        refine g_iconst C dX7_sent_45 (v := 0) (by decide) ?_
        refine rp_X7_bestWhich C dX7_sent_46 ?_
        refine g_aload_n C dX7_sent_49 0 rfl rfl ?_
        refine g_bipush C dX7_sent_50 (v := -9) (by decide) ?_
        refine rp_X7_bestMany C dX7_sent_52 ?_
        refine g_iconst C dX7_sent_55 (v := 0) (by decide) ?_
        refine g_istore_n C (lv2 := [(3, _), (0, _), (1, _), (2, _)]) dX7_sent_56 rfl (by decide) rfl ?_
        exact g_sub [1, 2, 3, 0] rfl (L_57 FU (0 : Int32) (mU (mU (mU M 0 0 (0 : Int32)) 0 9 (0 : Int32)) 0 10 (-9 : Int32)) hq)
      · have hq := iq c45 hq
        refine g_bipush C dX7_sent_41 (v := -3) (by decide) ?_
        exact g_iret C dX7_sent_43 (som2 hq).1 (congrArg (wD a cI cZ) (som2 hq).2)
    · have hq := ip c43 hq
      refine g_bipush C dX7_sent_25 (v := -2) (by decide) ?_
      exact g_iret C dX7_sent_27 (som2 hq).1 (congrArg (wD a cI cZ) (som2 hq).2)
  · have hq := iq c42 hq
    refine g_iconst C dX7_sent_13 (v := -1) (by decide) ?_
    exact g_iret C dX7_sent_14 (som2 hq).1 (congrArg (wD a cI cZ) (som2 hq).2)
set_option maxHeartbeats 4000000 in
set_option maxRecDepth 100000 in
theorem k_X7_longPower {l : Launch} {dC : Nat → ClassId} {dI : Nat → Nat → Nat} {a : Nat → Nat} {cI cZ cS : ClassId} (x0 : Int64) (x2 : Int32) (M M2 : MM) (r : Int64) (hq : q_X7_longPower x0 x2 M = some (r, M2)) : KQ l (dC, dI) vwCl (tyW cI cZ cS) yX7_longPower cX7_longPower 6 (some .long) 0 0 [.long x0, .int x2] (wD a cI cZ M) (qL (dC, dI) vwCl (wD a cI cZ M2) r) := by
  refine KQ.of (by decide) (Nat.le_of_ble_eq_true rfl) rfl ?_
  intro p e s m args below meth c A0 C
  have L_5 : ∀ (f : Nat) (v3 : Int64) (v5 : Int32) (M : MM), q_X7_longPower_5 x0 x2  f v3 v5 M = some (r, M2) → gG p l e ({ frames := 0, cells := 0, slots := 0, locals := 0 }) s m args below meth c 6 (dC, dI) vwCl A0 s.heap 0 0 (MQ below ((qL (dC, dI) vwCl (wD a cI cZ M2) r) A0) args s 0 0 A0) (wD a cI cZ M) 5 [(0, .long x0), (2, .int x2), (3, .long v3), (5, .int v5)] [] := by
    intro f
    induction f with
    | zero => intro v3 v5 M hq; cases hq
    | succ f_5 ih_5 =>
      intro v3 v5 M hq
      rw [q_X7_longPower_5] at hq
      refine g_iload C dX7_longPower_5 3 rfl ?_
      refine g_iload_n C dX7_longPower_7 1 rfl rfl ?_
      refine g_icmp_ge C (tgt := 21) dX7_longPower_8 (by decide) (fun c3 => ?_) (fun c3 => ?_)
      · have hq := ip c3 hq
        refine g_lload_n C dX7_longPower_21 2 rfl rfl ?_
        exact g_lret C dX7_longPower_22 (som2 hq).1 (congrArg (wD a cI cZ) (som2 hq).2)
      · have hq := iq c3 hq
        refine g_lload_n C dX7_longPower_11 2 rfl rfl ?_
        refine g_lload_n C dX7_longPower_12 0 rfl rfl ?_
        refine g_lmul C dX7_longPower_13 ?_
        refine g_lstore_n C (lv2 := [(3, _), (0, _), (2, _), (5, _)]) dX7_longPower_14 rfl (by decide) rfl ?_
        refine g_iinc C (v := (v5 + (1 : Int32))) (lv2 := [(5, _), (3, _), (0, _), (2, _)]) dX7_longPower_15 3 rfl rfl (by decide) rfl ?_
        refine g_goto C (tgt := 5) dX7_longPower_18 (by decide) ?_
        exact g_sub [2, 3, 1, 0] rfl (ih_5 (v3 * x0) (v5 + (1 : Int32)) M hq)
  unfold q_X7_longPower at hq
  refine g_lconst C dX7_longPower_0 (v := 1) (by decide) ?_
  refine g_lstore_n C (lv2 := [(3, _), (0, _), (2, _)]) dX7_longPower_1 rfl (by decide) rfl ?_
  refine g_iconst C dX7_longPower_2 (v := 0) (by decide) ?_
  refine g_istore C (lv2 := [(5, _), (3, _), (0, _), (2, _)]) dX7_longPower_3 (by decide) rfl ?_
  exact g_sub [2, 3, 1, 0] rfl (L_5 FU (1 : Int64) (0 : Int32) M hq)
set_option maxHeartbeats 4000000 in
set_option maxRecDepth 100000 in
theorem k_X7_does {l : Launch} {dC : Nat → ClassId} {dI : Nat → Nat → Nat} {a : Nat → Nat} {cI cZ cS : ClassId} (x1 : Int32) (M M2 : MM) (r : Bool) (hq : q_X7_does x1 M = some (r, M2)) : KQ l (dC, dI) vwCl (tyW cI cZ cS) yX7_does cX7_does 5 (some .boolean) 4 92 [.ref (a 0), .int x1] (wD a cI cZ M) (qI (dC, dI) vwCl (wD a cI cZ M2) (b2i r)) := by
  refine KQ.of (by decide) (Nat.le_of_ble_eq_true rfl) rfl ?_
  intro p e s m args below meth c A0 C
  have J_175 : ∀ (v2 : Int32) (v3 : Int32) (v4 : Int32) (M : MM), q_X7_does_175 x1  v2 v3 v4 M = some (r, M2) → gG p l e ({ frames := 4, cells := 0, slots := 0, locals := 92 }) s m args below meth c 5 (dC, dI) vwCl A0 s.heap 0 0 (MQ below ((qI (dC, dI) vwCl (wD a cI cZ M2) (b2i r)) A0) args s 0 0 A0) (wD a cI cZ M) 175 [(0, .ref (a 0)), (2, .int v2), (3, .int v3), (4, .int v4)] [] := by
    intro v2 v3 v4 M hq
    unfold q_X7_does_175 at hq
    refine g_iload_n C dX7_does_175 1 rfl rfl ?_
    refine g_iconst C dX7_does_176 (v := 4) (by decide) ?_
    refine g_icmp_ne C (tgt := 214) dX7_does_177 (by decide) (fun c48 => ?_) (fun c48 => ?_)
    · have hq := iq c48 hq
      refine g_iload_n C dX7_does_214 1 rfl rfl ?_
      refine g_iconst C dX7_does_215 (v := 5) (by decide) ?_
      refine g_icmp_ne C (tgt := 250) dX7_does_216 (by decide) (fun c49 => ?_) (fun c49 => ?_)
      · have hq := iq c49 hq
        refine g_iconst C dX7_does_250 (v := 0) (by decide) ?_
        exact g_zret C dX7_does_251 (Or.inl rfl) (congrArg b2i (som2 hq).1) (congrArg (wD a cI cZ) (som2 hq).2)
      · have hq := ip c49 hq
        refine g_iload_n C dX7_does_219 2 rfl rfl ?_
        refine g_if_ne C (tgt := 250) dX7_does_220 (by decide) (fun c50 => ?_) (fun c50 => ?_)
        · have hq := iq c50 hq
          refine g_iconst C dX7_does_250 (v := 0) (by decide) ?_
          exact g_zret C dX7_does_251 (Or.inl rfl) (congrArg b2i (som2 hq).1) (congrArg (wD a cI cZ) (som2 hq).2)
        · have hq := ip c50 hq
          refine g_iload C dX7_does_223 3 rfl ?_
          refine g_aload_n C dX7_does_225 0 rfl rfl ?_
          refine rg_X7_needs C dX7_does_226 ?_
          refine g_icmp_ge C (tgt := 250) dX7_does_229 (by decide) (fun c51 => ?_) (fun c51 => ?_)
          · have hq := ip c51 hq
            refine g_iconst C dX7_does_250 (v := 0) (by decide) ?_
            exact g_zret C dX7_does_251 (Or.inl rfl) (congrArg b2i (som2 hq).1) (congrArg (wD a cI cZ) (som2 hq).2)
          · have hq := iq c51 hq
            refine g_aload_n C dX7_does_232 0 rfl rfl ?_
            refine rg_X7_trial C dX7_does_233 ?_
            refine g_bipush C dX7_does_236 (v := 18) (by decide) ?_
            refine g_iload C dX7_does_238 3 rfl ?_
            refine g_iadd C dX7_does_240 ?_
            obtain ⟨h52, hq⟩ := ogd_some hq
            refine gb_ld C (show arD 7 24 from ⟨by decide, by decide, by decide, by decide⟩) h52 dX7_does_241 ?_
            refine g_iconst C dX7_does_242 (v := 1) (by decide) ?_
            refine g_icmp_ne C (tgt := 250) dX7_does_243 (by decide) (fun c53 => ?_) (fun c53 => ?_)
            · have hq := iq c53 hq
              refine g_iconst C dX7_does_250 (v := 0) (by decide) ?_
              exact g_zret C dX7_does_251 (Or.inl rfl) (congrArg b2i (som2 hq).1) (congrArg (wD a cI cZ) (som2 hq).2)
            · have hq := ip c53 hq
              refine g_iconst C dX7_does_246 (v := 1) (by decide) ?_
              refine g_goto C (tgt := 251) dX7_does_247 (by decide) ?_
              exact g_zret C dX7_does_251 (Or.inr rfl) (congrArg b2i (som2 hq).1) (congrArg (wD a cI cZ) (som2 hq).2)
    · have hq := ip c48 hq
      refine g_iload_n C dX7_does_180 2 rfl rfl ?_
      refine g_if_ne C (tgt := 212) dX7_does_181 (by decide) (fun c54 => ?_) (fun c54 => ?_)
      · have hq := iq c54 hq
        refine g_iconst C dX7_does_212 (v := 0) (by decide) ?_
        exact g_zret C dX7_does_213 (Or.inl rfl) (congrArg b2i (som2 hq).1) (congrArg (wD a cI cZ) (som2 hq).2)
      · have hq := ip c54 hq
        refine g_iload C dX7_does_184 3 rfl ?_
        refine gc_Si C (k_X7_noStreet v4 M) wl_843 ok_X7_noStreet ⟨Nat.le_of_ble_eq_true rfl, Nat.le_of_ble_eq_true rfl⟩ ⟨Nat.le_of_ble_eq_true rfl, Nat.le_of_ble_eq_true rfl⟩ rfl (Nat.le_of_ble_eq_true rfl) dX7_does_186 ?_
        refine g_if_ne C (tgt := 212) dX7_does_189 (by decide) (fun c55 => ?_) (fun c55 => ?_)
        · have hq := iq c55 hq
          refine g_iconst C dX7_does_212 (v := 0) (by decide) ?_
          exact g_zret C dX7_does_213 (Or.inl rfl) (congrArg b2i (som2 hq).1) (congrArg (wD a cI cZ) (som2 hq).2)
        · have hq := ip c55 hq
          refine g_aload_n C dX7_does_192 0 rfl rfl ?_
          refine g_aload_n C dX7_does_193 0 rfl rfl ?_
          refine rg_X7_trial C dX7_does_194 ?_
          obtain ⟨z56, Mz56, h57, hq⟩ := obd_some hq
          refine gc_Vi C (k_X7_rainOf 7 (Or.inr rfl) M Mz56 z56 h57) wl_807 ok_X7_rainOf rv_X7 rfl ⟨Nat.le_of_ble_eq_true rfl, Nat.le_of_ble_eq_true rfl⟩ ⟨Nat.le_of_ble_eq_true rfl, Nat.le_of_ble_eq_true rfl⟩ rfl (Nat.le_of_ble_eq_true rfl) dX7_does_197 ?_
          refine g_iload C dX7_does_200 3 rfl ?_
          refine gc_Si C (k_X7_has z56 v4 Mz56) wl_811 ok_X7_has ⟨Nat.le_of_ble_eq_true rfl, Nat.le_of_ble_eq_true rfl⟩ ⟨Nat.le_of_ble_eq_true rfl, Nat.le_of_ble_eq_true rfl⟩ rfl (Nat.le_of_ble_eq_true rfl) dX7_does_202 ?_
          refine g_if_eq C (tgt := 212) dX7_does_205 (by decide) (fun c58 => ?_) (fun c58 => ?_)
          · have hq := ip c58 hq
            refine g_iconst C dX7_does_212 (v := 0) (by decide) ?_
            exact g_zret C dX7_does_213 (Or.inl rfl) (congrArg b2i (som2 hq).1) (congrArg (wD a cI cZ) (som2 hq).2)
          · have hq := iq c58 hq
            refine g_iconst C dX7_does_208 (v := 1) (by decide) ?_
            refine g_goto C (tgt := 213) dX7_does_209 (by decide) ?_
            exact g_zret C dX7_does_213 (Or.inr rfl) (congrArg b2i (som2 hq).1) (congrArg (wD a cI cZ) (som2 hq).2)
  have J_122 : ∀ (v2 : Int32) (v3 : Int32) (v4 : Int32) (M : MM), q_X7_does_122 x1  v2 v3 v4 M = some (r, M2) → gG p l e ({ frames := 4, cells := 0, slots := 0, locals := 92 }) s m args below meth c 5 (dC, dI) vwCl A0 s.heap 0 0 (MQ below ((qI (dC, dI) vwCl (wD a cI cZ M2) (b2i r)) A0) args s 0 0 A0) (wD a cI cZ M) 122 [(0, .ref (a 0)), (2, .int v2), (3, .int v3), (4, .int v4)] [] := by
    intro v2 v3 v4 M hq
    unfold q_X7_does_122 at hq
    refine g_iload_n C dX7_does_122 1 rfl rfl ?_
    refine g_iconst C dX7_does_123 (v := 3) (by decide) ?_
    refine g_icmp_ne C (tgt := 175) dX7_does_124 (by decide) (fun c67 => ?_) (fun c67 => ?_)
    · have hq := iq c67 hq
      exact g_sub [0, 1, 2, 3] rfl (J_175 v2 v3 v4 M hq)
    · have hq := ip c67 hq
      refine g_aload_n C dX7_does_127 0 rfl rfl ?_
      refine g_iload_n C dX7_does_128 2 rfl rfl ?_
      refine gc_Vi C (k_X7_noWalker v3 M) wl_830 ok_X7_noWalker rv_X7 rfl ⟨Nat.le_of_ble_eq_true rfl, Nat.le_of_ble_eq_true rfl⟩ ⟨Nat.le_of_ble_eq_true rfl, Nat.le_of_ble_eq_true rfl⟩ rfl (Nat.le_of_ble_eq_true rfl) dX7_does_129 ?_
      refine g_if_ne C (tgt := 175) dX7_does_132 (by decide) (fun c68 => ?_) (fun c68 => ?_)
      · have hq := iq c68 hq
        exact g_sub [0, 1, 2, 3] rfl (J_175 v2 v3 v4 M hq)
      · have hq := ip c68 hq
        refine g_iload C dX7_does_135 3 rfl ?_
        refine g_iconst C dX7_does_137 (v := 2) (by decide) ?_
        refine g_icmp_ge C (tgt := 175) dX7_does_138 (by decide) (fun c69 => ?_) (fun c69 => ?_)
        · have hq := ip c69 hq
          exact g_sub [0, 1, 2, 3] rfl (J_175 v2 v3 v4 M hq)
        · have hq := iq c69 hq
          refine g_aload_n C dX7_does_141 0 rfl rfl ?_
          refine rg_X7_trial C dX7_does_142 ?_
          refine g_iload_n C dX7_does_145 2 rfl rfl ?_
          refine g_iconst C dX7_does_146 (v := 2) (by decide) ?_
          refine g_iload C dX7_does_147 3 rfl ?_
          refine g_imul C dX7_does_149 ?_
          refine g_iconst C dX7_does_150 (v := 1) (by decide) ?_
          refine g_isub C dX7_does_151 ?_
          obtain ⟨z70, Mz70, h71, hq⟩ := obd_some hq
          refine gc_Si C (k_X7_canWalk 7 (Or.inr rfl) v3 (((2 : Int32) * v4) - (1 : Int32)) M Mz70 z70 h71) wl_874 ok_X7_canWalk ⟨Nat.le_of_ble_eq_true rfl, Nat.le_of_ble_eq_true rfl⟩ ⟨Nat.le_of_ble_eq_true rfl, Nat.le_of_ble_eq_true rfl⟩ rfl (Nat.le_of_ble_eq_true rfl) dX7_does_152 ?_
          refine g_if_eq C (tgt := 175) dX7_does_155 (by decide) (fun c72 => ?_) (fun c72 => ?_)
          · have hq := ip c72 hq
            exact g_sub [0, 1, 2, 3] rfl (J_175 v2 v3 v4 Mz70 hq)
          · have hq := iq c72 hq
            refine g_aload_n C dX7_does_158 0 rfl rfl ?_
            refine rg_X7_trial C dX7_does_159 ?_
            refine g_iload_n C dX7_does_162 2 rfl rfl ?_
            refine g_dup2_11 C dX7_does_163 rfl rfl ?_
            obtain ⟨h73, hq⟩ := ogd_some hq
            refine gb_ld C (show arD 7 24 from ⟨by decide, by decide, by decide, by decide⟩) h73 dX7_does_164 ?_
            refine g_iconst C dX7_does_165 (v := 2) (by decide) ?_
            refine g_iload C dX7_does_166 3 rfl ?_
            refine g_imul C dX7_does_168 ?_
            refine g_iconst C dX7_does_169 (v := 1) (by decide) ?_
            refine g_isub C dX7_does_170 ?_
            refine g_iadd C dX7_does_171 ?_
            obtain ⟨h74, hq⟩ := ogd_some hq
            refine gb_st C (show arD 7 24 from ⟨by decide, by decide, by decide, by decide⟩) h74 dX7_does_172 ?_
            refine g_iconst C dX7_does_173 (v := 1) (by decide) ?_
            exact g_zret C dX7_does_174 (Or.inr rfl) (congrArg b2i (som2 hq).1) (congrArg (wD a cI cZ) (som2 hq).2)
  have J_78 : ∀ (v2 : Int32) (v3 : Int32) (v4 : Int32) (M : MM), q_X7_does_78 x1  v2 v3 v4 M = some (r, M2) → gG p l e ({ frames := 4, cells := 0, slots := 0, locals := 92 }) s m args below meth c 5 (dC, dI) vwCl A0 s.heap 0 0 (MQ below ((qI (dC, dI) vwCl (wD a cI cZ M2) (b2i r)) A0) args s 0 0 A0) (wD a cI cZ M) 78 [(0, .ref (a 0)), (2, .int v2), (3, .int v3), (4, .int v4)] [] := by
    intro v2 v3 v4 M hq
    unfold q_X7_does_78 at hq
    refine g_iload_n C dX7_does_78 1 rfl rfl ?_
    refine g_iconst C dX7_does_79 (v := 2) (by decide) ?_
    refine g_icmp_ne C (tgt := 122) dX7_does_80 (by decide) (fun c82 => ?_) (fun c82 => ?_)
    · have hq := iq c82 hq
      exact g_sub [0, 1, 2, 3] rfl (J_122 v2 v3 v4 M hq)
    · have hq := ip c82 hq
      refine g_iload_n C dX7_does_83 2 rfl rfl ?_
      refine g_if_ne C (tgt := 122) dX7_does_84 (by decide) (fun c83 => ?_) (fun c83 => ?_)
      · have hq := iq c83 hq
        exact g_sub [0, 1, 2, 3] rfl (J_122 v2 v3 v4 M hq)
      · have hq := ip c83 hq
        refine g_aload_n C dX7_does_87 0 rfl rfl ?_
        refine g_iload C dX7_does_88 3 rfl ?_
        refine gc_Vi C (k_X7_noWalker v4 M) wl_830 ok_X7_noWalker rv_X7 rfl ⟨Nat.le_of_ble_eq_true rfl, Nat.le_of_ble_eq_true rfl⟩ ⟨Nat.le_of_ble_eq_true rfl, Nat.le_of_ble_eq_true rfl⟩ rfl (Nat.le_of_ble_eq_true rfl) dX7_does_90 ?_
        refine g_if_ne C (tgt := 122) dX7_does_93 (by decide) (fun c84 => ?_) (fun c84 => ?_)
        · have hq := iq c84 hq
          exact g_sub [0, 1, 2, 3] rfl (J_122 v2 v3 v4 M hq)
        · have hq := ip c84 hq
          refine g_aload_n C dX7_does_96 0 rfl rfl ?_
          refine rg_X7_trial C dX7_does_97 ?_
          refine g_iconst C dX7_does_100 (v := 5) (by decide) ?_
          obtain ⟨h85, hq⟩ := ogd_some hq
          refine gb_ld C (show arD 7 24 from ⟨by decide, by decide, by decide, by decide⟩) h85 dX7_does_101 ?_
          refine g_iload C dX7_does_102 3 rfl ?_
          refine gc_Si C (k_X7_has (M.1 7 (5 : Int32).toNatClampNeg) v4 M) wl_811 ok_X7_has ⟨Nat.le_of_ble_eq_true rfl, Nat.le_of_ble_eq_true rfl⟩ ⟨Nat.le_of_ble_eq_true rfl, Nat.le_of_ble_eq_true rfl⟩ rfl (Nat.le_of_ble_eq_true rfl) dX7_does_104 ?_
          refine g_if_eq C (tgt := 122) dX7_does_107 (by decide) (fun c86 => ?_) (fun c86 => ?_)
          · have hq := ip c86 hq
            exact g_sub [0, 1, 2, 3] rfl (J_122 v2 v3 v4 M hq)
          · have hq := iq c86 hq
            refine g_aload_n C dX7_does_110 0 rfl rfl ?_
            refine g_aload_n C dX7_does_111 0 rfl rfl ?_
            refine rg_X7_trial C dX7_does_112 ?_
            refine g_iload C dX7_does_115 3 rfl ?_
            obtain ⟨z87, Mz87, h88, hq⟩ := obd_some hq
            refine gc_Vv C (k_X7_goShut 7 (Or.inr rfl) v4 M Mz87 z87 h88) wl_866 ok_X7_goShut rv_X7 rfl ⟨Nat.le_of_ble_eq_true rfl, Nat.le_of_ble_eq_true rfl⟩ ⟨Nat.le_of_ble_eq_true rfl, Nat.le_of_ble_eq_true rfl⟩ rfl (Nat.le_of_ble_eq_true rfl) dX7_does_117 ?_
            refine g_iconst C dX7_does_120 (v := 1) (by decide) ?_
            exact g_zret C dX7_does_121 (Or.inr rfl) (congrArg b2i (som2 hq).1) (congrArg (wD a cI cZ) (som2 hq).2)
  unfold q_X7_does at hq
  refine g_iload_n C dX7_does_0 1 rfl rfl ?_
  refine g_bipush C dX7_does_1 (v := 100) (by decide) ?_
  refine g_idiv C dX7_does_3 (by decide) ?_
  refine g_istore_n C (lv2 := [(2, _), (0, _), (1, _)]) dX7_does_4 rfl (by decide) rfl ?_
  refine g_iload_n C dX7_does_5 2 rfl rfl ?_
  refine g_bipush C dX7_does_6 (v := 10) (by decide) ?_
  refine g_idiv C dX7_does_8 (by decide) ?_
  refine g_bipush C dX7_does_9 (v := 10) (by decide) ?_
  refine g_irem C dX7_does_11 (by decide) ?_
  refine g_istore_n C (lv2 := [(3, _), (2, _), (0, _), (1, _)]) dX7_does_12 rfl (by decide) rfl ?_
  refine g_iload_n C dX7_does_13 3 rfl rfl ?_
  refine g_bipush C dX7_does_14 (v := 10) (by decide) ?_
  refine g_irem C dX7_does_16 (by decide) ?_
  refine g_istore C (lv2 := [(4, _), (3, _), (2, _), (0, _), (1, _)]) dX7_does_17 (by decide) rfl ?_
  refine g_iload_n C dX7_does_19 4 rfl rfl ?_
  refine g_if_ne C (tgt := 34) dX7_does_20 (by decide) (fun c99 => ?_) (fun c99 => ?_)
  · have hq := iq c99 hq
    refine g_iload_n C dX7_does_34 2 rfl rfl ?_
    refine g_iconst C dX7_does_35 (v := 1) (by decide) ?_
    refine g_icmp_ne C (tgt := 78) dX7_does_36 (by decide) (fun c100 => ?_) (fun c100 => ?_)
    · have hq := iq c100 hq
      exact g_sub [3, 2, 1, 0] rfl (J_78 (x1 / (100 : Int32)) ((x1 / (10 : Int32)) - (x1 / (10 : Int32)) / (10 : Int32) * (10 : Int32)) (x1 - x1 / (10 : Int32) * (10 : Int32)) M hq)
    · have hq := ip c100 hq
      refine g_iload_n C dX7_does_39 1 rfl rfl ?_
      refine g_if_ne C (tgt := 78) dX7_does_40 (by decide) (fun c101 => ?_) (fun c101 => ?_)
      · have hq := iq c101 hq
        exact g_sub [3, 2, 1, 0] rfl (J_78 (x1 / (100 : Int32)) ((x1 / (10 : Int32)) - (x1 / (10 : Int32)) / (10 : Int32) * (10 : Int32)) (x1 - x1 / (10 : Int32) * (10 : Int32)) M hq)
      · have hq := ip c101 hq
        refine g_aload_n C dX7_does_43 3 rfl rfl ?_
        refine g_iload C dX7_does_44 0 rfl ?_
        refine gc_Vi C (k_X7_noWalker (x1 - x1 / (10 : Int32) * (10 : Int32)) M) wl_830 ok_X7_noWalker rv_X7 rfl ⟨Nat.le_of_ble_eq_true rfl, Nat.le_of_ble_eq_true rfl⟩ ⟨Nat.le_of_ble_eq_true rfl, Nat.le_of_ble_eq_true rfl⟩ rfl (Nat.le_of_ble_eq_true rfl) dX7_does_46 ?_
        refine g_if_ne C (tgt := 78) dX7_does_49 (by decide) (fun c102 => ?_) (fun c102 => ?_)
        · have hq := iq c102 hq
          exact g_sub [3, 2, 1, 0] rfl (J_78 (x1 / (100 : Int32)) ((x1 / (10 : Int32)) - (x1 / (10 : Int32)) / (10 : Int32) * (10 : Int32)) (x1 - x1 / (10 : Int32) * (10 : Int32)) M hq)
        · have hq := ip c102 hq
          refine g_aload_n C dX7_does_52 3 rfl rfl ?_
          refine rg_X7_trial C dX7_does_53 ?_
          refine g_iconst C dX7_does_56 (v := 5) (by decide) ?_
          obtain ⟨h103, hq⟩ := ogd_some hq
          refine gb_ld C (show arD 7 24 from ⟨by decide, by decide, by decide, by decide⟩) h103 dX7_does_57 ?_
          refine g_iload C dX7_does_58 0 rfl ?_
          refine gc_Si C (k_X7_has (M.1 7 (5 : Int32).toNatClampNeg) (x1 - x1 / (10 : Int32) * (10 : Int32)) M) wl_811 ok_X7_has ⟨Nat.le_of_ble_eq_true rfl, Nat.le_of_ble_eq_true rfl⟩ ⟨Nat.le_of_ble_eq_true rfl, Nat.le_of_ble_eq_true rfl⟩ rfl (Nat.le_of_ble_eq_true rfl) dX7_does_60 ?_
          refine g_if_ne C (tgt := 78) dX7_does_63 (by decide) (fun c104 => ?_) (fun c104 => ?_)
          · have hq := iq c104 hq
            exact g_sub [3, 2, 1, 0] rfl (J_78 (x1 / (100 : Int32)) ((x1 / (10 : Int32)) - (x1 / (10 : Int32)) / (10 : Int32) * (10 : Int32)) (x1 - x1 / (10 : Int32) * (10 : Int32)) M hq)
          · have hq := ip c104 hq
            refine g_aload_n C dX7_does_66 3 rfl rfl ?_
            refine g_aload_n C dX7_does_67 3 rfl rfl ?_
            refine rg_X7_trial C dX7_does_68 ?_
            refine g_iload C dX7_does_71 0 rfl ?_
            obtain ⟨z105, Mz105, h106, hq⟩ := obd_some hq
            refine gc_Vv C (k_X7_goOpen 7 (Or.inr rfl) (x1 - x1 / (10 : Int32) * (10 : Int32)) M Mz105 z105 h106) wl_855 ok_X7_goOpen rv_X7 rfl ⟨Nat.le_of_ble_eq_true rfl, Nat.le_of_ble_eq_true rfl⟩ ⟨Nat.le_of_ble_eq_true rfl, Nat.le_of_ble_eq_true rfl⟩ rfl (Nat.le_of_ble_eq_true rfl) dX7_does_73 ?_
            refine g_iconst C dX7_does_76 (v := 1) (by decide) ?_
            exact g_zret C dX7_does_77 (Or.inr rfl) (congrArg b2i (som2 hq).1) (congrArg (wD a cI cZ) (som2 hq).2)
  · have hq := ip c99 hq
    refine g_aload_n C dX7_does_23 3 rfl rfl ?_
    refine g_aload_n C dX7_does_24 3 rfl rfl ?_
    refine rg_X7_trial C dX7_does_25 ?_
    obtain ⟨z107, Mz107, h108, hq⟩ := obd_some hq
    refine gc_Vi C (k_X7_goHour 7 (Or.inr rfl) M Mz107 z107 h108) wl_881 ok_X7_goHour rv_X7 rfl ⟨Nat.le_of_ble_eq_true rfl, Nat.le_of_ble_eq_true rfl⟩ ⟨Nat.le_of_ble_eq_true rfl, Nat.le_of_ble_eq_true rfl⟩ rfl (Nat.le_of_ble_eq_true rfl) dX7_does_28 ?_
    refine g_pop C dX7_does_31 rfl ?_
    refine g_iconst C dX7_does_32 (v := 1) (by decide) ?_
    exact g_zret C dX7_does_33 (Or.inr rfl) (congrArg b2i (som2 hq).1) (congrArg (wD a cI cZ) (som2 hq).2)
set_option maxHeartbeats 4000000 in
set_option maxRecDepth 100000 in
theorem k_X7_judge {l : Launch} {dC : Nat → ClassId} {dI : Nat → Nat → Nat} {a : Nat → Nat} {cI cZ cS : ClassId} (x1 : Int32) (x2 : Int64) (M M2 : MM) (r : Int32) (hq : q_X7_judge x1 x2 M = some (r, M2)) : KQ l (dC, dI) vwCl (tyW cI cZ cS) yX7_judge cX7_judge 5 (some .int) 5 116 [.ref (a 0), .int x1, .long x2] (wD a cI cZ M) (qI (dC, dI) vwCl (wD a cI cZ M2) r) := by
  refine KQ.of (by decide) (Nat.le_of_ble_eq_true rfl) rfl ?_
  intro p e s m args below meth c A0 C
  have L_44 : ∀ (f : Nat) (v4 : Int32) (M : MM), q_X7_judge_44 x1 x2  f v4 M = some (r, M2) → gG p l e ({ frames := 5, cells := 0, slots := 0, locals := 116 }) s m args below meth c 5 (dC, dI) vwCl A0 s.heap 0 0 (MQ below ((qI (dC, dI) vwCl (wD a cI cZ M2) r) A0) args s 0 0 A0) (wD a cI cZ M) 44 [(0, .ref (a 0)), (1, .int x1), (2, .long x2), (4, .int v4)] [] := by
    intro f
    induction f with
    | zero => intro v4 M hq; cases hq
    | succ f_44 ih_44 =>
      intro v4 M hq
      rw [q_X7_judge_44] at hq
      refine g_iload C dX7_judge_44 3 rfl ?_
      refine g_iload_n C dX7_judge_46 1 rfl rfl ?_
      refine g_icmp_ge C (tgt := 85) dX7_judge_47 (by decide) (fun c21 => ?_) (fun c21 => ?_)
      · have hq := ip c21 hq
        refine g_bipush C dX7_judge_85 (v := -9) (by decide) ?_
        exact g_iret C dX7_judge_87 (som2 hq).1 (congrArg (wD a cI cZ) (som2 hq).2)
      · have hq := iq c21 hq
        refine g_aload_n C dX7_judge_50 0 rfl rfl ?_
        refine g_lload_n C dX7_judge_51 2 rfl rfl ?_
        refine g_ldc2 C wl_938 dX7_judge_52 ?_
        refine g_iload_n C dX7_judge_55 1 rfl rfl ?_
        refine g_iconst C dX7_judge_56 (v := 1) (by decide) ?_
        refine g_isub C dX7_judge_57 ?_
        refine g_iload C dX7_judge_58 3 rfl ?_
        refine g_isub C dX7_judge_60 ?_
        obtain ⟨z22, Mz22, h23, hq⟩ := obd_some hq
        refine gc_Sl C (k_X7_longPower (1000 : Int64) ((x1 - (1 : Int32)) - v4) M Mz22 z22 h23) wl_939 ok_X7_longPower ⟨Nat.le_of_ble_eq_true rfl, Nat.le_of_ble_eq_true rfl⟩ ⟨Nat.le_of_ble_eq_true rfl, Nat.le_of_ble_eq_true rfl⟩ rfl (Nat.le_of_ble_eq_true rfl) dX7_judge_61 ?_
        obtain ⟨h24, hq⟩ := ogd_some hq
        refine g_ldiv C dX7_judge_64 h24 ?_
        refine g_ldc2 C wl_938 dX7_judge_65 ?_
        refine g_lrem C dX7_judge_68 (by decide) ?_
        refine g_l2i C dX7_judge_69 rfl ?_
        obtain ⟨z25, Mz25, h26, hq⟩ := obd_some hq
        refine gc_Vi C (k_X7_does (((x2 / z22) - (x2 / z22) / (1000 : Int64) * (1000 : Int64)).toInt32) Mz22 Mz25 z25 h26) wl_942 ok_X7_does rv_X7 rfl ⟨Nat.le_of_ble_eq_true rfl, Nat.le_of_ble_eq_true rfl⟩ ⟨Nat.le_of_ble_eq_true rfl, Nat.le_of_ble_eq_true rfl⟩ rfl (Nat.le_of_ble_eq_true rfl) dX7_judge_70 ?_
        refine g_if_ne C (tgt := 79) dX7_judge_73 (by decide) (fun c27 => ?_) (fun c27 => ?_)
        · have hq := iq c27 hq
          refine g_iinc C (v := (v4 + (1 : Int32))) (lv2 := [(4, _), (0, _), (1, _), (2, _)]) dX7_judge_79 3 rfl rfl (by decide) rfl ?_
          refine g_goto C (tgt := 44) dX7_judge_82 (by decide) ?_
          exact g_sub [1, 2, 3, 0] rfl (ih_44 (v4 + (1 : Int32)) Mz25 hq)
        · have hq := ip c27 hq
          refine g_iload C dX7_judge_76 3 rfl ?_
          exact g_iret C dX7_judge_78 (som2 hq).1 (congrArg (wD a cI cZ) (som2 hq).2)
  unfold q_X7_judge at hq
  refine g_aload_n C dX7_judge_0 0 rfl rfl ?_
  refine g_iconst C dX7_judge_1 (v := 0) (by decide) ?_
  refine rp_X7_thrown C dX7_judge_2 ?_
  refine g_iload_n C dX7_judge_5 1 rfl rfl ?_
  refine g_i2l C dX7_judge_6 rfl ?_
  refine g_lconst C dX7_judge_7 (v := 1) (by decide) ?_
  refine g_ldc2 C wl_937 dX7_judge_8 ?_
  refine gc_Si C (k_X7_in (x1.toInt64) (1 : Int64) (4 : Int64) (mU M 0 0 (0 : Int32))) wl_768 ok_X7_in ⟨Nat.le_of_ble_eq_true rfl, Nat.le_of_ble_eq_true rfl⟩ ⟨Nat.le_of_ble_eq_true rfl, Nat.le_of_ble_eq_true rfl⟩ rfl (Nat.le_of_ble_eq_true rfl) dX7_judge_11 ?_
  refine g_if_eq C (tgt := 34) dX7_judge_14 (by decide) (fun c34 => ?_) (fun c34 => ?_)
  · have hq := ip c34 hq
    refine g_bipush C dX7_judge_34 (v := -2) (by decide) ?_
    exact g_iret C dX7_judge_36 (som2 hq).1 (congrArg (wD a cI cZ) (som2 hq).2)
  · have hq := iq c34 hq
    refine g_lload_n C dX7_judge_17 2 rfl rfl ?_
    refine g_lconst C dX7_judge_18 (v := 0) (by decide) ?_
    refine g_ldc2 C wl_938 dX7_judge_19 ?_
    refine g_iload_n C dX7_judge_22 1 rfl rfl ?_
    obtain ⟨z35, Mz35, h36, hq⟩ := obd_some hq
    refine gc_Sl C (k_X7_longPower (1000 : Int64) x1 (mU M 0 0 (0 : Int32)) Mz35 z35 h36) wl_939 ok_X7_longPower ⟨Nat.le_of_ble_eq_true rfl, Nat.le_of_ble_eq_true rfl⟩ ⟨Nat.le_of_ble_eq_true rfl, Nat.le_of_ble_eq_true rfl⟩ rfl (Nat.le_of_ble_eq_true rfl) dX7_judge_23 ?_
    refine g_lconst C dX7_judge_26 (v := 1) (by decide) ?_
    refine g_lsub C dX7_judge_27 ?_
    refine gc_Si C (k_X7_in x2 (0 : Int64) (z35 - (1 : Int64)) Mz35) wl_768 ok_X7_in ⟨Nat.le_of_ble_eq_true rfl, Nat.le_of_ble_eq_true rfl⟩ ⟨Nat.le_of_ble_eq_true rfl, Nat.le_of_ble_eq_true rfl⟩ rfl (Nat.le_of_ble_eq_true rfl) dX7_judge_28 ?_
    refine g_if_ne C (tgt := 37) dX7_judge_31 (by decide) (fun c37 => ?_) (fun c37 => ?_)
    · have hq := iq c37 hq
      refine g_aload_n C dX7_judge_37 0 rfl rfl ?_
      obtain ⟨z38, Mz38, h39, hq⟩ := obd_some hq
      refine gc_Vv C (k_X7_begin  Mz35 Mz38 z38 h39) wl_898 ok_X7_begin rv_X7 rfl ⟨Nat.le_of_ble_eq_true rfl, Nat.le_of_ble_eq_true rfl⟩ ⟨Nat.le_of_ble_eq_true rfl, Nat.le_of_ble_eq_true rfl⟩ rfl (Nat.le_of_ble_eq_true rfl) dX7_judge_38 ?_
      refine g_iconst C dX7_judge_41 (v := 0) (by decide) ?_
      refine g_istore C (lv2 := [(4, _), (0, _), (1, _), (2, _)]) dX7_judge_42 (by decide) rfl ?_
      exact g_sub [1, 2, 3, 0] rfl (L_44 FU (0 : Int32) Mz38 hq)
    · have hq := ip c37 hq
      refine g_bipush C dX7_judge_34 (v := -2) (by decide) ?_
      exact g_iret C dX7_judge_36 (som2 hq).1 (congrArg (wD a cI cZ) (som2 hq).2)
set_option maxHeartbeats 4000000 in
set_option maxRecDepth 100000 in
theorem k_X7_ways {l : Launch} {dC : Nat → ClassId} {dI : Nat → Nat → Nat} {a : Nat → Nat} {cI cZ cS : ClassId} (x0 : Int32) (M M2 : MM) (r : Int32) (hq : q_X7_ways x0 M = some (r, M2)) : KQ l (dC, dI) vwCl (tyW cI cZ cS) yX7_ways cX7_ways 3 (some .int) 0 0 [.int x0] (wD a cI cZ M) (qI (dC, dI) vwCl (wD a cI cZ M2) r) := by
  refine KQ.of (by decide) (Nat.le_of_ble_eq_true rfl) rfl ?_
  intro p e s m args below meth c A0 C
  have L_4 : ∀ (f : Nat) (v1 : Int32) (v2 : Int32) (M : MM), q_X7_ways_4 x0  f v1 v2 M = some (r, M2) → gG p l e ({ frames := 0, cells := 0, slots := 0, locals := 0 }) s m args below meth c 3 (dC, dI) vwCl A0 s.heap 0 0 (MQ below ((qI (dC, dI) vwCl (wD a cI cZ M2) r) A0) args s 0 0 A0) (wD a cI cZ M) 4 [(0, .int x0), (1, .int v1), (2, .int v2)] [] := by
    intro f
    induction f with
    | zero => intro v1 v2 M hq; cases hq
    | succ f_4 ih_4 =>
      intro v1 v2 M hq
      rw [q_X7_ways_4] at hq
      refine g_iload_n C dX7_ways_4 2 rfl rfl ?_
      refine g_iload_n C dX7_ways_5 0 rfl rfl ?_
      refine g_icmp_gt C (tgt := 19) dX7_ways_6 (by decide) (fun c3 => ?_) (fun c3 => ?_)
      · have hq := ip c3 hq
        refine g_iload_n C dX7_ways_19 1 rfl rfl ?_
        exact g_iret C dX7_ways_20 (som2 hq).1 (congrArg (wD a cI cZ) (som2 hq).2)
      · have hq := iq c3 hq
        refine g_iload_n C dX7_ways_9 1 rfl rfl ?_
        refine g_iload_n C dX7_ways_10 2 rfl rfl ?_
        refine g_imul C dX7_ways_11 ?_
        refine g_istore_n C (lv2 := [(1, _), (0, _), (2, _)]) dX7_ways_12 rfl (by decide) rfl ?_
        refine g_iinc C (v := (v2 + (1 : Int32))) (lv2 := [(2, _), (1, _), (0, _)]) dX7_ways_13 2 rfl rfl (by decide) rfl ?_
        refine g_goto C (tgt := 4) dX7_ways_16 (by decide) ?_
        exact g_sub [2, 1, 0] rfl (ih_4 (v1 * v2) (v2 + (1 : Int32)) M hq)
  unfold q_X7_ways at hq
  refine g_iconst C dX7_ways_0 (v := 1) (by decide) ?_
  refine g_istore_n C (lv2 := [(1, _), (0, _)]) dX7_ways_1 rfl (by decide) rfl ?_
  refine g_iconst C dX7_ways_2 (v := 2) (by decide) ?_
  refine g_istore_n C (lv2 := [(2, _), (1, _), (0, _)]) dX7_ways_3 rfl (by decide) rfl ?_
  exact g_sub [2, 1, 0] rfl (L_4 FU (1 : Int32) (2 : Int32) M hq)
set_option maxHeartbeats 4000000 in
set_option maxRecDepth 100000 in
theorem k_X7_divisor {l : Launch} {dC : Nat → ClassId} {dI : Nat → Nat → Nat} {a : Nat → Nat} {cI cZ cS : ClassId} (x0 : Int32) (x1 : Int32) (M M2 : MM) (r : Int32) (hq : q_X7_divisor x0 x1 M = some (r, M2)) : KQ l (dC, dI) vwCl (tyW cI cZ cS) yX7_divisor cX7_divisor 5 (some .int) 0 0 [.int x0, .int x1] (wD a cI cZ M) (qI (dC, dI) vwCl (wD a cI cZ M2) r) := by
  refine KQ.of (by decide) (Nat.le_of_ble_eq_true rfl) rfl ?_
  intro p e s m args below meth c A0 C
  have L_13 : ∀ (f : Nat) (v2 : Int32) (v3 : Int32) (M : MM), q_X7_divisor_13 x0 x1  f v2 v3 M = some (r, M2) → gG p l e ({ frames := 0, cells := 0, slots := 0, locals := 0 }) s m args below meth c 5 (dC, dI) vwCl A0 s.heap 0 0 (MQ below ((qI (dC, dI) vwCl (wD a cI cZ M2) r) A0) args s 0 0 A0) (wD a cI cZ M) 13 [(2, .int v2), (3, .int v3)] [] := by
    intro f
    induction f with
    | zero => intro v2 v3 M hq; cases hq
    | succ f_13 ih_13 =>
      intro v2 v3 M hq
      rw [q_X7_divisor_13] at hq
      refine g_iload_n C dX7_divisor_13 1 rfl rfl ?_
      refine g_if_eq C (tgt := 30) dX7_divisor_14 (by decide) (fun c6 => ?_) (fun c6 => ?_)
      · have hq := ip c6 hq
        refine g_iload_n C dX7_divisor_30 0 rfl rfl ?_
        exact g_iret C dX7_divisor_31 (som2 hq).1 (congrArg (wD a cI cZ) (som2 hq).2)
      · have hq := iq c6 hq
        refine g_iload_n C dX7_divisor_17 0 rfl rfl ?_
        refine g_iload_n C dX7_divisor_18 1 rfl rfl ?_
        obtain ⟨h7, hq⟩ := ogd_some hq
        refine g_irem C dX7_divisor_19 h7 ?_
        refine g_istore C (lv2 := [(4, _), (2, _), (3, _)]) dX7_divisor_20 (by decide) rfl ?_
        refine g_iload_n C dX7_divisor_22 2 rfl rfl ?_
        refine g_istore_n C (lv2 := [(2, _), (4, _), (3, _)]) dX7_divisor_23 rfl (by decide) rfl ?_
        refine g_iload C dX7_divisor_24 1 rfl ?_
        refine g_istore_n C (lv2 := [(3, _), (2, _), (4, _)]) dX7_divisor_26 rfl (by decide) rfl ?_
        refine g_goto C (tgt := 13) dX7_divisor_27 (by decide) ?_
        exact g_sub [1, 0] rfl (ih_13 v3 (v2 - v2 / v3 * v3) M hq)
  have J_10 : ∀ (s0 : Int32) (M : MM), q_X7_divisor_10 x0 x1  s0 M = some (r, M2) → gG p l e ({ frames := 0, cells := 0, slots := 0, locals := 0 }) s m args below meth c 5 (dC, dI) vwCl A0 s.heap 0 0 (MQ below ((qI (dC, dI) vwCl (wD a cI cZ M2) r) A0) args s 0 0 A0) (wD a cI cZ M) 10 [(1, .int x1)] [.int s0] := by
    intro s0 M hq
    unfold q_X7_divisor_10 at hq
    refine g_istore_n C (lv2 := [(2, _), (1, _)]) dX7_divisor_10 rfl (by decide) rfl ?_
    refine g_iload_n C dX7_divisor_11 1 rfl rfl ?_
    refine g_istore_n C (lv2 := [(3, _), (2, _), (1, _)]) dX7_divisor_12 rfl (by decide) rfl ?_
    exact g_sub [1, 0] rfl (L_13 FU s0 x1 M hq)
  unfold q_X7_divisor at hq
  refine g_iload_n C dX7_divisor_0 0 rfl rfl ?_
  refine g_if_ge C (tgt := 9) dX7_divisor_1 (by decide) (fun c9 => ?_) (fun c9 => ?_)
  · have hq := ip c9 hq
    refine g_iload_n C dX7_divisor_9 0 rfl rfl ?_
    exact g_sub [1] rfl (J_10 x0 M hq)
  · have hq := iq c9 hq
    refine g_iload_n C dX7_divisor_4 0 rfl rfl ?_
    refine g_ineg C dX7_divisor_5 ?_
    refine g_goto C (tgt := 10) dX7_divisor_6 (by decide) ?_
    exact g_sub [1] rfl (J_10 (-x0) M hq)
set_option maxHeartbeats 4000000 in
set_option maxRecDepth 100000 in
theorem k_X7_fraction {l : Launch} {dC : Nat → ClassId} {dI : Nat → Nat → Nat} {a : Nat → Nat} {cI cZ cS : ClassId} (x0 : Int32) (x1 : Int32) (x2 : Int32) (M M2 : MM) (r : Int32) (hq : q_X7_fraction x0 x1 x2 M = some (r, M2)) : KQ l (dC, dI) vwCl (tyW cI cZ cS) yX7_fraction cX7_fraction 4 (some .int) 1 24 [.int x0, .int x1, .int x2] (wD a cI cZ M) (qI (dC, dI) vwCl (wD a cI cZ M2) r) := by
  refine KQ.of (by decide) (Nat.le_of_ble_eq_true rfl) rfl ?_
  intro p e s m args below meth c A0 C
  unfold q_X7_fraction at hq
  refine g_iload_n C dX7_fraction_0 0 rfl rfl ?_
  refine g_iload_n C dX7_fraction_1 1 rfl rfl ?_
  obtain ⟨z11, Mz11, h12, hq⟩ := obd_some hq
  refine gc_Si C (k_X7_divisor x0 x1 M Mz11 z11 h12) wl_956 ok_X7_divisor ⟨Nat.le_of_ble_eq_true rfl, Nat.le_of_ble_eq_true rfl⟩ ⟨Nat.le_of_ble_eq_true rfl, Nat.le_of_ble_eq_true rfl⟩ rfl (Nat.le_of_ble_eq_true rfl) dX7_fraction_2 ?_
  refine g_istore_n C (lv2 := [(3, _), (0, _), (1, _), (2, _)]) dX7_fraction_5 rfl (by decide) rfl ?_
  refine g_iload_n C dX7_fraction_6 3 rfl rfl ?_
  refine g_if_eq C (tgt := 16) dX7_fraction_7 (by decide) (fun c13 => ?_) (fun c13 => ?_)
  · have hq := ip c13 hq
    refine g_iload_n C dX7_fraction_16 2 rfl rfl ?_
    refine g_iload_n C dX7_fraction_17 0 rfl rfl ?_
    obtain ⟨h14, hq⟩ := ogd_some hq
    refine g_idiv C dX7_fraction_18 h14 ?_
    exact g_iret C dX7_fraction_19 (som2 hq).1 (congrArg (wD a cI cZ) (som2 hq).2)
  · have hq := iq c13 hq
    refine g_iload_n C dX7_fraction_10 1 rfl rfl ?_
    refine g_iload_n C dX7_fraction_11 0 rfl rfl ?_
    obtain ⟨h15, hq⟩ := ogd_some hq
    refine g_idiv C dX7_fraction_12 h15 ?_
    refine g_goto C (tgt := 19) dX7_fraction_13 (by decide) ?_
    exact g_iret C dX7_fraction_19 (som2 hq).1 (congrArg (wD a cI cZ) (som2 hq).2)
set_option maxHeartbeats 4000000 in
set_option maxRecDepth 100000 in
theorem k_X7_share {l : Launch} {dC : Nat → ClassId} {dI : Nat → Nat → Nat} {a : Nat → Nat} {cI cZ cS : ClassId} (x1 : Int32) (x2 : Int32) (M M2 : MM) (r : Int32) (hq : q_X7_share x1 x2 M = some (r, M2)) : KQ l (dC, dI) vwCl (tyW cI cZ cS) yX7_share cX7_share 6 (some .int) 6 134 [.ref (a 0), .int x1, .int x2] (wD a cI cZ M) (qI (dC, dI) vwCl (wD a cI cZ M2) r) := by
  refine KQ.of (by decide) (Nat.le_of_ble_eq_true rfl) rfl ?_
  intro p e s m args below meth c A0 C
  have L_76 : ∀ (f : Nat) (v3 : Int32) (v4 : Int32) (M : MM), q_X7_share_76 x1 x2  f v3 v4 M = some (r, M2) → gG p l e ({ frames := 6, cells := 0, slots := 0, locals := 134 }) s m args below meth c 6 (dC, dI) vwCl A0 s.heap 0 0 (MQ below ((qI (dC, dI) vwCl (wD a cI cZ M2) r) A0) args s 0 0 A0) (wD a cI cZ M) 76 [(0, .ref (a 0)), (1, .int x1), (2, .int x2), (3, .int v3), (4, .int v4)] [] := by
    intro f
    induction f with
    | zero => intro v3 v4 M hq; cases hq
    | succ f_76 ih_76 =>
      have J_144 : ∀ (v3 : Int32) (v4 : Int32) (M : MM), q_X7_share_144 x1 x2 (q_X7_share_76 x1 x2  f_76) v3 v4 M = some (r, M2) → gG p l e ({ frames := 6, cells := 0, slots := 0, locals := 134 }) s m args below meth c 6 (dC, dI) vwCl A0 s.heap 0 0 (MQ below ((qI (dC, dI) vwCl (wD a cI cZ M2) r) A0) args s 0 0 A0) (wD a cI cZ M) 144 [(0, .ref (a 0)), (1, .int x1), (2, .int x2), (3, .int v3), (4, .int v4)] [] := by
        intro v3 v4 M hq
        unfold q_X7_share_144 at hq
        refine g_iinc C (v := (v4 + (1 : Int32))) (lv2 := [(4, _), (0, _), (1, _), (2, _), (3, _)]) dX7_share_144 4 rfl rfl (by decide) rfl ?_
        refine g_goto C (tgt := 76) dX7_share_147 (by decide) ?_
        exact g_sub [1, 2, 3, 4, 0] rfl (ih_76 v3 (v4 + (1 : Int32)) M hq)
      intro v3 v4 M hq
      rw [q_X7_share_76] at hq
      refine g_iload C dX7_share_76 4 rfl ?_
      refine g_iconst C dX7_share_78 (v := 1) (by decide) ?_
      refine g_aload_n C dX7_share_79 0 rfl rfl ?_
      refine rg_X7_walkers C dX7_share_80 ?_
      refine g_ishl C dX7_share_83 ?_
      refine g_icmp_ge C (tgt := 150) dX7_share_84 (by decide) (fun c41 => ?_) (fun c41 => ?_)
      · have hq := ip c41 hq
        refine g_iload_n C dX7_share_150 3 rfl rfl ?_
        refine g_aload_n C dX7_share_151 0 rfl rfl ?_
        refine rg_X7_walkers C dX7_share_152 ?_
        obtain ⟨z42, Mz42, h43, hq⟩ := obd_some hq
        refine gc_Si C (k_X7_ways (M.1 0 3) M Mz42 z42 h43) wl_950 ok_X7_ways ⟨Nat.le_of_ble_eq_true rfl, Nat.le_of_ble_eq_true rfl⟩ ⟨Nat.le_of_ble_eq_true rfl, Nat.le_of_ble_eq_true rfl⟩ rfl (Nat.le_of_ble_eq_true rfl) dX7_share_155 ?_
        refine g_iload_n C dX7_share_158 2 rfl rfl ?_
        obtain ⟨z44, Mz44, h45, hq⟩ := obd_some hq
        refine gc_Si C (k_X7_fraction v3 z42 x2 Mz42 Mz44 z44 h45) wl_953 ok_X7_fraction ⟨Nat.le_of_ble_eq_true rfl, Nat.le_of_ble_eq_true rfl⟩ ⟨Nat.le_of_ble_eq_true rfl, Nat.le_of_ble_eq_true rfl⟩ rfl (Nat.le_of_ble_eq_true rfl) dX7_share_159 ?_
        exact g_iret C dX7_share_162 (som2 hq).1 (congrArg (wD a cI cZ) (som2 hq).2)
      · have hq := iq c41 hq
        refine g_iload C dX7_share_87 4 rfl ?_
        refine g_iload_n C dX7_share_89 1 rfl rfl ?_
        refine gc_Si C (k_X7_has v4 x1 M) wl_811 ok_X7_has ⟨Nat.le_of_ble_eq_true rfl, Nat.le_of_ble_eq_true rfl⟩ ⟨Nat.le_of_ble_eq_true rfl, Nat.le_of_ble_eq_true rfl⟩ rfl (Nat.le_of_ble_eq_true rfl) dX7_share_90 ?_
        refine g_if_ne C (tgt := 144) dX7_share_93 (by decide) (fun c46 => ?_) (fun c46 => ?_)
        · have hq := iq c46 hq
          exact g_sub [0, 1, 2, 3, 4] rfl (J_144 v3 v4 M hq)
        · have hq := ip c46 hq
          refine g_iload C dX7_share_96 4 rfl ?_
          obtain ⟨z47, Mz47, h48, hq⟩ := obd_some hq
          refine gc_Si C (k_X7_many v4 M Mz47 z47 h48) wl_926 ok_X7_many ⟨Nat.le_of_ble_eq_true rfl, Nat.le_of_ble_eq_true rfl⟩ ⟨Nat.le_of_ble_eq_true rfl, Nat.le_of_ble_eq_true rfl⟩ rfl (Nat.le_of_ble_eq_true rfl) dX7_share_98 ?_
          refine g_istore C (lv2 := [(5, _), (0, _), (1, _), (2, _), (3, _), (4, _)]) dX7_share_101 (by decide) rfl ?_
          refine g_iload_n C dX7_share_103 4 rfl rfl ?_
          refine g_iload C dX7_share_104 0 rfl ?_
          obtain ⟨z49, Mz49, h50, hq⟩ := obd_some hq
          refine gc_Si C (k_X7_ways z47 Mz47 Mz49 z49 h50) wl_950 ok_X7_ways ⟨Nat.le_of_ble_eq_true rfl, Nat.le_of_ble_eq_true rfl⟩ ⟨Nat.le_of_ble_eq_true rfl, Nat.le_of_ble_eq_true rfl⟩ rfl (Nat.le_of_ble_eq_true rfl) dX7_share_106 ?_
          refine g_aload_n C dX7_share_109 1 rfl rfl ?_
          refine rg_X7_walkers C dX7_share_110 ?_
          refine g_iconst C dX7_share_113 (v := 1) (by decide) ?_
          refine g_isub C dX7_share_114 ?_
          refine g_iload C dX7_share_115 0 rfl ?_
          refine g_isub C dX7_share_117 ?_
          obtain ⟨z51, Mz51, h52, hq⟩ := obd_some hq
          refine gc_Si C (k_X7_ways (((Mz49.1 0 3) - (1 : Int32)) - z47) Mz49 Mz51 z51 h52) wl_950 ok_X7_ways ⟨Nat.le_of_ble_eq_true rfl, Nat.le_of_ble_eq_true rfl⟩ ⟨Nat.le_of_ble_eq_true rfl, Nat.le_of_ble_eq_true rfl⟩ rfl (Nat.le_of_ble_eq_true rfl) dX7_share_118 ?_
          refine g_imul C dX7_share_121 ?_
          refine g_aload_n C dX7_share_122 1 rfl rfl ?_
          refine rg_X7_value C dX7_share_123 ?_
          refine g_iload C dX7_share_126 5 rfl ?_
          refine g_iconst C dX7_share_128 (v := 1) (by decide) ?_
          refine g_iload_n C dX7_share_129 2 rfl rfl ?_
          refine g_ishl C dX7_share_130 ?_
          refine g_ior C dX7_share_131 ?_
          obtain ⟨h53, hq⟩ := ogd_some hq
          refine gb_ld C (show arD 15 32 from ⟨by decide, by decide, by decide, by decide⟩) h53 dX7_share_132 ?_
          refine g_aload_n C dX7_share_133 1 rfl rfl ?_
          refine rg_X7_value C dX7_share_134 ?_
          refine g_iload C dX7_share_137 5 rfl ?_
          obtain ⟨h54, hq⟩ := ogd_some hq
          refine gb_ld C (show arD 15 32 from ⟨by decide, by decide, by decide, by decide⟩) h54 dX7_share_139 ?_
          refine g_isub C dX7_share_140 ?_
          refine g_imul C dX7_share_141 ?_
          refine g_iadd C dX7_share_142 ?_
          refine g_istore_n C (lv2 := [(3, _), (5, _), (0, _), (1, _), (2, _), (4, _)]) dX7_share_143 rfl (by decide) rfl ?_
          exact g_sub [2, 3, 4, 0, 5] rfl (J_144 (v3 + ((z49 * z51) * ((Mz51.1 15 (v4 ||| ((1 : Int32) <<< (x1 &&& 31))).toNatClampNeg) - (Mz51.1 15 v4.toNatClampNeg)))) v4 Mz51 hq)
  have L_17 : ∀ (f : Nat) (v3 : Int32) (M : MM), q_X7_share_17 x1 x2  f v3 M = some (r, M2) → gG p l e ({ frames := 6, cells := 0, slots := 0, locals := 134 }) s m args below meth c 6 (dC, dI) vwCl A0 s.heap 0 0 (MQ below ((qI (dC, dI) vwCl (wD a cI cZ M2) r) A0) args s 0 0 A0) (wD a cI cZ M) 17 [(0, .ref (a 0)), (1, .int x1), (2, .int x2), (3, .int v3)] [] := by
    intro f
    induction f with
    | zero => intro v3 M hq; cases hq
    | succ f_17 ih_17 =>
      intro v3 M hq
      rw [q_X7_share_17] at hq
      refine g_iload_n C dX7_share_17 3 rfl rfl ?_
      refine g_iconst C dX7_share_18 (v := 1) (by decide) ?_
      refine g_aload_n C dX7_share_19 0 rfl rfl ?_
      refine rg_X7_walkers C dX7_share_20 ?_
      refine g_ishl C dX7_share_23 ?_
      refine g_icmp_ge C (tgt := 71) dX7_share_24 (by decide) (fun c66 => ?_) (fun c66 => ?_)
      · have hq := ip c66 hq
        refine g_iconst C dX7_share_71 (v := 0) (by decide) ?_
        refine g_istore_n C (lv2 := [(3, _), (0, _), (1, _), (2, _)]) dX7_share_72 rfl (by decide) rfl ?_
        refine g_iconst C dX7_share_73 (v := 0) (by decide) ?_
        refine g_istore C (lv2 := [(4, _), (3, _), (0, _), (1, _), (2, _)]) dX7_share_74 (by decide) rfl ?_
        exact g_sub [2, 3, 4, 1, 0] rfl (L_76 FU (0 : Int32) (0 : Int32) M hq)
      · have hq := iq c66 hq
        refine g_aload_n C dX7_share_27 0 rfl rfl ?_
        obtain ⟨z67, Mz67, h68, hq⟩ := obd_some hq
        refine gc_Vv C (k_X7_begin  M Mz67 z67 h68) wl_898 ok_X7_begin rv_X7 rfl ⟨Nat.le_of_ble_eq_true rfl, Nat.le_of_ble_eq_true rfl⟩ ⟨Nat.le_of_ble_eq_true rfl, Nat.le_of_ble_eq_true rfl⟩ rfl (Nat.le_of_ble_eq_true rfl) dX7_share_28 ?_
        refine g_aload_n C dX7_share_31 0 rfl rfl ?_
        refine rg_X7_trial C dX7_share_32 ?_
        refine g_iconst C dX7_share_35 (v := 5) (by decide) ?_
        refine g_dup2_11 C dX7_share_36 rfl rfl ?_
        obtain ⟨h69, hq⟩ := ogd_some hq
        refine gb_ld C (show arD 7 24 from ⟨by decide, by decide, by decide, by decide⟩) h69 dX7_share_37 ?_
        refine g_iload_n C dX7_share_38 3 rfl rfl ?_
        refine g_iand C dX7_share_39 ?_
        obtain ⟨h70, hq⟩ := ogd_some hq
        refine gb_st C (show arD 7 24 from ⟨by decide, by decide, by decide, by decide⟩) h70 dX7_share_40 ?_
        refine g_aload_n C dX7_share_41 0 rfl rfl ?_
        refine g_iload_n C dX7_share_42 3 rfl rfl ?_
        refine g_aload_n C dX7_share_43 0 rfl rfl ?_
        refine rg_X7_page C dX7_share_44 ?_
        refine g_iconst C dX7_share_47 (v := 5) (by decide) ?_
        obtain ⟨h71, hq⟩ := ogd_some hq
        refine gb_ld C (show arD 6 24 from ⟨by decide, by decide, by decide, by decide⟩) h71 dX7_share_48 ?_
        refine g_iconst C dX7_share_49 (v := -1) (by decide) ?_
        refine g_ixor C dX7_share_50 ?_
        refine g_iand C dX7_share_51 ?_
        obtain ⟨z72, Mz72, h73, hq⟩ := obd_some hq
        refine gc_Vv C (k_X7_openAll (v3 &&& (((mU Mz67 7 (5 : Int32).toNatClampNeg ((Mz67.1 7 (5 : Int32).toNatClampNeg) &&& v3)).1 6 (5 : Int32).toNatClampNeg) ^^^ (-1 : Int32))) (mU Mz67 7 (5 : Int32).toNatClampNeg ((Mz67.1 7 (5 : Int32).toNatClampNeg) &&& v3)) Mz72 z72 h73) wl_918 ok_X7_openAll rv_X7 rfl ⟨Nat.le_of_ble_eq_true rfl, Nat.le_of_ble_eq_true rfl⟩ ⟨Nat.le_of_ble_eq_true rfl, Nat.le_of_ble_eq_true rfl⟩ rfl (Nat.le_of_ble_eq_true rfl) dX7_share_52 ?_
        refine g_aload_n C dX7_share_55 0 rfl rfl ?_
        refine rg_X7_value C dX7_share_56 ?_
        refine g_iload_n C dX7_share_59 3 rfl rfl ?_
        refine g_aload_n C dX7_share_60 0 rfl rfl ?_
        obtain ⟨z74, Mz74, h75, hq⟩ := obd_some hq
        refine gc_Vi C (k_X7_keptThen  Mz72 Mz74 z74 h75) wl_922 ok_X7_keptThen rv_X7 rfl ⟨Nat.le_of_ble_eq_true rfl, Nat.le_of_ble_eq_true rfl⟩ ⟨Nat.le_of_ble_eq_true rfl, Nat.le_of_ble_eq_true rfl⟩ rfl (Nat.le_of_ble_eq_true rfl) dX7_share_61 ?_
        obtain ⟨h76, hq⟩ := ogd_some hq
        refine gb_st C (show arD 15 32 from ⟨by decide, by decide, by decide, by decide⟩) h76 dX7_share_64 ?_
        refine g_iinc C (v := (v3 + (1 : Int32))) (lv2 := [(3, _), (0, _), (1, _), (2, _)]) dX7_share_65 3 rfl rfl (by decide) rfl ?_
        refine g_goto C (tgt := 17) dX7_share_68 (by decide) ?_
        exact g_sub [1, 2, 3, 0] rfl (ih_17 (v3 + (1 : Int32)) (mU Mz74 15 v3.toNatClampNeg z74) hq)
  unfold q_X7_share at hq
  refine g_aload_n C dX7_share_0 0 rfl rfl ?_
  refine g_iconst C dX7_share_1 (v := 0) (by decide) ?_
  refine rp_X7_thrown C dX7_share_2 ?_
  refine g_aload_n C dX7_share_5 0 rfl rfl ?_
  refine g_iload_n C dX7_share_6 1 rfl rfl ?_
  refine gc_Vi C (k_X7_noWalker x1 (mU M 0 0 (0 : Int32))) wl_830 ok_X7_noWalker rv_X7 rfl ⟨Nat.le_of_ble_eq_true rfl, Nat.le_of_ble_eq_true rfl⟩ ⟨Nat.le_of_ble_eq_true rfl, Nat.le_of_ble_eq_true rfl⟩ rfl (Nat.le_of_ble_eq_true rfl) dX7_share_7 ?_
  refine g_if_eq C (tgt := 15) dX7_share_10 (by decide) (fun c78 => ?_) (fun c78 => ?_)
  · have hq := ip c78 hq
    refine g_iconst C dX7_share_15 (v := 0) (by decide) ?_
    refine g_istore_n C (lv2 := [(3, _), (0, _), (1, _), (2, _)]) dX7_share_16 rfl (by decide) rfl ?_
    exact g_sub [1, 2, 3, 0] rfl (L_17 FU (0 : Int32) (mU M 0 0 (0 : Int32)) hq)
  · have hq := iq c78 hq
    refine g_iconst C dX7_share_13 (v := -1) (by decide) ?_
    exact g_iret C dX7_share_14 (som2 hq).1 (congrArg (wD a cI cZ) (som2 hq).2)
set_option maxHeartbeats 4000000 in
set_option maxRecDepth 100000 in
theorem k_X7_feel {l : Launch} {dC : Nat → ClassId} {dI : Nat → Nat → Nat} {a : Nat → Nat} {cI cZ cS : ClassId} (x1 : Int32) (x2 : Int32) (x3 : Int32) (M M2 : MM) (r : Int32) (hq : q_X7_feel x1 x2 x3 M = some (r, M2)) : KQ l (dC, dI) vwCl (tyW cI cZ cS) yX7_feel cX7_feel 4 (some .int) 2 45 [.ref (a 0), .int x1, .int x2, .int x3] (wD a cI cZ M) (qI (dC, dI) vwCl (wD a cI cZ M2) r) := by
  refine KQ.of (by decide) (Nat.le_of_ble_eq_true rfl) rfl ?_
  intro p e s m args below meth c A0 C
  unfold q_X7_feel at hq
  refine g_aload_n C dX7_feel_0 0 rfl rfl ?_
  refine g_iconst C dX7_feel_1 (v := 0) (by decide) ?_
  refine rp_X7_thrown C dX7_feel_2 ?_
  refine g_iload_n C dX7_feel_5 1 rfl rfl ?_
  refine gc_Si C (k_X7_noStreet x1 (mU M 0 0 (0 : Int32))) wl_843 ok_X7_noStreet ⟨Nat.le_of_ble_eq_true rfl, Nat.le_of_ble_eq_true rfl⟩ ⟨Nat.le_of_ble_eq_true rfl, Nat.le_of_ble_eq_true rfl⟩ rfl (Nat.le_of_ble_eq_true rfl) dX7_feel_6 ?_
  refine g_if_eq C (tgt := 14) dX7_feel_9 (by decide) (fun c15 => ?_) (fun c15 => ?_)
  · have hq := ip c15 hq
    refine g_iload_n C dX7_feel_14 2 rfl rfl ?_
    refine g_i2l C dX7_feel_15 rfl ?_
    refine g_lconst C dX7_feel_16 (v := 0) (by decide) ?_
    refine g_ldc2 C wl_963 dX7_feel_17 ?_
    refine gc_Si C (k_X7_in (x2.toInt64) (0 : Int64) (9 : Int64) (mU M 0 0 (0 : Int32))) wl_768 ok_X7_in ⟨Nat.le_of_ble_eq_true rfl, Nat.le_of_ble_eq_true rfl⟩ ⟨Nat.le_of_ble_eq_true rfl, Nat.le_of_ble_eq_true rfl⟩ rfl (Nat.le_of_ble_eq_true rfl) dX7_feel_20 ?_
    refine g_if_eq C (tgt := 36) dX7_feel_23 (by decide) (fun c16 => ?_) (fun c16 => ?_)
    · have hq := ip c16 hq
      refine g_bipush C dX7_feel_36 (v := -2) (by decide) ?_
      exact g_iret C dX7_feel_38 (som2 hq).1 (congrArg (wD a cI cZ) (som2 hq).2)
    · have hq := iq c16 hq
      refine g_iload_n C dX7_feel_26 3 rfl rfl ?_
      refine g_i2l C dX7_feel_27 rfl ?_
      refine g_lconst C dX7_feel_28 (v := 0) (by decide) ?_
      refine g_lconst C dX7_feel_29 (v := 1) (by decide) ?_
      refine gc_Si C (k_X7_in (x3.toInt64) (0 : Int64) (1 : Int64) (mU M 0 0 (0 : Int32))) wl_768 ok_X7_in ⟨Nat.le_of_ble_eq_true rfl, Nat.le_of_ble_eq_true rfl⟩ ⟨Nat.le_of_ble_eq_true rfl, Nat.le_of_ble_eq_true rfl⟩ rfl (Nat.le_of_ble_eq_true rfl) dX7_feel_30 ?_
      refine g_if_ne C (tgt := 39) dX7_feel_33 (by decide) (fun c17 => ?_) (fun c17 => ?_)
      · have hq := iq c17 hq
        refine g_aload_n C dX7_feel_39 0 rfl rfl ?_
        refine rg_X7_felt C dX7_feel_40 ?_
        refine g_bipush C dX7_feel_43 (v := 6) (by decide) ?_
        refine g_icmp_ne C (tgt := 51) dX7_feel_45 (by decide) (fun c18 => ?_) (fun c18 => ?_)
        · have hq := iq c18 hq
          refine g_aload_n C dX7_feel_51 0 rfl rfl ?_
          refine rg_X7_feltStreet C dX7_feel_52 ?_
          refine g_aload_n C dX7_feel_55 0 rfl rfl ?_
          refine rg_X7_felt C dX7_feel_56 ?_
          refine g_iload_n C dX7_feel_59 1 rfl rfl ?_
          obtain ⟨h19, hq⟩ := ogd_some hq
          refine gb_st C (show arD 11 6 from ⟨by decide, by decide, by decide, by decide⟩) h19 dX7_feel_60 ?_
          refine g_aload_n C dX7_feel_61 0 rfl rfl ?_
          refine rg_X7_feltHour C dX7_feel_62 ?_
          refine g_aload_n C dX7_feel_65 0 rfl rfl ?_
          refine rg_X7_felt C dX7_feel_66 ?_
          refine g_iload_n C dX7_feel_69 2 rfl rfl ?_
          obtain ⟨h20, hq⟩ := ogd_some hq
          refine gb_st C (show arD 12 6 from ⟨by decide, by decide, by decide, by decide⟩) h20 dX7_feel_70 ?_
          refine g_aload_n C dX7_feel_71 0 rfl rfl ?_
          refine rg_X7_feltRain C dX7_feel_72 ?_
          refine g_aload_n C dX7_feel_75 0 rfl rfl ?_
          refine rg_X7_felt C dX7_feel_76 ?_
          refine g_iload_n C dX7_feel_79 3 rfl rfl ?_
          obtain ⟨h21, hq⟩ := ogd_some hq
          refine gb_st C (show arD 13 6 from ⟨by decide, by decide, by decide, by decide⟩) h21 dX7_feel_80 ?_
          refine g_aload_n C dX7_feel_81 0 rfl rfl ?_
          refine g_dup C dX7_feel_82 rfl ?_
          refine rg_X7_felt C dX7_feel_83 ?_
          refine g_iconst C dX7_feel_86 (v := 1) (by decide) ?_
          refine g_iadd C dX7_feel_87 ?_
          refine rp_X7_felt C dX7_feel_88 ?_
          refine g_aload_n C dX7_feel_91 0 rfl rfl ?_
          refine rg_X7_felt C dX7_feel_92 ?_
          exact g_iret C dX7_feel_95 (som2 hq).1 (congrArg (wD a cI cZ) (som2 hq).2)
        · have hq := ip c18 hq
          refine g_bipush C dX7_feel_48 (v := -4) (by decide) ?_
          exact g_iret C dX7_feel_50 (som2 hq).1 (congrArg (wD a cI cZ) (som2 hq).2)
      · have hq := ip c17 hq
        refine g_bipush C dX7_feel_36 (v := -2) (by decide) ?_
        exact g_iret C dX7_feel_38 (som2 hq).1 (congrArg (wD a cI cZ) (som2 hq).2)
  · have hq := iq c15 hq
    refine g_iconst C dX7_feel_12 (v := -1) (by decide) ?_
    exact g_iret C dX7_feel_13 (som2 hq).1 (congrArg (wD a cI cZ) (som2 hq).2)
set_option maxHeartbeats 4000000 in
set_option maxRecDepth 100000 in
theorem k_X7_unfeel {l : Launch} {dC : Nat → ClassId} {dI : Nat → Nat → Nat} {a : Nat → Nat} {cI cZ cS : ClassId}  (M M2 : MM) (r : Int32) (hq : q_X7_unfeel  M = some (r, M2)) : KQ l (dC, dI) vwCl (tyW cI cZ cS) yX7_unfeel cX7_unfeel 2 (some .int) 0 0 [.ref (a 0)] (wD a cI cZ M) (qI (dC, dI) vwCl (wD a cI cZ M2) r) := by
  refine KQ.of (by decide) (Nat.le_of_ble_eq_true rfl) rfl ?_
  intro p e s m args below meth c A0 C
  unfold q_X7_unfeel at hq
  refine g_aload_n C dX7_unfeel_0 0 rfl rfl ?_
  refine g_iconst C dX7_unfeel_1 (v := 0) (by decide) ?_
  refine rp_X7_thrown C dX7_unfeel_2 ?_
  refine g_aload_n C dX7_unfeel_5 0 rfl rfl ?_
  refine rg_X7_felt C dX7_unfeel_6 ?_
  refine g_istore_n C (lv2 := [(1, _), (0, _)]) dX7_unfeel_9 rfl (by decide) rfl ?_
  refine g_aload_n C dX7_unfeel_10 1 rfl rfl ?_
  refine g_iconst C dX7_unfeel_11 (v := 0) (by decide) ?_
  refine rp_X7_felt C dX7_unfeel_12 ?_
  refine g_iload_n C dX7_unfeel_15 0 rfl rfl ?_
  exact g_iret C dX7_unfeel_16 (som2 hq).1 (congrArg (wD a cI cZ) (som2 hq).2)
set_option maxHeartbeats 4000000 in
set_option maxRecDepth 100000 in
theorem k_X7_rainsBy {l : Launch} {dC : Nat → ClassId} {dI : Nat → Nat → Nat} {a : Nat → Nat} {cI cZ cS : ClassId} (x0 : Int32) (x1 : Int32) (x2 : Int32) (x3 : Int32) (x4 : Int32) (M : MM) : KQ l (dC, dI) vwCl (tyW cI cZ cS) yX7_rainsBy cX7_rainsBy 6 (some .boolean) 1 25 [.int x0, .int x1, .int x2, .int x3, .int x4] (wD a cI cZ M) (qI (dC, dI) vwCl (wD a cI cZ M) (b2i (t_X7_rainsBy x0 x1 x2 x3 x4))) := by
  generalize hq : t_X7_rainsBy x0 x1 x2 x3 x4 = r
  refine KQ.of (by decide) (Nat.le_of_ble_eq_true rfl) rfl ?_
  intro p e s m args below meth c A0 C
  have J_53 : ∀ (s0 : Int32), t_X7_rainsBy_53 x0 x1 x2 x3 x4  s0 = r → gG p l e ({ frames := 1, cells := 0, slots := 0, locals := 25 }) s m args below meth c 6 (dC, dI) vwCl A0 s.heap 0 0 (MQ below ((qI (dC, dI) vwCl (wD a cI cZ M) (b2i r)) A0) args s 0 0 A0) (wD a cI cZ M) 53 [(1, .int x1), (3, .int x3), (4, .int x4)] [.int s0] := by
    intro s0 hq
    unfold t_X7_rainsBy_53 at hq
    refine g_istore C (lv2 := [(5, _), (1, _), (3, _), (4, _)]) dX7_rainsBy_53 (by decide) rfl ?_
    refine g_iload_n C dX7_rainsBy_55 2 rfl rfl ?_
    refine g_iload_n C dX7_rainsBy_56 1 rfl rfl ?_
    refine g_icmp_ne C (tgt := 71) dX7_rainsBy_57 (by decide) (fun c10 => ?_) (fun c10 => ?_)
    · have hq := iq c10 hq
      refine g_iconst C dX7_rainsBy_71 (v := 0) (by decide) ?_
      exact g_zret C dX7_rainsBy_72 (Or.inl rfl) (congrArg b2i hq) rfl
    · have hq := ip c10 hq
      refine g_iload C dX7_rainsBy_60 3 rfl ?_
      refine g_iload C dX7_rainsBy_62 0 rfl ?_
      refine g_icmp_ge C (tgt := 71) dX7_rainsBy_64 (by decide) (fun c11 => ?_) (fun c11 => ?_)
      · have hq := ip c11 hq
        refine g_iconst C dX7_rainsBy_71 (v := 0) (by decide) ?_
        exact g_zret C dX7_rainsBy_72 (Or.inl rfl) (congrArg b2i hq) rfl
      · have hq := iq c11 hq
        refine g_iconst C dX7_rainsBy_67 (v := 1) (by decide) ?_
        refine g_goto C (tgt := 72) dX7_rainsBy_68 (by decide) ?_
        exact g_zret C dX7_rainsBy_72 (Or.inr rfl) (congrArg b2i hq) rfl
  unfold t_X7_rainsBy at hq
  refine g_iload_n C dX7_rainsBy_0 0 rfl rfl ?_
  refine g_iconst C dX7_rainsBy_1 (v := 3) (by decide) ?_
  refine g_icmp_ne C (tgt := 31) dX7_rainsBy_2 (by decide) (fun c17 => ?_) (fun c17 => ?_)
  · have hq := iq c17 hq
    refine g_iload_n C dX7_rainsBy_31 0 rfl rfl ?_
    refine g_iconst C dX7_rainsBy_32 (v := 1) (by decide) ?_
    refine g_icmp_ne C (tgt := 42) dX7_rainsBy_33 (by decide) (fun c18 => ?_) (fun c18 => ?_)
    · have hq := iq c18 hq
      refine g_iload_n C dX7_rainsBy_42 0 rfl rfl ?_
      refine g_iconst C dX7_rainsBy_43 (v := 2) (by decide) ?_
      refine g_icmp_ne C (tgt := 52) dX7_rainsBy_44 (by decide) (fun c19 => ?_) (fun c19 => ?_)
      · have hq := iq c19 hq
        refine g_iload_n C dX7_rainsBy_52 2 rfl rfl ?_
        exact g_sub [1, 3, 4] rfl (J_53 x2 hq)
      · have hq := ip c19 hq
        refine g_bipush C dX7_rainsBy_47 (v := 7) (by decide) ?_
        refine g_goto C (tgt := 53) dX7_rainsBy_49 (by decide) ?_
        exact g_sub [1, 3, 4] rfl (J_53 (7 : Int32) hq)
    · have hq := ip c18 hq
      refine g_iload_n C dX7_rainsBy_36 2 rfl rfl ?_
      refine g_iconst C dX7_rainsBy_37 (v := 1) (by decide) ?_
      refine g_iadd C dX7_rainsBy_38 ?_
      refine g_goto C (tgt := 53) dX7_rainsBy_39 (by decide) ?_
      exact g_sub [1, 3, 4] rfl (J_53 (x2 + (1 : Int32)) hq)
  · have hq := ip c17 hq
    refine g_iload C dX7_rainsBy_5 4 rfl ?_
    refine g_iload_n C dX7_rainsBy_7 2 rfl rfl ?_
    refine g_icmp_ge C (tgt := 29) dX7_rainsBy_8 (by decide) (fun c20 => ?_) (fun c20 => ?_)
    · have hq := ip c20 hq
      refine g_iconst C dX7_rainsBy_29 (v := 0) (by decide) ?_
      exact g_zret C dX7_rainsBy_30 (Or.inl rfl) (congrArg b2i hq) rfl
    · have hq := iq c20 hq
      refine g_iload_n C dX7_rainsBy_11 3 rfl rfl ?_
      refine g_iload_n C dX7_rainsBy_12 1 rfl rfl ?_
      refine g_isub C dX7_rainsBy_13 ?_
      refine g_i2l C dX7_rainsBy_14 rfl ?_
      refine g_ldc2 C wl_979 dX7_rainsBy_15 ?_
      refine g_lconst C dX7_rainsBy_18 (v := 1) (by decide) ?_
      refine gc_Si C (k_X7_in ((x3 - x1).toInt64) (-1 : Int64) (1 : Int64) M) wl_768 ok_X7_in ⟨Nat.le_of_ble_eq_true rfl, Nat.le_of_ble_eq_true rfl⟩ ⟨Nat.le_of_ble_eq_true rfl, Nat.le_of_ble_eq_true rfl⟩ rfl (Nat.le_of_ble_eq_true rfl) dX7_rainsBy_19 ?_
      refine g_if_eq C (tgt := 29) dX7_rainsBy_22 (by decide) (fun c21 => ?_) (fun c21 => ?_)
      · have hq := ip c21 hq
        refine g_iconst C dX7_rainsBy_29 (v := 0) (by decide) ?_
        exact g_zret C dX7_rainsBy_30 (Or.inl rfl) (congrArg b2i hq) rfl
      · have hq := iq c21 hq
        refine g_iconst C dX7_rainsBy_25 (v := 1) (by decide) ?_
        refine g_goto C (tgt := 30) dX7_rainsBy_26 (by decide) ?_
        exact g_zret C dX7_rainsBy_30 (Or.inr rfl) (congrArg b2i hq) rfl
set_option maxHeartbeats 4000000 in
set_option maxRecDepth 100000 in
theorem k_X7_findMay {l : Launch} {dC : Nat → ClassId} {dI : Nat → Nat → Nat} {a : Nat → Nat} {cI cZ cS : ClassId}  (M M2 : MM) (r : Unit) (hq : q_X7_findMay  M = some (r, M2)) : KQ l (dC, dI) vwCl (tyW cI cZ cS) yX7_findMay cX7_findMay 7 none 2 50 [.ref (a 0)] (wD a cI cZ M) (qV (dC, dI) vwCl (wD a cI cZ M2)) := by
  refine KQ.of (by decide) (Nat.le_of_ble_eq_true rfl) rfl ?_
  intro p e s m args below meth c A0 C
  have L_13 : ∀ (f : Nat) (v1 : Int32) (M : MM), q_X7_findMay_13   f v1 M = some (r, M2) → gG p l e ({ frames := 2, cells := 0, slots := 0, locals := 50 }) s m args below meth c 7 (dC, dI) vwCl A0 s.heap 0 0 (MQ below ((qV (dC, dI) vwCl (wD a cI cZ M2)) A0) args s 0 0 A0) (wD a cI cZ M) 13 [(0, .ref (a 0)), (1, .int v1)] [] := by
    intro f
    induction f with
    | zero => intro v1 M hq; cases hq
    | succ f_13 ih_13 =>
      have J_164 : ∀ (v1 : Int32) (s1 : Int32) (s2 : Int32) (M : MM), q_X7_findMay_164  (q_X7_findMay_13   f_13) v1 s1 s2 M = some (r, M2) → gG p l e ({ frames := 2, cells := 0, slots := 0, locals := 50 }) s m args below meth c 7 (dC, dI) vwCl A0 s.heap 0 0 (MQ below ((qV (dC, dI) vwCl (wD a cI cZ M2)) A0) args s 0 0 A0) (wD a cI cZ M) 164 [(0, .ref (a 0)), (1, .int v1)] [.int s2, .int s1, .ref (a 0)] := by
        intro v1 s1 s2 M hq
        unfold q_X7_findMay_164 at hq
        refine g_iadd C dX7_findMay_164 ?_
        refine rp_X7_mayMany C dX7_findMay_165 ?_
        refine g_iinc C (v := (v1 + (1 : Int32))) (lv2 := [(1, _), (0, _)]) dX7_findMay_168 1 rfl rfl (by decide) rfl ?_
        refine g_goto C (tgt := 13) dX7_findMay_171 (by decide) ?_
        exact g_sub [1, 0] rfl (ih_13 (v1 + (1 : Int32)) (mU M 0 11 (s1 + s2)) hq)
      have J_146 : ∀ (v1 : Int32) (v5 : Int32) (s1 : Int32) (M : MM), q_X7_findMay_146  (q_X7_findMay_13   f_13) v1 v5 s1 M = some (r, M2) → gG p l e ({ frames := 2, cells := 0, slots := 0, locals := 50 }) s m args below meth c 7 (dC, dI) vwCl A0 s.heap 0 0 (MQ below ((qV (dC, dI) vwCl (wD a cI cZ M2)) A0) args s 0 0 A0) (wD a cI cZ M) 146 [(0, .ref (a 0)), (1, .int v1), (5, .int v5)] [.int s1, .ref (a 0)] := by
        intro v1 v5 s1 M hq
        unfold q_X7_findMay_146 at hq
        refine rp_X7_mayFirst C dX7_findMay_146 ?_
        refine g_aload_n C dX7_findMay_149 0 rfl rfl ?_
        refine g_dup C dX7_findMay_150 rfl ?_
        refine rg_X7_mayMany C dX7_findMay_151 ?_
        refine g_iload C dX7_findMay_154 2 rfl ?_
        refine g_if_eq C (tgt := 163) dX7_findMay_156 (by decide) (fun c13 => ?_) (fun c13 => ?_)
        · have hq := ip c13 hq
          refine g_iconst C dX7_findMay_163 (v := 0) (by decide) ?_
          exact g_sub [0, 1] rfl (J_164 v1 ((mU M 0 12 s1).1 0 11) (0 : Int32) (mU M 0 12 s1) hq)
        · have hq := iq c13 hq
          refine g_iconst C dX7_findMay_159 (v := 1) (by decide) ?_
          refine g_goto C (tgt := 164) dX7_findMay_160 (by decide) ?_
          exact g_sub [0, 1] rfl (J_164 v1 ((mU M 0 12 s1).1 0 11) (1 : Int32) (mU M 0 12 s1) hq)
      have J_142 : ∀ (v1 : Int32) (v5 : Int32) (M : MM), q_X7_findMay_142  (q_X7_findMay_13   f_13) v1 v5 M = some (r, M2) → gG p l e ({ frames := 2, cells := 0, slots := 0, locals := 50 }) s m args below meth c 7 (dC, dI) vwCl A0 s.heap 0 0 (MQ below ((qV (dC, dI) vwCl (wD a cI cZ M2)) A0) args s 0 0 A0) (wD a cI cZ M) 142 [(0, .ref (a 0)), (1, .int v1), (5, .int v5)] [.ref (a 0)] := by
        intro v1 v5 M hq
        unfold q_X7_findMay_142 at hq
        refine g_aload_n C dX7_findMay_142 0 rfl rfl ?_
        refine rg_X7_mayFirst C dX7_findMay_143 ?_
        exact g_sub [0, 1, 2] rfl (J_146 v1 v5 (M.1 0 12) M hq)
      have L_47 : ∀ (f : Nat) (v1 : Int32) (v2 : Int32) (v3 : Int32) (v4 : Int32) (v5 : Int32) (v6 : Int32) (M : MM), q_X7_findMay_47  (q_X7_findMay_13   f_13) f v1 v2 v3 v4 v5 v6 M = some (r, M2) → gG p l e ({ frames := 2, cells := 0, slots := 0, locals := 50 }) s m args below meth c 7 (dC, dI) vwCl A0 s.heap 0 0 (MQ below ((qV (dC, dI) vwCl (wD a cI cZ M2)) A0) args s 0 0 A0) (wD a cI cZ M) 47 [(0, .ref (a 0)), (1, .int v1), (2, .int v2), (3, .int v3), (4, .int v4), (5, .int v5), (6, .int v6)] [] := by
        intro f
        induction f with
        | zero => intro v1 v2 v3 v4 v5 v6 M hq; cases hq
        | succ f_47 ih_47 =>
          have J_106 : ∀ (v1 : Int32) (v2 : Int32) (v3 : Int32) (v4 : Int32) (v6 : Int32) (s0 : Int32) (M : MM), q_X7_findMay_106  (q_X7_findMay_13   f_13) (q_X7_findMay_47  (q_X7_findMay_13   f_13) f_47) v1 v2 v3 v4 v6 s0 M = some (r, M2) → gG p l e ({ frames := 2, cells := 0, slots := 0, locals := 50 }) s m args below meth c 7 (dC, dI) vwCl A0 s.heap 0 0 (MQ below ((qV (dC, dI) vwCl (wD a cI cZ M2)) A0) args s 0 0 A0) (wD a cI cZ M) 106 [(0, .ref (a 0)), (1, .int v1), (2, .int v2), (3, .int v3), (4, .int v4), (6, .int v6)] [.int s0] := by
            intro v1 v2 v3 v4 v6 s0 M hq
            unfold q_X7_findMay_106 at hq
            refine g_istore C (lv2 := [(5, _), (0, _), (1, _), (2, _), (3, _), (4, _), (6, _)]) dX7_findMay_106 (by decide) rfl ?_
            refine g_iinc C (v := (v6 + (1 : Int32))) (lv2 := [(6, _), (5, _), (0, _), (1, _), (2, _), (3, _), (4, _)]) dX7_findMay_108 6 rfl rfl (by decide) rfl ?_
            refine g_goto C (tgt := 47) dX7_findMay_111 (by decide) ?_
            exact g_sub [2, 3, 4, 5, 6, 1, 0] rfl (ih_47 v1 v2 v3 v4 s0 (v6 + (1 : Int32)) M hq)
          have J_105 : ∀ (v1 : Int32) (v2 : Int32) (v3 : Int32) (v4 : Int32) (v6 : Int32) (M : MM), q_X7_findMay_105  (q_X7_findMay_13   f_13) (q_X7_findMay_47  (q_X7_findMay_13   f_13) f_47) v1 v2 v3 v4 v6 M = some (r, M2) → gG p l e ({ frames := 2, cells := 0, slots := 0, locals := 50 }) s m args below meth c 7 (dC, dI) vwCl A0 s.heap 0 0 (MQ below ((qV (dC, dI) vwCl (wD a cI cZ M2)) A0) args s 0 0 A0) (wD a cI cZ M) 105 [(0, .ref (a 0)), (1, .int v1), (2, .int v2), (3, .int v3), (4, .int v4), (6, .int v6)] [] := by
            intro v1 v2 v3 v4 v6 M hq
            unfold q_X7_findMay_105 at hq
            refine g_iconst C dX7_findMay_105 (v := 0) (by decide) ?_
            exact g_sub [0, 1, 2, 3, 4, 5] rfl (J_106 v1 v2 v3 v4 v6 (0 : Int32) M hq)
          have J_98 : ∀ (v1 : Int32) (v2 : Int32) (v3 : Int32) (v4 : Int32) (v6 : Int32) (s0 : Int32) (s1 : Int32) (M : MM), q_X7_findMay_98  (q_X7_findMay_13   f_13) (q_X7_findMay_47  (q_X7_findMay_13   f_13) f_47) v1 v2 v3 v4 v6 s0 s1 M = some (r, M2) → gG p l e ({ frames := 2, cells := 0, slots := 0, locals := 50 }) s m args below meth c 7 (dC, dI) vwCl A0 s.heap 0 0 (MQ below ((qV (dC, dI) vwCl (wD a cI cZ M2)) A0) args s 0 0 A0) (wD a cI cZ M) 98 [(0, .ref (a 0)), (1, .int v1), (2, .int v2), (3, .int v3), (4, .int v4), (6, .int v6)] [.int s1, .int s0] := by
            intro v1 v2 v3 v4 v6 s0 s1 M hq
            unfold q_X7_findMay_98 at hq
            refine g_icmp_ne C (tgt := 105) dX7_findMay_98 (by decide) (fun c15 => ?_) (fun c15 => ?_)
            · have hq := iq c15 hq
              exact g_sub [0, 1, 2, 3, 4, 5] rfl (J_105 v1 v2 v3 v4 v6 M hq)
            · have hq := ip c15 hq
              refine g_iconst C dX7_findMay_101 (v := 1) (by decide) ?_
              refine g_goto C (tgt := 106) dX7_findMay_102 (by decide) ?_
              exact g_sub [0, 1, 2, 3, 4, 5] rfl (J_106 v1 v2 v3 v4 v6 (1 : Int32) M hq)
          intro v1 v2 v3 v4 v5 v6 M hq
          rw [q_X7_findMay_47] at hq
          refine g_iload C dX7_findMay_47 6 rfl ?_
          refine g_aload_n C dX7_findMay_49 0 rfl rfl ?_
          refine rg_X7_felt C dX7_findMay_50 ?_
          refine g_icmp_ge C (tgt := 114) dX7_findMay_53 (by decide) (fun c24 => ?_) (fun c24 => ?_)
          · have hq := ip c24 hq
            refine g_aload_n C dX7_findMay_114 0 rfl rfl ?_
            refine g_iload C dX7_findMay_115 5 rfl ?_
            refine g_if_eq C (tgt := 142) dX7_findMay_117 (by decide) (fun c25 => ?_) (fun c25 => ?_)
            · have hq := ip c25 hq
              exact g_sub [0, 1, 5] rfl (J_142 v1 v5 M hq)
            · have hq := iq c25 hq
              refine g_aload_n C dX7_findMay_120 0 rfl rfl ?_
              refine rg_X7_mayMany C dX7_findMay_121 ?_
              refine g_if_ne C (tgt := 142) dX7_findMay_124 (by decide) (fun c26 => ?_) (fun c26 => ?_)
              · have hq := iq c26 hq
                exact g_sub [0, 1, 5] rfl (J_142 v1 v5 M hq)
              · have hq := ip c26 hq
                refine g_bipush C dX7_findMay_127 (v := 100) (by decide) ?_
                refine g_iload_n C dX7_findMay_129 2 rfl rfl ?_
                refine g_imul C dX7_findMay_130 ?_
                refine g_bipush C dX7_findMay_131 (v := 10) (by decide) ?_
                refine g_iload_n C dX7_findMay_133 3 rfl rfl ?_
                refine g_imul C dX7_findMay_134 ?_
                refine g_iadd C dX7_findMay_135 ?_
                refine g_iload C dX7_findMay_136 4 rfl ?_
                refine g_iadd C dX7_findMay_138 ?_
                refine g_goto C (tgt := 146) dX7_findMay_139 (by decide) ?_
                exact g_sub [0, 1, 5] rfl (J_146 v1 v5 ((((100 : Int32) * v2) + ((10 : Int32) * v3)) + v4) M hq)
          · have hq := iq c24 hq
            refine g_iload C dX7_findMay_56 5 rfl ?_
            refine g_if_eq C (tgt := 105) dX7_findMay_58 (by decide) (fun c27 => ?_) (fun c27 => ?_)
            · have hq := ip c27 hq
              exact g_sub [0, 1, 2, 3, 4, 6] rfl (J_105 v1 v2 v3 v4 v6 M hq)
            · have hq := iq c27 hq
              refine g_iload_n C dX7_findMay_61 2 rfl rfl ?_
              refine g_iload_n C dX7_findMay_62 3 rfl rfl ?_
              refine g_iload C dX7_findMay_63 4 rfl ?_
              refine g_aload_n C dX7_findMay_65 0 rfl rfl ?_
              refine rg_X7_feltStreet C dX7_findMay_66 ?_
              refine g_iload C dX7_findMay_69 6 rfl ?_
              obtain ⟨h28, hq⟩ := ogd_some hq
              refine gb_ld C (show arD 11 6 from ⟨by decide, by decide, by decide, by decide⟩) h28 dX7_findMay_71 ?_
              refine g_aload_n C dX7_findMay_72 0 rfl rfl ?_
              refine rg_X7_feltHour C dX7_findMay_73 ?_
              refine g_iload C dX7_findMay_76 6 rfl ?_
              obtain ⟨h29, hq⟩ := ogd_some hq
              refine gb_ld C (show arD 12 6 from ⟨by decide, by decide, by decide, by decide⟩) h29 dX7_findMay_78 ?_
              refine gc_Si C (k_X7_rainsBy v2 v3 v4 (M.1 11 v6.toNatClampNeg) (M.1 12 v6.toNatClampNeg) M) wl_976 ok_X7_rainsBy ⟨Nat.le_of_ble_eq_true rfl, Nat.le_of_ble_eq_true rfl⟩ ⟨Nat.le_of_ble_eq_true rfl, Nat.le_of_ble_eq_true rfl⟩ rfl (Nat.le_of_ble_eq_true rfl) dX7_findMay_79 ?_
              refine g_aload_n C dX7_findMay_82 0 rfl rfl ?_
              refine rg_X7_feltRain C dX7_findMay_83 ?_
              refine g_iload C dX7_findMay_86 6 rfl ?_
              obtain ⟨h30, hq⟩ := ogd_some hq
              refine gb_ld C (show arD 13 6 from ⟨by decide, by decide, by decide, by decide⟩) h30 dX7_findMay_88 ?_
              refine g_iconst C dX7_findMay_89 (v := 1) (by decide) ?_
              refine g_icmp_ne C (tgt := 97) dX7_findMay_90 (by decide) (fun c31 => ?_) (fun c31 => ?_)
              · have hq := iq c31 hq
                refine g_iconst C dX7_findMay_97 (v := 0) (by decide) ?_
                exact g_sub [0, 1, 2, 3, 4, 6] rfl (J_98 v1 v2 v3 v4 v6 (b2i (t_X7_rainsBy v2 v3 v4 (M.1 11 v6.toNatClampNeg) (M.1 12 v6.toNatClampNeg))) (0 : Int32) M hq)
              · have hq := ip c31 hq
                refine g_iconst C dX7_findMay_93 (v := 1) (by decide) ?_
                refine g_goto C (tgt := 98) dX7_findMay_94 (by decide) ?_
                exact g_sub [0, 1, 2, 3, 4, 6] rfl (J_98 v1 v2 v3 v4 v6 (b2i (t_X7_rainsBy v2 v3 v4 (M.1 11 v6.toNatClampNeg) (M.1 12 v6.toNatClampNeg))) (1 : Int32) M hq)
      intro v1 M hq
      rw [q_X7_findMay_13] at hq
      refine g_iload_n C dX7_findMay_13 1 rfl rfl ?_
      refine g_sipush C dX7_findMay_14 (v := 144) (by decide) ?_
      refine g_icmp_ge C (tgt := 174) dX7_findMay_17 (by decide) (fun c33 => ?_) (fun c33 => ?_)
      · have hq := ip c33 hq
        exact g_vret C dX7_findMay_174 (congrArg (wD a cI cZ) (som2 hq).2)
      · have hq := iq c33 hq
        refine g_iload_n C dX7_findMay_20 1 rfl rfl ?_
        refine g_bipush C dX7_findMay_21 (v := 36) (by decide) ?_
        refine g_idiv C dX7_findMay_23 (by decide) ?_
        refine g_istore_n C (lv2 := [(2, _), (0, _), (1, _)]) dX7_findMay_24 rfl (by decide) rfl ?_
        refine g_iload_n C dX7_findMay_25 2 rfl rfl ?_
        refine g_bipush C dX7_findMay_26 (v := 6) (by decide) ?_
        refine g_idiv C dX7_findMay_28 (by decide) ?_
        refine g_bipush C dX7_findMay_29 (v := 6) (by decide) ?_
        refine g_irem C dX7_findMay_31 (by decide) ?_
        refine g_istore_n C (lv2 := [(3, _), (2, _), (0, _), (1, _)]) dX7_findMay_32 rfl (by decide) rfl ?_
        refine g_iconst C dX7_findMay_33 (v := 1) (by decide) ?_
        refine g_iload_n C dX7_findMay_34 3 rfl rfl ?_
        refine g_bipush C dX7_findMay_35 (v := 6) (by decide) ?_
        refine g_irem C dX7_findMay_37 (by decide) ?_
        refine g_iadd C dX7_findMay_38 ?_
        refine g_istore C (lv2 := [(4, _), (3, _), (2, _), (0, _), (1, _)]) dX7_findMay_39 (by decide) rfl ?_
        refine g_iconst C dX7_findMay_41 (v := 1) (by decide) ?_
        refine g_istore C (lv2 := [(5, _), (4, _), (3, _), (2, _), (0, _), (1, _)]) dX7_findMay_42 (by decide) rfl ?_
        refine g_iconst C dX7_findMay_44 (v := 0) (by decide) ?_
        refine g_istore C (lv2 := [(6, _), (5, _), (4, _), (3, _), (2, _), (0, _), (1, _)]) dX7_findMay_45 (by decide) rfl ?_
        exact g_sub [5, 6, 4, 3, 2, 1, 0] rfl (L_47 FU v1 (v1 / (36 : Int32)) ((v1 / (6 : Int32)) - (v1 / (6 : Int32)) / (6 : Int32) * (6 : Int32)) ((1 : Int32) + (v1 - v1 / (6 : Int32) * (6 : Int32))) (1 : Int32) (0 : Int32) M hq)
  unfold q_X7_findMay at hq
  refine g_aload_n C dX7_findMay_0 0 rfl rfl ?_
  refine g_iconst C dX7_findMay_1 (v := 0) (by decide) ?_
  refine rp_X7_mayMany C dX7_findMay_2 ?_
  refine g_aload_n C dX7_findMay_5 0 rfl rfl ?_
  refine g_bipush C dX7_findMay_6 (v := -9) (by decide) ?_
  refine rp_X7_mayFirst C dX7_findMay_8 ?_
  refine g_iconst C dX7_findMay_11 (v := 0) (by decide) ?_
  refine g_istore_n C (lv2 := [(1, _), (0, _)]) dX7_findMay_12 rfl (by decide) rfl ?_
  exact g_sub [1, 0] rfl (L_13 FU (0 : Int32) (mU (mU M 0 11 (0 : Int32)) 0 12 (-9 : Int32)) hq)
