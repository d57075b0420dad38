set_option maxHeartbeats 4000000 in
set_option maxRecDepth 100000 in
theorem k_X4_firstFault {l : Launch} {dC : Nat → ClassId} {dI : Nat → Nat → Nat} {a : Nat → Nat} {cI cZ cS : ClassId}  (M M2 : MM) (r : Int32) (hq : q_X4_firstFault  M = some (r, M2)) : KQ l (dC, dI) vwCl (tyW cI cZ cS) yX4_firstFault cX4_firstFault 8 (some .int) 4 88 [.ref (a 1)] (wC a cI cS M) (qI (dC, dI) vwCl (wC a cI cS M2) r) := by
  refine KQ.of (by decide) (Nat.le_of_ble_eq_true rfl) rfl ?_
  intro p e s m args below meth c A0 C
  have L_31 : ∀ (f : Nat) (v1 : Int32) (v2 : Int32) (v3 : Int32) (v4 : Int32) (v5 : Int32) (M : MM), q_X4_firstFault_31   f v1 v2 v3 v4 v5 M = some (r, M2) → gG p l e ({ frames := 4, cells := 0, slots := 0, locals := 88 }) s m args below meth c 8 (dC, dI) vwCl A0 s.heap 0 0 (MQ below ((qI (dC, dI) vwCl (wC a cI cS M2) r) A0) args s 0 0 A0) (wC a cI cS M) 31 [(0, .ref (a 1)), (1, .int v1), (2, .int v2), (3, .int v3), (4, .int v4), (5, .int v5)] [] := by
    intro f
    induction f with
    | zero => intro v1 v2 v3 v4 v5 M hq; cases hq
    | succ f_31 ih_31 =>
      have J_168 : ∀ (v1 : Int32) (v2 : Int32) (v3 : Int32) (v4 : Int32) (v5 : Int32) (M : MM), q_X4_firstFault_168  (q_X4_firstFault_31   f_31) v1 v2 v3 v4 v5 M = some (r, M2) → gG p l e ({ frames := 4, cells := 0, slots := 0, locals := 88 }) s m args below meth c 8 (dC, dI) vwCl A0 s.heap 0 0 (MQ below ((qI (dC, dI) vwCl (wC a cI cS M2) r) A0) args s 0 0 A0) (wC a cI cS M) 168 [(0, .ref (a 1)), (1, .int v1), (2, .int v2), (3, .int v3), (4, .int v4), (5, .int v5)] [] := by
        intro v1 v2 v3 v4 v5 M hq
        unfold q_X4_firstFault_168 at hq
        refine g_iinc C (v := (v5 + (1 : Int32))) (lv2 := [(5, _), (0, _), (1, _), (2, _), (3, _), (4, _)]) dX4_firstFault_168 5 rfl rfl (by decide) rfl ?_
        refine g_goto C (tgt := 31) dX4_firstFault_171 (by decide) ?_
        exact g_sub [1, 2, 3, 4, 5, 0] rfl (ih_31 v1 v2 v3 v4 (v5 + (1 : Int32)) M hq)
      have J_147 : ∀ (v1 : Int32) (v2 : Int32) (v3 : Int32) (v5 : Int32) (s0 : Int32) (s1 : Int32) (M : MM), q_X4_firstFault_147  (q_X4_firstFault_31   f_31) v1 v2 v3 v5 s0 s1 M = some (r, M2) → gG p l e ({ frames := 4, cells := 0, slots := 0, locals := 88 }) s m args below meth c 8 (dC, dI) vwCl A0 s.heap 0 0 (MQ below ((qI (dC, dI) vwCl (wC a cI cS M2) r) A0) args s 0 0 A0) (wC a cI cS M) 147 [(0, .ref (a 1)), (1, .int v1), (2, .int v2), (3, .int v3), (5, .int v5)] [.int s1, .int s0] := by
        intro v1 v2 v3 v5 s0 s1 M hq
        unfold q_X4_firstFault_147 at hq
        refine g_iadd C dX4_firstFault_147 ?_
        refine g_istore C (lv2 := [(4, _), (0, _), (1, _), (2, _), (3, _), (5, _)]) dX4_firstFault_148 (by decide) rfl ?_
        refine g_goto C (tgt := 168) dX4_firstFault_150 (by decide) ?_
        exact g_sub [1, 2, 3, 4, 0, 5] rfl (J_168 v1 v2 v3 (s0 + s1) v5 M hq)
      have J_119 : ∀ (v1 : Int32) (v2 : Int32) (v5 : Int32) (v6 : Int32) (M : MM), q_X4_firstFault_119  (q_X4_firstFault_31   f_31) v1 v2 v5 v6 M = some (r, M2) → gG p l e ({ frames := 4, cells := 0, slots := 0, locals := 88 }) s m args below meth c 8 (dC, dI) vwCl A0 s.heap 0 0 (MQ below ((qI (dC, dI) vwCl (wC a cI cS M2) r) A0) args s 0 0 A0) (wC a cI cS M) 119 [(0, .ref (a 1)), (1, .int v1), (2, .int v2), (5, .int v5), (6, .int v6)] [] := by
        intro v1 v2 v5 v6 M hq
        unfold q_X4_firstFault_119 at hq
        refine g_iload_n C dX4_firstFault_119 1 rfl rfl ?_
        refine g_iconst C dX4_firstFault_120 (v := 5) (by decide) ?_
        refine g_icmp_gt C (tgt := 129) dX4_firstFault_121 (by decide) (fun c19 => ?_) (fun c19 => ?_)
        · have hq := ip c19 hq
          refine g_iload C dX4_firstFault_129 3 rfl ?_
          exact g_iret C dX4_firstFault_131 (som2 hq).1 (congrArg (wC a cI cS) (som2 hq).2)
        · have hq := iq c19 hq
          refine g_iload_n C dX4_firstFault_124 2 rfl rfl ?_
          refine g_iconst C dX4_firstFault_125 (v := 5) (by decide) ?_
          refine g_icmp_le C (tgt := 132) dX4_firstFault_126 (by decide) (fun c20 => ?_) (fun c20 => ?_)
          · have hq := ip c20 hq
            refine g_iload C dX4_firstFault_132 3 rfl ?_
            refine g_istore_n C (lv2 := [(3, _), (0, _), (1, _), (2, _), (5, _), (6, _)]) dX4_firstFault_134 rfl (by decide) rfl ?_
            refine g_iload C dX4_firstFault_135 4 rfl ?_
            refine g_iload C dX4_firstFault_137 5 rfl ?_
            refine g_if_eq C (tgt := 146) dX4_firstFault_139 (by decide) (fun c21 => ?_) (fun c21 => ?_)
            · have hq := ip c21 hq
              refine g_iconst C dX4_firstFault_146 (v := 4) (by decide) ?_
              exact g_sub [1, 2, 3, 0, 4] rfl (J_147 v1 v2 v5 v5 v5 (4 : Int32) M hq)
            · have hq := iq c21 hq
              refine g_iconst C dX4_firstFault_142 (v := 3) (by decide) ?_
              refine g_goto C (tgt := 147) dX4_firstFault_143 (by decide) ?_
              exact g_sub [1, 2, 3, 0, 4] rfl (J_147 v1 v2 v5 v5 v5 (3 : Int32) M hq)
          · have hq := iq c20 hq
            refine g_iload C dX4_firstFault_129 3 rfl ?_
            exact g_iret C dX4_firstFault_131 (som2 hq).1 (congrArg (wC a cI cS) (som2 hq).2)
      have J_107 : ∀ (v1 : Int32) (v5 : Int32) (v6 : Int32) (v7 : Int32) (s0 : Int32) (s1 : Int32) (M : MM), q_X4_firstFault_107  (q_X4_firstFault_31   f_31) v1 v5 v6 v7 s0 s1 M = some (r, M2) → gG p l e ({ frames := 4, cells := 0, slots := 0, locals := 88 }) s m args below meth c 8 (dC, dI) vwCl A0 s.heap 0 0 (MQ below ((qI (dC, dI) vwCl (wC a cI cS M2) r) A0) args s 0 0 A0) (wC a cI cS M) 107 [(0, .ref (a 1)), (1, .int v1), (5, .int v5), (6, .int v6), (7, .int v7)] [.int s1, .int s0] := by
        intro v1 v5 v6 v7 s0 s1 M hq
        unfold q_X4_firstFault_107 at hq
        refine g_iadd C dX4_firstFault_107 ?_
        refine g_istore_n C (lv2 := [(2, _), (0, _), (1, _), (5, _), (6, _), (7, _)]) dX4_firstFault_108 rfl (by decide) rfl ?_
        refine g_iload C dX4_firstFault_109 4 rfl ?_
        refine g_if_ne C (tgt := 119) dX4_firstFault_111 (by decide) (fun c24 => ?_) (fun c24 => ?_)
        · have hq := iq c24 hq
          exact g_sub [1, 2, 0, 3, 4] rfl (J_119 v1 (s0 + s1) v5 v6 M hq)
        · have hq := ip c24 hq
          refine g_iload C dX4_firstFault_114 5 rfl ?_
          refine g_if_eq C (tgt := 129) dX4_firstFault_116 (by decide) (fun c25 => ?_) (fun c25 => ?_)
          · have hq := ip c25 hq
            refine g_iload C dX4_firstFault_129 3 rfl ?_
            exact g_iret C dX4_firstFault_131 (som2 hq).1 (congrArg (wC a cI cS) (som2 hq).2)
          · have hq := iq c25 hq
            exact g_sub [1, 2, 0, 3, 4] rfl (J_119 v1 (s0 + s1) v5 v6 M hq)
      have J_94 : ∀ (v2 : Int32) (v5 : Int32) (v6 : Int32) (v7 : Int32) (s0 : Int32) (s1 : Int32) (M : MM), q_X4_firstFault_94  (q_X4_firstFault_31   f_31) v2 v5 v6 v7 s0 s1 M = some (r, M2) → gG p l e ({ frames := 4, cells := 0, slots := 0, locals := 88 }) s m args below meth c 8 (dC, dI) vwCl A0 s.heap 0 0 (MQ below ((qI (dC, dI) vwCl (wC a cI cS M2) r) A0) args s 0 0 A0) (wC a cI cS M) 94 [(0, .ref (a 1)), (2, .int v2), (5, .int v5), (6, .int v6), (7, .int v7)] [.int s1, .int s0] := by
        intro v2 v5 v6 v7 s0 s1 M hq
        unfold q_X4_firstFault_94 at hq
        refine g_iadd C dX4_firstFault_94 ?_
        refine g_istore_n C (lv2 := [(1, _), (0, _), (2, _), (5, _), (6, _), (7, _)]) dX4_firstFault_95 rfl (by decide) rfl ?_
        refine g_iload_n C dX4_firstFault_96 2 rfl rfl ?_
        refine g_iload C dX4_firstFault_97 5 rfl ?_
        refine g_if_eq C (tgt := 106) dX4_firstFault_99 (by decide) (fun c27 => ?_) (fun c27 => ?_)
        · have hq := ip c27 hq
          refine g_iconst C dX4_firstFault_106 (v := 0) (by decide) ?_
          exact g_sub [1, 0, 3, 4, 5] rfl (J_107 (s0 + s1) v5 v6 v7 v2 (0 : Int32) M hq)
        · have hq := iq c27 hq
          refine g_iconst C dX4_firstFault_102 (v := 1) (by decide) ?_
          refine g_goto C (tgt := 107) dX4_firstFault_103 (by decide) ?_
          exact g_sub [1, 0, 3, 4, 5] rfl (J_107 (s0 + s1) v5 v6 v7 v2 (1 : Int32) M hq)
      have J_81 : ∀ (v1 : Int32) (v2 : Int32) (v5 : Int32) (v6 : Int32) (s0 : Int32) (M : MM), q_X4_firstFault_81  (q_X4_firstFault_31   f_31) v1 v2 v5 v6 s0 M = some (r, M2) → gG p l e ({ frames := 4, cells := 0, slots := 0, locals := 88 }) s m args below meth c 8 (dC, dI) vwCl A0 s.heap 0 0 (MQ below ((qI (dC, dI) vwCl (wC a cI cS M2) r) A0) args s 0 0 A0) (wC a cI cS M) 81 [(0, .ref (a 1)), (1, .int v1), (2, .int v2), (5, .int v5), (6, .int v6)] [.int s0] := by
        intro v1 v2 v5 v6 s0 M hq
        unfold q_X4_firstFault_81 at hq
        refine g_istore C (lv2 := [(7, _), (0, _), (1, _), (2, _), (5, _), (6, _)]) dX4_firstFault_81 (by decide) rfl ?_
        refine g_iload_n C dX4_firstFault_83 2 rfl rfl ?_
        refine g_iload C dX4_firstFault_84 5 rfl ?_
        refine g_if_eq C (tgt := 93) dX4_firstFault_86 (by decide) (fun c29 => ?_) (fun c29 => ?_)
        · have hq := ip c29 hq
          refine g_iconst C dX4_firstFault_93 (v := 0) (by decide) ?_
          exact g_sub [1, 3, 4, 5, 0] rfl (J_94 v2 v5 v6 s0 v1 (0 : Int32) M hq)
        · have hq := iq c29 hq
          refine g_iconst C dX4_firstFault_89 (v := 1) (by decide) ?_
          refine g_goto C (tgt := 94) dX4_firstFault_90 (by decide) ?_
          exact g_sub [1, 3, 4, 5, 0] rfl (J_94 v2 v5 v6 s0 v1 (1 : Int32) M hq)
      have J_63 : ∀ (v1 : Int32) (v2 : Int32) (v5 : Int32) (s0 : Int32) (M : MM), q_X4_firstFault_63  (q_X4_firstFault_31   f_31) v1 v2 v5 s0 M = some (r, M2) → gG p l e ({ frames := 4, cells := 0, slots := 0, locals := 88 }) s m args below meth c 8 (dC, dI) vwCl A0 s.heap 0 0 (MQ below ((qI (dC, dI) vwCl (wC a cI cS M2) r) A0) args s 0 0 A0) (wC a cI cS M) 63 [(0, .ref (a 1)), (1, .int v1), (2, .int v2), (5, .int v5)] [.int s0] := by
        intro v1 v2 v5 s0 M hq
        unfold q_X4_firstFault_63 at hq
        refine g_istore C (lv2 := [(6, _), (0, _), (1, _), (2, _), (5, _)]) dX4_firstFault_63 (by decide) rfl ?_
        refine g_aload_n C dX4_firstFault_65 1 rfl rfl ?_
        refine g_iload C dX4_firstFault_66 4 rfl ?_
        refine gc_Vi C (k_X4_byteAt v5 M) wl_232 ok_X4_byteAt rv_X4 rfl ⟨Nat.le_of_ble_eq_true rfl, Nat.le_of_ble_eq_true rfl⟩ ⟨Nat.le_of_ble_eq_true rfl, Nat.le_of_ble_eq_true rfl⟩ rfl (Nat.le_of_ble_eq_true rfl) dX4_firstFault_68 ?_
        refine g_bipush C dX4_firstFault_71 (v := 78) (by decide) ?_
        refine g_icmp_ne C (tgt := 80) dX4_firstFault_73 (by decide) (fun c31 => ?_) (fun c31 => ?_)
        · have hq := iq c31 hq
          refine g_iconst C dX4_firstFault_80 (v := 0) (by decide) ?_
          exact g_sub [1, 2, 3, 4, 0] rfl (J_81 v1 v2 v5 s0 (0 : Int32) M hq)
        · have hq := ip c31 hq
          refine g_iconst C dX4_firstFault_76 (v := 1) (by decide) ?_
          refine g_goto C (tgt := 81) dX4_firstFault_77 (by decide) ?_
          exact g_sub [1, 2, 3, 4, 0] rfl (J_81 v1 v2 v5 s0 (1 : Int32) M hq)
      intro v1 v2 v3 v4 v5 M hq
      rw [q_X4_firstFault_31] at hq
      refine g_iload C dX4_firstFault_31 5 rfl ?_
      refine g_aload_n C dX4_firstFault_33 0 rfl rfl ?_
      refine rg_X4_length C dX4_firstFault_34 ?_
      refine g_icmp_ge C (tgt := 174) dX4_firstFault_37 (by decide) (fun c37 => ?_) (fun c37 => ?_)
      · have hq := ip c37 hq
        refine g_iload C dX4_firstFault_174 4 rfl ?_
        refine g_aload_n C dX4_firstFault_176 0 rfl rfl ?_
        refine rg_X4_length C dX4_firstFault_177 ?_
        refine g_icmp_ne C (tgt := 188) dX4_firstFault_180 (by decide) (fun c38 => ?_) (fun c38 => ?_)
        · have hq := iq c38 hq
          refine g_aload_n C dX4_firstFault_188 0 rfl rfl ?_
          refine rg_X4_length C dX4_firstFault_189 ?_
          exact g_iret C dX4_firstFault_192 (som2 hq).1 (congrArg (wC a cI cS) (som2 hq).2)
        · have hq := ip c38 hq
          refine g_bipush C dX4_firstFault_183 (v := -9) (by decide) ?_
          refine g_goto C (tgt := 192) dX4_firstFault_185 (by decide) ?_
          exact g_iret C dX4_firstFault_192 (som2 hq).1 (congrArg (wC a cI cS) (som2 hq).2)
      · have hq := iq c37 hq
        refine g_iload C dX4_firstFault_40 5 rfl ?_
        refine g_iload C dX4_firstFault_42 4 rfl ?_
        refine g_icmp_ne C (tgt := 153) dX4_firstFault_44 (by decide) (fun c39 => ?_) (fun c39 => ?_)
        · have hq := iq c39 hq
          refine g_aload_n C dX4_firstFault_153 0 rfl rfl ?_
          refine g_iload_n C dX4_firstFault_154 3 rfl rfl ?_
          refine g_iload C dX4_firstFault_155 5 rfl ?_
          refine g_iload_n C dX4_firstFault_157 3 rfl rfl ?_
          refine g_isub C dX4_firstFault_158 ?_
          refine gc_Vi C (k_X4_isFitting v3 (v5 - v3) M) wl_239 ok_X4_isFitting rv_X4 rfl ⟨Nat.le_of_ble_eq_true rfl, Nat.le_of_ble_eq_true rfl⟩ ⟨Nat.le_of_ble_eq_true rfl, Nat.le_of_ble_eq_true rfl⟩ rfl (Nat.le_of_ble_eq_true rfl) dX4_firstFault_159 ?_
          refine g_if_ne C (tgt := 168) dX4_firstFault_162 (by decide) (fun c40 => ?_) (fun c40 => ?_)
          · have hq := iq c40 hq
            exact g_sub [0, 1, 2, 3, 4, 5] rfl (J_168 v1 v2 v3 v4 v5 M hq)
          · have hq := ip c40 hq
            refine g_iload C dX4_firstFault_165 5 rfl ?_
            exact g_iret C dX4_firstFault_167 (som2 hq).1 (congrArg (wC a cI cS) (som2 hq).2)
        · have hq := ip c39 hq
          refine g_aload_n C dX4_firstFault_47 0 rfl rfl ?_
          refine g_iload C dX4_firstFault_48 5 rfl ?_
          refine gc_Vi C (k_X4_byteAt v5 M) wl_232 ok_X4_byteAt rv_X4 rfl ⟨Nat.le_of_ble_eq_true rfl, Nat.le_of_ble_eq_true rfl⟩ ⟨Nat.le_of_ble_eq_true rfl, Nat.le_of_ble_eq_true rfl⟩ rfl (Nat.le_of_ble_eq_true rfl) dX4_firstFault_50 ?_
          refine g_bipush C dX4_firstFault_53 (v := 87) (by decide) ?_
          refine g_icmp_ne C (tgt := 62) dX4_firstFault_55 (by decide) (fun c41 => ?_) (fun c41 => ?_)
          · have hq := iq c41 hq
            refine g_iconst C dX4_firstFault_62 (v := 0) (by decide) ?_
            exact g_sub [0, 1, 2, 5] rfl (J_63 v1 v2 v5 (0 : Int32) M hq)
          · have hq := ip c41 hq
            refine g_iconst C dX4_firstFault_58 (v := 1) (by decide) ?_
            refine g_goto C (tgt := 63) dX4_firstFault_59 (by decide) ?_
            exact g_sub [0, 1, 2, 5] rfl (J_63 v1 v2 v5 (1 : Int32) M hq)
  unfold q_X4_firstFault at hq
  refine g_aload_n C dX4_firstFault_0 0 rfl rfl ?_
  refine rg_X4_length C dX4_firstFault_1 ?_
  refine g_if_eq C (tgt := 17) dX4_firstFault_4 (by decide) (fun c44 => ?_) (fun c44 => ?_)
  · have hq := ip c44 hq
    refine g_iconst C dX4_firstFault_17 (v := 0) (by decide) ?_
    exact g_iret C dX4_firstFault_18 (som2 hq).1 (congrArg (wC a cI cS) (som2 hq).2)
  · have hq := iq c44 hq
    refine g_aload_n C dX4_firstFault_7 0 rfl rfl ?_
    refine g_iconst C dX4_firstFault_8 (v := 0) (by decide) ?_
    refine gc_Vi C (k_X4_byteAt (0 : Int32) M) wl_232 ok_X4_byteAt rv_X4 rfl ⟨Nat.le_of_ble_eq_true rfl, Nat.le_of_ble_eq_true rfl⟩ ⟨Nat.le_of_ble_eq_true rfl, Nat.le_of_ble_eq_true rfl⟩ rfl (Nat.le_of_ble_eq_true rfl) dX4_firstFault_9 ?_
    refine g_bipush C dX4_firstFault_12 (v := 85) (by decide) ?_
    refine g_icmp_eq C (tgt := 19) dX4_firstFault_14 (by decide) (fun c45 => ?_) (fun c45 => ?_)
    · have hq := ip c45 hq
      refine g_iconst C dX4_firstFault_19 (v := 0) (by decide) ?_
      refine g_istore_n C (lv2 := [(1, _), (0, _)]) dX4_firstFault_20 rfl (by decide) rfl ?_
      refine g_iconst C dX4_firstFault_21 (v := 0) (by decide) ?_
      refine g_istore_n C (lv2 := [(2, _), (1, _), (0, _)]) dX4_firstFault_22 rfl (by decide) rfl ?_
      refine g_iconst C dX4_firstFault_23 (v := 1) (by decide) ?_
      refine g_istore_n C (lv2 := [(3, _), (2, _), (1, _), (0, _)]) dX4_firstFault_24 rfl (by decide) rfl ?_
      refine g_iconst C dX4_firstFault_25 (v := 1) (by decide) ?_
      refine g_istore C (lv2 := [(4, _), (3, _), (2, _), (1, _), (0, _)]) dX4_firstFault_26 (by decide) rfl ?_
      refine g_iconst C dX4_firstFault_28 (v := 1) (by decide) ?_
      refine g_istore C (lv2 := [(5, _), (4, _), (3, _), (2, _), (1, _), (0, _)]) dX4_firstFault_29 (by decide) rfl ?_
      exact g_sub [5, 4, 3, 2, 1, 0] rfl (L_31 FU (0 : Int32) (0 : Int32) (1 : Int32) (1 : Int32) (1 : Int32) M hq)
    · have hq := iq c45 hq
      refine g_iconst C dX4_firstFault_17 (v := 0) (by decide) ?_
      exact g_iret C dX4_firstFault_18 (som2 hq).1 (congrArg (wC a cI cS) (som2 hq).2)
set_option maxHeartbeats 4000000 in
set_option maxRecDepth 100000 in
theorem k_X5_clear {l : Launch} {dC : Nat → ClassId} {dI : Nat → Nat → Nat} {a : Nat → Nat} {cI cZ cS : ClassId}  (M M2 : MM) (r : Unit) (hq : q_X5_clear  M = some (r, M2)) : KQ l (dC, dI) vwCl (tyW cI cZ cS) yX5_clear cX5_clear 1 none 0 0 [.ref (a 11)] (wC a cI cS M) (qV (dC, dI) vwCl (wC a cI cS M2)) := by
  refine KQ.of (by decide) (Nat.le_of_ble_eq_true rfl) rfl ?_
  intro p e s m args below meth c A0 C
  unfold q_X5_clear at hq
  refine g_aload_n C dX5_clear_0 0 rfl rfl ?_
  refine g_iconst C dX5_clear_1 (v := 0) (by decide) ?_
  refine rp_X5_used C dX5_clear_2 ?_
  exact g_vret C dX5_clear_5 (congrArg (wC a cI cS) (som2 hq).2)
set_option maxHeartbeats 4000000 in
set_option maxRecDepth 100000 in
theorem k_X5_store {l : Launch} {dC : Nat → ClassId} {dI : Nat → Nat → Nat} {a : Nat → Nat} {cI cZ cS : ClassId} (x1 : Int32) (i2 : Nat) (hi2 : i2 < 18) (M M2 : MM) (r : Unit) (hq : q_X5_store x1 i2 M = some (r, M2)) : KQ l (dC, dI) vwCl (tyW cI cZ cS) yX5_store cX5_store 4 none 2 61 [.ref (a 11), .int x1, .ref (a (16 + 5 * i2))] (wC a cI cS M) (qV (dC, dI) vwCl (wC a cI cS M2)) := by
  refine KQ.of (by decide) (Nat.le_of_ble_eq_true rfl) rfl ?_
  intro p e s m args below meth c A0 C
  unfold q_X5_store at hq
  refine g_aload_n C dX5_store_0 0 rfl rfl ?_
  refine rg_X5_stored C dX5_store_1 ?_
  refine g_iload_n C dX5_store_4 1 rfl rfl ?_
  refine gc_Nq C (k_X6_sceneAt 12 2 16 (by decide) x1 M) nl_651 ok_X6_sceneAt ⟨Nat.le_of_ble_eq_true rfl, Nat.le_of_ble_eq_true rfl⟩ ⟨Nat.le_of_ble_eq_true rfl, Nat.le_of_ble_eq_true rfl⟩ rfl (Nat.le_of_ble_eq_true rfl) dX5_store_5 ?_
  cases c5 : scAt 2 16 x1 with
  | none =>
    rw [c5] at hq
    refine g_astore_n_null C (lv2 := [(3, _), (0, _), (1, _), (2, _)]) dX5_store_8 rfl (by decide) rfl ?_
    refine g_aload_n_null C dX5_store_9 0 rfl rfl ?_
    refine g_ifnull_null C (tgt := 30) dX5_store_10 (by decide) ?_
    exact g_vret C dX5_store_30 (congrArg (wC a cI cS) (som2 hq).2)
  | some j6 =>
    rw [c5] at hq
    refine g_astore_n C (lv2 := [(3, _), (0, _), (1, _), (2, _)]) dX5_store_8 rfl (by decide) rfl ?_
    refine g_aload_n C dX5_store_9 0 rfl rfl ?_
    refine g_ifnull_ref C dX5_store_10 ?_
    refine g_aload_n C dX5_store_13 0 rfl rfl ?_
    refine g_aload_n C dX5_store_14 3 rfl rfl ?_
    refine gc_Vv C (k_X3_copy j6 (scAt_lt c5 (by decide)) i2 hi2 M) wl_652 ok_X3_copy (rv_X3 j6 (scAt_lt c5 (by decide))) rfl ⟨Nat.le_of_ble_eq_true rfl, Nat.le_of_ble_eq_true rfl⟩ ⟨Nat.le_of_ble_eq_true rfl, Nat.le_of_ble_eq_true rfl⟩ rfl (Nat.le_of_ble_eq_true rfl) dX5_store_15 ?_
    refine g_aload_n C dX5_store_18 1 rfl rfl ?_
    refine g_dup C dX5_store_19 rfl ?_
    refine rg_X5_used C dX5_store_20 ?_
    refine g_iconst C dX5_store_23 (v := 1) (by decide) ?_
    refine g_iload_n C dX5_store_24 2 rfl rfl ?_
    refine g_ishl C dX5_store_25 ?_
    refine g_ior C dX5_store_26 ?_
    refine rp_X5_used C dX5_store_27 ?_
    exact g_vret C dX5_store_30 (congrArg (wC a cI cS) (som2 hq).2)
set_option maxHeartbeats 4000000 in
set_option maxRecDepth 100000 in
theorem k_X5_fetch {l : Launch} {dC : Nat → ClassId} {dI : Nat → Nat → Nat} {a : Nat → Nat} {cI cZ cS : ClassId} (x1 : Int32) (i2 : Nat) (hi2 : i2 < 18) (M M2 : MM) (r : Bool) (hq : q_X5_fetch x1 i2 M = some (r, M2)) : KQ l (dC, dI) vwCl (tyW cI cZ cS) yX5_fetch cX5_fetch 4 (some .boolean) 2 61 [.ref (a 11), .int x1, .ref (a (16 + 5 * i2))] (wC a cI cS M) (qI (dC, dI) vwCl (wC a cI cS M2) (b2i r)) := by
  refine KQ.of (by decide) (Nat.le_of_ble_eq_true rfl) rfl ?_
  intro p e s m args below meth c A0 C
  unfold q_X5_fetch at hq
  refine g_aload_n C dX5_fetch_0 0 rfl rfl ?_
  refine rg_X5_stored C dX5_fetch_1 ?_
  refine g_iload_n C dX5_fetch_4 1 rfl rfl ?_
  refine gc_Nq C (k_X6_sceneAt 12 2 16 (by decide) x1 M) nl_651 ok_X6_sceneAt ⟨Nat.le_of_ble_eq_true rfl, Nat.le_of_ble_eq_true rfl⟩ ⟨Nat.le_of_ble_eq_true rfl, Nat.le_of_ble_eq_true rfl⟩ rfl (Nat.le_of_ble_eq_true rfl) dX5_fetch_5 ?_
  cases c7 : scAt 2 16 x1 with
  | none =>
    rw [c7] at hq
    refine g_astore_n_null C (lv2 := [(3, _), (0, _), (1, _), (2, _)]) dX5_fetch_8 rfl (by decide) rfl ?_
    refine g_aload_n_null C dX5_fetch_9 0 rfl rfl ?_
    refine g_ifnull_null C (tgt := 24) dX5_fetch_10 (by decide) ?_
    refine g_iconst C dX5_fetch_24 (v := 0) (by decide) ?_
    exact g_zret C dX5_fetch_25 (Or.inl rfl) (congrArg b2i (som2 hq).1) (congrArg (wC a cI cS) (som2 hq).2)
  | some j8 =>
    rw [c7] at hq
    refine g_astore_n C (lv2 := [(3, _), (0, _), (1, _), (2, _)]) dX5_fetch_8 rfl (by decide) rfl ?_
    refine g_aload_n C dX5_fetch_9 0 rfl rfl ?_
    refine g_ifnull_ref C dX5_fetch_10 ?_
    refine g_aload_n C dX5_fetch_13 1 rfl rfl ?_
    refine rg_X5_used C dX5_fetch_14 ?_
    refine g_iload_n C dX5_fetch_17 2 rfl rfl ?_
    refine gc_Ni C (k_X6_has (M.1 0 5) x1 M) nl_661 ok_X6_has ⟨Nat.le_of_ble_eq_true rfl, Nat.le_of_ble_eq_true rfl⟩ ⟨Nat.le_of_ble_eq_true rfl, Nat.le_of_ble_eq_true rfl⟩ rfl (Nat.le_of_ble_eq_true rfl) dX5_fetch_18 ?_
    refine g_if_ne C (tgt := 26) dX5_fetch_21 (by decide) (fun c9 => ?_) (fun c9 => ?_)
    · have hq := iq c9 hq
      refine g_aload_n C dX5_fetch_26 3 rfl rfl ?_
      refine g_aload_n C dX5_fetch_27 0 rfl rfl ?_
      refine gc_Vv C (k_X3_copy i2 hi2 j8 (scAt_lt c7 (by decide)) M) wl_652 ok_X3_copy (rv_X3 i2 hi2) rfl ⟨Nat.le_of_ble_eq_true rfl, Nat.le_of_ble_eq_true rfl⟩ ⟨Nat.le_of_ble_eq_true rfl, Nat.le_of_ble_eq_true rfl⟩ rfl (Nat.le_of_ble_eq_true rfl) dX5_fetch_28 ?_
      refine g_iconst C dX5_fetch_31 (v := 1) (by decide) ?_
      exact g_zret C dX5_fetch_32 (Or.inr rfl) (congrArg b2i (som2 hq).1) (congrArg (wC a cI cS) (som2 hq).2)
    · have hq := ip c9 hq
      refine g_iconst C dX5_fetch_24 (v := 0) (by decide) ?_
      exact g_zret C dX5_fetch_25 (Or.inl rfl) (congrArg b2i (som2 hq).1) (congrArg (wC a cI cS) (som2 hq).2)
set_option maxHeartbeats 4000000 in
set_option maxRecDepth 100000 in
theorem k_X6_write {l : Launch} {dC : Nat → ClassId} {dI : Nat → Nat → Nat} {a : Nat → Nat} {cI cZ cS : ClassId} (x1 : Int32) (M M2 : MM) (r : Int32) (hq : q_X6_write x1 M = some (r, M2)) : KQ l (dC, dI) vwCl (tyW cI cZ cS) yX6_write cX6_write 2 (some .int) 2 43 [.ref (a 0), .int x1] (wC a cI cS M) (qI (dC, dI) vwCl (wC a cI cS M2) r) := by
  refine KQ.of (by decide) (Nat.le_of_ble_eq_true rfl) rfl ?_
  intro p e s m args below meth c A0 C
  unfold q_X6_write at hq
  refine g_iload_n C dX6_write_0 1 rfl rfl ?_
  refine g_if_lt C (tgt := 11) dX6_write_1 (by decide) (fun c11 => ?_) (fun c11 => ?_)
  · have hq := ip c11 hq
    refine g_bipush C dX6_write_11 (v := -2) (by decide) ?_
    exact g_iret C dX6_write_13 (som2 hq).1 (congrArg (wC a cI cS) (som2 hq).2)
  · have hq := iq c11 hq
    refine g_iload_n C dX6_write_4 1 rfl rfl ?_
    refine g_sipush C dX6_write_5 (v := 255) (by decide) ?_
    refine g_icmp_le C (tgt := 14) dX6_write_8 (by decide) (fun c12 => ?_) (fun c12 => ?_)
    · have hq := ip c12 hq
      refine g_aload_n C dX6_write_14 0 rfl rfl ?_
      refine rg_X6_script C dX6_write_15 ?_
      refine g_iload_n C dX6_write_18 1 rfl rfl ?_
      obtain ⟨z13, Mz13, h14, hq⟩ := obd_some hq
      refine gc_Vi C (k_X4_append x1 M Mz13 z13 h14) wl_205 ok_X4_append rv_X4 rfl ⟨Nat.le_of_ble_eq_true rfl, Nat.le_of_ble_eq_true rfl⟩ ⟨Nat.le_of_ble_eq_true rfl, Nat.le_of_ble_eq_true rfl⟩ rfl (Nat.le_of_ble_eq_true rfl) dX6_write_19 ?_
      refine g_if_eq C (tgt := 35) dX6_write_22 (by decide) (fun c15 => ?_) (fun c15 => ?_)
      · have hq := ip c15 hq
        refine g_bipush C dX6_write_35 (v := -4) (by decide) ?_
        exact g_iret C dX6_write_37 (som2 hq).1 (congrArg (wC a cI cS) (som2 hq).2)
      · have hq := iq c15 hq
        refine g_aload_n C dX6_write_25 0 rfl rfl ?_
        refine rg_X6_script C dX6_write_26 ?_
        refine gc_Vi C (k_X4_length  Mz13) wl_212 ok_X4_length rv_X4 rfl ⟨Nat.le_of_ble_eq_true rfl, Nat.le_of_ble_eq_true rfl⟩ ⟨Nat.le_of_ble_eq_true rfl, Nat.le_of_ble_eq_true rfl⟩ rfl (Nat.le_of_ble_eq_true rfl) dX6_write_29 ?_
        refine g_goto C (tgt := 37) dX6_write_32 (by decide) ?_
        exact g_iret C dX6_write_37 (som2 hq).1 (congrArg (wC a cI cS) (som2 hq).2)
    · have hq := iq c12 hq
      refine g_bipush C dX6_write_11 (v := -2) (by decide) ?_
      exact g_iret C dX6_write_13 (som2 hq).1 (congrArg (wC a cI cS) (som2 hq).2)
set_option maxHeartbeats 4000000 in
set_option maxRecDepth 100000 in
theorem k_X6_wipe {l : Launch} {dC : Nat → ClassId} {dI : Nat → Nat → Nat} {a : Nat → Nat} {cI cZ cS : ClassId}  (M M2 : MM) (r : Int32) (hq : q_X6_wipe  M = some (r, M2)) : KQ l (dC, dI) vwCl (tyW cI cZ cS) yX6_wipe cX6_wipe 2 (some .int) 1 20 [.ref (a 0)] (wC a cI cS M) (qI (dC, dI) vwCl (wC a cI cS M2) r) := by
  refine KQ.of (by decide) (Nat.le_of_ble_eq_true rfl) rfl ?_
  intro p e s m args below meth c A0 C
  unfold q_X6_wipe at hq
  refine g_aload_n C dX6_wipe_0 0 rfl rfl ?_
  refine rg_X6_script C dX6_wipe_1 ?_
  refine gc_Vi C (k_X4_length  M) wl_212 ok_X4_length rv_X4 rfl ⟨Nat.le_of_ble_eq_true rfl, Nat.le_of_ble_eq_true rfl⟩ ⟨Nat.le_of_ble_eq_true rfl, Nat.le_of_ble_eq_true rfl⟩ rfl (Nat.le_of_ble_eq_true rfl) dX6_wipe_4 ?_
  refine g_istore_n C (lv2 := [(1, _), (0, _)]) dX6_wipe_7 rfl (by decide) rfl ?_
  refine g_aload_n C dX6_wipe_8 1 rfl rfl ?_
  refine rg_X6_script C dX6_wipe_9 ?_
  obtain ⟨z5, Mz5, h6, hq⟩ := obd_some hq
  refine gc_Vv C (k_X4_clear  M Mz5 z5 h6) wl_220 ok_X4_clear rv_X4 rfl ⟨Nat.le_of_ble_eq_true rfl, Nat.le_of_ble_eq_true rfl⟩ ⟨Nat.le_of_ble_eq_true rfl, Nat.le_of_ble_eq_true rfl⟩ rfl (Nat.le_of_ble_eq_true rfl) dX6_wipe_12 ?_
  refine g_iload_n C dX6_wipe_15 0 rfl rfl ?_
  exact g_iret C dX6_wipe_16 (som2 hq).1 (congrArg (wC a cI cS) (som2 hq).2)
set_option maxHeartbeats 4000000 in
set_option maxRecDepth 100000 in
theorem k_X6_fault {l : Launch} {dC : Nat → ClassId} {dI : Nat → Nat → Nat} {a : Nat → Nat} {cI cZ cS : ClassId}  (M M2 : MM) (r : Int32) (hq : q_X6_fault  M = some (r, M2)) : KQ l (dC, dI) vwCl (tyW cI cZ cS) yX6_fault cX6_fault 1 (some .int) 5 115 [.ref (a 0)] (wC a cI cS M) (qI (dC, dI) vwCl (wC a cI cS M2) r) := by
  refine KQ.of (by decide) (Nat.le_of_ble_eq_true rfl) rfl ?_
  intro p e s m args below meth c A0 C
  unfold q_X6_fault at hq
  refine g_aload_n C dX6_fault_0 0 rfl rfl ?_
  refine rg_X6_script C dX6_fault_1 ?_
  obtain ⟨z5, Mz5, h6, hq⟩ := obd_some hq
  refine gc_Vi C (k_X4_firstFault  M Mz5 z5 h6) wl_228 ok_X4_firstFault rv_X4 rfl ⟨Nat.le_of_ble_eq_true rfl, Nat.le_of_ble_eq_true rfl⟩ ⟨Nat.le_of_ble_eq_true rfl, Nat.le_of_ble_eq_true rfl⟩ rfl (Nat.le_of_ble_eq_true rfl) dX6_fault_4 ?_
  exact g_iret C dX6_fault_7 (som2 hq).1 (congrArg (wC a cI cS) (som2 hq).2)
set_option maxHeartbeats 4000000 in
set_option maxRecDepth 100000 in
theorem k_X6_town {l : Launch} {dC : Nat → ClassId} {dI : Nat → Nat → Nat} {a : Nat → Nat} {cI cZ cS : ClassId}  (M M2 : MM) (r : Int32) (hq : q_X6_town  M = some (r, M2)) : KQ l (dC, dI) vwCl (tyW cI cZ cS) yX6_town cX6_town 1 (some .int) 5 115 [.ref (a 0)] (wC a cI cS M) (qI (dC, dI) vwCl (wC a cI cS M2) r) := by
  refine KQ.of (by decide) (Nat.le_of_ble_eq_true rfl) rfl ?_
  intro p e s m args below meth c A0 C
  unfold q_X6_town at hq
  refine g_aload_n C dX6_town_0 0 rfl rfl ?_
  refine rg_X6_script C dX6_town_1 ?_
  obtain ⟨z23, Mz23, h24, hq⟩ := obd_some hq
  refine gc_Vi C (k_X4_firstFault  M Mz23 z23 h24) wl_228 ok_X4_firstFault rv_X4 rfl ⟨Nat.le_of_ble_eq_true rfl, Nat.le_of_ble_eq_true rfl⟩ ⟨Nat.le_of_ble_eq_true rfl, Nat.le_of_ble_eq_true rfl⟩ rfl (Nat.le_of_ble_eq_true rfl) dX6_town_4 ?_
  refine g_bipush C dX6_town_7 (v := -9) (by decide) ?_
  refine g_icmp_eq C (tgt := 15) dX6_town_9 (by decide) (fun c25 => ?_) (fun c25 => ?_)
  · have hq := ip c25 hq
    refine g_aload_n C dX6_town_15 0 rfl rfl ?_
    refine rg_X6_plan C dX6_town_16 ?_
    refine g_aload_n C dX6_town_19 0 rfl rfl ?_
    refine rg_X6_script C dX6_town_20 ?_
    obtain ⟨z26, Mz26, h27, hq⟩ := obd_some hq
    refine gc_Vv C (k_X2_readFrom  Mz23 Mz26 z26 h27) wl_251 ok_X2_readFrom rv_X2 rfl ⟨Nat.le_of_ble_eq_true rfl, Nat.le_of_ble_eq_true rfl⟩ ⟨Nat.le_of_ble_eq_true rfl, Nat.le_of_ble_eq_true rfl⟩ rfl (Nat.le_of_ble_eq_true rfl) dX6_town_23 ?_
    refine g_aload_n C dX6_town_26 0 rfl rfl ?_
    refine rg_X6_now C dX6_town_27 ?_
    obtain ⟨z28, Mz28, h29, hq⟩ := obd_some hq
    refine gc_Vv C (k_X3_begin 0 (by decide) Mz26 Mz28 z28 h29) wl_259 ok_X3_begin (rv_X3 0 (by decide)) rfl ⟨Nat.le_of_ble_eq_true rfl, Nat.le_of_ble_eq_true rfl⟩ ⟨Nat.le_of_ble_eq_true rfl, Nat.le_of_ble_eq_true rfl⟩ rfl (Nat.le_of_ble_eq_true rfl) dX6_town_30 ?_
    refine g_aload_n C dX6_town_33 0 rfl rfl ?_
    refine rg_X6_past C dX6_town_34 ?_
    obtain ⟨z30, Mz30, h31, hq⟩ := obd_some hq
    refine gc_Vv C (k_X1_clear  Mz28 Mz30 z30 h31) wl_271 ok_X1_clear rv_X1 rfl ⟨Nat.le_of_ble_eq_true rfl, Nat.le_of_ble_eq_true rfl⟩ ⟨Nat.le_of_ble_eq_true rfl, Nat.le_of_ble_eq_true rfl⟩ rfl (Nat.le_of_ble_eq_true rfl) dX6_town_37 ?_
    refine g_aload_n C dX6_town_40 0 rfl rfl ?_
    refine rg_X6_slots C dX6_town_41 ?_
    obtain ⟨z32, Mz32, h33, hq⟩ := obd_some hq
    refine gc_Vv C (k_X5_clear  Mz30 Mz32 z32 h33) wl_275 ok_X5_clear rv_X5 rfl ⟨Nat.le_of_ble_eq_true rfl, Nat.le_of_ble_eq_true rfl⟩ ⟨Nat.le_of_ble_eq_true rfl, Nat.le_of_ble_eq_true rfl⟩ rfl (Nat.le_of_ble_eq_true rfl) dX6_town_44 ?_
    refine g_bipush C dX6_town_47 (v := 10) (by decide) ?_
    refine g_aload_n C dX6_town_49 0 rfl rfl ?_
    refine rg_X6_plan C dX6_town_50 ?_
    refine gc_Vi C (k_X2_walkerCount  Mz32) wl_279 ok_X2_walkerCount rv_X2 rfl ⟨Nat.le_of_ble_eq_true rfl, Nat.le_of_ble_eq_true rfl⟩ ⟨Nat.le_of_ble_eq_true rfl, Nat.le_of_ble_eq_true rfl⟩ rfl (Nat.le_of_ble_eq_true rfl) dX6_town_53 ?_
    refine g_imul C dX6_town_56 ?_
    refine g_aload_n C dX6_town_57 0 rfl rfl ?_
    refine rg_X6_plan C dX6_town_58 ?_
    refine gc_Vi C (k_X2_needCount  Mz32) wl_283 ok_X2_needCount rv_X2 rfl ⟨Nat.le_of_ble_eq_true rfl, Nat.le_of_ble_eq_true rfl⟩ ⟨Nat.le_of_ble_eq_true rfl, Nat.le_of_ble_eq_true rfl⟩ rfl (Nat.le_of_ble_eq_true rfl) dX6_town_61 ?_
    refine g_iadd C dX6_town_64 ?_
    exact g_iret C dX6_town_65 (som2 hq).1 (congrArg (wC a cI cS) (som2 hq).2)
  · have hq := iq c25 hq
    refine g_bipush C dX6_town_12 (v := -3) (by decide) ?_
    exact g_iret C dX6_town_14 (som2 hq).1 (congrArg (wC a cI cS) (som2 hq).2)
set_option maxHeartbeats 4000000 in
set_option maxRecDepth 100000 in
theorem k_X6_about {l : Launch} {dC : Nat → ClassId} {dI : Nat → Nat → Nat} {a : Nat → Nat} {cI cZ cS : ClassId} (x1 : Int32) (M M2 : MM) (r : Int32) (hq : q_X6_about x1 M = some (r, M2)) : KQ l (dC, dI) vwCl (tyW cI cZ cS) yX6_about cX6_about 2 (some .int) 3 65 [.ref (a 0), .int x1] (wC a cI cS M) (qI (dC, dI) vwCl (wC a cI cS M2) r) := by
  refine KQ.of (by decide) (Nat.le_of_ble_eq_true rfl) rfl ?_
  intro p e s m args below meth c A0 C
  unfold q_X6_about at hq
  refine g_iload_n C dX6_about_0 1 rfl rfl ?_
  by_cases c39 : x1 = (0 : Int32)
  · have hq := ip c39 hq
    refine g_tsIn C (tgt := 60) (0 : Int32) c39 dX6_about_1 (by decide) (by decide) rfl (by decide) ?_
    refine g_aload_n C dX6_about_60 0 rfl rfl ?_
    refine rg_X6_plan C dX6_about_61 ?_
    refine gc_Vi C (k_X2_walkerCount  M) wl_279 ok_X2_walkerCount rv_X2 rfl ⟨Nat.le_of_ble_eq_true rfl, Nat.le_of_ble_eq_true rfl⟩ ⟨Nat.le_of_ble_eq_true rfl, Nat.le_of_ble_eq_true rfl⟩ rfl (Nat.le_of_ble_eq_true rfl) dX6_about_64 ?_
    exact g_iret C dX6_about_67 (som2 hq).1 (congrArg (wC a cI cS) (som2 hq).2)
  have hq := iq c39 hq
  by_cases c40 : x1 = (1 : Int32)
  · have hq := ip c40 hq
    refine g_tsIn C (tgt := 68) (1 : Int32) c40 dX6_about_1 (by decide) (by decide) rfl (by decide) ?_
    refine g_aload_n C dX6_about_68 0 rfl rfl ?_
    refine rg_X6_plan C dX6_about_69 ?_
    refine gc_Vi C (k_X2_needCount  M) wl_283 ok_X2_needCount rv_X2 rfl ⟨Nat.le_of_ble_eq_true rfl, Nat.le_of_ble_eq_true rfl⟩ ⟨Nat.le_of_ble_eq_true rfl, Nat.le_of_ble_eq_true rfl⟩ rfl (Nat.le_of_ble_eq_true rfl) dX6_about_72 ?_
    exact g_iret C dX6_about_75 (som2 hq).1 (congrArg (wC a cI cS) (som2 hq).2)
  have hq := iq c40 hq
  by_cases c41 : x1 = (2 : Int32)
  · have hq := ip c41 hq
    refine g_tsIn C (tgt := 76) (2 : Int32) c41 dX6_about_1 (by decide) (by decide) rfl (by decide) ?_
    refine g_aload_n C dX6_about_76 0 rfl rfl ?_
    refine rg_X6_now C dX6_about_77 ?_
    refine gc_Vi C (k_X3_time 0 (by decide) M) wl_291 ok_X3_time (rv_X3 0 (by decide)) rfl ⟨Nat.le_of_ble_eq_true rfl, Nat.le_of_ble_eq_true rfl⟩ ⟨Nat.le_of_ble_eq_true rfl, Nat.le_of_ble_eq_true rfl⟩ rfl (Nat.le_of_ble_eq_true rfl) dX6_about_80 ?_
    exact g_iret C dX6_about_83 (som2 hq).1 (congrArg (wC a cI cS) (som2 hq).2)
  have hq := iq c41 hq
  by_cases c42 : x1 = (3 : Int32)
  · have hq := ip c42 hq
    refine g_tsIn C (tgt := 84) (3 : Int32) c42 dX6_about_1 (by decide) (by decide) rfl (by decide) ?_
    refine g_aload_n C dX6_about_84 0 rfl rfl ?_
    refine rg_X6_now C dX6_about_85 ?_
    refine gc_Vi C (k_X3_openBits 0 (by decide) M) wl_295 ok_X3_openBits (rv_X3 0 (by decide)) rfl ⟨Nat.le_of_ble_eq_true rfl, Nat.le_of_ble_eq_true rfl⟩ ⟨Nat.le_of_ble_eq_true rfl, Nat.le_of_ble_eq_true rfl⟩ rfl (Nat.le_of_ble_eq_true rfl) dX6_about_88 ?_
    exact g_iret C dX6_about_91 (som2 hq).1 (congrArg (wC a cI cS) (som2 hq).2)
  have hq := iq c42 hq
  by_cases c43 : x1 = (4 : Int32)
  · have hq := ip c43 hq
    refine g_tsIn C (tgt := 92) (4 : Int32) c43 dX6_about_1 (by decide) (by decide) rfl (by decide) ?_
    refine g_aload_n C dX6_about_92 0 rfl rfl ?_
    refine rg_X6_now C dX6_about_93 ?_
    obtain ⟨z44, Mz44, h45, hq⟩ := obd_some hq
    refine gc_Vi C (k_X3_rainBits 0 (by decide) M Mz44 z44 h45) wl_299 ok_X3_rainBits (rv_X3 0 (by decide)) rfl ⟨Nat.le_of_ble_eq_true rfl, Nat.le_of_ble_eq_true rfl⟩ ⟨Nat.le_of_ble_eq_true rfl, Nat.le_of_ble_eq_true rfl⟩ rfl (Nat.le_of_ble_eq_true rfl) dX6_about_96 ?_
    exact g_iret C dX6_about_99 (som2 hq).1 (congrArg (wC a cI cS) (som2 hq).2)
  have hq := iq c43 hq
  by_cases c46 : x1 = (5 : Int32)
  · have hq := ip c46 hq
    refine g_tsIn C (tgt := 100) (5 : Int32) c46 dX6_about_1 (by decide) (by decide) rfl (by decide) ?_
    refine g_aload_n C dX6_about_100 0 rfl rfl ?_
    refine rg_X6_now C dX6_about_101 ?_
    obtain ⟨z47, Mz47, h48, hq⟩ := obd_some hq
    refine gc_Vi C (k_X3_hailBits 0 (by decide) M Mz47 z47 h48) wl_310 ok_X3_hailBits (rv_X3 0 (by decide)) rfl ⟨Nat.le_of_ble_eq_true rfl, Nat.le_of_ble_eq_true rfl⟩ ⟨Nat.le_of_ble_eq_true rfl, Nat.le_of_ble_eq_true rfl⟩ rfl (Nat.le_of_ble_eq_true rfl) dX6_about_104 ?_
    exact g_iret C dX6_about_107 (som2 hq).1 (congrArg (wC a cI cS) (som2 hq).2)
  have hq := iq c46 hq
  by_cases c49 : x1 = (6 : Int32)
  · have hq := ip c49 hq
    refine g_tsIn C (tgt := 108) (6 : Int32) c49 dX6_about_1 (by decide) (by decide) rfl (by decide) ?_
    refine g_aload_n C dX6_about_108 0 rfl rfl ?_
    refine rg_X6_now C dX6_about_109 ?_
    refine g_iconst C dX6_about_112 (v := 1) (by decide) ?_
    obtain ⟨z50, Mz50, h51, hq⟩ := obd_some hq
    refine gc_Vi C (k_X3_needBits 0 (by decide) (1 : Int32) M Mz50 z50 h51) wl_314 ok_X3_needBits (rv_X3 0 (by decide)) rfl ⟨Nat.le_of_ble_eq_true rfl, Nat.le_of_ble_eq_true rfl⟩ ⟨Nat.le_of_ble_eq_true rfl, Nat.le_of_ble_eq_true rfl⟩ rfl (Nat.le_of_ble_eq_true rfl) dX6_about_113 ?_
    exact g_iret C dX6_about_116 (som2 hq).1 (congrArg (wC a cI cS) (som2 hq).2)
  have hq := iq c49 hq
  by_cases c52 : x1 = (7 : Int32)
  · have hq := ip c52 hq
    refine g_tsIn C (tgt := 117) (7 : Int32) c52 dX6_about_1 (by decide) (by decide) rfl (by decide) ?_
    refine g_aload_n C dX6_about_117 0 rfl rfl ?_
    refine rg_X6_now C dX6_about_118 ?_
    refine g_iconst C dX6_about_121 (v := 2) (by decide) ?_
    obtain ⟨z53, Mz53, h54, hq⟩ := obd_some hq
    refine gc_Vi C (k_X3_needBits 0 (by decide) (2 : Int32) M Mz53 z53 h54) wl_314 ok_X3_needBits (rv_X3 0 (by decide)) rfl ⟨Nat.le_of_ble_eq_true rfl, Nat.le_of_ble_eq_true rfl⟩ ⟨Nat.le_of_ble_eq_true rfl, Nat.le_of_ble_eq_true rfl⟩ rfl (Nat.le_of_ble_eq_true rfl) dX6_about_122 ?_
    exact g_iret C dX6_about_125 (som2 hq).1 (congrArg (wC a cI cS) (som2 hq).2)
  have hq := iq c52 hq
  by_cases c55 : x1 = (8 : Int32)
  · have hq := ip c55 hq
    refine g_tsIn C (tgt := 126) (8 : Int32) c55 dX6_about_1 (by decide) (by decide) rfl (by decide) ?_
    refine g_aload_n C dX6_about_126 0 rfl rfl ?_
    refine rg_X6_past C dX6_about_127 ?_
    refine gc_Vi C (k_X1_size  M) wl_324 ok_X1_size rv_X1 rfl ⟨Nat.le_of_ble_eq_true rfl, Nat.le_of_ble_eq_true rfl⟩ ⟨Nat.le_of_ble_eq_true rfl, Nat.le_of_ble_eq_true rfl⟩ rfl (Nat.le_of_ble_eq_true rfl) dX6_about_130 ?_
    exact g_iret C dX6_about_133 (som2 hq).1 (congrArg (wC a cI cS) (som2 hq).2)
  have hq := iq c55 hq
  by_cases c56 : x1 = (9 : Int32)
  · have hq := ip c56 hq
    refine g_tsIn C (tgt := 134) (9 : Int32) c56 dX6_about_1 (by decide) (by decide) rfl (by decide) ?_
    refine g_aload_n C dX6_about_134 0 rfl rfl ?_
    refine rg_X6_felt C dX6_about_135 ?_
    refine gc_Vi C (k_X0_size  M) wl_328 ok_X0_size rv_X0 rfl ⟨Nat.le_of_ble_eq_true rfl, Nat.le_of_ble_eq_true rfl⟩ ⟨Nat.le_of_ble_eq_true rfl, Nat.le_of_ble_eq_true rfl⟩ rfl (Nat.le_of_ble_eq_true rfl) dX6_about_138 ?_
    exact g_iret C dX6_about_141 (som2 hq).1 (congrArg (wC a cI cS) (som2 hq).2)
  have hq := iq c56 hq
  by_cases c57 : x1 = (10 : Int32)
  · have hq := ip c57 hq
    refine g_tsIn C (tgt := 142) (10 : Int32) c57 dX6_about_1 (by decide) (by decide) rfl (by decide) ?_
    refine g_aload_n C dX6_about_142 0 rfl rfl ?_
    refine rg_X6_script C dX6_about_143 ?_
    refine gc_Vi C (k_X4_length  M) wl_212 ok_X4_length rv_X4 rfl ⟨Nat.le_of_ble_eq_true rfl, Nat.le_of_ble_eq_true rfl⟩ ⟨Nat.le_of_ble_eq_true rfl, Nat.le_of_ble_eq_true rfl⟩ rfl (Nat.le_of_ble_eq_true rfl) dX6_about_146 ?_
    exact g_iret C dX6_about_149 (som2 hq).1 (congrArg (wC a cI cS) (som2 hq).2)
  have hq := iq c57 hq
  refine g_tsOut C (tgt := 150) dX6_about_1 (by have ec39 := lv_neT (a := 0) c39 (by decide); have ec40 := lv_neT (a := 1) c40 (by decide); have ec41 := lv_neT (a := 2) c41 (by decide); have ec42 := lv_neT (a := 3) c42 (by decide); have ec43 := lv_neT (a := 4) c43 (by decide); have ec46 := lv_neT (a := 5) c46 (by decide); have ec49 := lv_neT (a := 6) c49 (by decide); have ec52 := lv_neT (a := 7) c52 (by decide); have ec55 := lv_neT (a := 8) c55 (by decide); have ec56 := lv_neT (a := 9) c56 (by decide); have ec57 := lv_neT (a := 10) c57 (by decide); omega) (by decide) ?_
  refine g_bipush C dX6_about_150 (v := -2) (by decide) ?_
  exact g_iret C dX6_about_152 (som2 hq).1 (congrArg (wC a cI cS) (som2 hq).2)
set_option maxHeartbeats 4000000 in
set_option maxRecDepth 100000 in
theorem k_X6_walker {l : Launch} {dC : Nat → ClassId} {dI : Nat → Nat → Nat} {a : Nat → Nat} {cI cZ cS : ClassId} (x1 : Int32) (x2 : Int32) (M : MM) : KQ l (dC, dI) vwCl (tyW cI cZ cS) yX6_walker cX6_walker 3 (some .int) 2 42 [.ref (a 0), .int x1, .int x2] (wC a cI cS M) (qI (dC, dI) vwCl (wC a cI cS M) (t_X6_walker x1 x2 M)) := by
  generalize hq : t_X6_walker x1 x2 M = r
  refine KQ.of (by decide) (Nat.le_of_ble_eq_true rfl) rfl ?_
  intro p e s m args below meth c A0 C
  unfold t_X6_walker at hq
  refine g_aload_n C dX6_walker_0 0 rfl rfl ?_
  refine rg_X6_plan C dX6_walker_1 ?_
  refine g_iload_n C dX6_walker_4 1 rfl rfl ?_
  refine gc_Vi C (k_X2_hasWalker x1 M) wl_336 ok_X2_hasWalker rv_X2 rfl ⟨Nat.le_of_ble_eq_true rfl, Nat.le_of_ble_eq_true rfl⟩ ⟨Nat.le_of_ble_eq_true rfl, Nat.le_of_ble_eq_true rfl⟩ rfl (Nat.le_of_ble_eq_true rfl) dX6_walker_5 ?_
  refine g_if_ne C (tgt := 13) dX6_walker_8 (by decide) (fun c11 => ?_) (fun c11 => ?_)
  · have hq := iq c11 hq
    refine g_iload_n C dX6_walker_13 2 rfl rfl ?_
    by_cases c12 : x2 = (0 : Int32)
    · have hq := ip c12 hq
      refine g_tsIn C (tgt := 40) (0 : Int32) c12 dX6_walker_14 (by decide) (by decide) rfl (by decide) ?_
      refine g_aload_n C dX6_walker_40 0 rfl rfl ?_
      refine rg_X6_now C dX6_walker_41 ?_
      refine g_iload_n C dX6_walker_44 1 rfl rfl ?_
      refine gc_Vi C (k_X3_placeOf 0 (by decide) x1 M) wl_340 ok_X3_placeOf (rv_X3 0 (by decide)) rfl ⟨Nat.le_of_ble_eq_true rfl, Nat.le_of_ble_eq_true rfl⟩ ⟨Nat.le_of_ble_eq_true rfl, Nat.le_of_ble_eq_true rfl⟩ rfl (Nat.le_of_ble_eq_true rfl) dX6_walker_45 ?_
      exact g_iret C dX6_walker_48 hq rfl
    have hq := iq c12 hq
    by_cases c13 : x2 = (1 : Int32)
    · have hq := ip c13 hq
      refine g_tsIn C (tgt := 49) (1 : Int32) c13 dX6_walker_14 (by decide) (by decide) rfl (by decide) ?_
      refine g_aload_n C dX6_walker_49 0 rfl rfl ?_
      refine rg_X6_plan C dX6_walker_50 ?_
      refine g_iload_n C dX6_walker_53 1 rfl rfl ?_
      refine gc_Vi C (k_X2_stuffOf x1 M) wl_344 ok_X2_stuffOf rv_X2 rfl ⟨Nat.le_of_ble_eq_true rfl, Nat.le_of_ble_eq_true rfl⟩ ⟨Nat.le_of_ble_eq_true rfl, Nat.le_of_ble_eq_true rfl⟩ rfl (Nat.le_of_ble_eq_true rfl) dX6_walker_54 ?_
      exact g_iret C dX6_walker_57 hq rfl
    have hq := iq c13 hq
    by_cases c14 : x2 = (2 : Int32)
    · have hq := ip c14 hq
      refine g_tsIn C (tgt := 58) (2 : Int32) c14 dX6_walker_14 (by decide) (by decide) rfl (by decide) ?_
      refine g_aload_n C dX6_walker_58 0 rfl rfl ?_
      refine rg_X6_now C dX6_walker_59 ?_
      refine g_iload_n C dX6_walker_62 1 rfl rfl ?_
      refine gc_Vi C (k_X3_isOpen 0 (by decide) x1 M) wl_345 ok_X3_isOpen (rv_X3 0 (by decide)) rfl ⟨Nat.le_of_ble_eq_true rfl, Nat.le_of_ble_eq_true rfl⟩ ⟨Nat.le_of_ble_eq_true rfl, Nat.le_of_ble_eq_true rfl⟩ rfl (Nat.le_of_ble_eq_true rfl) dX6_walker_63 ?_
      refine g_if_eq C (tgt := 73) dX6_walker_66 (by decide) (fun c15 => ?_) (fun c15 => ?_)
      · have hq := ip c15 hq
        refine g_iconst C dX6_walker_73 (v := 0) (by decide) ?_
        exact g_iret C dX6_walker_74 hq rfl
      · have hq := iq c15 hq
        refine g_iconst C dX6_walker_69 (v := 1) (by decide) ?_
        refine g_goto C (tgt := 74) dX6_walker_70 (by decide) ?_
        exact g_iret C dX6_walker_74 hq rfl
    have hq := iq c14 hq
    refine g_tsOut C (tgt := 75) dX6_walker_14 (by have ec12 := lv_neT (a := 0) c12 (by decide); have ec13 := lv_neT (a := 1) c13 (by decide); have ec14 := lv_neT (a := 2) c14 (by decide); omega) (by decide) ?_
    refine g_bipush C dX6_walker_75 (v := -2) (by decide) ?_
    exact g_iret C dX6_walker_77 hq rfl
  · have hq := ip c11 hq
    refine g_iconst C dX6_walker_11 (v := -1) (by decide) ?_
    exact g_iret C dX6_walker_12 hq rfl
set_option maxHeartbeats 4000000 in
set_option maxRecDepth 100000 in
theorem k_X6_need {l : Launch} {dC : Nat → ClassId} {dI : Nat → Nat → Nat} {a : Nat → Nat} {cI cZ cS : ClassId} (x1 : Int32) (x2 : Int32) (M : MM) : KQ l (dC, dI) vwCl (tyW cI cZ cS) yX6_need cX6_need 3 (some .int) 2 42 [.ref (a 0), .int x1, .int x2] (wC a cI cS M) (qI (dC, dI) vwCl (wC a cI cS M) (t_X6_need x1 x2 M)) := by
  generalize hq : t_X6_need x1 x2 M = r
  refine KQ.of (by decide) (Nat.le_of_ble_eq_true rfl) rfl ?_
  intro p e s m args below meth c A0 C
  unfold t_X6_need at hq
  refine g_aload_n C dX6_need_0 0 rfl rfl ?_
  refine rg_X6_plan C dX6_need_1 ?_
  refine g_iload_n C dX6_need_4 1 rfl rfl ?_
  refine gc_Vi C (k_X2_hasNeed x1 M) wl_353 ok_X2_hasNeed rv_X2 rfl ⟨Nat.le_of_ble_eq_true rfl, Nat.le_of_ble_eq_true rfl⟩ ⟨Nat.le_of_ble_eq_true rfl, Nat.le_of_ble_eq_true rfl⟩ rfl (Nat.le_of_ble_eq_true rfl) dX6_need_5 ?_
  refine g_if_ne C (tgt := 13) dX6_need_8 (by decide) (fun c11 => ?_) (fun c11 => ?_)
  · have hq := iq c11 hq
    refine g_iload_n C dX6_need_13 2 rfl rfl ?_
    by_cases c12 : x2 = (0 : Int32)
    · have hq := ip c12 hq
      refine g_tsIn C (tgt := 44) (0 : Int32) c12 dX6_need_14 (by decide) (by decide) rfl (by decide) ?_
      refine g_aload_n C dX6_need_44 0 rfl rfl ?_
      refine rg_X6_plan C dX6_need_45 ?_
      refine g_iload_n C dX6_need_48 1 rfl rfl ?_
      refine gc_Vi C (k_X2_streetOfNeed x1 M) wl_357 ok_X2_streetOfNeed rv_X2 rfl ⟨Nat.le_of_ble_eq_true rfl, Nat.le_of_ble_eq_true rfl⟩ ⟨Nat.le_of_ble_eq_true rfl, Nat.le_of_ble_eq_true rfl⟩ rfl (Nat.le_of_ble_eq_true rfl) dX6_need_49 ?_
      exact g_iret C dX6_need_52 hq rfl
    have hq := iq c12 hq
    by_cases c13 : x2 = (1 : Int32)
    · have hq := ip c13 hq
      refine g_tsIn C (tgt := 53) (1 : Int32) c13 dX6_need_14 (by decide) (by decide) rfl (by decide) ?_
      refine g_aload_n C dX6_need_53 0 rfl rfl ?_
      refine rg_X6_plan C dX6_need_54 ?_
      refine g_iload_n C dX6_need_57 1 rfl rfl ?_
      refine gc_Vi C (k_X2_sortOfNeed x1 M) wl_361 ok_X2_sortOfNeed rv_X2 rfl ⟨Nat.le_of_ble_eq_true rfl, Nat.le_of_ble_eq_true rfl⟩ ⟨Nat.le_of_ble_eq_true rfl, Nat.le_of_ble_eq_true rfl⟩ rfl (Nat.le_of_ble_eq_true rfl) dX6_need_58 ?_
      exact g_iret C dX6_need_61 hq rfl
    have hq := iq c13 hq
    by_cases c14 : x2 = (2 : Int32)
    · have hq := ip c14 hq
      refine g_tsIn C (tgt := 62) (2 : Int32) c14 dX6_need_14 (by decide) (by decide) rfl (by decide) ?_
      refine g_aload_n C dX6_need_62 0 rfl rfl ?_
      refine rg_X6_plan C dX6_need_63 ?_
      refine g_iload_n C dX6_need_66 1 rfl rfl ?_
      refine gc_Vi C (k_X2_figureOfNeed x1 M) wl_365 ok_X2_figureOfNeed rv_X2 rfl ⟨Nat.le_of_ble_eq_true rfl, Nat.le_of_ble_eq_true rfl⟩ ⟨Nat.le_of_ble_eq_true rfl, Nat.le_of_ble_eq_true rfl⟩ rfl (Nat.le_of_ble_eq_true rfl) dX6_need_67 ?_
      exact g_iret C dX6_need_70 hq rfl
    have hq := iq c14 hq
    by_cases c15 : x2 = (3 : Int32)
    · have hq := ip c15 hq
      refine g_tsIn C (tgt := 71) (3 : Int32) c15 dX6_need_14 (by decide) (by decide) rfl (by decide) ?_
      refine g_aload_n C dX6_need_71 0 rfl rfl ?_
      refine rg_X6_now C dX6_need_72 ?_
      refine g_iload_n C dX6_need_75 1 rfl rfl ?_
      refine gc_Vi C (k_X3_fateOf 0 (by decide) x1 M) wl_369 ok_X3_fateOf (rv_X3 0 (by decide)) rfl ⟨Nat.le_of_ble_eq_true rfl, Nat.le_of_ble_eq_true rfl⟩ ⟨Nat.le_of_ble_eq_true rfl, Nat.le_of_ble_eq_true rfl⟩ rfl (Nat.le_of_ble_eq_true rfl) dX6_need_76 ?_
      exact g_iret C dX6_need_79 hq rfl
    have hq := iq c15 hq
    refine g_tsOut C (tgt := 80) dX6_need_14 (by have ec12 := lv_neT (a := 0) c12 (by decide); have ec13 := lv_neT (a := 1) c13 (by decide); have ec14 := lv_neT (a := 2) c14 (by decide); have ec15 := lv_neT (a := 3) c15 (by decide); omega) (by decide) ?_
    refine g_bipush C dX6_need_80 (v := -2) (by decide) ?_
    exact g_iret C dX6_need_82 hq rfl
  · have hq := ip c11 hq
    refine g_iconst C dX6_need_11 (v := -1) (by decide) ?_
    exact g_iret C dX6_need_12 hq rfl
set_option maxHeartbeats 4000000 in
set_option maxRecDepth 100000 in
theorem k_X6_street {l : Launch} {dC : Nat → ClassId} {dI : Nat → Nat → Nat} {a : Nat → Nat} {cI cZ cS : ClassId} (x1 : Int32) (x2 : Int32) (M M2 : MM) (r : Int32) (hq : q_X6_street x1 x2 M = some (r, M2)) : KQ l (dC, dI) vwCl (tyW cI cZ cS) yX6_street cX6_street 3 (some .int) 2 44 [.ref (a 0), .int x1, .int x2] (wC a cI cS M) (qI (dC, dI) vwCl (wC a cI cS M2) r) := by
  refine KQ.of (by decide) (Nat.le_of_ble_eq_true rfl) rfl ?_
  intro p e s m args below meth c A0 C
  unfold q_X6_street at hq
  refine g_iload_n C dX6_street_0 1 rfl rfl ?_
  refine gc_Si C (k_X6_isStreet x1 M) wl_374 ok_X6_isStreet ⟨Nat.le_of_ble_eq_true rfl, Nat.le_of_ble_eq_true rfl⟩ ⟨Nat.le_of_ble_eq_true rfl, Nat.le_of_ble_eq_true rfl⟩ rfl (Nat.le_of_ble_eq_true rfl) dX6_street_1 ?_
  refine g_if_ne C (tgt := 9) dX6_street_4 (by decide) (fun c13 => ?_) (fun c13 => ?_)
  · have hq := iq c13 hq
    refine g_iload_n C dX6_street_9 2 rfl rfl ?_
    by_cases c14 : x2 = (0 : Int32)
    · have hq := ip c14 hq
      refine g_tsIn C (tgt := 36) (0 : Int32) c14 dX6_street_10 (by decide) (by decide) rfl (by decide) ?_
      refine g_aload_n C dX6_street_36 0 rfl rfl ?_
      refine rg_X6_now C dX6_street_37 ?_
      refine g_iload_n C dX6_street_40 1 rfl rfl ?_
      refine gc_Vi C (k_X3_wetnessOf 0 (by decide) x1 M) wl_377 ok_X3_wetnessOf (rv_X3 0 (by decide)) rfl ⟨Nat.le_of_ble_eq_true rfl, Nat.le_of_ble_eq_true rfl⟩ ⟨Nat.le_of_ble_eq_true rfl, Nat.le_of_ble_eq_true rfl⟩ rfl (Nat.le_of_ble_eq_true rfl) dX6_street_41 ?_
      exact g_iret C dX6_street_44 (som2 hq).1 (congrArg (wC a cI cS) (som2 hq).2)
    have hq := iq c14 hq
    by_cases c15 : x2 = (1 : Int32)
    · have hq := ip c15 hq
      refine g_tsIn C (tgt := 45) (1 : Int32) c15 dX6_street_10 (by decide) (by decide) rfl (by decide) ?_
      refine g_aload_n C dX6_street_45 0 rfl rfl ?_
      refine rg_X6_now C dX6_street_46 ?_
      refine g_iload_n C dX6_street_49 1 rfl rfl ?_
      refine gc_Vi C (k_X3_lastsIn 0 (by decide) x1 M) wl_381 ok_X3_lastsIn (rv_X3 0 (by decide)) rfl ⟨Nat.le_of_ble_eq_true rfl, Nat.le_of_ble_eq_true rfl⟩ ⟨Nat.le_of_ble_eq_true rfl, Nat.le_of_ble_eq_true rfl⟩ rfl (Nat.le_of_ble_eq_true rfl) dX6_street_50 ?_
      exact g_iret C dX6_street_53 (som2 hq).1 (congrArg (wC a cI cS) (som2 hq).2)
    have hq := iq c15 hq
    by_cases c16 : x2 = (2 : Int32)
    · have hq := ip c16 hq
      refine g_tsIn C (tgt := 54) (2 : Int32) c16 dX6_street_10 (by decide) (by decide) rfl (by decide) ?_
      refine g_aload_n C dX6_street_54 0 rfl rfl ?_
      refine rg_X6_now C dX6_street_55 ?_
      refine g_iload_n C dX6_street_58 1 rfl rfl ?_
      obtain ⟨z17, Mz17, h18, hq⟩ := obd_some hq
      refine gc_Vi C (k_X3_openIn 0 (by decide) x1 M Mz17 z17 h18) wl_385 ok_X3_openIn (rv_X3 0 (by decide)) rfl ⟨Nat.le_of_ble_eq_true rfl, Nat.le_of_ble_eq_true rfl⟩ ⟨Nat.le_of_ble_eq_true rfl, Nat.le_of_ble_eq_true rfl⟩ rfl (Nat.le_of_ble_eq_true rfl) dX6_street_59 ?_
      exact g_iret C dX6_street_62 (som2 hq).1 (congrArg (wC a cI cS) (som2 hq).2)
    have hq := iq c16 hq
    refine g_tsOut C (tgt := 63) dX6_street_10 (by have ec14 := lv_neT (a := 0) c14 (by decide); have ec15 := lv_neT (a := 1) c15 (by decide); have ec16 := lv_neT (a := 2) c16 (by decide); omega) (by decide) ?_
    refine g_bipush C dX6_street_63 (v := -2) (by decide) ?_
    exact g_iret C dX6_street_65 (som2 hq).1 (congrArg (wC a cI cS) (som2 hq).2)
  · have hq := ip c13 hq
    refine g_iconst C dX6_street_7 (v := -1) (by decide) ?_
    exact g_iret C dX6_street_8 (som2 hq).1 (congrArg (wC a cI cS) (som2 hq).2)
set_option maxHeartbeats 4000000 in
set_option maxRecDepth 100000 in
theorem k_X6_open {l : Launch} {dC : Nat → ClassId} {dI : Nat → Nat → Nat} {a : Nat → Nat} {cI cZ cS : ClassId} (x1 : Int32) (M M2 : MM) (r : Int32) (hq : q_X6_open x1 M = some (r, M2)) : KQ l (dC, dI) vwCl (tyW cI cZ cS) yX6_open cX6_open 2 (some .int) 3 83 [.ref (a 0), .int x1] (wC a cI cS M) (qI (dC, dI) vwCl (wC a cI cS M2) r) := by
  refine KQ.of (by decide) (Nat.le_of_ble_eq_true rfl) rfl ?_
  intro p e s m args below meth c A0 C
  unfold q_X6_open at hq
  refine g_aload_n C dX6_open_0 0 rfl rfl ?_
  refine rg_X6_plan C dX6_open_1 ?_
  refine g_iload_n C dX6_open_4 1 rfl rfl ?_
  refine gc_Vi C (k_X2_hasWalker x1 M) wl_336 ok_X2_hasWalker rv_X2 rfl ⟨Nat.le_of_ble_eq_true rfl, Nat.le_of_ble_eq_true rfl⟩ ⟨Nat.le_of_ble_eq_true rfl, Nat.le_of_ble_eq_true rfl⟩ rfl (Nat.le_of_ble_eq_true rfl) dX6_open_5 ?_
  refine g_if_ne C (tgt := 13) dX6_open_8 (by decide) (fun c17 => ?_) (fun c17 => ?_)
  · have hq := iq c17 hq
    refine g_aload_n C dX6_open_13 0 rfl rfl ?_
    refine rg_X6_now C dX6_open_14 ?_
    refine g_iload_n C dX6_open_17 1 rfl rfl ?_
    refine gc_Vi C (k_X3_isOpen 0 (by decide) x1 M) wl_345 ok_X3_isOpen (rv_X3 0 (by decide)) rfl ⟨Nat.le_of_ble_eq_true rfl, Nat.le_of_ble_eq_true rfl⟩ ⟨Nat.le_of_ble_eq_true rfl, Nat.le_of_ble_eq_true rfl⟩ rfl (Nat.le_of_ble_eq_true rfl) dX6_open_18 ?_
    refine g_if_eq C (tgt := 27) dX6_open_21 (by decide) (fun c18 => ?_) (fun c18 => ?_)
    · have hq := ip c18 hq
      refine g_aload_n C dX6_open_27 0 rfl rfl ?_
      refine rg_X6_past C dX6_open_28 ?_
      refine g_aload_n C dX6_open_31 0 rfl rfl ?_
      refine rg_X6_now C dX6_open_32 ?_
      obtain ⟨z19, Mz19, h20, hq⟩ := obd_some hq
      refine gc_Vv C (k_X1_add 0 (by decide) M Mz19 z19 h20) wl_393 ok_X1_add rv_X1 rfl ⟨Nat.le_of_ble_eq_true rfl, Nat.le_of_ble_eq_true rfl⟩ ⟨Nat.le_of_ble_eq_true rfl, Nat.le_of_ble_eq_true rfl⟩ rfl (Nat.le_of_ble_eq_true rfl) dX6_open_35 ?_
      refine g_aload_n C dX6_open_38 0 rfl rfl ?_
      refine rg_X6_now C dX6_open_39 ?_
      refine g_iload_n C dX6_open_42 1 rfl rfl ?_
      obtain ⟨z21, Mz21, h22, hq⟩ := obd_some hq
      refine gc_Vi C (k_X3_raise 0 (by decide) x1 Mz19 Mz21 z21 h22) wl_407 ok_X3_raise (rv_X3 0 (by decide)) rfl ⟨Nat.le_of_ble_eq_true rfl, Nat.le_of_ble_eq_true rfl⟩ ⟨Nat.le_of_ble_eq_true rfl, Nat.le_of_ble_eq_true rfl⟩ rfl (Nat.le_of_ble_eq_true rfl) dX6_open_43 ?_
      refine g_pop C dX6_open_46 rfl ?_
      refine g_aload_n C dX6_open_47 0 rfl rfl ?_
      refine rg_X6_now C dX6_open_48 ?_
      refine g_aload_n C dX6_open_51 0 rfl rfl ?_
      refine rg_X6_now C dX6_open_52 ?_
      refine g_iload_n C dX6_open_55 1 rfl rfl ?_
      refine gc_Vi C (k_X3_placeOf 0 (by decide) x1 Mz21) wl_340 ok_X3_placeOf (rv_X3 0 (by decide)) rfl ⟨Nat.le_of_ble_eq_true rfl, Nat.le_of_ble_eq_true rfl⟩ ⟨Nat.le_of_ble_eq_true rfl, Nat.le_of_ble_eq_true rfl⟩ rfl (Nat.le_of_ble_eq_true rfl) dX6_open_56 ?_
      obtain ⟨z23, Mz23, h24, hq⟩ := obd_some hq
      refine gc_Vi C (k_X3_openIn 0 (by decide) (t_X3_placeOf 0 x1 Mz21) Mz21 Mz23 z23 h24) wl_385 ok_X3_openIn (rv_X3 0 (by decide)) rfl ⟨Nat.le_of_ble_eq_true rfl, Nat.le_of_ble_eq_true rfl⟩ ⟨Nat.le_of_ble_eq_true rfl, Nat.le_of_ble_eq_true rfl⟩ rfl (Nat.le_of_ble_eq_true rfl) dX6_open_59 ?_
      exact g_iret C dX6_open_62 (som2 hq).1 (congrArg (wC a cI cS) (som2 hq).2)
    · have hq := iq c18 hq
      refine g_bipush C dX6_open_24 (v := -3) (by decide) ?_
      exact g_iret C dX6_open_26 (som2 hq).1 (congrArg (wC a cI cS) (som2 hq).2)
  · have hq := ip c17 hq
    refine g_iconst C dX6_open_11 (v := -1) (by decide) ?_
    exact g_iret C dX6_open_12 (som2 hq).1 (congrArg (wC a cI cS) (som2 hq).2)
set_option maxHeartbeats 4000000 in
set_option maxRecDepth 100000 in
theorem k_X6_shut {l : Launch} {dC : Nat → ClassId} {dI : Nat → Nat → Nat} {a : Nat → Nat} {cI cZ cS : ClassId} (x1 : Int32) (M M2 : MM) (r : Int32) (hq : q_X6_shut x1 M = some (r, M2)) : KQ l (dC, dI) vwCl (tyW cI cZ cS) yX6_shut cX6_shut 2 (some .int) 3 83 [.ref (a 0), .int x1] (wC a cI cS M) (qI (dC, dI) vwCl (wC a cI cS M2) r) := by
  refine KQ.of (by decide) (Nat.le_of_ble_eq_true rfl) rfl ?_
  intro p e s m args below meth c A0 C
  unfold q_X6_shut at hq
  refine g_aload_n C dX6_shut_0 0 rfl rfl ?_
  refine rg_X6_plan C dX6_shut_1 ?_
  refine g_iload_n C dX6_shut_4 1 rfl rfl ?_
  refine gc_Vi C (k_X2_hasWalker x1 M) wl_336 ok_X2_hasWalker rv_X2 rfl ⟨Nat.le_of_ble_eq_true rfl, Nat.le_of_ble_eq_true rfl⟩ ⟨Nat.le_of_ble_eq_true rfl, Nat.le_of_ble_eq_true rfl⟩ rfl (Nat.le_of_ble_eq_true rfl) dX6_shut_5 ?_
  refine g_if_ne C (tgt := 13) dX6_shut_8 (by decide) (fun c17 => ?_) (fun c17 => ?_)
  · have hq := iq c17 hq
    refine g_aload_n C dX6_shut_13 0 rfl rfl ?_
    refine rg_X6_now C dX6_shut_14 ?_
    refine g_iload_n C dX6_shut_17 1 rfl rfl ?_
    refine gc_Vi C (k_X3_isOpen 0 (by decide) x1 M) wl_345 ok_X3_isOpen (rv_X3 0 (by decide)) rfl ⟨Nat.le_of_ble_eq_true rfl, Nat.le_of_ble_eq_true rfl⟩ ⟨Nat.le_of_ble_eq_true rfl, Nat.le_of_ble_eq_true rfl⟩ rfl (Nat.le_of_ble_eq_true rfl) dX6_shut_18 ?_
    refine g_if_ne C (tgt := 27) dX6_shut_21 (by decide) (fun c18 => ?_) (fun c18 => ?_)
    · have hq := iq c18 hq
      refine g_aload_n C dX6_shut_27 0 rfl rfl ?_
      refine rg_X6_past C dX6_shut_28 ?_
      refine g_aload_n C dX6_shut_31 0 rfl rfl ?_
      refine rg_X6_now C dX6_shut_32 ?_
      obtain ⟨z19, Mz19, h20, hq⟩ := obd_some hq
      refine gc_Vv C (k_X1_add 0 (by decide) M Mz19 z19 h20) wl_393 ok_X1_add rv_X1 rfl ⟨Nat.le_of_ble_eq_true rfl, Nat.le_of_ble_eq_true rfl⟩ ⟨Nat.le_of_ble_eq_true rfl, Nat.le_of_ble_eq_true rfl⟩ rfl (Nat.le_of_ble_eq_true rfl) dX6_shut_35 ?_
      refine g_aload_n C dX6_shut_38 0 rfl rfl ?_
      refine rg_X6_now C dX6_shut_39 ?_
      refine g_iload_n C dX6_shut_42 1 rfl rfl ?_
      obtain ⟨z21, Mz21, h22, hq⟩ := obd_some hq
      refine gc_Vi C (k_X3_lower 0 (by decide) x1 Mz19 Mz21 z21 h22) wl_426 ok_X3_lower (rv_X3 0 (by decide)) rfl ⟨Nat.le_of_ble_eq_true rfl, Nat.le_of_ble_eq_true rfl⟩ ⟨Nat.le_of_ble_eq_true rfl, Nat.le_of_ble_eq_true rfl⟩ rfl (Nat.le_of_ble_eq_true rfl) dX6_shut_43 ?_
      refine g_pop C dX6_shut_46 rfl ?_
      refine g_aload_n C dX6_shut_47 0 rfl rfl ?_
      refine rg_X6_now C dX6_shut_48 ?_
      refine g_aload_n C dX6_shut_51 0 rfl rfl ?_
      refine rg_X6_now C dX6_shut_52 ?_
      refine g_iload_n C dX6_shut_55 1 rfl rfl ?_
      refine gc_Vi C (k_X3_placeOf 0 (by decide) x1 Mz21) wl_340 ok_X3_placeOf (rv_X3 0 (by decide)) rfl ⟨Nat.le_of_ble_eq_true rfl, Nat.le_of_ble_eq_true rfl⟩ ⟨Nat.le_of_ble_eq_true rfl, Nat.le_of_ble_eq_true rfl⟩ rfl (Nat.le_of_ble_eq_true rfl) dX6_shut_56 ?_
      obtain ⟨z23, Mz23, h24, hq⟩ := obd_some hq
      refine gc_Vi C (k_X3_openIn 0 (by decide) (t_X3_placeOf 0 x1 Mz21) Mz21 Mz23 z23 h24) wl_385 ok_X3_openIn (rv_X3 0 (by decide)) rfl ⟨Nat.le_of_ble_eq_true rfl, Nat.le_of_ble_eq_true rfl⟩ ⟨Nat.le_of_ble_eq_true rfl, Nat.le_of_ble_eq_true rfl⟩ rfl (Nat.le_of_ble_eq_true rfl) dX6_shut_59 ?_
      exact g_iret C dX6_shut_62 (som2 hq).1 (congrArg (wC a cI cS) (som2 hq).2)
    · have hq := ip c18 hq
      refine g_bipush C dX6_shut_24 (v := -3) (by decide) ?_
      exact g_iret C dX6_shut_26 (som2 hq).1 (congrArg (wC a cI cS) (som2 hq).2)
  · have hq := ip c17 hq
    refine g_iconst C dX6_shut_11 (v := -1) (by decide) ?_
    exact g_iret C dX6_shut_12 (som2 hq).1 (congrArg (wC a cI cS) (som2 hq).2)
set_option maxHeartbeats 4000000 in
set_option maxRecDepth 100000 in
theorem k_X6_walk {l : Launch} {dC : Nat → ClassId} {dI : Nat → Nat → Nat} {a : Nat → Nat} {cI cZ cS : ClassId} (x1 : Int32) (x2 : Int32) (M M2 : MM) (r : Int32) (hq : q_X6_walk x1 x2 M = some (r, M2)) : KQ l (dC, dI) vwCl (tyW cI cZ cS) yX6_walk cX6_walk 3 (some .int) 4 86 [.ref (a 0), .int x1, .int x2] (wC a cI cS M) (qI (dC, dI) vwCl (wC a cI cS M2) r) := by
  refine KQ.of (by decide) (Nat.le_of_ble_eq_true rfl) rfl ?_
  intro p e s m args below meth c A0 C
  unfold q_X6_walk at hq
  refine g_aload_n C dX6_walk_0 0 rfl rfl ?_
  refine rg_X6_plan C dX6_walk_1 ?_
  refine g_iload_n C dX6_walk_4 1 rfl rfl ?_
  refine gc_Vi C (k_X2_hasWalker x1 M) wl_336 ok_X2_hasWalker rv_X2 rfl ⟨Nat.le_of_ble_eq_true rfl, Nat.le_of_ble_eq_true rfl⟩ ⟨Nat.le_of_ble_eq_true rfl, Nat.le_of_ble_eq_true rfl⟩ rfl (Nat.le_of_ble_eq_true rfl) dX6_walk_5 ?_
  refine g_if_ne C (tgt := 13) dX6_walk_8 (by decide) (fun c13 => ?_) (fun c13 => ?_)
  · have hq := iq c13 hq
    refine g_aload_n C dX6_walk_13 0 rfl rfl ?_
    refine rg_X6_now C dX6_walk_14 ?_
    refine g_iload_n C dX6_walk_17 1 rfl rfl ?_
    refine g_iload_n C dX6_walk_18 2 rfl rfl ?_
    refine gc_Vi C (k_X3_canMove 0 (by decide) x1 x2 M) wl_434 ok_X3_canMove (rv_X3 0 (by decide)) rfl ⟨Nat.le_of_ble_eq_true rfl, Nat.le_of_ble_eq_true rfl⟩ ⟨Nat.le_of_ble_eq_true rfl, Nat.le_of_ble_eq_true rfl⟩ rfl (Nat.le_of_ble_eq_true rfl) dX6_walk_19 ?_
    refine g_if_ne C (tgt := 28) dX6_walk_22 (by decide) (fun c14 => ?_) (fun c14 => ?_)
    · have hq := iq c14 hq
      refine g_aload_n C dX6_walk_28 0 rfl rfl ?_
      refine rg_X6_past C dX6_walk_29 ?_
      refine g_aload_n C dX6_walk_32 0 rfl rfl ?_
      refine rg_X6_now C dX6_walk_33 ?_
      obtain ⟨z15, Mz15, h16, hq⟩ := obd_some hq
      refine gc_Vv C (k_X1_add 0 (by decide) M Mz15 z15 h16) wl_393 ok_X1_add rv_X1 rfl ⟨Nat.le_of_ble_eq_true rfl, Nat.le_of_ble_eq_true rfl⟩ ⟨Nat.le_of_ble_eq_true rfl, Nat.le_of_ble_eq_true rfl⟩ rfl (Nat.le_of_ble_eq_true rfl) dX6_walk_36 ?_
      refine g_aload_n C dX6_walk_39 0 rfl rfl ?_
      refine rg_X6_now C dX6_walk_40 ?_
      refine g_iload_n C dX6_walk_43 1 rfl rfl ?_
      refine g_iload_n C dX6_walk_44 2 rfl rfl ?_
      obtain ⟨z17, Mz17, h18, hq⟩ := obd_some hq
      refine gc_Vi C (k_X3_move 0 (by decide) x1 x2 Mz15 Mz17 z17 h18) wl_439 ok_X3_move (rv_X3 0 (by decide)) rfl ⟨Nat.le_of_ble_eq_true rfl, Nat.le_of_ble_eq_true rfl⟩ ⟨Nat.le_of_ble_eq_true rfl, Nat.le_of_ble_eq_true rfl⟩ rfl (Nat.le_of_ble_eq_true rfl) dX6_walk_45 ?_
      refine g_pop C dX6_walk_48 rfl ?_
      refine g_aload_n C dX6_walk_49 0 rfl rfl ?_
      refine rg_X6_now C dX6_walk_50 ?_
      refine g_iload_n C dX6_walk_53 1 rfl rfl ?_
      refine gc_Vi C (k_X3_placeOf 0 (by decide) x1 Mz17) wl_340 ok_X3_placeOf (rv_X3 0 (by decide)) rfl ⟨Nat.le_of_ble_eq_true rfl, Nat.le_of_ble_eq_true rfl⟩ ⟨Nat.le_of_ble_eq_true rfl, Nat.le_of_ble_eq_true rfl⟩ rfl (Nat.le_of_ble_eq_true rfl) dX6_walk_54 ?_
      exact g_iret C dX6_walk_57 (som2 hq).1 (congrArg (wC a cI cS) (som2 hq).2)
    · have hq := ip c14 hq
      refine g_bipush C dX6_walk_25 (v := -3) (by decide) ?_
      exact g_iret C dX6_walk_27 (som2 hq).1 (congrArg (wC a cI cS) (som2 hq).2)
  · have hq := ip c13 hq
    refine g_iconst C dX6_walk_11 (v := -1) (by decide) ?_
    exact g_iret C dX6_walk_12 (som2 hq).1 (congrArg (wC a cI cS) (som2 hq).2)
set_option maxHeartbeats 4000000 in
set_option maxRecDepth 100000 in
theorem k_X6_hour {l : Launch} {dC : Nat → ClassId} {dI : Nat → Nat → Nat} {a : Nat → Nat} {cI cZ cS : ClassId}  (M M2 : MM) (r : Int32) (hq : q_X6_hour  M = some (r, M2)) : KQ l (dC, dI) vwCl (tyW cI cZ cS) yX6_hour cX6_hour 1 (some .int) 4 89 [.ref (a 0)] (wC a cI cS M) (qI (dC, dI) vwCl (wC a cI cS M2) r) := by
  refine KQ.of (by decide) (Nat.le_of_ble_eq_true rfl) rfl ?_
  intro p e s m args below meth c A0 C
  unfold q_X6_hour at hq
  refine g_aload_n C dX6_hour_0 0 rfl rfl ?_
  refine rg_X6_past C dX6_hour_1 ?_
  refine g_aload_n C dX6_hour_4 0 rfl rfl ?_
  refine rg_X6_now C dX6_hour_5 ?_
  obtain ⟨z9, Mz9, h10, hq⟩ := obd_some hq
  refine gc_Vv C (k_X1_add 0 (by decide) M Mz9 z9 h10) wl_393 ok_X1_add rv_X1 rfl ⟨Nat.le_of_ble_eq_true rfl, Nat.le_of_ble_eq_true rfl⟩ ⟨Nat.le_of_ble_eq_true rfl, Nat.le_of_ble_eq_true rfl⟩ rfl (Nat.le_of_ble_eq_true rfl) dX6_hour_8 ?_
  refine g_aload_n C dX6_hour_11 0 rfl rfl ?_
  refine rg_X6_now C dX6_hour_12 ?_
  obtain ⟨z11, Mz11, h12, hq⟩ := obd_some hq
  refine gc_Vi C (k_X3_passHour 0 (by decide) Mz9 Mz11 z11 h12) wl_452 ok_X3_passHour (rv_X3 0 (by decide)) rfl ⟨Nat.le_of_ble_eq_true rfl, Nat.le_of_ble_eq_true rfl⟩ ⟨Nat.le_of_ble_eq_true rfl, Nat.le_of_ble_eq_true rfl⟩ rfl (Nat.le_of_ble_eq_true rfl) dX6_hour_15 ?_
  exact g_iret C dX6_hour_18 (som2 hq).1 (congrArg (wC a cI cS) (som2 hq).2)
set_option maxHeartbeats 4000000 in
set_option maxRecDepth 100000 in
theorem k_X6_undo {l : Launch} {dC : Nat → ClassId} {dI : Nat → Nat → Nat} {a : Nat → Nat} {cI cZ cS : ClassId}  (M M2 : MM) (r : Int32) (hq : q_X6_undo  M = some (r, M2)) : KQ l (dC, dI) vwCl (tyW cI cZ cS) yX6_undo cX6_undo 1 (some .int) 3 83 [.ref (a 0)] (wC a cI cS M) (qI (dC, dI) vwCl (wC a cI cS M2) r) := by
  refine KQ.of (by decide) (Nat.le_of_ble_eq_true rfl) rfl ?_
  intro p e s m args below meth c A0 C
  unfold q_X6_undo at hq
  refine g_aload_n C dX6_undo_0 0 rfl rfl ?_
  refine rg_X6_past C dX6_undo_1 ?_
  refine gc_Vi C (k_X1_size  M) wl_324 ok_X1_size rv_X1 rfl ⟨Nat.le_of_ble_eq_true rfl, Nat.le_of_ble_eq_true rfl⟩ ⟨Nat.le_of_ble_eq_true rfl, Nat.le_of_ble_eq_true rfl⟩ rfl (Nat.le_of_ble_eq_true rfl) dX6_undo_4 ?_
  refine g_if_ne C (tgt := 13) dX6_undo_7 (by decide) (fun c7 => ?_) (fun c7 => ?_)
  · have hq := iq c7 hq
    refine g_aload_n C dX6_undo_13 0 rfl rfl ?_
    refine rg_X6_past C dX6_undo_14 ?_
    refine g_aload_n C dX6_undo_17 0 rfl rfl ?_
    refine rg_X6_now C dX6_undo_18 ?_
    obtain ⟨z8, Mz8, h9, hq⟩ := obd_some hq
    refine gc_Vv C (k_X1_takeLast 0 (by decide) M Mz8 z8 h9) wl_470 ok_X1_takeLast rv_X1 rfl ⟨Nat.le_of_ble_eq_true rfl, Nat.le_of_ble_eq_true rfl⟩ ⟨Nat.le_of_ble_eq_true rfl, Nat.le_of_ble_eq_true rfl⟩ rfl (Nat.le_of_ble_eq_true rfl) dX6_undo_21 ?_
    refine g_aload_n C dX6_undo_24 0 rfl rfl ?_
    refine rg_X6_past C dX6_undo_25 ?_
    refine gc_Vi C (k_X1_size  Mz8) wl_324 ok_X1_size rv_X1 rfl ⟨Nat.le_of_ble_eq_true rfl, Nat.le_of_ble_eq_true rfl⟩ ⟨Nat.le_of_ble_eq_true rfl, Nat.le_of_ble_eq_true rfl⟩ rfl (Nat.le_of_ble_eq_true rfl) dX6_undo_28 ?_
    exact g_iret C dX6_undo_31 (som2 hq).1 (congrArg (wC a cI cS) (som2 hq).2)
  · have hq := ip c7 hq
    refine g_bipush C dX6_undo_10 (v := -3) (by decide) ?_
    exact g_iret C dX6_undo_12 (som2 hq).1 (congrArg (wC a cI cS) (som2 hq).2)
set_option maxHeartbeats 4000000 in
set_option maxRecDepth 100000 in
theorem k_X6_wet {l : Launch} {dC : Nat → ClassId} {dI : Nat → Nat → Nat} {a : Nat → Nat} {cI cZ cS : ClassId} (x1 : Int32) (x2 : Int32) (M M2 : MM) (r : Int32) (hq : q_X6_wet x1 x2 M = some (r, M2)) : KQ l (dC, dI) vwCl (tyW cI cZ cS) yX6_wet cX6_wet 3 (some .int) 5 111 [.ref (a 0), .int x1, .int x2] (wC a cI cS M) (qI (dC, dI) vwCl (wC a cI cS M2) r) := by
  refine KQ.of (by decide) (Nat.le_of_ble_eq_true rfl) rfl ?_
  intro p e s m args below meth c A0 C
  unfold q_X6_wet at hq
  refine g_iload_n C dX6_wet_0 1 rfl rfl ?_
  refine gc_Si C (k_X6_isStreet x1 M) wl_374 ok_X6_isStreet ⟨Nat.le_of_ble_eq_true rfl, Nat.le_of_ble_eq_true rfl⟩ ⟨Nat.le_of_ble_eq_true rfl, Nat.le_of_ble_eq_true rfl⟩ rfl (Nat.le_of_ble_eq_true rfl) dX6_wet_1 ?_
  refine g_if_ne C (tgt := 9) dX6_wet_4 (by decide) (fun c11 => ?_) (fun c11 => ?_)
  · have hq := iq c11 hq
    refine g_iload_n C dX6_wet_9 2 rfl rfl ?_
    refine g_if_lt C (tgt := 19) dX6_wet_10 (by decide) (fun c12 => ?_) (fun c12 => ?_)
    · have hq := ip c12 hq
      refine g_bipush C dX6_wet_19 (v := -2) (by decide) ?_
      exact g_iret C dX6_wet_21 (som2 hq).1 (congrArg (wC a cI cS) (som2 hq).2)
    · have hq := iq c12 hq
      refine g_iload_n C dX6_wet_13 2 rfl rfl ?_
      refine g_bipush C dX6_wet_14 (v := 20) (by decide) ?_
      refine g_icmp_le C (tgt := 22) dX6_wet_16 (by decide) (fun c13 => ?_) (fun c13 => ?_)
      · have hq := ip c13 hq
        refine g_aload_n C dX6_wet_22 0 rfl rfl ?_
        refine rg_X6_trial C dX6_wet_23 ?_
        refine g_aload_n C dX6_wet_26 0 rfl rfl ?_
        refine rg_X6_now C dX6_wet_27 ?_
        refine gc_Vv C (k_X3_copy 1 (by decide) 0 (by decide) M) wl_478 ok_X3_copy (rv_X3 1 (by decide)) rfl ⟨Nat.le_of_ble_eq_true rfl, Nat.le_of_ble_eq_true rfl⟩ ⟨Nat.le_of_ble_eq_true rfl, Nat.le_of_ble_eq_true rfl⟩ rfl (Nat.le_of_ble_eq_true rfl) dX6_wet_30 ?_
        refine g_aload_n C dX6_wet_33 0 rfl rfl ?_
        refine rg_X6_trial C dX6_wet_34 ?_
        refine g_iload_n C dX6_wet_37 2 rfl rfl ?_
        obtain ⟨z14, Mz14, h15, hq⟩ := obd_some hq
        refine gc_Vv C (k_X3_passHours 1 (by decide) x2 (mR M (9 + 1) (M.1 (9 + 0))) Mz14 z14 h15) wl_479 ok_X3_passHours (rv_X3 1 (by decide)) rfl ⟨Nat.le_of_ble_eq_true rfl, Nat.le_of_ble_eq_true rfl⟩ ⟨Nat.le_of_ble_eq_true rfl, Nat.le_of_ble_eq_true rfl⟩ rfl (Nat.le_of_ble_eq_true rfl) dX6_wet_38 ?_
        refine g_aload_n C dX6_wet_41 0 rfl rfl ?_
        refine rg_X6_trial C dX6_wet_42 ?_
        refine g_iload_n C dX6_wet_45 1 rfl rfl ?_
        refine gc_Vi C (k_X3_wetnessOf 1 (by decide) x1 Mz14) wl_377 ok_X3_wetnessOf (rv_X3 1 (by decide)) rfl ⟨Nat.le_of_ble_eq_true rfl, Nat.le_of_ble_eq_true rfl⟩ ⟨Nat.le_of_ble_eq_true rfl, Nat.le_of_ble_eq_true rfl⟩ rfl (Nat.le_of_ble_eq_true rfl) dX6_wet_46 ?_
        exact g_iret C dX6_wet_49 (som2 hq).1 (congrArg (wC a cI cS) (som2 hq).2)
      · have hq := iq c13 hq
        refine g_bipush C dX6_wet_19 (v := -2) (by decide) ?_
        exact g_iret C dX6_wet_21 (som2 hq).1 (congrArg (wC a cI cS) (som2 hq).2)
  · have hq := ip c11 hq
    refine g_iconst C dX6_wet_7 (v := -1) (by decide) ?_
    exact g_iret C dX6_wet_8 (som2 hq).1 (congrArg (wC a cI cS) (som2 hq).2)
set_option maxHeartbeats 4000000 in
set_option maxRecDepth 100000 in
theorem k_X6_isChoice {l : Launch} {dC : Nat → ClassId} {dI : Nat → Nat → Nat} {a : Nat → Nat} {cI cZ cS : ClassId} (x0 : Int32) (M : MM) : KQ l (dC, dI) vwCl (tyW cI cZ cS) yX6_isChoice cX6_isChoice 1 (some .boolean) 0 0 [.int x0] (wC a cI cS M) (qI (dC, dI) vwCl (wC a cI cS M) (b2i (t_X6_isChoice x0))) := by
  generalize hq : t_X6_isChoice x0 = r
  refine KQ.of (by decide) (Nat.le_of_ble_eq_true rfl) rfl ?_
  intro p e s m args below meth c A0 C
  have J_9 : ∀ (_ : Unit), t_X6_isChoice_9 x0   = r → gG p l e ({ frames := 0, cells := 0, slots := 0, locals := 0 }) s m args below meth c 1 (dC, dI) vwCl A0 s.heap 0 0 (MQ below ((qI (dC, dI) vwCl (wC a cI cS M) (b2i r)) A0) args s 0 0 A0) (wC a cI cS M) 9 [] [] := by
    intro _ hq
    unfold t_X6_isChoice_9 at hq
    refine g_iconst C dX6_isChoice_9 (v := 1) (by decide) ?_
    refine g_goto C (tgt := 14) dX6_isChoice_10 (by decide) ?_
    exact g_zret C dX6_isChoice_14 (Or.inr rfl) (congrArg b2i hq) rfl
  unfold t_X6_isChoice at hq
  refine g_iload_n C dX6_isChoice_0 0 rfl rfl ?_
  refine g_if_eq C (tgt := 9) dX6_isChoice_1 (by decide) (fun c5 => ?_) (fun c5 => ?_)
  · have hq := ip c5 hq
    exact g_sub [] rfl (J_9 () hq)
  · have hq := iq c5 hq
    refine g_iload_n C dX6_isChoice_4 0 rfl rfl ?_
    refine g_iconst C dX6_isChoice_5 (v := 1) (by decide) ?_
    refine g_icmp_ne C (tgt := 13) dX6_isChoice_6 (by decide) (fun c6 => ?_) (fun c6 => ?_)
    · have hq := iq c6 hq
      refine g_iconst C dX6_isChoice_13 (v := 0) (by decide) ?_
      exact g_zret C dX6_isChoice_14 (Or.inl rfl) (congrArg b2i hq) rfl
    · have hq := ip c6 hq
      exact g_sub [] rfl (J_9 () hq)
set_option maxHeartbeats 4000000 in
set_option maxRecDepth 100000 in
theorem k_X6_needs {l : Launch} {dC : Nat → ClassId} {dI : Nat → Nat → Nat} {a : Nat → Nat} {cI cZ cS : ClassId} (x1 : Int32) (x2 : Int32) (M M2 : MM) (r : Int32) (hq : q_X6_needs x1 x2 M = some (r, M2)) : KQ l (dC, dI) vwCl (tyW cI cZ cS) yX6_needs cX6_needs 3 (some .int) 5 111 [.ref (a 0), .int x1, .int x2] (wC a cI cS M) (qI (dC, dI) vwCl (wC a cI cS M2) r) := by
  refine KQ.of (by decide) (Nat.le_of_ble_eq_true rfl) rfl ?_
  intro p e s m args below meth c A0 C
  have J_52 : ∀ (s1 : Int32) (M : MM), q_X6_needs_52 x1 x2  s1 M = some (r, M2) → gG p l e ({ frames := 5, cells := 0, slots := 0, locals := 111 }) s m args below meth c 3 (dC, dI) vwCl A0 s.heap 0 0 (MQ below ((qI (dC, dI) vwCl (wC a cI cS M2) r) A0) args s 0 0 A0) (wC a cI cS M) 52 [] [.int s1, .ref (a (16 + 5 * 1))] := by
    intro s1 M hq
    unfold q_X6_needs_52 at hq
    obtain ⟨z11, Mz11, h12, hq⟩ := obd_some hq
    refine gc_Vi C (k_X3_needBits 1 (by decide) s1 M Mz11 z11 h12) wl_314 ok_X3_needBits (rv_X3 1 (by decide)) rfl ⟨Nat.le_of_ble_eq_true rfl, Nat.le_of_ble_eq_true rfl⟩ ⟨Nat.le_of_ble_eq_true rfl, Nat.le_of_ble_eq_true rfl⟩ rfl (Nat.le_of_ble_eq_true rfl) dX6_needs_52 ?_
    exact g_iret C dX6_needs_55 (som2 hq).1 (congrArg (wC a cI cS) (som2 hq).2)
  unfold q_X6_needs at hq
  refine g_iload_n C dX6_needs_0 1 rfl rfl ?_
  refine g_if_lt C (tgt := 17) dX6_needs_1 (by decide) (fun c19 => ?_) (fun c19 => ?_)
  · have hq := ip c19 hq
    refine g_bipush C dX6_needs_17 (v := -2) (by decide) ?_
    exact g_iret C dX6_needs_19 (som2 hq).1 (congrArg (wC a cI cS) (som2 hq).2)
  · have hq := iq c19 hq
    refine g_iload_n C dX6_needs_4 1 rfl rfl ?_
    refine g_bipush C dX6_needs_5 (v := 20) (by decide) ?_
    refine g_icmp_gt C (tgt := 17) dX6_needs_7 (by decide) (fun c20 => ?_) (fun c20 => ?_)
    · have hq := ip c20 hq
      refine g_bipush C dX6_needs_17 (v := -2) (by decide) ?_
      exact g_iret C dX6_needs_19 (som2 hq).1 (congrArg (wC a cI cS) (som2 hq).2)
    · have hq := iq c20 hq
      refine g_iload_n C dX6_needs_10 2 rfl rfl ?_
      refine gc_Si C (k_X6_isChoice x2 M) wl_488 ok_X6_isChoice ⟨Nat.le_of_ble_eq_true rfl, Nat.le_of_ble_eq_true rfl⟩ ⟨Nat.le_of_ble_eq_true rfl, Nat.le_of_ble_eq_true rfl⟩ rfl (Nat.le_of_ble_eq_true rfl) dX6_needs_11 ?_
      refine g_if_ne C (tgt := 20) dX6_needs_14 (by decide) (fun c21 => ?_) (fun c21 => ?_)
      · have hq := iq c21 hq
        refine g_aload_n C dX6_needs_20 0 rfl rfl ?_
        refine rg_X6_trial C dX6_needs_21 ?_
        refine g_aload_n C dX6_needs_24 0 rfl rfl ?_
        refine rg_X6_now C dX6_needs_25 ?_
        refine gc_Vv C (k_X3_copy 1 (by decide) 0 (by decide) M) wl_478 ok_X3_copy (rv_X3 1 (by decide)) rfl ⟨Nat.le_of_ble_eq_true rfl, Nat.le_of_ble_eq_true rfl⟩ ⟨Nat.le_of_ble_eq_true rfl, Nat.le_of_ble_eq_true rfl⟩ rfl (Nat.le_of_ble_eq_true rfl) dX6_needs_28 ?_
        refine g_aload_n C dX6_needs_31 0 rfl rfl ?_
        refine rg_X6_trial C dX6_needs_32 ?_
        refine g_iload_n C dX6_needs_35 1 rfl rfl ?_
        obtain ⟨z22, Mz22, h23, hq⟩ := obd_some hq
        refine gc_Vv C (k_X3_passHours 1 (by decide) x1 (mR M (9 + 1) (M.1 (9 + 0))) Mz22 z22 h23) wl_479 ok_X3_passHours (rv_X3 1 (by decide)) rfl ⟨Nat.le_of_ble_eq_true rfl, Nat.le_of_ble_eq_true rfl⟩ ⟨Nat.le_of_ble_eq_true rfl, Nat.le_of_ble_eq_true rfl⟩ rfl (Nat.le_of_ble_eq_true rfl) dX6_needs_36 ?_
        refine g_aload_n C dX6_needs_39 0 rfl rfl ?_
        refine rg_X6_trial C dX6_needs_40 ?_
        refine g_iload_n C dX6_needs_43 2 rfl rfl ?_
        refine g_if_ne C (tgt := 51) dX6_needs_44 (by decide) (fun c24 => ?_) (fun c24 => ?_)
        · have hq := iq c24 hq
          refine g_iconst C dX6_needs_51 (v := 2) (by decide) ?_
          exact g_sub [] rfl (J_52 (2 : Int32) Mz22 hq)
        · have hq := ip c24 hq
          refine g_iconst C dX6_needs_47 (v := 1) (by decide) ?_
          refine g_goto C (tgt := 52) dX6_needs_48 (by decide) ?_
          exact g_sub [] rfl (J_52 (1 : Int32) Mz22 hq)
      · have hq := ip c21 hq
        refine g_bipush C dX6_needs_17 (v := -2) (by decide) ?_
        exact g_iret C dX6_needs_19 (som2 hq).1 (congrArg (wC a cI cS) (som2 hq).2)
set_option maxHeartbeats 4000000 in
set_option maxRecDepth 100000 in
theorem k_X6_dry {l : Launch} {dC : Nat → ClassId} {dI : Nat → Nat → Nat} {a : Nat → Nat} {cI cZ cS : ClassId} (x1 : Int32) (M M2 : MM) (r : Int32) (hq : q_X6_dry x1 M = some (r, M2)) : KQ l (dC, dI) vwCl (tyW cI cZ cS) yX6_dry cX6_dry 3 (some .int) 4 89 [.ref (a 0), .int x1] (wC a cI cS M) (qI (dC, dI) vwCl (wC a cI cS M2) r) := by
  refine KQ.of (by decide) (Nat.le_of_ble_eq_true rfl) rfl ?_
  intro p e s m args below meth c A0 C
  have L_22 : ∀ (f : Nat) (v2 : Int32) (M : MM), q_X6_dry_22 x1  f v2 M = some (r, M2) → gG p l e ({ frames := 4, cells := 0, slots := 0, locals := 89 }) s m args below meth c 3 (dC, dI) vwCl A0 s.heap 0 0 (MQ below ((qI (dC, dI) vwCl (wC a cI cS M2) r) A0) args s 0 0 A0) (wC a cI cS M) 22 [(0, .ref (a 0)), (1, .int x1), (2, .int v2)] [] := by
    intro f
    induction f with
    | zero => intro v2 M hq; cases hq
    | succ f_22 ih_22 =>
      intro v2 M hq
      rw [q_X6_dry_22] at hq
      refine g_iload_n C dX6_dry_22 2 rfl rfl ?_
      refine g_bipush C dX6_dry_23 (v := 20) (by decide) ?_
      refine g_icmp_gt C (tgt := 58) dX6_dry_25 (by decide) (fun c14 => ?_) (fun c14 => ?_)
      · have hq := ip c14 hq
        refine g_bipush C dX6_dry_58 (v := -9) (by decide) ?_
        exact g_iret C dX6_dry_60 (som2 hq).1 (congrArg (wC a cI cS) (som2 hq).2)
      · have hq := iq c14 hq
        refine g_aload_n C dX6_dry_28 0 rfl rfl ?_
        refine rg_X6_trial C dX6_dry_29 ?_
        obtain ⟨z15, Mz15, h16, hq⟩ := obd_some hq
        refine gc_Vi C (k_X3_rainBits 1 (by decide) M Mz15 z15 h16) wl_299 ok_X3_rainBits (rv_X3 1 (by decide)) rfl ⟨Nat.le_of_ble_eq_true rfl, Nat.le_of_ble_eq_true rfl⟩ ⟨Nat.le_of_ble_eq_true rfl, Nat.le_of_ble_eq_true rfl⟩ rfl (Nat.le_of_ble_eq_true rfl) dX6_dry_32 ?_
        refine g_iload_n C dX6_dry_35 1 rfl rfl ?_
        refine gc_Si C (k_X6_has z15 x1 Mz15) wl_495 ok_X6_has ⟨Nat.le_of_ble_eq_true rfl, Nat.le_of_ble_eq_true rfl⟩ ⟨Nat.le_of_ble_eq_true rfl, Nat.le_of_ble_eq_true rfl⟩ rfl (Nat.le_of_ble_eq_true rfl) dX6_dry_36 ?_
        refine g_if_ne C (tgt := 44) dX6_dry_39 (by decide) (fun c17 => ?_) (fun c17 => ?_)
        · have hq := iq c17 hq
          refine g_aload_n C dX6_dry_44 0 rfl rfl ?_
          refine rg_X6_trial C dX6_dry_45 ?_
          obtain ⟨z18, Mz18, h19, hq⟩ := obd_some hq
          refine gc_Vi C (k_X3_passHour 1 (by decide) Mz15 Mz18 z18 h19) wl_452 ok_X3_passHour (rv_X3 1 (by decide)) rfl ⟨Nat.le_of_ble_eq_true rfl, Nat.le_of_ble_eq_true rfl⟩ ⟨Nat.le_of_ble_eq_true rfl, Nat.le_of_ble_eq_true rfl⟩ rfl (Nat.le_of_ble_eq_true rfl) dX6_dry_48 ?_
          refine g_pop C dX6_dry_51 rfl ?_
          refine g_iinc C (v := (v2 + (1 : Int32))) (lv2 := [(2, _), (0, _), (1, _)]) dX6_dry_52 2 rfl rfl (by decide) rfl ?_
          refine g_goto C (tgt := 22) dX6_dry_55 (by decide) ?_
          exact g_sub [1, 2, 0] rfl (ih_22 (v2 + (1 : Int32)) Mz18 hq)
        · have hq := ip c17 hq
          refine g_iload_n C dX6_dry_42 2 rfl rfl ?_
          exact g_iret C dX6_dry_43 (som2 hq).1 (congrArg (wC a cI cS) (som2 hq).2)
  unfold q_X6_dry at hq
  refine g_iload_n C dX6_dry_0 1 rfl rfl ?_
  refine gc_Si C (k_X6_isStreet x1 M) wl_374 ok_X6_isStreet ⟨Nat.le_of_ble_eq_true rfl, Nat.le_of_ble_eq_true rfl⟩ ⟨Nat.le_of_ble_eq_true rfl, Nat.le_of_ble_eq_true rfl⟩ rfl (Nat.le_of_ble_eq_true rfl) dX6_dry_1 ?_
  refine g_if_ne C (tgt := 9) dX6_dry_4 (by decide) (fun c21 => ?_) (fun c21 => ?_)
  · have hq := iq c21 hq
    refine g_aload_n C dX6_dry_9 0 rfl rfl ?_
    refine rg_X6_trial C dX6_dry_10 ?_
    refine g_aload_n C dX6_dry_13 0 rfl rfl ?_
    refine rg_X6_now C dX6_dry_14 ?_
    refine gc_Vv C (k_X3_copy 1 (by decide) 0 (by decide) M) wl_478 ok_X3_copy (rv_X3 1 (by decide)) rfl ⟨Nat.le_of_ble_eq_true rfl, Nat.le_of_ble_eq_true rfl⟩ ⟨Nat.le_of_ble_eq_true rfl, Nat.le_of_ble_eq_true rfl⟩ rfl (Nat.le_of_ble_eq_true rfl) dX6_dry_17 ?_
    refine g_iconst C dX6_dry_20 (v := 0) (by decide) ?_
    refine g_istore_n C (lv2 := [(2, _), (0, _), (1, _)]) dX6_dry_21 rfl (by decide) rfl ?_
    exact g_sub [1, 2, 0] rfl (L_22 FU (0 : Int32) (mR M (9 + 1) (M.1 (9 + 0))) hq)
  · have hq := ip c21 hq
    refine g_iconst C dX6_dry_7 (v := -1) (by decide) ?_
    exact g_iret C dX6_dry_8 (som2 hq).1 (congrArg (wC a cI cS) (som2 hq).2)
set_option maxHeartbeats 4000000 in
set_option maxRecDepth 100000 in
theorem k_X6_keptIfOpened {l : Launch} {dC : Nat → ClassId} {dI : Nat → Nat → Nat} {a : Nat → Nat} {cI cZ cS : ClassId} (x1 : Int32) (M M2 : MM) (r : Int32) (hq : q_X6_keptIfOpened x1 M = some (r, M2)) : KQ l (dC, dI) vwCl (tyW cI cZ cS) yX6_keptIfOpened cX6_keptIfOpened 2 (some .int) 5 111 [.ref (a 0), .int x1] (wC a cI cS M) (qI (dC, dI) vwCl (wC a cI cS M2) r) := by
  refine KQ.of (by decide) (Nat.le_of_ble_eq_true rfl) rfl ?_
  intro p e s m args below meth c A0 C
  unfold q_X6_keptIfOpened at hq
  refine g_aload_n C dX6_keptIfOpened_0 0 rfl rfl ?_
  refine rg_X6_trial C dX6_keptIfOpened_1 ?_
  refine g_aload_n C dX6_keptIfOpened_4 0 rfl rfl ?_
  refine rg_X6_now C dX6_keptIfOpened_5 ?_
  refine gc_Vv C (k_X3_copy 1 (by decide) 0 (by decide) M) wl_478 ok_X3_copy (rv_X3 1 (by decide)) rfl ⟨Nat.le_of_ble_eq_true rfl, Nat.le_of_ble_eq_true rfl⟩ ⟨Nat.le_of_ble_eq_true rfl, Nat.le_of_ble_eq_true rfl⟩ rfl (Nat.le_of_ble_eq_true rfl) dX6_keptIfOpened_8 ?_
  refine g_aload_n C dX6_keptIfOpened_11 0 rfl rfl ?_
  refine rg_X6_trial C dX6_keptIfOpened_12 ?_
  refine g_iload_n C dX6_keptIfOpened_15 1 rfl rfl ?_
  obtain ⟨z13, Mz13, h14, hq⟩ := obd_some hq
  refine gc_Vv C (k_X3_raiseAll 1 (by decide) x1 (mR M (9 + 1) (M.1 (9 + 0))) Mz13 z13 h14) wl_504 ok_X3_raiseAll (rv_X3 1 (by decide)) rfl ⟨Nat.le_of_ble_eq_true rfl, Nat.le_of_ble_eq_true rfl⟩ ⟨Nat.le_of_ble_eq_true rfl, Nat.le_of_ble_eq_true rfl⟩ rfl (Nat.le_of_ble_eq_true rfl) dX6_keptIfOpened_16 ?_
  refine g_aload_n C dX6_keptIfOpened_19 0 rfl rfl ?_
  refine rg_X6_trial C dX6_keptIfOpened_20 ?_
  refine g_bipush C dX6_keptIfOpened_23 (v := 9) (by decide) ?_
  obtain ⟨z15, Mz15, h16, hq⟩ := obd_some hq
  refine gc_Vv C (k_X3_passHours 1 (by decide) (9 : Int32) Mz13 Mz15 z15 h16) wl_479 ok_X3_passHours (rv_X3 1 (by decide)) rfl ⟨Nat.le_of_ble_eq_true rfl, Nat.le_of_ble_eq_true rfl⟩ ⟨Nat.le_of_ble_eq_true rfl, Nat.le_of_ble_eq_true rfl⟩ rfl (Nat.le_of_ble_eq_true rfl) dX6_keptIfOpened_25 ?_
  refine g_aload_n C dX6_keptIfOpened_28 0 rfl rfl ?_
  refine rg_X6_trial C dX6_keptIfOpened_29 ?_
  obtain ⟨z17, Mz17, h18, hq⟩ := obd_some hq
  refine gc_Vi C (k_X3_keptCount 1 (by decide) Mz15 Mz17 z17 h18) wl_509 ok_X3_keptCount (rv_X3 1 (by decide)) rfl ⟨Nat.le_of_ble_eq_true rfl, Nat.le_of_ble_eq_true rfl⟩ ⟨Nat.le_of_ble_eq_true rfl, Nat.le_of_ble_eq_true rfl⟩ rfl (Nat.le_of_ble_eq_true rfl) dX6_keptIfOpened_32 ?_
  exact g_iret C dX6_keptIfOpened_35 (som2 hq).1 (congrArg (wC a cI cS) (som2 hq).2)
set_option maxHeartbeats 4000000 in
set_option maxRecDepth 100000 in
theorem k_X6_isWithin {l : Launch} {dC : Nat → ClassId} {dI : Nat → Nat → Nat} {a : Nat → Nat} {cI cZ cS : ClassId} (x0 : Int32) (x1 : Int32) (M : MM) : KQ l (dC, dI) vwCl (tyW cI cZ cS) yX6_isWithin cX6_isWithin 2 (some .boolean) 0 0 [.int x0, .int x1] (wC a cI cS M) (qI (dC, dI) vwCl (wC a cI cS M) (b2i (t_X6_isWithin x0 x1))) := by
  generalize hq : t_X6_isWithin x0 x1 = r
  refine KQ.of (by decide) (Nat.le_of_ble_eq_true rfl) rfl ?_
  intro p e s m args below meth c A0 C
  unfold t_X6_isWithin at hq
  refine g_iload_n C dX6_isWithin_0 0 rfl rfl ?_
  refine g_iload_n C dX6_isWithin_1 1 rfl rfl ?_
  refine g_iconst C dX6_isWithin_2 (v := -1) (by decide) ?_
  refine g_ixor C dX6_isWithin_3 ?_
  refine g_iand C dX6_isWithin_4 ?_
  refine g_if_ne C (tgt := 12) dX6_isWithin_5 (by decide) (fun c3 => ?_) (fun c3 => ?_)
  · have hq := iq c3 hq
    refine g_iconst C dX6_isWithin_12 (v := 0) (by decide) ?_
    exact g_zret C dX6_isWithin_13 (Or.inl rfl) (congrArg b2i hq) rfl
  · have hq := ip c3 hq
    refine g_iconst C dX6_isWithin_8 (v := 1) (by decide) ?_
    refine g_goto C (tgt := 13) dX6_isWithin_9 (by decide) ?_
    exact g_zret C dX6_isWithin_13 (Or.inr rfl) (congrArg b2i hq) rfl
set_option maxHeartbeats 4000000 in
set_option maxRecDepth 100000 in
theorem k_X6_asked {l : Launch} {dC : Nat → ClassId} {dI : Nat → Nat → Nat} {a : Nat → Nat} {cI cZ cS : ClassId} (x1 : Int32) (M M2 : MM) (r : Int32) (hq : q_X6_asked x1 M = some (r, M2)) : KQ l (dC, dI) vwCl (tyW cI cZ cS) yX6_asked cX6_asked 7 (some .int) 6 132 [.ref (a 0), .int x1] (wC a cI cS M) (qI (dC, dI) vwCl (wC a cI cS M2) r) := by
  refine KQ.of (by decide) (Nat.le_of_ble_eq_true rfl) rfl ?_
  intro p e s m args below meth c A0 C
  have L_21 : ∀ (f : Nat) (v2 : Int32) (v3 : Int32) (v4 : Int32) (M : MM), q_X6_asked_21 x1  f v2 v3 v4 M = some (r, M2) → gG p l e ({ frames := 6, cells := 0, slots := 0, locals := 132 }) s m args below meth c 7 (dC, dI) vwCl A0 s.heap 0 0 (MQ below ((qI (dC, dI) vwCl (wC a cI cS M2) r) A0) args s 0 0 A0) (wC a cI cS M) 21 [(0, .ref (a 0)), (1, .int x1), (2, .int v2), (3, .int v3), (4, .int v4)] [] := by
    intro f
    induction f with
    | zero => intro v2 v3 v4 M hq; cases hq
    | succ f_21 ih_21 =>
      have J_93 : ∀ (v2 : Int32) (v3 : Int32) (v4 : Int32) (M : MM), q_X6_asked_93 x1 (q_X6_asked_21 x1  f_21) v2 v3 v4 M = some (r, M2) → gG p l e ({ frames := 6, cells := 0, slots := 0, locals := 132 }) s m args below meth c 7 (dC, dI) vwCl A0 s.heap 0 0 (MQ below ((qI (dC, dI) vwCl (wC a cI cS M2) r) A0) args s 0 0 A0) (wC a cI cS M) 93 [(0, .ref (a 0)), (1, .int x1), (2, .int v2), (3, .int v3), (4, .int v4)] [] := by
        intro v2 v3 v4 M hq
        unfold q_X6_asked_93 at hq
        refine g_iinc C (v := (v4 + (1 : Int32))) (lv2 := [(4, _), (0, _), (1, _), (2, _), (3, _)]) dX6_asked_93 4 rfl rfl (by decide) rfl ?_
        refine g_goto C (tgt := 21) dX6_asked_96 (by decide) ?_
        exact g_sub [1, 2, 3, 4, 0] rfl (ih_21 v2 v3 (v4 + (1 : Int32)) M hq)
      have J_87 : ∀ (v4 : Int32) (v5 : Int32) (M : MM), q_X6_asked_87 x1 (q_X6_asked_21 x1  f_21) v4 v5 M = some (r, M2) → gG p l e ({ frames := 6, cells := 0, slots := 0, locals := 132 }) s m args below meth c 7 (dC, dI) vwCl A0 s.heap 0 0 (MQ below ((qI (dC, dI) vwCl (wC a cI cS M2) r) A0) args s 0 0 A0) (wC a cI cS M) 87 [(0, .ref (a 0)), (1, .int x1), (4, .int v4), (5, .int v5)] [] := by
        intro v4 v5 M hq
        unfold q_X6_asked_87 at hq
        refine g_iload C dX6_asked_87 2 rfl ?_
        refine g_istore_n C (lv2 := [(2, _), (0, _), (1, _), (4, _), (5, _)]) dX6_asked_89 rfl (by decide) rfl ?_
        refine g_iload C dX6_asked_90 4 rfl ?_
        refine g_istore_n C (lv2 := [(3, _), (2, _), (0, _), (1, _), (4, _), (5, _)]) dX6_asked_92 rfl (by decide) rfl ?_
        exact g_sub [2, 3, 1, 0, 4] rfl (J_93 v4 v5 v4 M hq)
      have J_68 : ∀ (v2 : Int32) (v3 : Int32) (v4 : Int32) (v5 : Int32) (s0 : Int32) (M : MM), q_X6_asked_68 x1 (q_X6_asked_21 x1  f_21) v2 v3 v4 v5 s0 M = some (r, M2) → gG p l e ({ frames := 6, cells := 0, slots := 0, locals := 132 }) s m args below meth c 7 (dC, dI) vwCl A0 s.heap 0 0 (MQ below ((qI (dC, dI) vwCl (wC a cI cS M2) r) A0) args s 0 0 A0) (wC a cI cS M) 68 [(0, .ref (a 0)), (1, .int x1), (2, .int v2), (3, .int v3), (4, .int v4), (5, .int v5)] [.int s0] := by
        intro v2 v3 v4 v5 s0 M hq
        unfold q_X6_asked_68 at hq
        refine g_istore C (lv2 := [(6, _), (0, _), (1, _), (2, _), (3, _), (4, _), (5, _)]) dX6_asked_68 (by decide) rfl ?_
        refine g_iload C dX6_asked_70 6 rfl ?_
        refine g_iload_n C dX6_asked_72 4 rfl rfl ?_
        refine g_icmp_gt C (tgt := 87) dX6_asked_73 (by decide) (fun c16 => ?_) (fun c16 => ?_)
        · have hq := ip c16 hq
          exact g_sub [1, 2, 5, 6] rfl (J_87 v4 v5 M hq)
        · have hq := iq c16 hq
          refine g_iload C dX6_asked_76 6 rfl ?_
          refine g_iload_n C dX6_asked_78 4 rfl rfl ?_
          refine g_icmp_ne C (tgt := 93) dX6_asked_79 (by decide) (fun c17 => ?_) (fun c17 => ?_)
          · have hq := iq c17 hq
            exact g_sub [1, 2, 3, 4, 5] rfl (J_93 v2 v3 v4 M hq)
          · have hq := ip c17 hq
            refine g_iload C dX6_asked_82 0 rfl ?_
            refine g_if_eq C (tgt := 93) dX6_asked_84 (by decide) (fun c18 => ?_) (fun c18 => ?_)
            · have hq := ip c18 hq
              exact g_sub [1, 2, 3, 4, 5] rfl (J_93 v2 v3 v4 M hq)
            · have hq := iq c18 hq
              exact g_sub [1, 2, 5, 6] rfl (J_87 v4 v5 M hq)
      intro v2 v3 v4 M hq
      rw [q_X6_asked_21] at hq
      refine g_iload C dX6_asked_21 4 rfl ?_
      refine g_bipush C dX6_asked_23 (v := 32) (by decide) ?_
      refine g_icmp_ge C (tgt := 99) dX6_asked_25 (by decide) (fun c25 => ?_) (fun c25 => ?_)
      · have hq := ip c25 hq
        refine g_iload_n C dX6_asked_99 1 rfl rfl ?_
        refine g_if_ne C (tgt := 107) dX6_asked_100 (by decide) (fun c26 => ?_) (fun c26 => ?_)
        · have hq := iq c26 hq
          refine g_iload_n C dX6_asked_107 3 rfl rfl ?_
          exact g_iret C dX6_asked_108 (som2 hq).1 (congrArg (wC a cI cS) (som2 hq).2)
        · have hq := ip c26 hq
          refine g_iload_n C dX6_asked_103 2 rfl rfl ?_
          refine g_goto C (tgt := 108) dX6_asked_104 (by decide) ?_
          exact g_iret C dX6_asked_108 (som2 hq).1 (congrArg (wC a cI cS) (som2 hq).2)
      · have hq := iq c25 hq
        refine g_iload C dX6_asked_28 4 rfl ?_
        refine g_aload_n C dX6_asked_30 0 rfl rfl ?_
        refine rg_X6_now C dX6_asked_31 ?_
        refine gc_Vi C (k_X3_shutBits 0 (by decide) M) wl_520 ok_X3_shutBits (rv_X3 0 (by decide)) rfl ⟨Nat.le_of_ble_eq_true rfl, Nat.le_of_ble_eq_true rfl⟩ ⟨Nat.le_of_ble_eq_true rfl, Nat.le_of_ble_eq_true rfl⟩ rfl (Nat.le_of_ble_eq_true rfl) dX6_asked_34 ?_
        refine gc_Si C (k_X6_isWithin v4 (t_X3_shutBits 0 M) M) wl_525 ok_X6_isWithin ⟨Nat.le_of_ble_eq_true rfl, Nat.le_of_ble_eq_true rfl⟩ ⟨Nat.le_of_ble_eq_true rfl, Nat.le_of_ble_eq_true rfl⟩ rfl (Nat.le_of_ble_eq_true rfl) dX6_asked_37 ?_
        refine g_if_eq C (tgt := 93) dX6_asked_40 (by decide) (fun c27 => ?_) (fun c27 => ?_)
        · have hq := ip c27 hq
          exact g_sub [0, 1, 2, 3, 4] rfl (J_93 v2 v3 v4 M hq)
        · have hq := iq c27 hq
          refine g_aload_n C dX6_asked_43 0 rfl rfl ?_
          refine g_iload C dX6_asked_44 4 rfl ?_
          obtain ⟨z28, Mz28, h29, hq⟩ := obd_some hq
          refine gc_Vi C (k_X6_keptIfOpened v4 M Mz28 z28 h29) wl_500 ok_X6_keptIfOpened rv_X6 rfl ⟨Nat.le_of_ble_eq_true rfl, Nat.le_of_ble_eq_true rfl⟩ ⟨Nat.le_of_ble_eq_true rfl, Nat.le_of_ble_eq_true rfl⟩ rfl (Nat.le_of_ble_eq_true rfl) dX6_asked_46 ?_
          refine g_istore C (lv2 := [(5, _), (0, _), (1, _), (2, _), (3, _), (4, _)]) dX6_asked_49 (by decide) rfl ?_
          refine g_iload C dX6_asked_51 5 rfl ?_
          refine gc_Si C (k_J6_bitCount_0f7a4 v4 Mz28) wl_528 ok_J6_bitCount_0f7a4 ⟨Nat.le_of_ble_eq_true rfl, Nat.le_of_ble_eq_true rfl⟩ ⟨Nat.le_of_ble_eq_true rfl, Nat.le_of_ble_eq_true rfl⟩ rfl (Nat.le_of_ble_eq_true rfl) dX6_asked_53 ?_
          refine g_iload_n C dX6_asked_56 3 rfl rfl ?_
          refine gc_Si C (k_J6_bitCount_0f7a4 v2 Mz28) wl_528 ok_J6_bitCount_0f7a4 ⟨Nat.le_of_ble_eq_true rfl, Nat.le_of_ble_eq_true rfl⟩ ⟨Nat.le_of_ble_eq_true rfl, Nat.le_of_ble_eq_true rfl⟩ rfl (Nat.le_of_ble_eq_true rfl) dX6_asked_57 ?_
          refine g_icmp_ge C (tgt := 67) dX6_asked_60 (by decide) (fun c30 => ?_) (fun c30 => ?_)
          · have hq := ip c30 hq
            refine g_iconst C dX6_asked_67 (v := 0) (by decide) ?_
            exact g_sub [1, 2, 3, 4, 5, 0] rfl (J_68 v2 v3 v4 z28 (0 : Int32) Mz28 hq)
          · have hq := iq c30 hq
            refine g_iconst C dX6_asked_63 (v := 1) (by decide) ?_
            refine g_goto C (tgt := 68) dX6_asked_64 (by decide) ?_
            exact g_sub [1, 2, 3, 4, 5, 0] rfl (J_68 v2 v3 v4 z28 (1 : Int32) Mz28 hq)
  unfold q_X6_asked at hq
  refine g_iload_n C dX6_asked_0 1 rfl rfl ?_
  refine gc_Si C (k_X6_isChoice x1 M) wl_488 ok_X6_isChoice ⟨Nat.le_of_ble_eq_true rfl, Nat.le_of_ble_eq_true rfl⟩ ⟨Nat.le_of_ble_eq_true rfl, Nat.le_of_ble_eq_true rfl⟩ rfl (Nat.le_of_ble_eq_true rfl) dX6_asked_1 ?_
  refine g_if_ne C (tgt := 10) dX6_asked_4 (by decide) (fun c34 => ?_) (fun c34 => ?_)
  · have hq := iq c34 hq
    refine g_iconst C dX6_asked_10 (v := 0) (by decide) ?_
    refine g_istore_n C (lv2 := [(2, _), (0, _), (1, _)]) dX6_asked_11 rfl (by decide) rfl ?_
    refine g_aload_n C dX6_asked_12 1 rfl rfl ?_
    refine g_iload_n C dX6_asked_13 0 rfl rfl ?_
    obtain ⟨z35, Mz35, h36, hq⟩ := obd_some hq
    refine gc_Vi C (k_X6_keptIfOpened (0 : Int32) M Mz35 z35 h36) wl_500 ok_X6_keptIfOpened rv_X6 rfl ⟨Nat.le_of_ble_eq_true rfl, Nat.le_of_ble_eq_true rfl⟩ ⟨Nat.le_of_ble_eq_true rfl, Nat.le_of_ble_eq_true rfl⟩ rfl (Nat.le_of_ble_eq_true rfl) dX6_asked_14 ?_
    refine g_istore_n C (lv2 := [(3, _), (2, _), (0, _), (1, _)]) dX6_asked_17 rfl (by decide) rfl ?_
    refine g_iconst C dX6_asked_18 (v := 1) (by decide) ?_
    refine g_istore C (lv2 := [(4, _), (3, _), (2, _), (0, _), (1, _)]) dX6_asked_19 (by decide) rfl ?_
    exact g_sub [3, 4, 2, 1, 0] rfl (L_21 FU (0 : Int32) z35 (1 : Int32) Mz35 hq)
  · have hq := ip c34 hq
    refine g_bipush C dX6_asked_7 (v := -2) (by decide) ?_
    exact g_iret C dX6_asked_9 (som2 hq).1 (congrArg (wC a cI cS) (som2 hq).2)
set_option maxHeartbeats 4000000 in
set_option maxRecDepth 100000 in
theorem k_X6_keptIfSent {l : Launch} {dC : Nat → ClassId} {dI : Nat → Nat → Nat} {a : Nat → Nat} {cI cZ cS : ClassId} (x1 : Int32) (x2 : Int32) (M M2 : MM) (r : Int32) (hq : q_X6_keptIfSent x1 x2 M = some (r, M2)) : KQ l (dC, dI) vwCl (tyW cI cZ cS) yX6_keptIfSent cX6_keptIfSent 3 (some .int) 5 111 [.ref (a 0), .int x1, .int x2] (wC a cI cS M) (qI (dC, dI) vwCl (wC a cI cS M2) r) := by
  refine KQ.of (by decide) (Nat.le_of_ble_eq_true rfl) rfl ?_
  intro p e s m args below meth c A0 C
  unfold q_X6_keptIfSent at hq
  refine g_aload_n C dX6_keptIfSent_0 0 rfl rfl ?_
  refine rg_X6_trial C dX6_keptIfSent_1 ?_
  refine g_aload_n C dX6_keptIfSent_4 0 rfl rfl ?_
  refine rg_X6_now C dX6_keptIfSent_5 ?_
  refine gc_Vv C (k_X3_copy 1 (by decide) 0 (by decide) M) wl_478 ok_X3_copy (rv_X3 1 (by decide)) rfl ⟨Nat.le_of_ble_eq_true rfl, Nat.le_of_ble_eq_true rfl⟩ ⟨Nat.le_of_ble_eq_true rfl, Nat.le_of_ble_eq_true rfl⟩ rfl (Nat.le_of_ble_eq_true rfl) dX6_keptIfSent_8 ?_
  refine g_aload_n C dX6_keptIfSent_11 0 rfl rfl ?_
  refine rg_X6_trial C dX6_keptIfSent_12 ?_
  refine g_iload_n C dX6_keptIfSent_15 1 rfl rfl ?_
  refine g_iload_n C dX6_keptIfSent_16 2 rfl rfl ?_
  obtain ⟨z17, Mz17, h18, hq⟩ := obd_some hq
  refine gc_Vv C (k_X3_place 1 (by decide) x1 x2 (mR M (9 + 1) (M.1 (9 + 0))) Mz17 z17 h18) wl_537 ok_X3_place (rv_X3 1 (by decide)) rfl ⟨Nat.le_of_ble_eq_true rfl, Nat.le_of_ble_eq_true rfl⟩ ⟨Nat.le_of_ble_eq_true rfl, Nat.le_of_ble_eq_true rfl⟩ rfl (Nat.le_of_ble_eq_true rfl) dX6_keptIfSent_17 ?_
  refine g_aload_n C dX6_keptIfSent_20 0 rfl rfl ?_
  refine rg_X6_trial C dX6_keptIfSent_21 ?_
  refine g_iload_n C dX6_keptIfSent_24 1 rfl rfl ?_
  obtain ⟨z19, Mz19, h20, hq⟩ := obd_some hq
  refine gc_Vi C (k_X3_raise 1 (by decide) x1 Mz17 Mz19 z19 h20) wl_407 ok_X3_raise (rv_X3 1 (by decide)) rfl ⟨Nat.le_of_ble_eq_true rfl, Nat.le_of_ble_eq_true rfl⟩ ⟨Nat.le_of_ble_eq_true rfl, Nat.le_of_ble_eq_true rfl⟩ rfl (Nat.le_of_ble_eq_true rfl) dX6_keptIfSent_25 ?_
  refine g_pop C dX6_keptIfSent_28 rfl ?_
  refine g_aload_n C dX6_keptIfSent_29 0 rfl rfl ?_
  refine rg_X6_trial C dX6_keptIfSent_30 ?_
  refine g_bipush C dX6_keptIfSent_33 (v := 9) (by decide) ?_
  obtain ⟨z21, Mz21, h22, hq⟩ := obd_some hq
  refine gc_Vv C (k_X3_passHours 1 (by decide) (9 : Int32) Mz19 Mz21 z21 h22) wl_479 ok_X3_passHours (rv_X3 1 (by decide)) rfl ⟨Nat.le_of_ble_eq_true rfl, Nat.le_of_ble_eq_true rfl⟩ ⟨Nat.le_of_ble_eq_true rfl, Nat.le_of_ble_eq_true rfl⟩ rfl (Nat.le_of_ble_eq_true rfl) dX6_keptIfSent_35 ?_
  refine g_aload_n C dX6_keptIfSent_38 0 rfl rfl ?_
  refine rg_X6_trial C dX6_keptIfSent_39 ?_
  obtain ⟨z23, Mz23, h24, hq⟩ := obd_some hq
  refine gc_Vi C (k_X3_keptCount 1 (by decide) Mz21 Mz23 z23 h24) wl_509 ok_X3_keptCount (rv_X3 1 (by decide)) rfl ⟨Nat.le_of_ble_eq_true rfl, Nat.le_of_ble_eq_true rfl⟩ ⟨Nat.le_of_ble_eq_true rfl, Nat.le_of_ble_eq_true rfl⟩ rfl (Nat.le_of_ble_eq_true rfl) dX6_keptIfSent_42 ?_
  exact g_iret C dX6_keptIfSent_45 (som2 hq).1 (congrArg (wC a cI cS) (som2 hq).2)
set_option maxHeartbeats 4000000 in
set_option maxRecDepth 100000 in
theorem k_X6_sent {l : Launch} {dC : Nat → ClassId} {dI : Nat → Nat → Nat} {a : Nat → Nat} {cI cZ cS : ClassId} (x1 : Int32) (x2 : Int32) (M M2 : MM) (r : Int32) (hq : q_X6_sent x1 x2 M = some (r, M2)) : KQ l (dC, dI) vwCl (tyW cI cZ cS) yX6_sent cX6_sent 7 (some .int) 6 133 [.ref (a 0), .int x1, .int x2] (wC a cI cS M) (qI (dC, dI) vwCl (wC a cI cS M2) r) := by
  refine KQ.of (by decide) (Nat.le_of_ble_eq_true rfl) rfl ?_
  intro p e s m args below meth c A0 C
  have L_50 : ∀ (f : Nat) (v3 : Int32) (v4 : Int32) (v5 : Int32) (M : MM), q_X6_sent_50 x1 x2  f v3 v4 v5 M = some (r, M2) → gG p l e ({ frames := 6, cells := 0, slots := 0, locals := 133 }) s m args below meth c 7 (dC, dI) vwCl A0 s.heap 0 0 (MQ below ((qI (dC, dI) vwCl (wC a cI cS M2) r) A0) args s 0 0 A0) (wC a cI cS M) 50 [(0, .ref (a 0)), (1, .int x1), (2, .int x2), (3, .int v3), (4, .int v4), (5, .int v5)] [] := by
    intro f
    induction f with
    | zero => intro v3 v4 v5 M hq; cases hq
    | succ f_50 ih_50 =>
      have J_80 : ∀ (v3 : Int32) (v4 : Int32) (v5 : Int32) (M : MM), q_X6_sent_80 x1 x2 (q_X6_sent_50 x1 x2  f_50) v3 v4 v5 M = some (r, M2) → gG p l e ({ frames := 6, cells := 0, slots := 0, locals := 133 }) s m args below meth c 7 (dC, dI) vwCl A0 s.heap 0 0 (MQ below ((qI (dC, dI) vwCl (wC a cI cS M2) r) A0) args s 0 0 A0) (wC a cI cS M) 80 [(0, .ref (a 0)), (1, .int x1), (2, .int x2), (3, .int v3), (4, .int v4), (5, .int v5)] [] := by
        intro v3 v4 v5 M hq
        unfold q_X6_sent_80 at hq
        refine g_iinc C (v := (v5 + (1 : Int32))) (lv2 := [(5, _), (0, _), (1, _), (2, _), (3, _), (4, _)]) dX6_sent_80 5 rfl rfl (by decide) rfl ?_
        refine g_goto C (tgt := 50) dX6_sent_83 (by decide) ?_
        exact g_sub [1, 2, 3, 4, 5, 0] rfl (ih_50 v3 v4 (v5 + (1 : Int32)) M hq)
      intro v3 v4 v5 M hq
      rw [q_X6_sent_50] at hq
      refine g_iload C dX6_sent_50 5 rfl ?_
      refine g_bipush C dX6_sent_52 (v := 6) (by decide) ?_
      refine g_icmp_ge C (tgt := 86) dX6_sent_54 (by decide) (fun c16 => ?_) (fun c16 => ?_)
      · have hq := ip c16 hq
        refine g_iload_n C dX6_sent_86 2 rfl rfl ?_
        refine g_if_ne C (tgt := 94) dX6_sent_87 (by decide) (fun c17 => ?_) (fun c17 => ?_)
        · have hq := iq c17 hq
          refine g_iload C dX6_sent_94 4 rfl ?_
          exact g_iret C dX6_sent_96 (som2 hq).1 (congrArg (wC a cI cS) (som2 hq).2)
        · have hq := ip c17 hq
          refine g_iload_n C dX6_sent_90 3 rfl rfl ?_
          refine g_goto C (tgt := 96) dX6_sent_91 (by decide) ?_
          exact g_iret C dX6_sent_96 (som2 hq).1 (congrArg (wC a cI cS) (som2 hq).2)
      · have hq := iq c16 hq
        refine g_aload_n C dX6_sent_57 0 rfl rfl ?_
        refine g_iload_n C dX6_sent_58 1 rfl rfl ?_
        refine g_iload C dX6_sent_59 5 rfl ?_
        obtain ⟨z18, Mz18, h19, hq⟩ := obd_some hq
        refine gc_Vi C (k_X6_keptIfSent x1 v5 M Mz18 z18 h19) wl_533 ok_X6_keptIfSent rv_X6 rfl ⟨Nat.le_of_ble_eq_true rfl, Nat.le_of_ble_eq_true rfl⟩ ⟨Nat.le_of_ble_eq_true rfl, Nat.le_of_ble_eq_true rfl⟩ rfl (Nat.le_of_ble_eq_true rfl) dX6_sent_61 ?_
        refine g_istore C (lv2 := [(6, _), (0, _), (1, _), (2, _), (3, _), (4, _), (5, _)]) dX6_sent_64 (by decide) rfl ?_
        refine g_iload C dX6_sent_66 0 rfl ?_
        refine g_iload C dX6_sent_68 5 rfl ?_
        refine g_icmp_le C (tgt := 80) dX6_sent_70 (by decide) (fun c20 => ?_) (fun c20 => ?_)
        · have hq := ip c20 hq
          exact g_sub [1, 2, 3, 4, 5, 6] rfl (J_80 v3 v4 v5 Mz18 hq)
        · have hq := iq c20 hq
          refine g_iload C dX6_sent_73 6 rfl ?_
          refine g_istore_n C (lv2 := [(3, _), (6, _), (0, _), (1, _), (2, _), (4, _), (5, _)]) dX6_sent_75 rfl (by decide) rfl ?_
          refine g_iload C dX6_sent_76 1 rfl ?_
          refine g_istore C (lv2 := [(4, _), (3, _), (6, _), (0, _), (1, _), (2, _), (5, _)]) dX6_sent_78 (by decide) rfl ?_
          exact g_sub [3, 4, 5, 1, 0, 6] rfl (J_80 v5 z18 v5 Mz18 hq)
  unfold q_X6_sent at hq
  refine g_aload_n C dX6_sent_0 0 rfl rfl ?_
  refine rg_X6_plan C dX6_sent_1 ?_
  refine g_iload_n C dX6_sent_4 1 rfl rfl ?_
  refine gc_Vi C (k_X2_hasWalker x1 M) wl_336 ok_X2_hasWalker rv_X2 rfl ⟨Nat.le_of_ble_eq_true rfl, Nat.le_of_ble_eq_true rfl⟩ ⟨Nat.le_of_ble_eq_true rfl, Nat.le_of_ble_eq_true rfl⟩ rfl (Nat.le_of_ble_eq_true rfl) dX6_sent_5 ?_
  refine g_if_ne C (tgt := 13) dX6_sent_8 (by decide) (fun c26 => ?_) (fun c26 => ?_)
  · have hq := iq c26 hq
    refine g_iload_n C dX6_sent_13 2 rfl rfl ?_
    refine gc_Si C (k_X6_isChoice x2 M) wl_488 ok_X6_isChoice ⟨Nat.le_of_ble_eq_true rfl, Nat.le_of_ble_eq_true rfl⟩ ⟨Nat.le_of_ble_eq_true rfl, Nat.le_of_ble_eq_true rfl⟩ rfl (Nat.le_of_ble_eq_true rfl) dX6_sent_14 ?_
    refine g_if_ne C (tgt := 23) dX6_sent_17 (by decide) (fun c27 => ?_) (fun c27 => ?_)
    · have hq := iq c27 hq
      refine g_aload_n C dX6_sent_23 0 rfl rfl ?_
      refine rg_X6_now C dX6_sent_24 ?_
      refine g_iload_n C dX6_sent_27 1 rfl rfl ?_
      refine gc_Vi C (k_X3_isOpen 0 (by decide) x1 M) wl_345 ok_X3_isOpen (rv_X3 0 (by decide)) rfl ⟨Nat.le_of_ble_eq_true rfl, Nat.le_of_ble_eq_true rfl⟩ ⟨Nat.le_of_ble_eq_true rfl, Nat.le_of_ble_eq_true rfl⟩ rfl (Nat.le_of_ble_eq_true rfl) dX6_sent_28 ?_
      refine g_if_eq C (tgt := 37) dX6_sent_31 (by decide) (fun c28 => ?_) (fun c28 => ?_)
      · have hq := ip c28 hq
        refine g_iconst C dX6_sent_37 (v := 0) (by decide) ?_
        refine g_istore_n C (lv2 := [(3, _), (0, _), (1, _), (2, _)]) dX6_sent_38 rfl (by decide) rfl ?_
        refine g_aload_n C dX6_sent_39 1 rfl rfl ?_
        refine g_iload_n C dX6_sent_40 2 rfl rfl ?_
        refine g_iload_n C dX6_sent_41 0 rfl rfl ?_
        obtain ⟨z29, Mz29, h30, hq⟩ := obd_some hq
        refine gc_Vi C (k_X6_keptIfSent x1 (0 : Int32) M Mz29 z29 h30) wl_533 ok_X6_keptIfSent rv_X6 rfl ⟨Nat.le_of_ble_eq_true rfl, Nat.le_of_ble_eq_true rfl⟩ ⟨Nat.le_of_ble_eq_true rfl, Nat.le_of_ble_eq_true rfl⟩ rfl (Nat.le_of_ble_eq_true rfl) dX6_sent_42 ?_
        refine g_istore C (lv2 := [(4, _), (3, _), (0, _), (1, _), (2, _)]) dX6_sent_45 (by decide) rfl ?_
        refine g_iconst C dX6_sent_47 (v := 1) (by decide) ?_
        refine g_istore C (lv2 := [(5, _), (4, _), (3, _), (0, _), (1, _), (2, _)]) dX6_sent_48 (by decide) rfl ?_
        exact g_sub [3, 4, 5, 2, 1, 0] rfl (L_50 FU (0 : Int32) z29 (1 : Int32) Mz29 hq)
      · have hq := iq c28 hq
        refine g_bipush C dX6_sent_34 (v := -3) (by decide) ?_
        exact g_iret C dX6_sent_36 (som2 hq).1 (congrArg (wC a cI cS) (som2 hq).2)
    · have hq := ip c27 hq
      refine g_bipush C dX6_sent_20 (v := -2) (by decide) ?_
      exact g_iret C dX6_sent_22 (som2 hq).1 (congrArg (wC a cI cS) (som2 hq).2)
  · have hq := ip c26 hq
    refine g_iconst C dX6_sent_11 (v := -1) (by decide) ?_
    exact g_iret C dX6_sent_12 (som2 hq).1 (congrArg (wC a cI cS) (som2 hq).2)
set_option maxHeartbeats 4000000 in
set_option maxRecDepth 100000 in
theorem k_X6_withoutLast {l : Launch} {dC : Nat → ClassId} {dI : Nat → Nat → Nat} {a : Nat → Nat} {cI cZ cS : ClassId} (x0 : Int64) (x2 : Int32) (M M2 : MM) (r : Int64) (hq : q_X6_withoutLast x0 x2 M = some (r, M2)) : KQ l (dC, dI) vwCl (tyW cI cZ cS) yX6_withoutLast cX6_withoutLast 6 (some .long) 0 0 [.long x0, .int x2] (wC a cI cS M) (qL (dC, dI) vwCl (wC a cI cS M2) r) := by
  refine KQ.of (by decide) (Nat.le_of_ble_eq_true rfl) rfl ?_
  intro p e s m args below meth c A0 C
  have L_5 : ∀ (f : Nat) (v3 : Int64) (v5 : Int32) (M : MM), q_X6_withoutLast_5 x0 x2  f v3 v5 M = some (r, M2) → gG p l e ({ frames := 0, cells := 0, slots := 0, locals := 0 }) s m args below meth c 6 (dC, dI) vwCl A0 s.heap 0 0 (MQ below ((qL (dC, dI) vwCl (wC a cI cS M2) r) A0) args s 0 0 A0) (wC a cI cS M) 5 [(2, .int x2), (3, .long v3), (5, .int v5)] [] := by
    intro f
    induction f with
    | zero => intro v3 v5 M hq; cases hq
    | succ f_5 ih_5 =>
      intro v3 v5 M hq
      rw [q_X6_withoutLast_5] at hq
      refine g_iload C dX6_withoutLast_5 2 rfl ?_
      refine g_iload_n C dX6_withoutLast_7 0 rfl rfl ?_
      refine g_icmp_ge C (tgt := 23) dX6_withoutLast_8 (by decide) (fun c3 => ?_) (fun c3 => ?_)
      · have hq := ip c3 hq
        refine g_lload_n C dX6_withoutLast_23 1 rfl rfl ?_
        exact g_lret C dX6_withoutLast_24 (som2 hq).1 (congrArg (wC a cI cS) (som2 hq).2)
      · have hq := iq c3 hq
        refine g_lload_n C dX6_withoutLast_11 1 rfl rfl ?_
        refine g_ldc2 C wl_545 dX6_withoutLast_12 ?_
        refine g_ldiv C dX6_withoutLast_15 (by decide) ?_
        refine g_lstore_n C (lv2 := [(3, _), (2, _), (5, _)]) dX6_withoutLast_16 rfl (by decide) rfl ?_
        refine g_iinc C (v := (v5 + (1 : Int32))) (lv2 := [(5, _), (3, _), (2, _)]) dX6_withoutLast_17 2 rfl rfl (by decide) rfl ?_
        refine g_goto C (tgt := 5) dX6_withoutLast_20 (by decide) ?_
        exact g_sub [2, 1, 0] rfl (ih_5 (v3 / (1000 : Int64)) (v5 + (1 : Int32)) M hq)
  unfold q_X6_withoutLast at hq
  refine g_lload_n C dX6_withoutLast_0 0 rfl rfl ?_
  refine g_lstore_n C (lv2 := [(3, _), (0, _), (2, _)]) dX6_withoutLast_1 rfl (by decide) rfl ?_
  refine g_iconst C dX6_withoutLast_2 (v := 0) (by decide) ?_
  refine g_istore C (lv2 := [(5, _), (3, _), (0, _), (2, _)]) dX6_withoutLast_3 (by decide) rfl ?_
  exact g_sub [3, 1, 0] rfl (L_5 FU x0 (0 : Int32) M hq)
set_option maxHeartbeats 4000000 in
set_option maxRecDepth 100000 in
theorem k_X6_comesTrue {l : Launch} {dC : Nat → ClassId} {dI : Nat → Nat → Nat} {a : Nat → Nat} {cI cZ cS : ClassId} (x1 : Int32) (x2 : Int32) (x3 : Int32) (M M2 : MM) (r : Bool) (hq : q_X6_comesTrue x1 x2 x3 M = some (r, M2)) : KQ l (dC, dI) vwCl (tyW cI cZ cS) yX6_comesTrue cX6_comesTrue 4 (some .boolean) 4 89 [.ref (a 0), .int x1, .int x2, .int x3] (wC a cI cS M) (qI (dC, dI) vwCl (wC a cI cS M2) (b2i r)) := by
  refine KQ.of (by decide) (Nat.le_of_ble_eq_true rfl) rfl ?_
  intro p e s m args below meth c A0 C
  have J_27 : ∀ (s1 : Int32) (s2 : Int32) (M : MM), q_X6_comesTrue_27 x1 x2 x3  s1 s2 M = some (r, M2) → gG p l e ({ frames := 4, cells := 0, slots := 0, locals := 89 }) s m args below meth c 4 (dC, dI) vwCl A0 s.heap 0 0 (MQ below ((qI (dC, dI) vwCl (wC a cI cS M2) (b2i r)) A0) args s 0 0 A0) (wC a cI cS M) 27 [] [.int s2, .int s1, .ref (a (16 + 5 * 1))] := by
    intro s1 s2 M hq
    unfold q_X6_comesTrue_27 at hq
    obtain ⟨z30, Mz30, h31, hq⟩ := obd_some hq
    refine gc_Vi C (k_X3_move 1 (by decide) s1 s2 M Mz30 z30 h31) wl_439 ok_X3_move (rv_X3 1 (by decide)) rfl ⟨Nat.le_of_ble_eq_true rfl, Nat.le_of_ble_eq_true rfl⟩ ⟨Nat.le_of_ble_eq_true rfl, Nat.le_of_ble_eq_true rfl⟩ rfl (Nat.le_of_ble_eq_true rfl) dX6_comesTrue_27 ?_
    refine g_if_eq C (tgt := 37) dX6_comesTrue_30 (by decide) (fun c32 => ?_) (fun c32 => ?_)
    · have hq := ip c32 hq
      refine g_iconst C dX6_comesTrue_37 (v := 0) (by decide) ?_
      exact g_zret C dX6_comesTrue_38 (Or.inl rfl) (congrArg b2i (som2 hq).1) (congrArg (wC a cI cS) (som2 hq).2)
    · have hq := iq c32 hq
      refine g_iconst C dX6_comesTrue_33 (v := 1) (by decide) ?_
      refine g_goto C (tgt := 38) dX6_comesTrue_34 (by decide) ?_
      exact g_zret C dX6_comesTrue_38 (Or.inr rfl) (congrArg b2i (som2 hq).1) (congrArg (wC a cI cS) (som2 hq).2)
  unfold q_X6_comesTrue at hq
  refine g_iload_n C dX6_comesTrue_0 1 rfl rfl ?_
  refine g_iconst C dX6_comesTrue_1 (v := 3) (by decide) ?_
  refine g_icmp_ne C (tgt := 39) dX6_comesTrue_2 (by decide) (fun c56 => ?_) (fun c56 => ?_)
  · have hq := iq c56 hq
    refine g_iload_n C dX6_comesTrue_39 2 rfl rfl ?_
    refine g_if_eq C (tgt := 45) dX6_comesTrue_40 (by decide) (fun c57 => ?_) (fun c57 => ?_)
    · have hq := ip c57 hq
      refine g_iload_n C dX6_comesTrue_45 1 rfl rfl ?_
      by_cases c58 : x1 = (0 : Int32)
      · have hq := ip c58 hq
        refine g_tsIn C (tgt := 84) (0 : Int32) c58 dX6_comesTrue_46 (by decide) (by decide) rfl (by decide) ?_
        refine g_aload_n C dX6_comesTrue_84 0 rfl rfl ?_
        refine rg_X6_trial C dX6_comesTrue_85 ?_
        obtain ⟨z59, Mz59, h60, hq⟩ := obd_some hq
        refine gc_Vi C (k_X3_passHour 1 (by decide) M Mz59 z59 h60) wl_452 ok_X3_passHour (rv_X3 1 (by decide)) rfl ⟨Nat.le_of_ble_eq_true rfl, Nat.le_of_ble_eq_true rfl⟩ ⟨Nat.le_of_ble_eq_true rfl, Nat.le_of_ble_eq_true rfl⟩ rfl (Nat.le_of_ble_eq_true rfl) dX6_comesTrue_88 ?_
        refine g_pop C dX6_comesTrue_91 rfl ?_
        refine g_iload_n C dX6_comesTrue_92 3 rfl rfl ?_
        refine g_if_ne C (tgt := 100) dX6_comesTrue_93 (by decide) (fun c61 => ?_) (fun c61 => ?_)
        · have hq := iq c61 hq
          refine g_iconst C dX6_comesTrue_100 (v := 0) (by decide) ?_
          exact g_zret C dX6_comesTrue_101 (Or.inl rfl) (congrArg b2i (som2 hq).1) (congrArg (wC a cI cS) (som2 hq).2)
        · have hq := ip c61 hq
          refine g_iconst C dX6_comesTrue_96 (v := 1) (by decide) ?_
          refine g_goto C (tgt := 101) dX6_comesTrue_97 (by decide) ?_
          exact g_zret C dX6_comesTrue_101 (Or.inr rfl) (congrArg b2i (som2 hq).1) (congrArg (wC a cI cS) (som2 hq).2)
      have hq := iq c58 hq
      by_cases c62 : x1 = (1 : Int32)
      · have hq := ip c62 hq
        refine g_tsIn C (tgt := 102) (1 : Int32) c62 dX6_comesTrue_46 (by decide) (by decide) rfl (by decide) ?_
        refine g_aload_n C dX6_comesTrue_102 0 rfl rfl ?_
        refine rg_X6_trial C dX6_comesTrue_103 ?_
        refine g_iload_n C dX6_comesTrue_106 3 rfl rfl ?_
        obtain ⟨z63, Mz63, h64, hq⟩ := obd_some hq
        refine gc_Vi C (k_X3_raise 1 (by decide) x3 M Mz63 z63 h64) wl_407 ok_X3_raise (rv_X3 1 (by decide)) rfl ⟨Nat.le_of_ble_eq_true rfl, Nat.le_of_ble_eq_true rfl⟩ ⟨Nat.le_of_ble_eq_true rfl, Nat.le_of_ble_eq_true rfl⟩ rfl (Nat.le_of_ble_eq_true rfl) dX6_comesTrue_107 ?_
        exact g_zret C dX6_comesTrue_110 (b2i_z _) (congrArg b2i (som2 hq).1) (congrArg (wC a cI cS) (som2 hq).2)
      have hq := iq c62 hq
      by_cases c65 : x1 = (2 : Int32)
      · have hq := ip c65 hq
        refine g_tsIn C (tgt := 111) (2 : Int32) c65 dX6_comesTrue_46 (by decide) (by decide) rfl (by decide) ?_
        refine g_aload_n C dX6_comesTrue_111 0 rfl rfl ?_
        refine rg_X6_trial C dX6_comesTrue_112 ?_
        refine g_iload_n C dX6_comesTrue_115 3 rfl rfl ?_
        obtain ⟨z66, Mz66, h67, hq⟩ := obd_some hq
        refine gc_Vi C (k_X3_lower 1 (by decide) x3 M Mz66 z66 h67) wl_426 ok_X3_lower (rv_X3 1 (by decide)) rfl ⟨Nat.le_of_ble_eq_true rfl, Nat.le_of_ble_eq_true rfl⟩ ⟨Nat.le_of_ble_eq_true rfl, Nat.le_of_ble_eq_true rfl⟩ rfl (Nat.le_of_ble_eq_true rfl) dX6_comesTrue_116 ?_
        exact g_zret C dX6_comesTrue_119 (b2i_z _) (congrArg b2i (som2 hq).1) (congrArg (wC a cI cS) (som2 hq).2)
      have hq := iq c65 hq
      by_cases c68 : x1 = (3 : Int32)
      · have hq := ip c68 hq
        refine g_tsIn C (tgt := 160) (3 : Int32) c68 dX6_comesTrue_46 (by decide) (by decide) rfl (by decide) ?_
        refine g_iconst C dX6_comesTrue_160 (v := 0) (by decide) ?_
        exact g_zret C dX6_comesTrue_161 (Or.inl rfl) (congrArg b2i (som2 hq).1) (congrArg (wC a cI cS) (som2 hq).2)
      have hq := iq c68 hq
      by_cases c69 : x1 = (4 : Int32)
      · have hq := ip c69 hq
        refine g_tsIn C (tgt := 120) (4 : Int32) c69 dX6_comesTrue_46 (by decide) (by decide) rfl (by decide) ?_
        refine g_iload_n C dX6_comesTrue_120 3 rfl rfl ?_
        refine gc_Si C (k_X6_isStreet x3 M) wl_374 ok_X6_isStreet ⟨Nat.le_of_ble_eq_true rfl, Nat.le_of_ble_eq_true rfl⟩ ⟨Nat.le_of_ble_eq_true rfl, Nat.le_of_ble_eq_true rfl⟩ rfl (Nat.le_of_ble_eq_true rfl) dX6_comesTrue_121 ?_
        refine g_if_eq C (tgt := 145) dX6_comesTrue_124 (by decide) (fun c70 => ?_) (fun c70 => ?_)
        · have hq := ip c70 hq
          refine g_iconst C dX6_comesTrue_145 (v := 0) (by decide) ?_
          exact g_zret C dX6_comesTrue_146 (Or.inl rfl) (congrArg b2i (som2 hq).1) (congrArg (wC a cI cS) (som2 hq).2)
        · have hq := iq c70 hq
          refine g_aload_n C dX6_comesTrue_127 0 rfl rfl ?_
          refine rg_X6_trial C dX6_comesTrue_128 ?_
          obtain ⟨z71, Mz71, h72, hq⟩ := obd_some hq
          refine gc_Vi C (k_X3_rainBits 1 (by decide) M Mz71 z71 h72) wl_299 ok_X3_rainBits (rv_X3 1 (by decide)) rfl ⟨Nat.le_of_ble_eq_true rfl, Nat.le_of_ble_eq_true rfl⟩ ⟨Nat.le_of_ble_eq_true rfl, Nat.le_of_ble_eq_true rfl⟩ rfl (Nat.le_of_ble_eq_true rfl) dX6_comesTrue_131 ?_
          refine g_iload_n C dX6_comesTrue_134 3 rfl rfl ?_
          refine gc_Si C (k_X6_has z71 x3 Mz71) wl_495 ok_X6_has ⟨Nat.le_of_ble_eq_true rfl, Nat.le_of_ble_eq_true rfl⟩ ⟨Nat.le_of_ble_eq_true rfl, Nat.le_of_ble_eq_true rfl⟩ rfl (Nat.le_of_ble_eq_true rfl) dX6_comesTrue_135 ?_
          refine g_if_eq C (tgt := 145) dX6_comesTrue_138 (by decide) (fun c73 => ?_) (fun c73 => ?_)
          · have hq := ip c73 hq
            refine g_iconst C dX6_comesTrue_145 (v := 0) (by decide) ?_
            exact g_zret C dX6_comesTrue_146 (Or.inl rfl) (congrArg b2i (som2 hq).1) (congrArg (wC a cI cS) (som2 hq).2)
          · have hq := iq c73 hq
            refine g_iconst C dX6_comesTrue_141 (v := 1) (by decide) ?_
            refine g_goto C (tgt := 146) dX6_comesTrue_142 (by decide) ?_
            exact g_zret C dX6_comesTrue_146 (Or.inr rfl) (congrArg b2i (som2 hq).1) (congrArg (wC a cI cS) (som2 hq).2)
      have hq := iq c69 hq
      by_cases c74 : x1 = (5 : Int32)
      · have hq := ip c74 hq
        refine g_tsIn C (tgt := 147) (5 : Int32) c74 dX6_comesTrue_46 (by decide) (by decide) rfl (by decide) ?_
        refine g_aload_n C dX6_comesTrue_147 0 rfl rfl ?_
        refine rg_X6_trial C dX6_comesTrue_148 ?_
        refine g_iconst C dX6_comesTrue_151 (v := 1) (by decide) ?_
        obtain ⟨z75, Mz75, h76, hq⟩ := obd_some hq
        refine gc_Vi C (k_X3_needBits 1 (by decide) (1 : Int32) M Mz75 z75 h76) wl_314 ok_X3_needBits (rv_X3 1 (by decide)) rfl ⟨Nat.le_of_ble_eq_true rfl, Nat.le_of_ble_eq_true rfl⟩ ⟨Nat.le_of_ble_eq_true rfl, Nat.le_of_ble_eq_true rfl⟩ rfl (Nat.le_of_ble_eq_true rfl) dX6_comesTrue_152 ?_
        refine g_iload_n C dX6_comesTrue_155 3 rfl rfl ?_
        refine gc_Si C (k_X6_has z75 x3 Mz75) wl_495 ok_X6_has ⟨Nat.le_of_ble_eq_true rfl, Nat.le_of_ble_eq_true rfl⟩ ⟨Nat.le_of_ble_eq_true rfl, Nat.le_of_ble_eq_true rfl⟩ rfl (Nat.le_of_ble_eq_true rfl) dX6_comesTrue_156 ?_
        exact g_zret C dX6_comesTrue_159 (b2i_z _) (congrArg b2i (som2 hq).1) (congrArg (wC a cI cS) (som2 hq).2)
      have hq := iq c74 hq
      refine g_tsOut C (tgt := 160) dX6_comesTrue_46 (by have ec58 := lv_neT (a := 0) c58 (by decide); have ec62 := lv_neT (a := 1) c62 (by decide); have ec65 := lv_neT (a := 2) c65 (by decide); have ec68 := lv_neT (a := 3) c68 (by decide); have ec69 := lv_neT (a := 4) c69 (by decide); have ec74 := lv_neT (a := 5) c74 (by decide); omega) (by decide) ?_
      refine g_iconst C dX6_comesTrue_160 (v := 0) (by decide) ?_
      exact g_zret C dX6_comesTrue_161 (Or.inl rfl) (congrArg b2i (som2 hq).1) (congrArg (wC a cI cS) (som2 hq).2)
    · have hq := iq c57 hq
      refine g_iconst C dX6_comesTrue_43 (v := 0) (by decide) ?_
      exact g_zret C dX6_comesTrue_44 (Or.inl rfl) (congrArg b2i (som2 hq).1) (congrArg (wC a cI cS) (som2 hq).2)
  · have hq := ip c56 hq
    refine g_iload_n C dX6_comesTrue_5 3 rfl rfl ?_
    refine gc_Si C (k_X6_isChoice x3 M) wl_488 ok_X6_isChoice ⟨Nat.le_of_ble_eq_true rfl, Nat.le_of_ble_eq_true rfl⟩ ⟨Nat.le_of_ble_eq_true rfl, Nat.le_of_ble_eq_true rfl⟩ rfl (Nat.le_of_ble_eq_true rfl) dX6_comesTrue_6 ?_
    refine g_if_eq C (tgt := 37) dX6_comesTrue_9 (by decide) (fun c77 => ?_) (fun c77 => ?_)
    · have hq := ip c77 hq
      refine g_iconst C dX6_comesTrue_37 (v := 0) (by decide) ?_
      exact g_zret C dX6_comesTrue_38 (Or.inl rfl) (congrArg b2i (som2 hq).1) (congrArg (wC a cI cS) (som2 hq).2)
    · have hq := iq c77 hq
      refine g_aload_n C dX6_comesTrue_12 0 rfl rfl ?_
      refine rg_X6_trial C dX6_comesTrue_13 ?_
      refine g_iload_n C dX6_comesTrue_16 2 rfl rfl ?_
      refine g_iload_n C dX6_comesTrue_17 3 rfl rfl ?_
      refine g_iconst C dX6_comesTrue_18 (v := 1) (by decide) ?_
      refine g_icmp_ne C (tgt := 26) dX6_comesTrue_19 (by decide) (fun c78 => ?_) (fun c78 => ?_)
      · have hq := iq c78 hq
        refine g_iconst C dX6_comesTrue_26 (v := 0) (by decide) ?_
        exact g_sub [] rfl (J_27 x2 (0 : Int32) M hq)
      · have hq := ip c78 hq
        refine g_iconst C dX6_comesTrue_22 (v := 1) (by decide) ?_
        refine g_goto C (tgt := 27) dX6_comesTrue_23 (by decide) ?_
        exact g_sub [] rfl (J_27 x2 (1 : Int32) M hq)
set_option maxHeartbeats 4000000 in
set_option maxRecDepth 100000 in
theorem k_X6_judge {l : Launch} {dC : Nat → ClassId} {dI : Nat → Nat → Nat} {a : Nat → Nat} {cI cZ cS : ClassId} (x1 : Int32) (x2 : Int64) (M M2 : MM) (r : Int32) (hq : q_X6_judge x1 x2 M = some (r, M2)) : KQ l (dC, dI) vwCl (tyW cI cZ cS) yX6_judge cX6_judge 6 (some .int) 5 112 [.ref (a 0), .int x1, .long x2] (wC a cI cS M) (qI (dC, dI) vwCl (wC a cI cS M2) r) := by
  refine KQ.of (by decide) (Nat.le_of_ble_eq_true rfl) rfl ?_
  intro p e s m args below meth c A0 C
  have L_43 : ∀ (f : Nat) (v4 : Int32) (M : MM), q_X6_judge_43 x1 x2  f v4 M = some (r, M2) → gG p l e ({ frames := 5, cells := 0, slots := 0, locals := 112 }) s m args below meth c 6 (dC, dI) vwCl A0 s.heap 0 0 (MQ below ((qI (dC, dI) vwCl (wC a cI cS M2) r) A0) args s 0 0 A0) (wC a cI cS M) 43 [(0, .ref (a 0)), (1, .int x1), (2, .long x2), (4, .int v4)] [] := by
    intro f
    induction f with
    | zero => intro v4 M hq; cases hq
    | succ f_43 ih_43 =>
      intro v4 M hq
      rw [q_X6_judge_43] at hq
      refine g_iload C dX6_judge_43 3 rfl ?_
      refine g_iload_n C dX6_judge_45 1 rfl rfl ?_
      refine g_icmp_ge C (tgt := 100) dX6_judge_46 (by decide) (fun c19 => ?_) (fun c19 => ?_)
      · have hq := ip c19 hq
        refine g_bipush C dX6_judge_100 (v := -9) (by decide) ?_
        exact g_iret C dX6_judge_102 (som2 hq).1 (congrArg (wC a cI cS) (som2 hq).2)
      · have hq := iq c19 hq
        refine g_lload_n C dX6_judge_49 2 rfl rfl ?_
        refine g_iload_n C dX6_judge_50 1 rfl rfl ?_
        refine g_iconst C dX6_judge_51 (v := 1) (by decide) ?_
        refine g_isub C dX6_judge_52 ?_
        refine g_iload C dX6_judge_53 3 rfl ?_
        refine g_isub C dX6_judge_55 ?_
        obtain ⟨z20, Mz20, h21, hq⟩ := obd_some hq
        refine gc_Sl C (k_X6_withoutLast x2 ((x1 - (1 : Int32)) - v4) M Mz20 z20 h21) wl_542 ok_X6_withoutLast ⟨Nat.le_of_ble_eq_true rfl, Nat.le_of_ble_eq_true rfl⟩ ⟨Nat.le_of_ble_eq_true rfl, Nat.le_of_ble_eq_true rfl⟩ rfl (Nat.le_of_ble_eq_true rfl) dX6_judge_56 ?_
        refine g_ldc2 C wl_545 dX6_judge_59 ?_
        refine g_lrem C dX6_judge_62 (by decide) ?_
        refine g_l2i C dX6_judge_63 rfl ?_
        refine g_istore C (lv2 := [(5, _), (0, _), (1, _), (2, _), (4, _)]) dX6_judge_64 (by decide) rfl ?_
        refine g_aload_n C dX6_judge_66 1 rfl rfl ?_
        refine g_iload C dX6_judge_67 0 rfl ?_
        refine g_bipush C dX6_judge_69 (v := 100) (by decide) ?_
        refine g_idiv C dX6_judge_71 (by decide) ?_
        refine g_iload C dX6_judge_72 0 rfl ?_
        refine g_bipush C dX6_judge_74 (v := 10) (by decide) ?_
        refine g_idiv C dX6_judge_76 (by decide) ?_
        refine g_bipush C dX6_judge_77 (v := 10) (by decide) ?_
        refine g_irem C dX6_judge_79 (by decide) ?_
        refine g_iload C dX6_judge_80 0 rfl ?_
        refine g_bipush C dX6_judge_82 (v := 10) (by decide) ?_
        refine g_irem C dX6_judge_84 (by decide) ?_
        obtain ⟨z22, Mz22, h23, hq⟩ := obd_some hq
        refine gc_Vi C (k_X6_comesTrue (((z20 - z20 / (1000 : Int64) * (1000 : Int64)).toInt32) / (100 : Int32)) ((((z20 - z20 / (1000 : Int64) * (1000 : Int64)).toInt32) / (10 : Int32)) - (((z20 - z20 / (1000 : Int64) * (1000 : Int64)).toInt32) / (10 : Int32)) / (10 : Int32) * (10 : Int32)) (((z20 - z20 / (1000 : Int64) * (1000 : Int64)).toInt32) - ((z20 - z20 / (1000 : Int64) * (1000 : Int64)).toInt32) / (10 : Int32) * (10 : Int32)) Mz20 Mz22 z22 h23) wl_546 ok_X6_comesTrue rv_X6 rfl ⟨Nat.le_of_ble_eq_true rfl, Nat.le_of_ble_eq_true rfl⟩ ⟨Nat.le_of_ble_eq_true rfl, Nat.le_of_ble_eq_true rfl⟩ rfl (Nat.le_of_ble_eq_true rfl) dX6_judge_85 ?_
        refine g_if_ne C (tgt := 94) dX6_judge_88 (by decide) (fun c24 => ?_) (fun c24 => ?_)
        · have hq := iq c24 hq
          refine g_iinc C (v := (v4 + (1 : Int32))) (lv2 := [(4, _), (5, _), (0, _), (1, _), (2, _)]) dX6_judge_94 4 rfl rfl (by decide) rfl ?_
          refine g_goto C (tgt := 43) dX6_judge_97 (by decide) ?_
          exact g_sub [2, 3, 4, 0] rfl (ih_43 (v4 + (1 : Int32)) Mz22 hq)
        · have hq := ip c24 hq
          refine g_iload C dX6_judge_91 4 rfl ?_
          exact g_iret C dX6_judge_93 (som2 hq).1 (congrArg (wC a cI cS) (som2 hq).2)
  unfold q_X6_judge at hq
  refine g_iload_n C dX6_judge_0 1 rfl rfl ?_
  refine g_iconst C dX6_judge_1 (v := 1) (by decide) ?_
  refine g_icmp_lt C (tgt := 26) dX6_judge_2 (by decide) (fun c31 => ?_) (fun c31 => ?_)
  · have hq := ip c31 hq
    refine g_bipush C dX6_judge_26 (v := -2) (by decide) ?_
    exact g_iret C dX6_judge_28 (som2 hq).1 (congrArg (wC a cI cS) (som2 hq).2)
  · have hq := iq c31 hq
    refine g_iload_n C dX6_judge_5 1 rfl rfl ?_
    refine g_iconst C dX6_judge_6 (v := 4) (by decide) ?_
    refine g_icmp_gt C (tgt := 26) dX6_judge_7 (by decide) (fun c32 => ?_) (fun c32 => ?_)
    · have hq := ip c32 hq
      refine g_bipush C dX6_judge_26 (v := -2) (by decide) ?_
      exact g_iret C dX6_judge_28 (som2 hq).1 (congrArg (wC a cI cS) (som2 hq).2)
    · have hq := iq c32 hq
      refine g_lload_n C dX6_judge_10 2 rfl rfl ?_
      refine g_lconst C dX6_judge_11 (v := 0) (by decide) ?_
      refine g_lcmp C dX6_judge_12 ?_
      refine g_if_lt C (tgt := 26) dX6_judge_13 (by decide) (fun c33 => ?_) (fun c33 => ?_)
      · have hq := ip c33 hq
        refine g_bipush C dX6_judge_26 (v := -2) (by decide) ?_
        exact g_iret C dX6_judge_28 (som2 hq).1 (congrArg (wC a cI cS) (som2 hq).2)
      · have hq := iq c33 hq
        refine g_lload_n C dX6_judge_16 2 rfl rfl ?_
        refine g_iload_n C dX6_judge_17 1 rfl rfl ?_
        obtain ⟨z34, Mz34, h35, hq⟩ := obd_some hq
        refine gc_Sl C (k_X6_withoutLast x2 x1 M Mz34 z34 h35) wl_542 ok_X6_withoutLast ⟨Nat.le_of_ble_eq_true rfl, Nat.le_of_ble_eq_true rfl⟩ ⟨Nat.le_of_ble_eq_true rfl, Nat.le_of_ble_eq_true rfl⟩ rfl (Nat.le_of_ble_eq_true rfl) dX6_judge_18 ?_
        refine g_lconst C dX6_judge_21 (v := 0) (by decide) ?_
        refine g_lcmp C dX6_judge_22 ?_
        refine g_if_eq C (tgt := 29) dX6_judge_23 (by decide) (fun c36 => ?_) (fun c36 => ?_)
        · have hq := ip c36 hq
          refine g_aload_n C dX6_judge_29 0 rfl rfl ?_
          refine rg_X6_trial C dX6_judge_30 ?_
          refine g_aload_n C dX6_judge_33 0 rfl rfl ?_
          refine rg_X6_now C dX6_judge_34 ?_
          refine gc_Vv C (k_X3_copy 1 (by decide) 0 (by decide) Mz34) wl_478 ok_X3_copy (rv_X3 1 (by decide)) rfl ⟨Nat.le_of_ble_eq_true rfl, Nat.le_of_ble_eq_true rfl⟩ ⟨Nat.le_of_ble_eq_true rfl, Nat.le_of_ble_eq_true rfl⟩ rfl (Nat.le_of_ble_eq_true rfl) dX6_judge_37 ?_
          refine g_iconst C dX6_judge_40 (v := 0) (by decide) ?_
          refine g_istore C (lv2 := [(4, _), (0, _), (1, _), (2, _)]) dX6_judge_41 (by decide) rfl ?_
          exact g_sub [1, 2, 3, 0] rfl (L_43 FU (0 : Int32) (mR Mz34 (9 + 1) (Mz34.1 (9 + 0))) hq)
        · have hq := iq c36 hq
          refine g_bipush C dX6_judge_26 (v := -2) (by decide) ?_
          exact g_iret C dX6_judge_28 (som2 hq).1 (congrArg (wC a cI cS) (som2 hq).2)
set_option maxHeartbeats 4000000 in
set_option maxRecDepth 100000 in
theorem k_X6_keptIfCome {l : Launch} {dC : Nat → ClassId} {dI : Nat → Nat → Nat} {a : Nat → Nat} {cI cZ cS : ClassId} (x1 : Int32) (M M2 : MM) (r : Int32) (hq : q_X6_keptIfCome x1 M = some (r, M2)) : KQ l (dC, dI) vwCl (tyW cI cZ cS) yX6_keptIfCome cX6_keptIfCome 2 (some .int) 5 111 [.ref (a 0), .int x1] (wC a cI cS M) (qI (dC, dI) vwCl (wC a cI cS M2) r) := by
  refine KQ.of (by decide) (Nat.le_of_ble_eq_true rfl) rfl ?_
  intro p e s m args below meth c A0 C
  unfold q_X6_keptIfCome at hq
  refine g_aload_n C dX6_keptIfCome_0 0 rfl rfl ?_
  refine rg_X6_trial C dX6_keptIfCome_1 ?_
  refine g_aload_n C dX6_keptIfCome_4 0 rfl rfl ?_
  refine rg_X6_now C dX6_keptIfCome_5 ?_
  refine gc_Vv C (k_X3_copy 1 (by decide) 0 (by decide) M) wl_478 ok_X3_copy (rv_X3 1 (by decide)) rfl ⟨Nat.le_of_ble_eq_true rfl, Nat.le_of_ble_eq_true rfl⟩ ⟨Nat.le_of_ble_eq_true rfl, Nat.le_of_ble_eq_true rfl⟩ rfl (Nat.le_of_ble_eq_true rfl) dX6_keptIfCome_8 ?_
  refine g_aload_n C dX6_keptIfCome_11 0 rfl rfl ?_
  refine rg_X6_trial C dX6_keptIfCome_12 ?_
  refine g_aload_n C dX6_keptIfCome_15 0 rfl rfl ?_
  refine rg_X6_now C dX6_keptIfCome_16 ?_
  refine gc_Vi C (k_X3_openBits 0 (by decide) (mR M (9 + 1) (M.1 (9 + 0)))) wl_295 ok_X3_openBits (rv_X3 0 (by decide)) rfl ⟨Nat.le_of_ble_eq_true rfl, Nat.le_of_ble_eq_true rfl⟩ ⟨Nat.le_of_ble_eq_true rfl, Nat.le_of_ble_eq_true rfl⟩ rfl (Nat.le_of_ble_eq_true rfl) dX6_keptIfCome_19 ?_
  refine g_iload_n C dX6_keptIfCome_22 1 rfl rfl ?_
  refine g_iconst C dX6_keptIfCome_23 (v := -1) (by decide) ?_
  refine g_ixor C dX6_keptIfCome_24 ?_
  refine g_iand C dX6_keptIfCome_25 ?_
  obtain ⟨z17, Mz17, h18, hq⟩ := obd_some hq
  refine gc_Vv C (k_X3_forget 1 (by decide) ((t_X3_openBits 0 (mR M (9 + 1) (M.1 (9 + 0)))) &&& (x1 ^^^ (-1 : Int32))) (mR M (9 + 1) (M.1 (9 + 0))) Mz17 z17 h18) wl_558 ok_X3_forget (rv_X3 1 (by decide)) rfl ⟨Nat.le_of_ble_eq_true rfl, Nat.le_of_ble_eq_true rfl⟩ ⟨Nat.le_of_ble_eq_true rfl, Nat.le_of_ble_eq_true rfl⟩ rfl (Nat.le_of_ble_eq_true rfl) dX6_keptIfCome_26 ?_
  refine g_aload_n C dX6_keptIfCome_29 0 rfl rfl ?_
  refine rg_X6_trial C dX6_keptIfCome_30 ?_
  refine g_iload_n C dX6_keptIfCome_33 1 rfl rfl ?_
  obtain ⟨z19, Mz19, h20, hq⟩ := obd_some hq
  refine gc_Vv C (k_X3_raiseAll 1 (by decide) x1 Mz17 Mz19 z19 h20) wl_504 ok_X3_raiseAll (rv_X3 1 (by decide)) rfl ⟨Nat.le_of_ble_eq_true rfl, Nat.le_of_ble_eq_true rfl⟩ ⟨Nat.le_of_ble_eq_true rfl, Nat.le_of_ble_eq_true rfl⟩ rfl (Nat.le_of_ble_eq_true rfl) dX6_keptIfCome_34 ?_
  refine g_aload_n C dX6_keptIfCome_37 0 rfl rfl ?_
  refine rg_X6_trial C dX6_keptIfCome_38 ?_
  refine g_bipush C dX6_keptIfCome_41 (v := 9) (by decide) ?_
  obtain ⟨z21, Mz21, h22, hq⟩ := obd_some hq
  refine gc_Vv C (k_X3_passHours 1 (by decide) (9 : Int32) Mz19 Mz21 z21 h22) wl_479 ok_X3_passHours (rv_X3 1 (by decide)) rfl ⟨Nat.le_of_ble_eq_true rfl, Nat.le_of_ble_eq_true rfl⟩ ⟨Nat.le_of_ble_eq_true rfl, Nat.le_of_ble_eq_true rfl⟩ rfl (Nat.le_of_ble_eq_true rfl) dX6_keptIfCome_43 ?_
  refine g_aload_n C dX6_keptIfCome_46 0 rfl rfl ?_
  refine rg_X6_trial C dX6_keptIfCome_47 ?_
  obtain ⟨z23, Mz23, h24, hq⟩ := obd_some hq
  refine gc_Vi C (k_X3_keptCount 1 (by decide) Mz21 Mz23 z23 h24) wl_509 ok_X3_keptCount (rv_X3 1 (by decide)) rfl ⟨Nat.le_of_ble_eq_true rfl, Nat.le_of_ble_eq_true rfl⟩ ⟨Nat.le_of_ble_eq_true rfl, Nat.le_of_ble_eq_true rfl⟩ rfl (Nat.le_of_ble_eq_true rfl) dX6_keptIfCome_50 ?_
  exact g_iret C dX6_keptIfCome_53 (som2 hq).1 (congrArg (wC a cI cS) (som2 hq).2)
set_option maxHeartbeats 4000000 in
set_option maxRecDepth 100000 in
theorem k_X6_ordersOf {l : Launch} {dC : Nat → ClassId} {dI : Nat → Nat → Nat} {a : Nat → Nat} {cI cZ cS : ClassId} (x0 : Int32) (M M2 : MM) (r : Int32) (hq : q_X6_ordersOf x0 M = some (r, M2)) : KQ l (dC, dI) vwCl (tyW cI cZ cS) yX6_ordersOf cX6_ordersOf 3 (some .int) 0 0 [.int x0] (wC a cI cS M) (qI (dC, dI) vwCl (wC a cI cS M2) r) := by
  refine KQ.of (by decide) (Nat.le_of_ble_eq_true rfl) rfl ?_
  intro p e s m args below meth c A0 C
  have L_4 : ∀ (f : Nat) (v1 : Int32) (v2 : Int32) (M : MM), q_X6_ordersOf_4 x0  f v1 v2 M = some (r, M2) → gG p l e ({ frames := 0, cells := 0, slots := 0, locals := 0 }) s m args below meth c 3 (dC, dI) vwCl A0 s.heap 0 0 (MQ below ((qI (dC, dI) vwCl (wC a cI cS M2) r) A0) args s 0 0 A0) (wC a cI cS M) 4 [(0, .int x0), (1, .int v1), (2, .int v2)] [] := by
    intro f
    induction f with
    | zero => intro v1 v2 M hq; cases hq
    | succ f_4 ih_4 =>
      intro v1 v2 M hq
      rw [q_X6_ordersOf_4] at hq
      refine g_iload_n C dX6_ordersOf_4 2 rfl rfl ?_
      refine g_iload_n C dX6_ordersOf_5 0 rfl rfl ?_
      refine g_icmp_gt C (tgt := 19) dX6_ordersOf_6 (by decide) (fun c3 => ?_) (fun c3 => ?_)
      · have hq := ip c3 hq
        refine g_iload_n C dX6_ordersOf_19 1 rfl rfl ?_
        exact g_iret C dX6_ordersOf_20 (som2 hq).1 (congrArg (wC a cI cS) (som2 hq).2)
      · have hq := iq c3 hq
        refine g_iload_n C dX6_ordersOf_9 1 rfl rfl ?_
        refine g_iload_n C dX6_ordersOf_10 2 rfl rfl ?_
        refine g_imul C dX6_ordersOf_11 ?_
        refine g_istore_n C (lv2 := [(1, _), (0, _), (2, _)]) dX6_ordersOf_12 rfl (by decide) rfl ?_
        refine g_iinc C (v := (v2 + (1 : Int32))) (lv2 := [(2, _), (1, _), (0, _)]) dX6_ordersOf_13 2 rfl rfl (by decide) rfl ?_
        refine g_goto C (tgt := 4) dX6_ordersOf_16 (by decide) ?_
        exact g_sub [2, 1, 0] rfl (ih_4 (v1 * v2) (v2 + (1 : Int32)) M hq)
  unfold q_X6_ordersOf at hq
  refine g_iconst C dX6_ordersOf_0 (v := 1) (by decide) ?_
  refine g_istore_n C (lv2 := [(1, _), (0, _)]) dX6_ordersOf_1 rfl (by decide) rfl ?_
  refine g_iconst C dX6_ordersOf_2 (v := 2) (by decide) ?_
  refine g_istore_n C (lv2 := [(2, _), (1, _), (0, _)]) dX6_ordersOf_3 rfl (by decide) rfl ?_
  exact g_sub [2, 1, 0] rfl (L_4 FU (1 : Int32) (2 : Int32) M hq)
set_option maxHeartbeats 4000000 in
set_option maxRecDepth 100000 in
theorem k_X6_commonDivisor {l : Launch} {dC : Nat → ClassId} {dI : Nat → Nat → Nat} {a : Nat → Nat} {cI cZ cS : ClassId} (x0 : Int32) (x1 : Int32) (M M2 : MM) (r : Int32) (hq : q_X6_commonDivisor x0 x1 M = some (r, M2)) : KQ l (dC, dI) vwCl (tyW cI cZ cS) yX6_commonDivisor cX6_commonDivisor 6 (some .int) 0 0 [.int x0, .int x1] (wC a cI cS M) (qI (dC, dI) vwCl (wC a cI cS M2) r) := by
  refine KQ.of (by decide) (Nat.le_of_ble_eq_true rfl) rfl ?_
  intro p e s m args below meth c A0 C
  have L_7 : ∀ (f : Nat) (v2 : Int32) (v3 : Int32) (v4 : Int32) (M : MM), q_X6_commonDivisor_7 x0 x1  f v2 v3 v4 M = some (r, M2) → gG p l e ({ frames := 0, cells := 0, slots := 0, locals := 0 }) s m args below meth c 6 (dC, dI) vwCl A0 s.heap 0 0 (MQ below ((qI (dC, dI) vwCl (wC a cI cS M2) r) A0) args s 0 0 A0) (wC a cI cS M) 7 [(2, .int v2), (3, .int v3), (4, .int v4)] [] := by
    intro f
    induction f with
    | zero => intro v2 v3 v4 M hq; cases hq
    | succ f_7 ih_7 =>
      intro v2 v3 v4 M hq
      rw [q_X6_commonDivisor_7] at hq
      refine g_iload C dX6_commonDivisor_7 2 rfl ?_
      refine g_bipush C dX6_commonDivisor_9 (v := 100) (by decide) ?_
      refine g_icmp_ge C (tgt := 34) dX6_commonDivisor_11 (by decide) (fun c7 => ?_) (fun c7 => ?_)
      · have hq := ip c7 hq
        refine g_iload_n C dX6_commonDivisor_34 0 rfl rfl ?_
        exact g_iret C dX6_commonDivisor_35 (som2 hq).1 (congrArg (wC a cI cS) (som2 hq).2)
      · have hq := iq c7 hq
        refine g_iload_n C dX6_commonDivisor_14 1 rfl rfl ?_
        refine g_if_eq C (tgt := 34) dX6_commonDivisor_15 (by decide) (fun c8 => ?_) (fun c8 => ?_)
        · have hq := ip c8 hq
          refine g_iload_n C dX6_commonDivisor_34 0 rfl rfl ?_
          exact g_iret C dX6_commonDivisor_35 (som2 hq).1 (congrArg (wC a cI cS) (som2 hq).2)
        · have hq := iq c8 hq
          refine g_iload_n C dX6_commonDivisor_18 0 rfl rfl ?_
          refine g_iload_n C dX6_commonDivisor_19 1 rfl rfl ?_
          obtain ⟨h9, hq⟩ := ogd_some hq
          refine g_irem C dX6_commonDivisor_20 h9 ?_
          refine g_istore C (lv2 := [(5, _), (2, _), (3, _), (4, _)]) dX6_commonDivisor_21 (by decide) rfl ?_
          refine g_iload_n C dX6_commonDivisor_23 2 rfl rfl ?_
          refine g_istore_n C (lv2 := [(2, _), (5, _), (3, _), (4, _)]) dX6_commonDivisor_24 rfl (by decide) rfl ?_
          refine g_iload C dX6_commonDivisor_25 1 rfl ?_
          refine g_istore_n C (lv2 := [(3, _), (2, _), (5, _), (4, _)]) dX6_commonDivisor_27 rfl (by decide) rfl ?_
          refine g_iinc C (v := (v4 + (1 : Int32))) (lv2 := [(4, _), (3, _), (2, _), (5, _)]) dX6_commonDivisor_28 3 rfl rfl (by decide) rfl ?_
          refine g_goto C (tgt := 7) dX6_commonDivisor_31 (by decide) ?_
          exact g_sub [2, 1, 0] rfl (ih_7 v3 (v2 - v2 / v3 * v3) (v4 + (1 : Int32)) M hq)
  unfold q_X6_commonDivisor at hq
  refine g_iload_n C dX6_commonDivisor_0 0 rfl rfl ?_
  refine g_istore_n C (lv2 := [(2, _), (0, _), (1, _)]) dX6_commonDivisor_1 rfl (by decide) rfl ?_
  refine g_iload_n C dX6_commonDivisor_2 2 rfl rfl ?_
  refine g_istore_n C (lv2 := [(3, _), (2, _), (0, _), (1, _)]) dX6_commonDivisor_3 rfl (by decide) rfl ?_
  refine g_iconst C dX6_commonDivisor_4 (v := 0) (by decide) ?_
  refine g_istore C (lv2 := [(4, _), (3, _), (2, _), (0, _), (1, _)]) dX6_commonDivisor_5 (by decide) rfl ?_
  exact g_sub [2, 1, 0] rfl (L_7 FU x0 x1 (0 : Int32) M hq)
set_option maxHeartbeats 4000000 in
set_option maxRecDepth 100000 in
theorem k_X6_partOf {l : Launch} {dC : Nat → ClassId} {dI : Nat → Nat → Nat} {a : Nat → Nat} {cI cZ cS : ClassId} (x0 : Int32) (x1 : Int32) (x2 : Int32) (M M2 : MM) (r : Int32) (hq : q_X6_partOf x0 x1 x2 M = some (r, M2)) : KQ l (dC, dI) vwCl (tyW cI cZ cS) yX6_partOf cX6_partOf 4 (some .int) 1 25 [.int x0, .int x1, .int x2] (wC a cI cS M) (qI (dC, dI) vwCl (wC a cI cS M2) r) := by
  refine KQ.of (by decide) (Nat.le_of_ble_eq_true rfl) rfl ?_
  intro p e s m args below meth c A0 C
  unfold q_X6_partOf at hq
  refine g_iload_n C dX6_partOf_0 0 rfl rfl ?_
  refine g_mabs C wl_568 wl_569 wl_43 wl_570 ⟨Nat.le_of_ble_eq_true rfl, Nat.le_of_ble_eq_true rfl, Nat.le_of_ble_eq_true rfl, Nat.le_of_ble_eq_true rfl⟩ dX6_partOf_1 ?_
  refine g_iload_n C dX6_partOf_4 1 rfl rfl ?_
  obtain ⟨z13, Mz13, h14, hq⟩ := obd_some hq
  refine gc_Si C (k_X6_commonDivisor (if 0 ≤ x0 then x0 else 0 - x0) x1 M Mz13 z13 h14) wl_571 ok_X6_commonDivisor ⟨Nat.le_of_ble_eq_true rfl, Nat.le_of_ble_eq_true rfl⟩ ⟨Nat.le_of_ble_eq_true rfl, Nat.le_of_ble_eq_true rfl⟩ rfl (Nat.le_of_ble_eq_true rfl) dX6_partOf_5 ?_
  refine g_istore_n C (lv2 := [(3, _), (0, _), (1, _), (2, _)]) dX6_partOf_8 rfl (by decide) rfl ?_
  refine g_iload_n C dX6_partOf_9 0 rfl rfl ?_
  refine g_if_ne C (tgt := 15) dX6_partOf_10 (by decide) (fun c15 => ?_) (fun c15 => ?_)
  · have hq := iq c15 hq
    refine g_iload_n C dX6_partOf_15 3 rfl rfl ?_
    refine g_if_eq C (tgt := 25) dX6_partOf_16 (by decide) (fun c16 => ?_) (fun c16 => ?_)
    · have hq := ip c16 hq
      refine g_iload_n C dX6_partOf_25 2 rfl rfl ?_
      refine g_iload_n C dX6_partOf_26 0 rfl rfl ?_
      obtain ⟨h17, hq⟩ := ogd_some hq
      refine g_idiv C dX6_partOf_27 h17 ?_
      exact g_iret C dX6_partOf_28 (som2 hq).1 (congrArg (wC a cI cS) (som2 hq).2)
    · have hq := iq c16 hq
      refine g_iload_n C dX6_partOf_19 1 rfl rfl ?_
      refine g_iload_n C dX6_partOf_20 0 rfl rfl ?_
      obtain ⟨h18, hq⟩ := ogd_some hq
      refine g_idiv C dX6_partOf_21 h18 ?_
      refine g_goto C (tgt := 28) dX6_partOf_22 (by decide) ?_
      exact g_iret C dX6_partOf_28 (som2 hq).1 (congrArg (wC a cI cS) (som2 hq).2)
  · have hq := ip c15 hq
    refine g_iconst C dX6_partOf_13 (v := 0) (by decide) ?_
    exact g_iret C dX6_partOf_14 (som2 hq).1 (congrArg (wC a cI cS) (som2 hq).2)
set_option maxHeartbeats 4000000 in
set_option maxRecDepth 100000 in
theorem k_X6_share {l : Launch} {dC : Nat → ClassId} {dI : Nat → Nat → Nat} {a : Nat → Nat} {cI cZ cS : ClassId} (x1 : Int32) (x2 : Int32) (M M2 : MM) (r : Int32) (hq : q_X6_share x1 x2 M = some (r, M2)) : KQ l (dC, dI) vwCl (tyW cI cZ cS) yX6_share cX6_share 8 (some .int) 6 132 [.ref (a 0), .int x1, .int x2] (wC a cI cS M) (qI (dC, dI) vwCl (wC a cI cS M2) r) := by
  refine KQ.of (by decide) (Nat.le_of_ble_eq_true rfl) rfl ?_
  intro p e s m args below meth c A0 C
  have L_27 : ∀ (f : Nat) (v3 : Int32) (v4 : Int32) (v5 : Int32) (M : MM), q_X6_share_27 x1 x2  f v3 v4 v5 M = some (r, M2) → gG p l e ({ frames := 6, cells := 0, slots := 0, locals := 132 }) s m args below meth c 8 (dC, dI) vwCl A0 s.heap 0 0 (MQ below ((qI (dC, dI) vwCl (wC a cI cS M2) r) A0) args s 0 0 A0) (wC a cI cS M) 27 [(0, .ref (a 0)), (1, .int x1), (2, .int x2), (3, .int v3), (4, .int v4), (5, .int v5)] [] := by
    intro f
    induction f with
    | zero => intro v3 v4 v5 M hq; cases hq
    | succ f_27 ih_27 =>
      have J_93 : ∀ (v3 : Int32) (v4 : Int32) (v5 : Int32) (M : MM), q_X6_share_93 x1 x2 (q_X6_share_27 x1 x2  f_27) v3 v4 v5 M = some (r, M2) → gG p l e ({ frames := 6, cells := 0, slots := 0, locals := 132 }) s m args below meth c 8 (dC, dI) vwCl A0 s.heap 0 0 (MQ below ((qI (dC, dI) vwCl (wC a cI cS M2) r) A0) args s 0 0 A0) (wC a cI cS M) 93 [(0, .ref (a 0)), (1, .int x1), (2, .int x2), (3, .int v3), (4, .int v4), (5, .int v5)] [] := by
        intro v3 v4 v5 M hq
        unfold q_X6_share_93 at hq
        refine g_iinc C (v := (v5 + (1 : Int32))) (lv2 := [(5, _), (0, _), (1, _), (2, _), (3, _), (4, _)]) dX6_share_93 5 rfl rfl (by decide) rfl ?_
        refine g_goto C (tgt := 27) dX6_share_96 (by decide) ?_
        exact g_sub [1, 2, 3, 4, 5, 0] rfl (ih_27 v3 v4 (v5 + (1 : Int32)) M hq)
      intro v3 v4 v5 M hq
      rw [q_X6_share_27] at hq
      refine g_iload C dX6_share_27 5 rfl ?_
      refine g_iconst C dX6_share_29 (v := 1) (by decide) ?_
      refine g_iload_n C dX6_share_30 3 rfl rfl ?_
      refine g_ishl C dX6_share_31 ?_
      refine g_icmp_ge C (tgt := 99) dX6_share_32 (by decide) (fun c30 => ?_) (fun c30 => ?_)
      · have hq := ip c30 hq
        refine g_iload C dX6_share_99 4 rfl ?_
        refine g_iload_n C dX6_share_101 3 rfl rfl ?_
        obtain ⟨z31, Mz31, h32, hq⟩ := obd_some hq
        refine gc_Si C (k_X6_ordersOf v3 M Mz31 z31 h32) wl_562 ok_X6_ordersOf ⟨Nat.le_of_ble_eq_true rfl, Nat.le_of_ble_eq_true rfl⟩ ⟨Nat.le_of_ble_eq_true rfl, Nat.le_of_ble_eq_true rfl⟩ rfl (Nat.le_of_ble_eq_true rfl) dX6_share_102 ?_
        refine g_iload_n C dX6_share_105 2 rfl rfl ?_
        obtain ⟨z33, Mz33, h34, hq⟩ := obd_some hq
        refine gc_Si C (k_X6_partOf v4 z31 x2 Mz31 Mz33 z33 h34) wl_565 ok_X6_partOf ⟨Nat.le_of_ble_eq_true rfl, Nat.le_of_ble_eq_true rfl⟩ ⟨Nat.le_of_ble_eq_true rfl, Nat.le_of_ble_eq_true rfl⟩ rfl (Nat.le_of_ble_eq_true rfl) dX6_share_106 ?_
        exact g_iret C dX6_share_109 (som2 hq).1 (congrArg (wC a cI cS) (som2 hq).2)
      · have hq := iq c30 hq
        refine g_iload C dX6_share_35 5 rfl ?_
        refine g_iload_n C dX6_share_37 1 rfl rfl ?_
        refine gc_Si C (k_X6_has v5 x1 M) wl_495 ok_X6_has ⟨Nat.le_of_ble_eq_true rfl, Nat.le_of_ble_eq_true rfl⟩ ⟨Nat.le_of_ble_eq_true rfl, Nat.le_of_ble_eq_true rfl⟩ rfl (Nat.le_of_ble_eq_true rfl) dX6_share_38 ?_
        refine g_if_ne C (tgt := 93) dX6_share_41 (by decide) (fun c35 => ?_) (fun c35 => ?_)
        · have hq := iq c35 hq
          exact g_sub [0, 1, 2, 3, 4, 5] rfl (J_93 v3 v4 v5 M hq)
        · have hq := ip c35 hq
          refine g_iload C dX6_share_44 5 rfl ?_
          refine gc_Si C (k_J6_bitCount_0f7a4 v5 M) wl_528 ok_J6_bitCount_0f7a4 ⟨Nat.le_of_ble_eq_true rfl, Nat.le_of_ble_eq_true rfl⟩ ⟨Nat.le_of_ble_eq_true rfl, Nat.le_of_ble_eq_true rfl⟩ rfl (Nat.le_of_ble_eq_true rfl) dX6_share_46 ?_
          refine g_istore C (lv2 := [(6, _), (0, _), (1, _), (2, _), (3, _), (4, _), (5, _)]) dX6_share_49 (by decide) rfl ?_
          refine g_aload_n C dX6_share_51 1 rfl rfl ?_
          refine g_iload C dX6_share_52 6 rfl ?_
          refine g_iconst C dX6_share_54 (v := 1) (by decide) ?_
          refine g_iload_n C dX6_share_55 2 rfl rfl ?_
          refine g_ishl C dX6_share_56 ?_
          refine g_ior C dX6_share_57 ?_
          obtain ⟨z36, Mz36, h37, hq⟩ := obd_some hq
          refine gc_Vi C (k_X6_keptIfCome (v5 ||| ((1 : Int32) <<< (x1 &&& 31))) M Mz36 z36 h37) wl_554 ok_X6_keptIfCome rv_X6 rfl ⟨Nat.le_of_ble_eq_true rfl, Nat.le_of_ble_eq_true rfl⟩ ⟨Nat.le_of_ble_eq_true rfl, Nat.le_of_ble_eq_true rfl⟩ rfl (Nat.le_of_ble_eq_true rfl) dX6_share_58 ?_
          refine g_aload_n C dX6_share_61 1 rfl rfl ?_
          refine g_iload C dX6_share_62 6 rfl ?_
          obtain ⟨z38, Mz38, h39, hq⟩ := obd_some hq
          refine gc_Vi C (k_X6_keptIfCome v5 Mz36 Mz38 z38 h39) wl_554 ok_X6_keptIfCome rv_X6 rfl ⟨Nat.le_of_ble_eq_true rfl, Nat.le_of_ble_eq_true rfl⟩ ⟨Nat.le_of_ble_eq_true rfl, Nat.le_of_ble_eq_true rfl⟩ rfl (Nat.le_of_ble_eq_true rfl) dX6_share_64 ?_
          refine g_isub C dX6_share_67 ?_
          refine g_istore C (lv2 := [(7, _), (6, _), (0, _), (1, _), (2, _), (3, _), (4, _), (5, _)]) dX6_share_68 (by decide) rfl ?_
          refine g_iload C dX6_share_70 6 rfl ?_
          refine g_iload C dX6_share_72 0 rfl ?_
          refine g_iload C dX6_share_74 1 rfl ?_
          obtain ⟨z40, Mz40, h41, hq⟩ := obd_some hq
          refine gc_Si C (k_X6_ordersOf (t_J6_bitCount_0f7a4 v5) Mz38 Mz40 z40 h41) wl_562 ok_X6_ordersOf ⟨Nat.le_of_ble_eq_true rfl, Nat.le_of_ble_eq_true rfl⟩ ⟨Nat.le_of_ble_eq_true rfl, Nat.le_of_ble_eq_true rfl⟩ rfl (Nat.le_of_ble_eq_true rfl) dX6_share_76 ?_
          refine g_imul C dX6_share_79 ?_
          refine g_iload_n C dX6_share_80 5 rfl rfl ?_
          refine g_iconst C dX6_share_81 (v := 1) (by decide) ?_
          refine g_isub C dX6_share_82 ?_
          refine g_iload C dX6_share_83 1 rfl ?_
          refine g_isub C dX6_share_85 ?_
          obtain ⟨z42, Mz42, h43, hq⟩ := obd_some hq
          refine gc_Si C (k_X6_ordersOf ((v3 - (1 : Int32)) - (t_J6_bitCount_0f7a4 v5)) Mz40 Mz42 z42 h43) wl_562 ok_X6_ordersOf ⟨Nat.le_of_ble_eq_true rfl, Nat.le_of_ble_eq_true rfl⟩ ⟨Nat.le_of_ble_eq_true rfl, Nat.le_of_ble_eq_true rfl⟩ rfl (Nat.le_of_ble_eq_true rfl) dX6_share_86 ?_
          refine g_imul C dX6_share_89 ?_
          refine g_iadd C dX6_share_90 ?_
          refine g_istore C (lv2 := [(4, _), (7, _), (6, _), (0, _), (1, _), (2, _), (3, _), (5, _)]) dX6_share_91 (by decide) rfl ?_
          exact g_sub [3, 4, 5, 6, 0, 7] rfl (J_93 v3 (v4 + (((z36 - z38) * z40) * z42)) v5 Mz42 hq)
  unfold q_X6_share at hq
  refine g_aload_n C dX6_share_0 0 rfl rfl ?_
  refine rg_X6_plan C dX6_share_1 ?_
  refine g_iload_n C dX6_share_4 1 rfl rfl ?_
  refine gc_Vi C (k_X2_hasWalker x1 M) wl_336 ok_X2_hasWalker rv_X2 rfl ⟨Nat.le_of_ble_eq_true rfl, Nat.le_of_ble_eq_true rfl⟩ ⟨Nat.le_of_ble_eq_true rfl, Nat.le_of_ble_eq_true rfl⟩ rfl (Nat.le_of_ble_eq_true rfl) dX6_share_5 ?_
  refine g_if_ne C (tgt := 13) dX6_share_8 (by decide) (fun c45 => ?_) (fun c45 => ?_)
  · have hq := iq c45 hq
    refine g_aload_n C dX6_share_13 0 rfl rfl ?_
    refine rg_X6_plan C dX6_share_14 ?_
    refine gc_Vi C (k_X2_walkerCount  M) wl_279 ok_X2_walkerCount rv_X2 rfl ⟨Nat.le_of_ble_eq_true rfl, Nat.le_of_ble_eq_true rfl⟩ ⟨Nat.le_of_ble_eq_true rfl, Nat.le_of_ble_eq_true rfl⟩ rfl (Nat.le_of_ble_eq_true rfl) dX6_share_17 ?_
    refine g_istore_n C (lv2 := [(3, _), (0, _), (1, _), (2, _)]) dX6_share_20 rfl (by decide) rfl ?_
    refine g_iconst C dX6_share_21 (v := 0) (by decide) ?_
    refine g_istore C (lv2 := [(4, _), (3, _), (0, _), (1, _), (2, _)]) dX6_share_22 (by decide) rfl ?_
    refine g_iconst C dX6_share_24 (v := 0) (by decide) ?_
    refine g_istore C (lv2 := [(5, _), (4, _), (3, _), (0, _), (1, _), (2, _)]) dX6_share_25 (by decide) rfl ?_
    exact g_sub [3, 4, 5, 2, 1, 0] rfl (L_27 FU (t_X2_walkerCount M) (0 : Int32) (0 : Int32) M hq)
  · have hq := ip c45 hq
    refine g_iconst C dX6_share_11 (v := -1) (by decide) ?_
    exact g_iret C dX6_share_12 (som2 hq).1 (congrArg (wC a cI cS) (som2 hq).2)
set_option maxHeartbeats 4000000 in
set_option maxRecDepth 100000 in
theorem k_X6_feel {l : Launch} {dC : Nat → ClassId} {dI : Nat → Nat → Nat} {a : Nat → Nat} {cI cZ cS : ClassId} (x1 : Int32) (x2 : Int32) (x3 : Int32) (M M2 : MM) (r : Int32) (hq : q_X6_feel x1 x2 x3 M = some (r, M2)) : KQ l (dC, dI) vwCl (tyW cI cZ cS) yX6_feel cX6_feel 4 (some .int) 2 45 [.ref (a 0), .int x1, .int x2, .int x3] (wC a cI cS M) (qI (dC, dI) vwCl (wC a cI cS M2) r) := by
  refine KQ.of (by decide) (Nat.le_of_ble_eq_true rfl) rfl ?_
  intro p e s m args below meth c A0 C
  have J_45 : ∀ (s1 : Int32) (s2 : Int32) (s3 : Int32) (M : MM), q_X6_feel_45 x1 x2 x3  s1 s2 s3 M = some (r, M2) → gG p l e ({ frames := 2, cells := 0, slots := 0, locals := 45 }) s m args below meth c 4 (dC, dI) vwCl A0 s.heap 0 0 (MQ below ((qI (dC, dI) vwCl (wC a cI cS M2) r) A0) args s 0 0 A0) (wC a cI cS M) 45 [(0, .ref (a 0))] [.int s3, .int s2, .int s1, .ref (a 13)] := by
    intro s1 s2 s3 M hq
    unfold q_X6_feel_45 at hq
    obtain ⟨z12, Mz12, h13, hq⟩ := obd_some hq
    refine gc_Vi C (k_X0_add s1 s2 s3 M Mz12 z12 h13) wl_578 ok_X0_add rv_X0 rfl ⟨Nat.le_of_ble_eq_true rfl, Nat.le_of_ble_eq_true rfl⟩ ⟨Nat.le_of_ble_eq_true rfl, Nat.le_of_ble_eq_true rfl⟩ rfl (Nat.le_of_ble_eq_true rfl) dX6_feel_45 ?_
    refine g_if_eq C (tgt := 61) dX6_feel_48 (by decide) (fun c14 => ?_) (fun c14 => ?_)
    · have hq := ip c14 hq
      refine g_bipush C dX6_feel_61 (v := -4) (by decide) ?_
      exact g_iret C dX6_feel_63 (som2 hq).1 (congrArg (wC a cI cS) (som2 hq).2)
    · have hq := iq c14 hq
      refine g_aload_n C dX6_feel_51 0 rfl rfl ?_
      refine rg_X6_felt C dX6_feel_52 ?_
      refine gc_Vi C (k_X0_size  Mz12) wl_328 ok_X0_size rv_X0 rfl ⟨Nat.le_of_ble_eq_true rfl, Nat.le_of_ble_eq_true rfl⟩ ⟨Nat.le_of_ble_eq_true rfl, Nat.le_of_ble_eq_true rfl⟩ rfl (Nat.le_of_ble_eq_true rfl) dX6_feel_55 ?_
      refine g_goto C (tgt := 63) dX6_feel_58 (by decide) ?_
      exact g_iret C dX6_feel_63 (som2 hq).1 (congrArg (wC a cI cS) (som2 hq).2)
  unfold q_X6_feel at hq
  refine g_iload_n C dX6_feel_0 1 rfl rfl ?_
  refine gc_Si C (k_X6_isStreet x1 M) wl_374 ok_X6_isStreet ⟨Nat.le_of_ble_eq_true rfl, Nat.le_of_ble_eq_true rfl⟩ ⟨Nat.le_of_ble_eq_true rfl, Nat.le_of_ble_eq_true rfl⟩ rfl (Nat.le_of_ble_eq_true rfl) dX6_feel_1 ?_
  refine g_if_ne C (tgt := 9) dX6_feel_4 (by decide) (fun c20 => ?_) (fun c20 => ?_)
  · have hq := iq c20 hq
    refine g_iload_n C dX6_feel_9 2 rfl rfl ?_
    refine g_if_lt C (tgt := 26) dX6_feel_10 (by decide) (fun c21 => ?_) (fun c21 => ?_)
    · have hq := ip c21 hq
      refine g_bipush C dX6_feel_26 (v := -2) (by decide) ?_
      exact g_iret C dX6_feel_28 (som2 hq).1 (congrArg (wC a cI cS) (som2 hq).2)
    · have hq := iq c21 hq
      refine g_iload_n C dX6_feel_13 2 rfl rfl ?_
      refine g_bipush C dX6_feel_14 (v := 9) (by decide) ?_
      refine g_icmp_gt C (tgt := 26) dX6_feel_16 (by decide) (fun c22 => ?_) (fun c22 => ?_)
      · have hq := ip c22 hq
        refine g_bipush C dX6_feel_26 (v := -2) (by decide) ?_
        exact g_iret C dX6_feel_28 (som2 hq).1 (congrArg (wC a cI cS) (som2 hq).2)
      · have hq := iq c22 hq
        refine g_iload_n C dX6_feel_19 3 rfl rfl ?_
        refine gc_Si C (k_X6_isChoice x3 M) wl_488 ok_X6_isChoice ⟨Nat.le_of_ble_eq_true rfl, Nat.le_of_ble_eq_true rfl⟩ ⟨Nat.le_of_ble_eq_true rfl, Nat.le_of_ble_eq_true rfl⟩ rfl (Nat.le_of_ble_eq_true rfl) dX6_feel_20 ?_
        refine g_if_ne C (tgt := 29) dX6_feel_23 (by decide) (fun c23 => ?_) (fun c23 => ?_)
        · have hq := iq c23 hq
          refine g_aload_n C dX6_feel_29 0 rfl rfl ?_
          refine rg_X6_felt C dX6_feel_30 ?_
          refine g_iload_n C dX6_feel_33 1 rfl rfl ?_
          refine g_iload_n C dX6_feel_34 2 rfl rfl ?_
          refine g_iload_n C dX6_feel_35 3 rfl rfl ?_
          refine g_iconst C dX6_feel_36 (v := 1) (by decide) ?_
          refine g_icmp_ne C (tgt := 44) dX6_feel_37 (by decide) (fun c24 => ?_) (fun c24 => ?_)
          · have hq := iq c24 hq
            refine g_iconst C dX6_feel_44 (v := 0) (by decide) ?_
            exact g_sub [0] rfl (J_45 x1 x2 (0 : Int32) M hq)
          · have hq := ip c24 hq
            refine g_iconst C dX6_feel_40 (v := 1) (by decide) ?_
            refine g_goto C (tgt := 45) dX6_feel_41 (by decide) ?_
            exact g_sub [0] rfl (J_45 x1 x2 (1 : Int32) M hq)
        · have hq := ip c23 hq
          refine g_bipush C dX6_feel_26 (v := -2) (by decide) ?_
          exact g_iret C dX6_feel_28 (som2 hq).1 (congrArg (wC a cI cS) (som2 hq).2)
  · have hq := ip c20 hq
    refine g_iconst C dX6_feel_7 (v := -1) (by decide) ?_
    exact g_iret C dX6_feel_8 (som2 hq).1 (congrArg (wC a cI cS) (som2 hq).2)
set_option maxHeartbeats 4000000 in
set_option maxRecDepth 100000 in
theorem k_X6_unfeel {l : Launch} {dC : Nat → ClassId} {dI : Nat → Nat → Nat} {a : Nat → Nat} {cI cZ cS : ClassId}  (M M2 : MM) (r : Int32) (hq : q_X6_unfeel  M = some (r, M2)) : KQ l (dC, dI) vwCl (tyW cI cZ cS) yX6_unfeel cX6_unfeel 2 (some .int) 1 20 [.ref (a 0)] (wC a cI cS M) (qI (dC, dI) vwCl (wC a cI cS M2) r) := by
  refine KQ.of (by decide) (Nat.le_of_ble_eq_true rfl) rfl ?_
  intro p e s m args below meth c A0 C
  unfold q_X6_unfeel at hq
  refine g_aload_n C dX6_unfeel_0 0 rfl rfl ?_
  refine rg_X6_felt C dX6_unfeel_1 ?_
  refine gc_Vi C (k_X0_size  M) wl_328 ok_X0_size rv_X0 rfl ⟨Nat.le_of_ble_eq_true rfl, Nat.le_of_ble_eq_true rfl⟩ ⟨Nat.le_of_ble_eq_true rfl, Nat.le_of_ble_eq_true rfl⟩ rfl (Nat.le_of_ble_eq_true rfl) dX6_unfeel_4 ?_
  refine g_istore_n C (lv2 := [(1, _), (0, _)]) dX6_unfeel_7 rfl (by decide) rfl ?_
  refine g_aload_n C dX6_unfeel_8 1 rfl rfl ?_
  refine rg_X6_felt C dX6_unfeel_9 ?_
  obtain ⟨z5, Mz5, h6, hq⟩ := obd_some hq
  refine gc_Vv C (k_X0_clear  M Mz5 z5 h6) wl_587 ok_X0_clear rv_X0 rfl ⟨Nat.le_of_ble_eq_true rfl, Nat.le_of_ble_eq_true rfl⟩ ⟨Nat.le_of_ble_eq_true rfl, Nat.le_of_ble_eq_true rfl⟩ rfl (Nat.le_of_ble_eq_true rfl) dX6_unfeel_12 ?_
  refine g_iload_n C dX6_unfeel_15 0 rfl rfl ?_
  exact g_iret C dX6_unfeel_16 (som2 hq).1 (congrArg (wC a cI cS) (som2 hq).2)
set_option maxHeartbeats 4000000 in
set_option maxRecDepth 100000 in
theorem k_X6_may {l : Launch} {dC : Nat → ClassId} {dI : Nat → Nat → Nat} {a : Nat → Nat} {cI cZ cS : ClassId} (x1 : Int32) (M M2 : MM) (r : Int32) (hq : q_X6_may x1 M = some (r, M2)) : KQ l (dC, dI) vwCl (tyW cI cZ cS) yX6_may cX6_may 7 (some .int) 3 71 [.ref (a 0), .int x1] (wC a cI cS M) (qI (dC, dI) vwCl (wC a cI cS M2) r) := by
  refine KQ.of (by decide) (Nat.le_of_ble_eq_true rfl) rfl ?_
  intro p e s m args below meth c A0 C
  have L_18 : ∀ (f : Nat) (v2 : Int32) (v3 : Int32) (v4 : Int32) (M : MM), q_X6_may_18 x1  f v2 v3 v4 M = some (r, M2) → gG p l e ({ frames := 3, cells := 0, slots := 0, locals := 71 }) s m args below meth c 7 (dC, dI) vwCl A0 s.heap 0 0 (MQ below ((qI (dC, dI) vwCl (wC a cI cS M2) r) A0) args s 0 0 A0) (wC a cI cS M) 18 [(0, .ref (a 0)), (1, .int x1), (2, .int v2), (3, .int v3), (4, .int v4)] [] := by
    intro f
    induction f with
    | zero => intro v2 v3 v4 M hq; cases hq
    | succ f_18 ih_18 =>
      have L_27 : ∀ (f : Nat) (v2 : Int32) (v3 : Int32) (v4 : Int32) (v5 : Int32) (M : MM), q_X6_may_27 x1 (q_X6_may_18 x1  f_18) f v2 v3 v4 v5 M = some (r, M2) → gG p l e ({ frames := 3, cells := 0, slots := 0, locals := 71 }) s m args below meth c 7 (dC, dI) vwCl A0 s.heap 0 0 (MQ below ((qI (dC, dI) vwCl (wC a cI cS M2) r) A0) args s 0 0 A0) (wC a cI cS M) 27 [(0, .ref (a 0)), (1, .int x1), (2, .int v2), (3, .int v3), (4, .int v4), (5, .int v5)] [] := by
        intro f
        induction f with
        | zero => intro v2 v3 v4 v5 M hq; cases hq
        | succ f_27 ih_27 =>
          have L_37 : ∀ (f : Nat) (v2 : Int32) (v3 : Int32) (v4 : Int32) (v5 : Int32) (v6 : Int32) (M : MM), q_X6_may_37 x1 (q_X6_may_18 x1  f_18) (q_X6_may_27 x1 (q_X6_may_18 x1  f_18) f_27) f v2 v3 v4 v5 v6 M = some (r, M2) → gG p l e ({ frames := 3, cells := 0, slots := 0, locals := 71 }) s m args below meth c 7 (dC, dI) vwCl A0 s.heap 0 0 (MQ below ((qI (dC, dI) vwCl (wC a cI cS M2) r) A0) args s 0 0 A0) (wC a cI cS M) 37 [(0, .ref (a 0)), (1, .int x1), (2, .int v2), (3, .int v3), (4, .int v4), (5, .int v5), (6, .int v6)] [] := by
            intro f
            induction f with
            | zero => intro v2 v3 v4 v5 v6 M hq; cases hq
            | succ f_37 ih_37 =>
              have J_86 : ∀ (v2 : Int32) (v3 : Int32) (v4 : Int32) (v5 : Int32) (v6 : Int32) (M : MM), q_X6_may_86 x1 (q_X6_may_18 x1  f_18) (q_X6_may_27 x1 (q_X6_may_18 x1  f_18) f_27) (q_X6_may_37 x1 (q_X6_may_18 x1  f_18) (q_X6_may_27 x1 (q_X6_may_18 x1  f_18) f_27) f_37) v2 v3 v4 v5 v6 M = some (r, M2) → gG p l e ({ frames := 3, cells := 0, slots := 0, locals := 71 }) s m args below meth c 7 (dC, dI) vwCl A0 s.heap 0 0 (MQ below ((qI (dC, dI) vwCl (wC a cI cS M2) r) A0) args s 0 0 A0) (wC a cI cS M) 86 [(0, .ref (a 0)), (1, .int x1), (2, .int v2), (3, .int v3), (4, .int v4), (5, .int v5), (6, .int v6)] [] := by
                intro v2 v3 v4 v5 v6 M hq
                unfold q_X6_may_86 at hq
                refine g_iinc C (v := (v6 + (1 : Int32))) (lv2 := [(6, _), (0, _), (1, _), (2, _), (3, _), (4, _), (5, _)]) dX6_may_86 6 rfl rfl (by decide) rfl ?_
                refine g_goto C (tgt := 37) dX6_may_89 (by decide) ?_
                exact g_sub [1, 2, 3, 4, 5, 6, 0] rfl (ih_37 v2 v3 v4 v5 (v6 + (1 : Int32)) M hq)
              have J_82 : ∀ (v2 : Int32) (v4 : Int32) (v5 : Int32) (v6 : Int32) (s0 : Int32) (M : MM), q_X6_may_82 x1 (q_X6_may_18 x1  f_18) (q_X6_may_27 x1 (q_X6_may_18 x1  f_18) f_27) (q_X6_may_37 x1 (q_X6_may_18 x1  f_18) (q_X6_may_27 x1 (q_X6_may_18 x1  f_18) f_27) f_37) v2 v4 v5 v6 s0 M = some (r, M2) → gG p l e ({ frames := 3, cells := 0, slots := 0, locals := 71 }) s m args below meth c 7 (dC, dI) vwCl A0 s.heap 0 0 (MQ below ((qI (dC, dI) vwCl (wC a cI cS M2) r) A0) args s 0 0 A0) (wC a cI cS M) 82 [(0, .ref (a 0)), (1, .int x1), (2, .int v2), (4, .int v4), (5, .int v5), (6, .int v6)] [.int s0] := by
                intro v2 v4 v5 v6 s0 M hq
                unfold q_X6_may_82 at hq
                refine g_istore_n C (lv2 := [(3, _), (0, _), (1, _), (2, _), (4, _), (5, _), (6, _)]) dX6_may_82 rfl (by decide) rfl ?_
                refine g_iinc C (v := (v2 + (1 : Int32))) (lv2 := [(2, _), (3, _), (0, _), (1, _), (4, _), (5, _), (6, _)]) dX6_may_83 3 rfl rfl (by decide) rfl ?_
                exact g_sub [2, 3, 0, 1, 4, 5, 6] rfl (J_86 (v2 + (1 : Int32)) s0 v4 v5 v6 M hq)
              intro v2 v3 v4 v5 v6 M hq
              rw [q_X6_may_37] at hq
              refine g_iload C dX6_may_37 6 rfl ?_
              refine g_bipush C dX6_may_39 (v := 6) (by decide) ?_
              refine g_icmp_gt C (tgt := 92) dX6_may_41 (by decide) (fun c15 => ?_) (fun c15 => ?_)
              · have hq := ip c15 hq
                refine g_iinc C (v := (v5 + (1 : Int32))) (lv2 := [(5, _), (0, _), (1, _), (2, _), (3, _), (4, _), (6, _)]) dX6_may_92 5 rfl rfl (by decide) rfl ?_
                refine g_goto C (tgt := 27) dX6_may_95 (by decide) ?_
                exact g_sub [1, 2, 3, 4, 5, 0] rfl (ih_27 v2 v3 v4 (v5 + (1 : Int32)) M hq)
              · have hq := iq c15 hq
                refine g_aload_n C dX6_may_44 0 rfl rfl ?_
                refine rg_X6_felt C dX6_may_45 ?_
                refine g_iload C dX6_may_48 4 rfl ?_
                refine g_iload C dX6_may_50 5 rfl ?_
                refine g_iload C dX6_may_52 6 rfl ?_
                obtain ⟨z16, Mz16, h17, hq⟩ := obd_some hq
                refine gc_Vi C (k_X0_isSo v4 v5 v6 M Mz16 z16 h17) wl_595 ok_X0_isSo rv_X0 rfl ⟨Nat.le_of_ble_eq_true rfl, Nat.le_of_ble_eq_true rfl⟩ ⟨Nat.le_of_ble_eq_true rfl, Nat.le_of_ble_eq_true rfl⟩ rfl (Nat.le_of_ble_eq_true rfl) dX6_may_54 ?_
                refine g_if_eq C (tgt := 86) dX6_may_57 (by decide) (fun c18 => ?_) (fun c18 => ?_)
                · have hq := ip c18 hq
                  exact g_sub [0, 1, 2, 3, 4, 5, 6] rfl (J_86 v2 v3 v4 v5 v6 Mz16 hq)
                · have hq := iq c18 hq
                  refine g_iload_n C dX6_may_60 2 rfl rfl ?_
                  refine g_if_ne C (tgt := 81) dX6_may_61 (by decide) (fun c19 => ?_) (fun c19 => ?_)
                  · have hq := iq c19 hq
                    refine g_iload_n C dX6_may_81 3 rfl rfl ?_
                    exact g_sub [0, 1, 2, 4, 5, 6] rfl (J_82 v2 v4 v5 v6 v3 Mz16 hq)
                  · have hq := ip c19 hq
                    refine g_bipush C dX6_may_64 (v := 100) (by decide) ?_
                    refine g_iload C dX6_may_66 4 rfl ?_
                    refine g_imul C dX6_may_68 ?_
                    refine g_bipush C dX6_may_69 (v := 10) (by decide) ?_
                    refine g_iload C dX6_may_71 5 rfl ?_
                    refine g_imul C dX6_may_73 ?_
                    refine g_iadd C dX6_may_74 ?_
                    refine g_iload C dX6_may_75 6 rfl ?_
                    refine g_iadd C dX6_may_77 ?_
                    refine g_goto C (tgt := 82) dX6_may_78 (by decide) ?_
                    exact g_sub [0, 1, 2, 4, 5, 6] rfl (J_82 v2 v4 v5 v6 ((((100 : Int32) * v4) + ((10 : Int32) * v5)) + v6) Mz16 hq)
          intro v2 v3 v4 v5 M hq
          rw [q_X6_may_27] at hq
          refine g_iload C dX6_may_27 5 rfl ?_
          refine g_bipush C dX6_may_29 (v := 6) (by decide) ?_
          refine g_icmp_ge C (tgt := 98) dX6_may_31 (by decide) (fun c21 => ?_) (fun c21 => ?_)
          · have hq := ip c21 hq
            refine g_iinc C (v := (v4 + (1 : Int32))) (lv2 := [(4, _), (0, _), (1, _), (2, _), (3, _), (5, _)]) dX6_may_98 4 rfl rfl (by decide) rfl ?_
            refine g_goto C (tgt := 18) dX6_may_101 (by decide) ?_
            exact g_sub [1, 2, 3, 4, 0] rfl (ih_18 v2 v3 (v4 + (1 : Int32)) M hq)
          · have hq := iq c21 hq
            refine g_iconst C dX6_may_34 (v := 1) (by decide) ?_
            refine g_istore C (lv2 := [(6, _), (0, _), (1, _), (2, _), (3, _), (4, _), (5, _)]) dX6_may_35 (by decide) rfl ?_
            exact g_sub [1, 2, 3, 4, 5, 6, 0] rfl (L_37 FU v2 v3 v4 v5 (1 : Int32) M hq)
      intro v2 v3 v4 M hq
      rw [q_X6_may_18] at hq
      refine g_iload C dX6_may_18 4 rfl ?_
      refine g_iconst C dX6_may_20 (v := 4) (by decide) ?_
      refine g_icmp_ge C (tgt := 104) dX6_may_21 (by decide) (fun c24 => ?_) (fun c24 => ?_)
      · have hq := ip c24 hq
        refine g_iload_n C dX6_may_104 1 rfl rfl ?_
        refine g_if_ne C (tgt := 112) dX6_may_105 (by decide) (fun c25 => ?_) (fun c25 => ?_)
        · have hq := iq c25 hq
          refine g_iload_n C dX6_may_112 3 rfl rfl ?_
          exact g_iret C dX6_may_113 (som2 hq).1 (congrArg (wC a cI cS) (som2 hq).2)
        · have hq := ip c25 hq
          refine g_iload_n C dX6_may_108 2 rfl rfl ?_
          refine g_goto C (tgt := 113) dX6_may_109 (by decide) ?_
          exact g_iret C dX6_may_113 (som2 hq).1 (congrArg (wC a cI cS) (som2 hq).2)
      · have hq := iq c24 hq
        refine g_iconst C dX6_may_24 (v := 0) (by decide) ?_
        refine g_istore C (lv2 := [(5, _), (0, _), (1, _), (2, _), (3, _), (4, _)]) dX6_may_25 (by decide) rfl ?_
        exact g_sub [1, 2, 3, 4, 5, 0] rfl (L_27 FU v2 v3 v4 (0 : Int32) M hq)
  unfold q_X6_may at hq
  refine g_iload_n C dX6_may_0 1 rfl rfl ?_
  refine gc_Si C (k_X6_isChoice x1 M) wl_488 ok_X6_isChoice ⟨Nat.le_of_ble_eq_true rfl, Nat.le_of_ble_eq_true rfl⟩ ⟨Nat.le_of_ble_eq_true rfl, Nat.le_of_ble_eq_true rfl⟩ rfl (Nat.le_of_ble_eq_true rfl) dX6_may_1 ?_
  refine g_if_ne C (tgt := 10) dX6_may_4 (by decide) (fun c27 => ?_) (fun c27 => ?_)
  · have hq := iq c27 hq
    refine g_iconst C dX6_may_10 (v := 0) (by decide) ?_
    refine g_istore_n C (lv2 := [(2, _), (0, _), (1, _)]) dX6_may_11 rfl (by decide) rfl ?_
    refine g_bipush C dX6_may_12 (v := -9) (by decide) ?_
    refine g_istore_n C (lv2 := [(3, _), (2, _), (0, _), (1, _)]) dX6_may_14 rfl (by decide) rfl ?_
    refine g_iconst C dX6_may_15 (v := 0) (by decide) ?_
    refine g_istore C (lv2 := [(4, _), (3, _), (2, _), (0, _), (1, _)]) dX6_may_16 (by decide) rfl ?_
    exact g_sub [3, 4, 2, 1, 0] rfl (L_18 FU (0 : Int32) (-9 : Int32) (0 : Int32) M hq)
  · have hq := ip c27 hq
    refine g_bipush C dX6_may_7 (v := -2) (by decide) ?_
    exact g_iret C dX6_may_9 (som2 hq).1 (congrArg (wC a cI cS) (som2 hq).2)
