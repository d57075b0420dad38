theorem dX7_rainsBy_52 : decode cX7_rainsBy 52 = .ok (.iload_n 2, 1) := by decide +kernel
theorem dX7_rainsBy_53 : decode cX7_rainsBy 53 = .ok (.istore 5, 2) := by decide +kernel
theorem dX7_rainsBy_55 : decode cX7_rainsBy 55 = .ok (.iload_n 3, 1) := by decide +kernel
theorem dX7_rainsBy_56 : decode cX7_rainsBy 56 = .ok (.iload_n 1, 1) := by decide +kernel
theorem dX7_rainsBy_57 : decode cX7_rainsBy 57 = .ok (.if_icmp .ne 14, 3) := by decide +kernel
theorem dX7_rainsBy_60 : decode cX7_rainsBy 60 = .ok (.iload 4, 2) := by decide +kernel
theorem dX7_rainsBy_62 : decode cX7_rainsBy 62 = .ok (.iload 5, 2) := by decide +kernel
theorem dX7_rainsBy_64 : decode cX7_rainsBy 64 = .ok (.if_icmp .ge 7, 3) := by decide +kernel
theorem dX7_rainsBy_67 : decode cX7_rainsBy 67 = .ok (.iconst 1, 1) := by decide +kernel
theorem dX7_rainsBy_68 : decode cX7_rainsBy 68 = .ok (.goto 4, 3) := by decide +kernel
theorem dX7_rainsBy_71 : decode cX7_rainsBy 71 = .ok (.iconst 0, 1) := by decide +kernel
theorem dX7_rainsBy_72 : decode cX7_rainsBy 72 = .ok (.ireturn, 1) := by decide +kernel
theorem dX7_findMay_0 : decode cX7_findMay 0 = .ok (.aload_n 0, 1) := by decide +kernel
theorem dX7_findMay_1 : decode cX7_findMay 1 = .ok (.iconst 0, 1) := by decide +kernel
theorem dX7_findMay_2 : decode cX7_findMay 2 = .ok (.putfield 211, 3) := by decide +kernel
theorem dX7_findMay_5 : decode cX7_findMay 5 = .ok (.aload_n 0, 1) := by decide +kernel
theorem dX7_findMay_6 : decode cX7_findMay 6 = .ok (.bipush (-9), 2) := by decide +kernel
theorem dX7_findMay_8 : decode cX7_findMay 8 = .ok (.putfield 214, 3) := by decide +kernel
theorem dX7_findMay_11 : decode cX7_findMay 11 = .ok (.iconst 0, 1) := by decide +kernel
theorem dX7_findMay_12 : decode cX7_findMay 12 = .ok (.istore_n 1, 1) := by decide +kernel
theorem dX7_findMay_13 : decode cX7_findMay 13 = .ok (.iload_n 1, 1) := by decide +kernel
theorem dX7_findMay_14 : decode cX7_findMay 14 = .ok (.sipush 144, 3) := by decide +kernel
theorem dX7_findMay_17 : decode cX7_findMay 17 = .ok (.if_icmp .ge 157, 3) := by decide +kernel
theorem dX7_findMay_20 : decode cX7_findMay 20 = .ok (.iload_n 1, 1) := by decide +kernel
theorem dX7_findMay_21 : decode cX7_findMay 21 = .ok (.bipush 36, 2) := by decide +kernel
theorem dX7_findMay_23 : decode cX7_findMay 23 = .ok (.idiv, 1) := by decide +kernel
theorem dX7_findMay_24 : decode cX7_findMay 24 = .ok (.istore_n 2, 1) := by decide +kernel
theorem dX7_findMay_25 : decode cX7_findMay 25 = .ok (.iload_n 1, 1) := by decide +kernel
theorem dX7_findMay_26 : decode cX7_findMay 26 = .ok (.bipush 6, 2) := by decide +kernel
theorem dX7_findMay_28 : decode cX7_findMay 28 = .ok (.idiv, 1) := by decide +kernel
theorem dX7_findMay_29 : decode cX7_findMay 29 = .ok (.bipush 6, 2) := by decide +kernel
theorem dX7_findMay_31 : decode cX7_findMay 31 = .ok (.irem, 1) := by decide +kernel
theorem dX7_findMay_32 : decode cX7_findMay 32 = .ok (.istore_n 3, 1) := by decide +kernel
theorem dX7_findMay_33 : decode cX7_findMay 33 = .ok (.iconst 1, 1) := by decide +kernel
theorem dX7_findMay_34 : decode cX7_findMay 34 = .ok (.iload_n 1, 1) := by decide +kernel
theorem dX7_findMay_35 : decode cX7_findMay 35 = .ok (.bipush 6, 2) := by decide +kernel
theorem dX7_findMay_37 : decode cX7_findMay 37 = .ok (.irem, 1) := by decide +kernel
theorem dX7_findMay_38 : decode cX7_findMay 38 = .ok (.iadd, 1) := by decide +kernel
theorem dX7_findMay_39 : decode cX7_findMay 39 = .ok (.istore 4, 2) := by decide +kernel
theorem dX7_findMay_41 : decode cX7_findMay 41 = .ok (.iconst 1, 1) := by decide +kernel
theorem dX7_findMay_42 : decode cX7_findMay 42 = .ok (.istore 5, 2) := by decide +kernel
theorem dX7_findMay_44 : decode cX7_findMay 44 = .ok (.iconst 0, 1) := by decide +kernel
theorem dX7_findMay_45 : decode cX7_findMay 45 = .ok (.istore 6, 2) := by decide +kernel
theorem dX7_findMay_47 : decode cX7_findMay 47 = .ok (.iload 6, 2) := by decide +kernel
theorem dX7_findMay_49 : decode cX7_findMay 49 = .ok (.aload_n 0, 1) := by decide +kernel
theorem dX7_findMay_50 : decode cX7_findMay 50 = .ok (.getfield 135, 3) := by decide +kernel
theorem dX7_findMay_53 : decode cX7_findMay 53 = .ok (.if_icmp .ge 61, 3) := by decide +kernel
theorem dX7_findMay_56 : decode cX7_findMay 56 = .ok (.iload 5, 2) := by decide +kernel
theorem dX7_findMay_58 : decode cX7_findMay 58 = .ok (.ifCond .eq 47, 3) := by decide +kernel
theorem dX7_findMay_61 : decode cX7_findMay 61 = .ok (.iload_n 2, 1) := by decide +kernel
theorem dX7_findMay_62 : decode cX7_findMay 62 = .ok (.iload_n 3, 1) := by decide +kernel
theorem dX7_findMay_63 : decode cX7_findMay 63 = .ok (.iload 4, 2) := by decide +kernel
theorem dX7_findMay_65 : decode cX7_findMay 65 = .ok (.aload_n 0, 1) := by decide +kernel
theorem dX7_findMay_66 : decode cX7_findMay 66 = .ok (.getfield 41, 3) := by decide +kernel
theorem dX7_findMay_69 : decode cX7_findMay 69 = .ok (.iload 6, 2) := by decide +kernel
theorem dX7_findMay_71 : decode cX7_findMay 71 = .ok (.iaload, 1) := by decide +kernel
theorem dX7_findMay_72 : decode cX7_findMay 72 = .ok (.aload_n 0, 1) := by decide +kernel
theorem dX7_findMay_73 : decode cX7_findMay 73 = .ok (.getfield 44, 3) := by decide +kernel
theorem dX7_findMay_76 : decode cX7_findMay 76 = .ok (.iload 6, 2) := by decide +kernel
theorem dX7_findMay_78 : decode cX7_findMay 78 = .ok (.iaload, 1) := by decide +kernel
theorem dX7_findMay_79 : decode cX7_findMay 79 = .ok (.invokestatic 217, 3) := by decide +kernel
theorem dX7_findMay_82 : decode cX7_findMay 82 = .ok (.aload_n 0, 1) := by decide +kernel
theorem dX7_findMay_83 : decode cX7_findMay 83 = .ok (.getfield 47, 3) := by decide +kernel
theorem dX7_findMay_86 : decode cX7_findMay 86 = .ok (.iload 6, 2) := by decide +kernel
theorem dX7_findMay_88 : decode cX7_findMay 88 = .ok (.iaload, 1) := by decide +kernel
theorem dX7_findMay_89 : decode cX7_findMay 89 = .ok (.iconst 1, 1) := by decide +kernel
theorem dX7_findMay_90 : decode cX7_findMay 90 = .ok (.if_icmp .ne 7, 3) := by decide +kernel
theorem dX7_findMay_93 : decode cX7_findMay 93 = .ok (.iconst 1, 1) := by decide +kernel
theorem dX7_findMay_94 : decode cX7_findMay 94 = .ok (.goto 4, 3) := by decide +kernel
theorem dX7_findMay_97 : decode cX7_findMay 97 = .ok (.iconst 0, 1) := by decide +kernel
theorem dX7_findMay_98 : decode cX7_findMay 98 = .ok (.if_icmp .ne 7, 3) := by decide +kernel
theorem dX7_findMay_101 : decode cX7_findMay 101 = .ok (.iconst 1, 1) := by decide +kernel
theorem dX7_findMay_102 : decode cX7_findMay 102 = .ok (.goto 4, 3) := by decide +kernel
theorem dX7_findMay_105 : decode cX7_findMay 105 = .ok (.iconst 0, 1) := by decide +kernel
theorem dX7_findMay_106 : decode cX7_findMay 106 = .ok (.istore 5, 2) := by decide +kernel
theorem dX7_findMay_108 : decode cX7_findMay 108 = .ok (.iinc 6 1, 3) := by decide +kernel
theorem dX7_findMay_111 : decode cX7_findMay 111 = .ok (.goto (-64), 3) := by decide +kernel
theorem dX7_findMay_114 : decode cX7_findMay 114 = .ok (.aload_n 0, 1) := by decide +kernel
theorem dX7_findMay_115 : decode cX7_findMay 115 = .ok (.iload 5, 2) := by decide +kernel
theorem dX7_findMay_117 : decode cX7_findMay 117 = .ok (.ifCond .eq 25, 3) := by decide +kernel
theorem dX7_findMay_120 : decode cX7_findMay 120 = .ok (.aload_n 0, 1) := by decide +kernel
theorem dX7_findMay_121 : decode cX7_findMay 121 = .ok (.getfield 211, 3) := by decide +kernel
theorem dX7_findMay_124 : decode cX7_findMay 124 = .ok (.ifCond .ne 18, 3) := by decide +kernel
theorem dX7_findMay_127 : decode cX7_findMay 127 = .ok (.bipush 100, 2) := by decide +kernel
theorem dX7_findMay_129 : decode cX7_findMay 129 = .ok (.iload_n 2, 1) := by decide +kernel
theorem dX7_findMay_130 : decode cX7_findMay 130 = .ok (.imul, 1) := by decide +kernel
theorem dX7_findMay_131 : decode cX7_findMay 131 = .ok (.bipush 10, 2) := by decide +kernel
theorem dX7_findMay_133 : decode cX7_findMay 133 = .ok (.iload_n 3, 1) := by decide +kernel
theorem dX7_findMay_134 : decode cX7_findMay 134 = .ok (.imul, 1) := by decide +kernel
theorem dX7_findMay_135 : decode cX7_findMay 135 = .ok (.iadd, 1) := by decide +kernel
theorem dX7_findMay_136 : decode cX7_findMay 136 = .ok (.iload 4, 2) := by decide +kernel
theorem dX7_findMay_138 : decode cX7_findMay 138 = .ok (.iadd, 1) := by decide +kernel
theorem dX7_findMay_139 : decode cX7_findMay 139 = .ok (.goto 7, 3) := by decide +kernel
theorem dX7_findMay_142 : decode cX7_findMay 142 = .ok (.aload_n 0, 1) := by decide +kernel
theorem dX7_findMay_143 : decode cX7_findMay 143 = .ok (.getfield 214, 3) := by decide +kernel
theorem dX7_findMay_146 : decode cX7_findMay 146 = .ok (.putfield 214, 3) := by decide +kernel
theorem dX7_findMay_149 : decode cX7_findMay 149 = .ok (.aload_n 0, 1) := by decide +kernel
theorem dX7_findMay_150 : decode cX7_findMay 150 = .ok (.dup, 1) := by decide +kernel
theorem dX7_findMay_151 : decode cX7_findMay 151 = .ok (.getfield 211, 3) := by decide +kernel
theorem dX7_findMay_154 : decode cX7_findMay 154 = .ok (.iload 5, 2) := by decide +kernel
theorem dX7_findMay_156 : decode cX7_findMay 156 = .ok (.ifCond .eq 7, 3) := by decide +kernel
theorem dX7_findMay_159 : decode cX7_findMay 159 = .ok (.iconst 1, 1) := by decide +kernel
theorem dX7_findMay_160 : decode cX7_findMay 160 = .ok (.goto 4, 3) := by decide +kernel
theorem dX7_findMay_163 : decode cX7_findMay 163 = .ok (.iconst 0, 1) := by decide +kernel
theorem dX7_findMay_164 : decode cX7_findMay 164 = .ok (.iadd, 1) := by decide +kernel
theorem dX7_findMay_165 : decode cX7_findMay 165 = .ok (.putfield 211, 3) := by decide +kernel
theorem dX7_findMay_168 : decode cX7_findMay 168 = .ok (.iinc 1 1, 3) := by decide +kernel
theorem dX7_findMay_171 : decode cX7_findMay 171 = .ok (.goto (-158), 3) := by decide +kernel
theorem dX7_findMay_174 : decode cX7_findMay 174 = .ok (.return_, 1) := by decide +kernel
theorem dX7_may_0 : decode cX7_may 0 = .ok (.aload_n 0, 1) := by decide +kernel
theorem dX7_may_1 : decode cX7_may 1 = .ok (.iconst 0, 1) := by decide +kernel
theorem dX7_may_2 : decode cX7_may 2 = .ok (.putfield 56, 3) := by decide +kernel
theorem dX7_may_5 : decode cX7_may 5 = .ok (.iload_n 1, 1) := by decide +kernel
theorem dX7_may_6 : decode cX7_may 6 = .ok (.i2l, 1) := by decide +kernel
theorem dX7_may_7 : decode cX7_may 7 = .ok (.lconst 0, 1) := by decide +kernel
theorem dX7_may_8 : decode cX7_may 8 = .ok (.lconst 1, 1) := by decide +kernel
theorem dX7_may_9 : decode cX7_may 9 = .ok (.invokestatic 63, 3) := by decide +kernel
theorem dX7_may_12 : decode cX7_may 12 = .ok (.ifCond .ne 6, 3) := by decide +kernel
theorem dX7_may_15 : decode cX7_may 15 = .ok (.bipush (-2), 2) := by decide +kernel
theorem dX7_may_17 : decode cX7_may 17 = .ok (.ireturn, 1) := by decide +kernel
theorem dX7_may_18 : decode cX7_may 18 = .ok (.aload_n 0, 1) := by decide +kernel
theorem dX7_may_19 : decode cX7_may 19 = .ok (.invokevirtual 221, 3) := by decide +kernel
theorem dX7_may_22 : decode cX7_may 22 = .ok (.iload_n 1, 1) := by decide +kernel
theorem dX7_may_23 : decode cX7_may 23 = .ok (.ifCond .ne 10, 3) := by decide +kernel
theorem dX7_may_26 : decode cX7_may 26 = .ok (.aload_n 0, 1) := by decide +kernel
theorem dX7_may_27 : decode cX7_may 27 = .ok (.getfield 211, 3) := by decide +kernel
theorem dX7_may_30 : decode cX7_may 30 = .ok (.goto 7, 3) := by decide +kernel
theorem dX7_may_33 : decode cX7_may 33 = .ok (.aload_n 0, 1) := by decide +kernel
theorem dX7_may_34 : decode cX7_may 34 = .ok (.getfield 214, 3) := by decide +kernel
theorem dX7_may_37 : decode cX7_may 37 = .ok (.ireturn, 1) := by decide +kernel
theorem dX7_gainOf_0 : decode cX7_gainOf 0 = .ok (.aload_n 0, 1) := by decide +kernel
theorem dX7_gainOf_1 : decode cX7_gainOf 1 = .ok (.aload_n 0, 1) := by decide +kernel
theorem dX7_gainOf_2 : decode cX7_gainOf 2 = .ok (.getfield 28, 3) := by decide +kernel
theorem dX7_gainOf_5 : decode cX7_gainOf 5 = .ok (.invokevirtual 122, 3) := by decide +kernel
theorem dX7_gainOf_8 : decode cX7_gainOf 8 = .ok (.aload_n 0, 1) := by decide +kernel
theorem dX7_gainOf_9 : decode cX7_gainOf 9 = .ok (.getfield 28, 3) := by decide +kernel
theorem dX7_gainOf_12 : decode cX7_gainOf 12 = .ok (.iload_n 1, 1) := by decide +kernel
theorem dX7_gainOf_13 : decode cX7_gainOf 13 = .ok (.iaload, 1) := by decide +kernel
theorem dX7_gainOf_14 : decode cX7_gainOf 14 = .ok (.invokestatic 107, 3) := by decide +kernel
theorem dX7_gainOf_17 : decode cX7_gainOf 17 = .ok (.ifCond .eq 8, 3) := by decide +kernel
theorem dX7_gainOf_20 : decode cX7_gainOf 20 = .ok (.bipush (-3), 2) := by decide +kernel
theorem dX7_gainOf_22 : decode cX7_gainOf 22 = .ok (.goto 28, 3) := by decide +kernel
theorem dX7_gainOf_25 : decode cX7_gainOf 25 = .ok (.aload_n 0, 1) := by decide +kernel
theorem dX7_gainOf_26 : decode cX7_gainOf 26 = .ok (.aload_n 0, 1) := by decide +kernel
theorem dX7_gainOf_27 : decode cX7_gainOf 27 = .ok (.getfield 28, 3) := by decide +kernel
theorem dX7_gainOf_30 : decode cX7_gainOf 30 = .ok (.invokevirtual 118, 3) := by decide +kernel
theorem dX7_gainOf_33 : decode cX7_gainOf 33 = .ok (.aload_n 0, 1) := by decide +kernel
theorem dX7_gainOf_34 : decode cX7_gainOf 34 = .ok (.getfield 28, 3) := by decide +kernel
theorem dX7_gainOf_37 : decode cX7_gainOf 37 = .ok (.iload_n 1, 1) := by decide +kernel
theorem dX7_gainOf_38 : decode cX7_gainOf 38 = .ok (.iaload, 1) := by decide +kernel
theorem dX7_gainOf_39 : decode cX7_gainOf 39 = .ok (.invokestatic 107, 3) := by decide +kernel
theorem dX7_gainOf_42 : decode cX7_gainOf 42 = .ok (.ifCond .eq 7, 3) := by decide +kernel
theorem dX7_gainOf_45 : decode cX7_gainOf 45 = .ok (.iconst 2, 1) := by decide +kernel
theorem dX7_gainOf_46 : decode cX7_gainOf 46 = .ok (.goto 4, 3) := by decide +kernel
theorem dX7_gainOf_49 : decode cX7_gainOf 49 = .ok (.iconst 0, 1) := by decide +kernel
theorem dX7_gainOf_50 : decode cX7_gainOf 50 = .ok (.istore_n 3, 1) := by decide +kernel
theorem dX7_gainOf_51 : decode cX7_gainOf 51 = .ok (.iload_n 2, 1) := by decide +kernel
theorem dX7_gainOf_52 : decode cX7_gainOf 52 = .ok (.ifCond .eq 9, 3) := by decide +kernel
theorem dX7_gainOf_55 : decode cX7_gainOf 55 = .ok (.iload_n 3, 1) := by decide +kernel
theorem dX7_gainOf_56 : decode cX7_gainOf 56 = .ok (.iconst 1, 1) := by decide +kernel
theorem dX7_gainOf_57 : decode cX7_gainOf 57 = .ok (.isub, 1) := by decide +kernel
theorem dX7_gainOf_58 : decode cX7_gainOf 58 = .ok (.goto 4, 3) := by decide +kernel
theorem dX7_gainOf_61 : decode cX7_gainOf 61 = .ok (.iload_n 3, 1) := by decide +kernel
theorem dX7_gainOf_62 : decode cX7_gainOf 62 = .ok (.ireturn, 1) := by decide +kernel
theorem dX7_rests_0 : decode cX7_rests 0 = .ok (.aload_n 0, 1) := by decide +kernel
theorem dX7_rests_1 : decode cX7_rests 1 = .ok (.iconst 0, 1) := by decide +kernel
theorem dX7_rests_2 : decode cX7_rests 2 = .ok (.putfield 56, 3) := by decide +kernel
theorem dX7_rests_5 : decode cX7_rests 5 = .ok (.aload_n 0, 1) := by decide +kernel
theorem dX7_rests_6 : decode cX7_rests 6 = .ok (.iload_n 1, 1) := by decide +kernel
theorem dX7_rests_7 : decode cX7_rests 7 = .ok (.invokevirtual 138, 3) := by decide +kernel
theorem dX7_rests_10 : decode cX7_rests 10 = .ok (.ifCond .ne 11, 3) := by decide +kernel
theorem dX7_rests_13 : decode cX7_rests 13 = .ok (.aload_n 0, 1) := by decide +kernel
theorem dX7_rests_14 : decode cX7_rests 14 = .ok (.iload_n 2, 1) := by decide +kernel
theorem dX7_rests_15 : decode cX7_rests 15 = .ok (.invokevirtual 138, 3) := by decide +kernel
theorem dX7_rests_18 : decode cX7_rests 18 = .ok (.ifCond .eq 5, 3) := by decide +kernel
theorem dX7_rests_21 : decode cX7_rests 21 = .ok (.iconst (-1), 1) := by decide +kernel
theorem dX7_rests_22 : decode cX7_rests 22 = .ok (.ireturn, 1) := by decide +kernel
theorem dX7_rests_23 : decode cX7_rests 23 = .ok (.iload_n 1, 1) := by decide +kernel
theorem dX7_rests_24 : decode cX7_rests 24 = .ok (.iload_n 2, 1) := by decide +kernel
theorem dX7_rests_25 : decode cX7_rests 25 = .ok (.if_icmp .eq 13, 3) := by decide +kernel
theorem dX7_rests_28 : decode cX7_rests 28 = .ok (.iload_n 3, 1) := by decide +kernel
theorem dX7_rests_29 : decode cX7_rests 29 = .ok (.i2l, 1) := by decide +kernel
theorem dX7_rests_30 : decode cX7_rests 30 = .ok (.lconst 0, 1) := by decide +kernel
theorem dX7_rests_31 : decode cX7_rests 31 = .ok (.lconst 1, 1) := by decide +kernel
theorem dX7_rests_32 : decode cX7_rests 32 = .ok (.invokestatic 63, 3) := by decide +kernel
theorem dX7_rests_35 : decode cX7_rests 35 = .ok (.ifCond .ne 6, 3) := by decide +kernel
theorem dX7_rests_38 : decode cX7_rests 38 = .ok (.bipush (-2), 2) := by decide +kernel
theorem dX7_rests_40 : decode cX7_rests 40 = .ok (.ireturn, 1) := by decide +kernel
theorem dX7_rests_41 : decode cX7_rests 41 = .ok (.aload_n 0, 1) := by decide +kernel
theorem dX7_rests_42 : decode cX7_rests 42 = .ok (.getfield 25, 3) := by decide +kernel
theorem dX7_rests_45 : decode cX7_rests 45 = .ok (.iconst 5, 1) := by decide +kernel
theorem dX7_rests_46 : decode cX7_rests 46 = .ok (.iaload, 1) := by decide +kernel
theorem dX7_rests_47 : decode cX7_rests 47 = .ok (.iload_n 1, 1) := by decide +kernel
theorem dX7_rests_48 : decode cX7_rests 48 = .ok (.invokestatic 107, 3) := by decide +kernel
theorem dX7_rests_51 : decode cX7_rests 51 = .ok (.ifCond .ne 16, 3) := by decide +kernel
theorem dX7_rests_54 : decode cX7_rests 54 = .ok (.aload_n 0, 1) := by decide +kernel
theorem dX7_rests_55 : decode cX7_rests 55 = .ok (.getfield 25, 3) := by decide +kernel
theorem dX7_rests_58 : decode cX7_rests 58 = .ok (.iconst 5, 1) := by decide +kernel
theorem dX7_rests_59 : decode cX7_rests 59 = .ok (.iaload, 1) := by decide +kernel
theorem dX7_rests_60 : decode cX7_rests 60 = .ok (.iload_n 2, 1) := by decide +kernel
theorem dX7_rests_61 : decode cX7_rests 61 = .ok (.invokestatic 107, 3) := by decide +kernel
theorem dX7_rests_64 : decode cX7_rests 64 = .ok (.ifCond .eq 6, 3) := by decide +kernel
theorem dX7_rests_67 : decode cX7_rests 67 = .ok (.bipush (-3), 2) := by decide +kernel
theorem dX7_rests_69 : decode cX7_rests 69 = .ok (.ireturn, 1) := by decide +kernel
theorem dX7_rests_70 : decode cX7_rests 70 = .ok (.iconst 0, 1) := by decide +kernel
theorem dX7_rests_71 : decode cX7_rests 71 = .ok (.istore 4, 2) := by decide +kernel
theorem dX7_rests_73 : decode cX7_rests 73 = .ok (.iload 4, 2) := by decide +kernel
theorem dX7_rests_75 : decode cX7_rests 75 = .ok (.iconst 4, 1) := by decide +kernel
theorem dX7_rests_76 : decode cX7_rests 76 = .ok (.if_icmp .ge 100, 3) := by decide +kernel
theorem dX7_rests_79 : decode cX7_rests 79 = .ok (.aload_n 0, 1) := by decide +kernel
theorem dX7_rests_80 : decode cX7_rests 80 = .ok (.invokevirtual 163, 3) := by decide +kernel
theorem dX7_rests_83 : decode cX7_rests 83 = .ok (.aload_n 0, 1) := by decide +kernel
theorem dX7_rests_84 : decode cX7_rests 84 = .ok (.iload 4, 2) := by decide +kernel
theorem dX7_rests_86 : decode cX7_rests 86 = .ok (.iconst 1, 1) := by decide +kernel
theorem dX7_rests_87 : decode cX7_rests 87 = .ok (.if_icmp .le 9, 3) := by decide +kernel
theorem dX7_rests_90 : decode cX7_rests 90 = .ok (.iconst 1, 1) := by decide +kernel
theorem dX7_rests_91 : decode cX7_rests 91 = .ok (.iload_n 1, 1) := by decide +kernel
theorem dX7_rests_92 : decode cX7_rests 92 = .ok (.ishl, 1) := by decide +kernel
theorem dX7_rests_93 : decode cX7_rests 93 = .ok (.goto 4, 3) := by decide +kernel
theorem dX7_rests_96 : decode cX7_rests 96 = .ok (.iconst 0, 1) := by decide +kernel
theorem dX7_rests_97 : decode cX7_rests 97 = .ok (.iload 4, 2) := by decide +kernel
theorem dX7_rests_99 : decode cX7_rests 99 = .ok (.iconst 2, 1) := by decide +kernel
theorem dX7_rests_100 : decode cX7_rests 100 = .ok (.irem, 1) := by decide +kernel
theorem dX7_rests_101 : decode cX7_rests 101 = .ok (.iconst 1, 1) := by decide +kernel
theorem dX7_rests_102 : decode cX7_rests 102 = .ok (.if_icmp .ne 9, 3) := by decide +kernel
theorem dX7_rests_105 : decode cX7_rests 105 = .ok (.iconst 1, 1) := by decide +kernel
theorem dX7_rests_106 : decode cX7_rests 106 = .ok (.iload_n 2, 1) := by decide +kernel
theorem dX7_rests_107 : decode cX7_rests 107 = .ok (.ishl, 1) := by decide +kernel
theorem dX7_rests_108 : decode cX7_rests 108 = .ok (.goto 4, 3) := by decide +kernel
theorem dX7_rests_111 : decode cX7_rests 111 = .ok (.iconst 0, 1) := by decide +kernel
theorem dX7_rests_112 : decode cX7_rests 112 = .ok (.ior, 1) := by decide +kernel
theorem dX7_rests_113 : decode cX7_rests 113 = .ok (.invokevirtual 180, 3) := by decide +kernel
theorem dX7_rests_116 : decode cX7_rests 116 = .ok (.aload_n 0, 1) := by decide +kernel
theorem dX7_rests_117 : decode cX7_rests 117 = .ok (.getfield 50, 3) := by decide +kernel
theorem dX7_rests_120 : decode cX7_rests 120 = .ok (.iconst 2, 1) := by decide +kernel
theorem dX7_rests_121 : decode cX7_rests 121 = .ok (.iload 4, 2) := by decide +kernel
theorem dX7_rests_123 : decode cX7_rests 123 = .ok (.imul, 1) := by decide +kernel
theorem dX7_rests_124 : decode cX7_rests 124 = .ok (.aload_n 0, 1) := by decide +kernel
theorem dX7_rests_125 : decode cX7_rests 125 = .ok (.iload_n 1, 1) := by decide +kernel
theorem dX7_rests_126 : decode cX7_rests 126 = .ok (.iload 4, 2) := by decide +kernel
theorem dX7_rests_128 : decode cX7_rests 128 = .ok (.iconst 1, 1) := by decide +kernel
theorem dX7_rests_129 : decode cX7_rests 129 = .ok (.if_icmp .le 7, 3) := by decide +kernel
theorem dX7_rests_132 : decode cX7_rests 132 = .ok (.iconst 1, 1) := by decide +kernel
theorem dX7_rests_133 : decode cX7_rests 133 = .ok (.goto 4, 3) := by decide +kernel
theorem dX7_rests_136 : decode cX7_rests 136 = .ok (.iconst 0, 1) := by decide +kernel
theorem dX7_rests_137 : decode cX7_rests 137 = .ok (.invokevirtual 224, 3) := by decide +kernel
theorem dX7_rests_140 : decode cX7_rests 140 = .ok (.iastore, 1) := by decide +kernel
theorem dX7_rests_141 : decode cX7_rests 141 = .ok (.aload_n 0, 1) := by decide +kernel
theorem dX7_rests_142 : decode cX7_rests 142 = .ok (.getfield 50, 3) := by decide +kernel
theorem dX7_rests_145 : decode cX7_rests 145 = .ok (.iconst 2, 1) := by decide +kernel
theorem dX7_rests_146 : decode cX7_rests 146 = .ok (.iload 4, 2) := by decide +kernel
theorem dX7_rests_148 : decode cX7_rests 148 = .ok (.imul, 1) := by decide +kernel
theorem dX7_rests_149 : decode cX7_rests 149 = .ok (.iconst 1, 1) := by decide +kernel
theorem dX7_rests_150 : decode cX7_rests 150 = .ok (.iadd, 1) := by decide +kernel
theorem dX7_rests_151 : decode cX7_rests 151 = .ok (.aload_n 0, 1) := by decide +kernel
theorem dX7_rests_152 : decode cX7_rests 152 = .ok (.iload_n 2, 1) := by decide +kernel
theorem dX7_rests_153 : decode cX7_rests 153 = .ok (.iload 4, 2) := by decide +kernel
theorem dX7_rests_155 : decode cX7_rests 155 = .ok (.iconst 2, 1) := by decide +kernel
theorem dX7_rests_156 : decode cX7_rests 156 = .ok (.irem, 1) := by decide +kernel
theorem dX7_rests_157 : decode cX7_rests 157 = .ok (.iconst 1, 1) := by decide +kernel
theorem dX7_rests_158 : decode cX7_rests 158 = .ok (.if_icmp .ne 7, 3) := by decide +kernel
theorem dX7_rests_161 : decode cX7_rests 161 = .ok (.iconst 1, 1) := by decide +kernel
theorem dX7_rests_162 : decode cX7_rests 162 = .ok (.goto 4, 3) := by decide +kernel
theorem dX7_rests_165 : decode cX7_rests 165 = .ok (.iconst 0, 1) := by decide +kernel
theorem dX7_rests_166 : decode cX7_rests 166 = .ok (.invokevirtual 224, 3) := by decide +kernel
theorem dX7_rests_169 : decode cX7_rests 169 = .ok (.iastore, 1) := by decide +kernel
theorem dX7_rests_170 : decode cX7_rests 170 = .ok (.iinc 4 1, 3) := by decide +kernel
theorem dX7_rests_173 : decode cX7_rests 173 = .ok (.goto (-100), 3) := by decide +kernel
theorem dX7_rests_176 : decode cX7_rests 176 = .ok (.aload_n 0, 1) := by decide +kernel
theorem dX7_rests_177 : decode cX7_rests 177 = .ok (.iconst 0, 1) := by decide +kernel
theorem dX7_rests_178 : decode cX7_rests 178 = .ok (.putfield 228, 3) := by decide +kernel
theorem dX7_rests_181 : decode cX7_rests 181 = .ok (.aload_n 0, 1) := by decide +kernel
theorem dX7_rests_182 : decode cX7_rests 182 = .ok (.bipush (-9), 2) := by decide +kernel
theorem dX7_rests_184 : decode cX7_rests 184 = .ok (.putfield 231, 3) := by decide +kernel
theorem dX7_rests_187 : decode cX7_rests 187 = .ok (.iconst 0, 1) := by decide +kernel
theorem dX7_rests_188 : decode cX7_rests 188 = .ok (.istore 4, 2) := by decide +kernel
theorem dX7_rests_190 : decode cX7_rests 190 = .ok (.iload 4, 2) := by decide +kernel
theorem dX7_rests_192 : decode cX7_rests 192 = .ok (.iconst 4, 1) := by decide +kernel
theorem dX7_rests_193 : decode cX7_rests 193 = .ok (.if_icmp .ge 120, 3) := by decide +kernel
theorem dX7_rests_196 : decode cX7_rests 196 = .ok (.aload_n 0, 1) := by decide +kernel
theorem dX7_rests_197 : decode cX7_rests 197 = .ok (.getfield 50, 3) := by decide +kernel
theorem dX7_rests_200 : decode cX7_rests 200 = .ok (.iconst 2, 1) := by decide +kernel
theorem dX7_rests_201 : decode cX7_rests 201 = .ok (.iload 4, 2) := by decide +kernel
theorem dX7_rests_203 : decode cX7_rests 203 = .ok (.iconst 2, 1) := by decide +kernel
theorem dX7_rests_204 : decode cX7_rests 204 = .ok (.ixor, 1) := by decide +kernel
theorem dX7_rests_205 : decode cX7_rests 205 = .ok (.imul, 1) := by decide +kernel
theorem dX7_rests_206 : decode cX7_rests 206 = .ok (.iaload, 1) := by decide +kernel
theorem dX7_rests_207 : decode cX7_rests 207 = .ok (.aload_n 0, 1) := by decide +kernel
theorem dX7_rests_208 : decode cX7_rests 208 = .ok (.getfield 50, 3) := by decide +kernel
theorem dX7_rests_211 : decode cX7_rests 211 = .ok (.iconst 2, 1) := by decide +kernel
theorem dX7_rests_212 : decode cX7_rests 212 = .ok (.iload 4, 2) := by decide +kernel
theorem dX7_rests_214 : decode cX7_rests 214 = .ok (.imul, 1) := by decide +kernel
theorem dX7_rests_215 : decode cX7_rests 215 = .ok (.iaload, 1) := by decide +kernel
theorem dX7_rests_216 : decode cX7_rests 216 = .ok (.if_icmp .gt 34, 3) := by decide +kernel
theorem dX7_rests_219 : decode cX7_rests 219 = .ok (.aload_n 0, 1) := by decide +kernel
theorem dX7_rests_220 : decode cX7_rests 220 = .ok (.getfield 50, 3) := by decide +kernel
theorem dX7_rests_223 : decode cX7_rests 223 = .ok (.iconst 2, 1) := by decide +kernel
theorem dX7_rests_224 : decode cX7_rests 224 = .ok (.iload 4, 2) := by decide +kernel
theorem dX7_rests_226 : decode cX7_rests 226 = .ok (.iconst 1, 1) := by decide +kernel
theorem dX7_rests_227 : decode cX7_rests 227 = .ok (.ixor, 1) := by decide +kernel
theorem dX7_rests_228 : decode cX7_rests 228 = .ok (.imul, 1) := by decide +kernel
theorem dX7_rests_229 : decode cX7_rests 229 = .ok (.iconst 1, 1) := by decide +kernel
theorem dX7_rests_230 : decode cX7_rests 230 = .ok (.iadd, 1) := by decide +kernel
theorem dX7_rests_231 : decode cX7_rests 231 = .ok (.iaload, 1) := by decide +kernel
theorem dX7_rests_232 : decode cX7_rests 232 = .ok (.aload_n 0, 1) := by decide +kernel
theorem dX7_rests_233 : decode cX7_rests 233 = .ok (.getfield 50, 3) := by decide +kernel
theorem dX7_rests_236 : decode cX7_rests 236 = .ok (.iconst 2, 1) := by decide +kernel
theorem dX7_rests_237 : decode cX7_rests 237 = .ok (.iload 4, 2) := by decide +kernel
theorem dX7_rests_239 : decode cX7_rests 239 = .ok (.imul, 1) := by decide +kernel
theorem dX7_rests_240 : decode cX7_rests 240 = .ok (.iconst 1, 1) := by decide +kernel
theorem dX7_rests_241 : decode cX7_rests 241 = .ok (.iadd, 1) := by decide +kernel
theorem dX7_rests_242 : decode cX7_rests 242 = .ok (.iaload, 1) := by decide +kernel
theorem dX7_rests_243 : decode cX7_rests 243 = .ok (.if_icmp .gt 7, 3) := by decide +kernel
theorem dX7_rests_246 : decode cX7_rests 246 = .ok (.iconst 1, 1) := by decide +kernel
theorem dX7_rests_247 : decode cX7_rests 247 = .ok (.goto 4, 3) := by decide +kernel
theorem dX7_rests_250 : decode cX7_rests 250 = .ok (.iconst 0, 1) := by decide +kernel
theorem dX7_rests_251 : decode cX7_rests 251 = .ok (.istore 5, 2) := by decide +kernel
theorem dX7_rests_253 : decode cX7_rests 253 = .ok (.aload_n 0, 1) := by decide +kernel
theorem dX7_rests_254 : decode cX7_rests 254 = .ok (.iload 5, 2) := by decide +kernel
theorem dX7_rests_256 : decode cX7_rests 256 = .ok (.ifCond .eq 25, 3) := by decide +kernel
theorem dX7_rests_259 : decode cX7_rests 259 = .ok (.aload_n 0, 1) := by decide +kernel
theorem dX7_rests_260 : decode cX7_rests 260 = .ok (.getfield 228, 3) := by decide +kernel
theorem dX7_rests_263 : decode cX7_rests 263 = .ok (.ifCond .ne 18, 3) := by decide +kernel
theorem dX7_rests_266 : decode cX7_rests 266 = .ok (.bipush 10, 2) := by decide +kernel
theorem dX7_rests_268 : decode cX7_rests 268 = .ok (.iload 4, 2) := by decide +kernel
theorem dX7_rests_270 : decode cX7_rests 270 = .ok (.iconst 2, 1) := by decide +kernel
theorem dX7_rests_271 : decode cX7_rests 271 = .ok (.idiv, 1) := by decide +kernel
theorem dX7_rests_272 : decode cX7_rests 272 = .ok (.imul, 1) := by decide +kernel
theorem dX7_rests_273 : decode cX7_rests 273 = .ok (.iload 4, 2) := by decide +kernel
theorem dX7_rests_275 : decode cX7_rests 275 = .ok (.iconst 2, 1) := by decide +kernel
theorem dX7_rests_276 : decode cX7_rests 276 = .ok (.irem, 1) := by decide +kernel
theorem dX7_rests_277 : decode cX7_rests 277 = .ok (.iadd, 1) := by decide +kernel
theorem dX7_rests_278 : decode cX7_rests 278 = .ok (.goto 7, 3) := by decide +kernel
theorem dX7_rests_281 : decode cX7_rests 281 = .ok (.aload_n 0, 1) := by decide +kernel
theorem dX7_rests_282 : decode cX7_rests 282 = .ok (.getfield 231, 3) := by decide +kernel
theorem dX7_rests_285 : decode cX7_rests 285 = .ok (.putfield 231, 3) := by decide +kernel
theorem dX7_rests_288 : decode cX7_rests 288 = .ok (.aload_n 0, 1) := by decide +kernel
theorem dX7_rests_289 : decode cX7_rests 289 = .ok (.dup, 1) := by decide +kernel
theorem dX7_rests_290 : decode cX7_rests 290 = .ok (.getfield 228, 3) := by decide +kernel
theorem dX7_rests_293 : decode cX7_rests 293 = .ok (.iload 5, 2) := by decide +kernel
theorem dX7_rests_295 : decode cX7_rests 295 = .ok (.ifCond .eq 7, 3) := by decide +kernel
theorem dX7_rests_298 : decode cX7_rests 298 = .ok (.iconst 1, 1) := by decide +kernel
theorem dX7_rests_299 : decode cX7_rests 299 = .ok (.goto 4, 3) := by decide +kernel
theorem dX7_rests_302 : decode cX7_rests 302 = .ok (.iconst 0, 1) := by decide +kernel
theorem dX7_rests_303 : decode cX7_rests 303 = .ok (.iadd, 1) := by decide +kernel
theorem dX7_rests_304 : decode cX7_rests 304 = .ok (.putfield 228, 3) := by decide +kernel
theorem dX7_rests_307 : decode cX7_rests 307 = .ok (.iinc 4 1, 3) := by decide +kernel
theorem dX7_rests_310 : decode cX7_rests 310 = .ok (.goto (-120), 3) := by decide +kernel
theorem dX7_rests_313 : decode cX7_rests 313 = .ok (.iload_n 3, 1) := by decide +kernel
theorem dX7_rests_314 : decode cX7_rests 314 = .ok (.ifCond .ne 10, 3) := by decide +kernel
theorem dX7_rests_317 : decode cX7_rests 317 = .ok (.aload_n 0, 1) := by decide +kernel
theorem dX7_rests_318 : decode cX7_rests 318 = .ok (.getfield 228, 3) := by decide +kernel
theorem dX7_rests_321 : decode cX7_rests 321 = .ok (.goto 7, 3) := by decide +kernel
theorem dX7_rests_324 : decode cX7_rests 324 = .ok (.aload_n 0, 1) := by decide +kernel
theorem dX7_rests_325 : decode cX7_rests 325 = .ok (.getfield 231, 3) := by decide +kernel
theorem dX7_rests_328 : decode cX7_rests 328 = .ok (.ireturn, 1) := by decide +kernel
theorem dX7_sudden_0 : decode cX7_sudden 0 = .ok (.aload_n 0, 1) := by decide +kernel
theorem dX7_sudden_1 : decode cX7_sudden 1 = .ok (.iconst 0, 1) := by decide +kernel
theorem dX7_sudden_2 : decode cX7_sudden 2 = .ok (.putfield 56, 3) := by decide +kernel
theorem dX7_sudden_5 : decode cX7_sudden 5 = .ok (.iload_n 1, 1) := by decide +kernel
theorem dX7_sudden_6 : decode cX7_sudden 6 = .ok (.invokestatic 144, 3) := by decide +kernel
theorem dX7_sudden_9 : decode cX7_sudden 9 = .ok (.ifCond .eq 5, 3) := by decide +kernel
theorem dX7_sudden_12 : decode cX7_sudden 12 = .ok (.iconst (-1), 1) := by decide +kernel
theorem dX7_sudden_13 : decode cX7_sudden 13 = .ok (.ireturn, 1) := by decide +kernel
theorem dX7_sudden_14 : decode cX7_sudden 14 = .ok (.iload_n 2, 1) := by decide +kernel
theorem dX7_sudden_15 : decode cX7_sudden 15 = .ok (.i2l, 1) := by decide +kernel
theorem dX7_sudden_16 : decode cX7_sudden 16 = .ok (.lconst 0, 1) := by decide +kernel
theorem dX7_sudden_17 : decode cX7_sudden 17 = .ok (.lconst 1, 1) := by decide +kernel
theorem dX7_sudden_18 : decode cX7_sudden 18 = .ok (.invokestatic 63, 3) := by decide +kernel
theorem dX7_sudden_21 : decode cX7_sudden 21 = .ok (.ifCond .eq 15, 3) := by decide +kernel
theorem dX7_sudden_24 : decode cX7_sudden 24 = .ok (.iload_n 3, 1) := by decide +kernel
theorem dX7_sudden_25 : decode cX7_sudden 25 = .ok (.i2l, 1) := by decide +kernel
theorem dX7_sudden_26 : decode cX7_sudden 26 = .ok (.lconst 0, 1) := by decide +kernel
theorem dX7_sudden_27 : decode cX7_sudden 27 = .ok (.ldc2_w 234, 3) := by decide +kernel
theorem dX7_sudden_30 : decode cX7_sudden 30 = .ok (.invokestatic 63, 3) := by decide +kernel
theorem dX7_sudden_33 : decode cX7_sudden 33 = .ok (.ifCond .ne 6, 3) := by decide +kernel
theorem dX7_sudden_36 : decode cX7_sudden 36 = .ok (.bipush (-2), 2) := by decide +kernel
theorem dX7_sudden_38 : decode cX7_sudden 38 = .ok (.ireturn, 1) := by decide +kernel
theorem dX7_sudden_39 : decode cX7_sudden 39 = .ok (.iconst 0, 1) := by decide +kernel
theorem dX7_sudden_40 : decode cX7_sudden 40 = .ok (.istore 5, 2) := by decide +kernel
theorem dX7_sudden_42 : decode cX7_sudden 42 = .ok (.iconst 0, 1) := by decide +kernel
theorem dX7_sudden_43 : decode cX7_sudden 43 = .ok (.istore 6, 2) := by decide +kernel
theorem dX7_sudden_45 : decode cX7_sudden 45 = .ok (.iload 6, 2) := by decide +kernel
theorem dX7_sudden_47 : decode cX7_sudden 47 = .ok (.iconst 1, 1) := by decide +kernel
theorem dX7_sudden_48 : decode cX7_sudden 48 = .ok (.aload_n 0, 1) := by decide +kernel
theorem dX7_sudden_49 : decode cX7_sudden 49 = .ok (.getfield 60, 3) := by decide +kernel
theorem dX7_sudden_52 : decode cX7_sudden 52 = .ok (.ishl, 1) := by decide +kernel
theorem dX7_sudden_53 : decode cX7_sudden 53 = .ok (.if_icmp .ge 99, 3) := by decide +kernel
theorem dX7_sudden_56 : decode cX7_sudden 56 = .ok (.aload_n 0, 1) := by decide +kernel
theorem dX7_sudden_57 : decode cX7_sudden 57 = .ok (.invokevirtual 163, 3) := by decide +kernel
theorem dX7_sudden_60 : decode cX7_sudden 60 = .ok (.aload_n 0, 1) := by decide +kernel
theorem dX7_sudden_61 : decode cX7_sudden 61 = .ok (.iload 6, 2) := by decide +kernel
theorem dX7_sudden_63 : decode cX7_sudden 63 = .ok (.aload_n 0, 1) := by decide +kernel
theorem dX7_sudden_64 : decode cX7_sudden 64 = .ok (.getfield 25, 3) := by decide +kernel
theorem dX7_sudden_67 : decode cX7_sudden 67 = .ok (.iconst 5, 1) := by decide +kernel
theorem dX7_sudden_68 : decode cX7_sudden 68 = .ok (.iaload, 1) := by decide +kernel
theorem dX7_sudden_69 : decode cX7_sudden 69 = .ok (.iconst (-1), 1) := by decide +kernel
theorem dX7_sudden_70 : decode cX7_sudden 70 = .ok (.ixor, 1) := by decide +kernel
theorem dX7_sudden_71 : decode cX7_sudden 71 = .ok (.iand, 1) := by decide +kernel
theorem dX7_sudden_72 : decode cX7_sudden 72 = .ok (.invokevirtual 180, 3) := by decide +kernel
theorem dX7_sudden_75 : decode cX7_sudden 75 = .ok (.iload 6, 2) := by decide +kernel
theorem dX7_sudden_77 : decode cX7_sudden 77 = .ok (.invokestatic 170, 3) := by decide +kernel
theorem dX7_sudden_80 : decode cX7_sudden 80 = .ok (.istore 7, 2) := by decide +kernel
theorem dX7_sudden_82 : decode cX7_sudden 82 = .ok (.iload_n 2, 1) := by decide +kernel
theorem dX7_sudden_83 : decode cX7_sudden 83 = .ok (.ifCond .ne 14, 3) := by decide +kernel
theorem dX7_sudden_86 : decode cX7_sudden 86 = .ok (.aload_n 0, 1) := by decide +kernel
theorem dX7_sudden_87 : decode cX7_sudden 87 = .ok (.aload_n 0, 1) := by decide +kernel
theorem dX7_sudden_88 : decode cX7_sudden 88 = .ok (.getfield 28, 3) := by decide +kernel
theorem dX7_sudden_91 : decode cX7_sudden 91 = .ok (.invokevirtual 118, 3) := by decide +kernel
theorem dX7_sudden_94 : decode cX7_sudden 94 = .ok (.goto 11, 3) := by decide +kernel
theorem dX7_sudden_97 : decode cX7_sudden 97 = .ok (.aload_n 0, 1) := by decide +kernel
theorem dX7_sudden_98 : decode cX7_sudden 98 = .ok (.aload_n 0, 1) := by decide +kernel
theorem dX7_sudden_99 : decode cX7_sudden 99 = .ok (.getfield 28, 3) := by decide +kernel
theorem dX7_sudden_102 : decode cX7_sudden 102 = .ok (.invokevirtual 122, 3) := by decide +kernel
theorem dX7_sudden_105 : decode cX7_sudden 105 = .ok (.istore 8, 2) := by decide +kernel
theorem dX7_sudden_107 : decode cX7_sudden 107 = .ok (.iload 5, 2) := by decide +kernel
theorem dX7_sudden_109 : decode cX7_sudden 109 = .ok (.iload 8, 2) := by decide +kernel
theorem dX7_sudden_111 : decode cX7_sudden 111 = .ok (.iload_n 1, 1) := by decide +kernel
theorem dX7_sudden_112 : decode cX7_sudden 112 = .ok (.invokestatic 107, 3) := by decide +kernel
theorem dX7_sudden_115 : decode cX7_sudden 115 = .ok (.ifCond .eq 27, 3) := by decide +kernel
theorem dX7_sudden_118 : decode cX7_sudden 118 = .ok (.iload_n 3, 1) := by decide +kernel
theorem dX7_sudden_119 : decode cX7_sudden 119 = .ok (.iload 7, 2) := by decide +kernel
theorem dX7_sudden_121 : decode cX7_sudden 121 = .ok (.invokestatic 236, 3) := by decide +kernel
theorem dX7_sudden_124 : decode cX7_sudden 124 = .ok (.bipush 10, 2) := by decide +kernel
theorem dX7_sudden_126 : decode cX7_sudden 126 = .ok (.iload_n 3, 1) := by decide +kernel
theorem dX7_sudden_127 : decode cX7_sudden 127 = .ok (.isub, 1) := by decide +kernel
theorem dX7_sudden_128 : decode cX7_sudden 128 = .ok (.aload_n 0, 1) := by decide +kernel
theorem dX7_sudden_129 : decode cX7_sudden 129 = .ok (.getfield 60, 3) := by decide +kernel
theorem dX7_sudden_132 : decode cX7_sudden 132 = .ok (.iload 7, 2) := by decide +kernel
theorem dX7_sudden_134 : decode cX7_sudden 134 = .ok (.isub, 1) := by decide +kernel
theorem dX7_sudden_135 : decode cX7_sudden 135 = .ok (.invokestatic 236, 3) := by decide +kernel
theorem dX7_sudden_138 : decode cX7_sudden 138 = .ok (.imul, 1) := by decide +kernel
theorem dX7_sudden_139 : decode cX7_sudden 139 = .ok (.goto 4, 3) := by decide +kernel
theorem dX7_sudden_142 : decode cX7_sudden 142 = .ok (.iconst 0, 1) := by decide +kernel
theorem dX7_sudden_143 : decode cX7_sudden 143 = .ok (.iadd, 1) := by decide +kernel
theorem dX7_sudden_144 : decode cX7_sudden 144 = .ok (.istore 5, 2) := by decide +kernel
theorem dX7_sudden_146 : decode cX7_sudden 146 = .ok (.iinc 6 1, 3) := by decide +kernel
theorem dX7_sudden_149 : decode cX7_sudden 149 = .ok (.goto (-104), 3) := by decide +kernel
theorem dX7_sudden_152 : decode cX7_sudden 152 = .ok (.iload 5, 2) := by decide +kernel
theorem dX7_sudden_154 : decode cX7_sudden 154 = .ok (.bipush 10, 2) := by decide +kernel
theorem dX7_sudden_156 : decode cX7_sudden 156 = .ok (.aload_n 0, 1) := by decide +kernel
theorem dX7_sudden_157 : decode cX7_sudden 157 = .ok (.getfield 60, 3) := by decide +kernel
theorem dX7_sudden_160 : decode cX7_sudden 160 = .ok (.invokestatic 236, 3) := by decide +kernel
theorem dX7_sudden_163 : decode cX7_sudden 163 = .ok (.iload 4, 2) := by decide +kernel
theorem dX7_sudden_165 : decode cX7_sudden 165 = .ok (.invokestatic 203, 3) := by decide +kernel
theorem dX7_sudden_168 : decode cX7_sudden 168 = .ok (.ireturn, 1) := by decide +kernel
theorem dX7_seed_0 : decode cX7_seed 0 = .ok (.aload_n 0, 1) := by decide +kernel
theorem dX7_seed_1 : decode cX7_seed 1 = .ok (.iconst 0, 1) := by decide +kernel
theorem dX7_seed_2 : decode cX7_seed 2 = .ok (.putfield 56, 3) := by decide +kernel
theorem dX7_seed_5 : decode cX7_seed 5 = .ok (.aload_n 0, 1) := by decide +kernel
theorem dX7_seed_6 : decode cX7_seed 6 = .ok (.getfield 239, 3) := by decide +kernel
theorem dX7_seed_9 : decode cX7_seed 9 = .ok (.lstore_n 3, 1) := by decide +kernel
theorem dX7_seed_10 : decode cX7_seed 10 = .ok (.aload_n 0, 1) := by decide +kernel
theorem dX7_seed_11 : decode cX7_seed 11 = .ok (.lload_n 1, 1) := by decide +kernel
theorem dX7_seed_12 : decode cX7_seed 12 = .ok (.putfield 239, 3) := by decide +kernel
theorem dX7_seed_15 : decode cX7_seed 15 = .ok (.lload_n 3, 1) := by decide +kernel
theorem dX7_seed_16 : decode cX7_seed 16 = .ok (.lreturn, 1) := by decide +kernel
theorem dX7_weeks_0 : decode cX7_weeks 0 = .ok (.aload_n 0, 1) := by decide +kernel
theorem dX7_weeks_1 : decode cX7_weeks 1 = .ok (.iconst 0, 1) := by decide +kernel
theorem dX7_weeks_2 : decode cX7_weeks 2 = .ok (.putfield 56, 3) := by decide +kernel
theorem dX7_weeks_5 : decode cX7_weeks 5 = .ok (.iload_n 1, 1) := by decide +kernel
theorem dX7_weeks_6 : decode cX7_weeks 6 = .ok (.i2l, 1) := by decide +kernel
theorem dX7_weeks_7 : decode cX7_weeks 7 = .ok (.lconst 1, 1) := by decide +kernel
theorem dX7_weeks_8 : decode cX7_weeks 8 = .ok (.ldc2_w 243, 3) := by decide +kernel
theorem dX7_weeks_11 : decode cX7_weeks 11 = .ok (.invokestatic 63, 3) := by decide +kernel
theorem dX7_weeks_14 : decode cX7_weeks 14 = .ok (.ifCond .ne 6, 3) := by decide +kernel
theorem dX7_weeks_17 : decode cX7_weeks 17 = .ok (.bipush (-2), 2) := by decide +kernel
theorem dX7_weeks_19 : decode cX7_weeks 19 = .ok (.ireturn, 1) := by decide +kernel
theorem dX7_weeks_20 : decode cX7_weeks 20 = .ok (.aload_n 0, 1) := by decide +kernel
theorem dX7_weeks_21 : decode cX7_weeks 21 = .ok (.invokevirtual 163, 3) := by decide +kernel
theorem dX7_weeks_24 : decode cX7_weeks 24 = .ok (.iconst 0, 1) := by decide +kernel
theorem dX7_weeks_25 : decode cX7_weeks 25 = .ok (.istore_n 2, 1) := by decide +kernel
theorem dX7_weeks_26 : decode cX7_weeks 26 = .ok (.iconst 0, 1) := by decide +kernel
theorem dX7_weeks_27 : decode cX7_weeks 27 = .ok (.istore_n 3, 1) := by decide +kernel
theorem dX7_weeks_28 : decode cX7_weeks 28 = .ok (.iload_n 3, 1) := by decide +kernel
theorem dX7_weeks_29 : decode cX7_weeks 29 = .ok (.iload_n 1, 1) := by decide +kernel
theorem dX7_weeks_30 : decode cX7_weeks 30 = .ok (.if_icmp .ge 111, 3) := by decide +kernel
theorem dX7_weeks_33 : decode cX7_weeks 33 = .ok (.aload_n 0, 1) := by decide +kernel
theorem dX7_weeks_34 : decode cX7_weeks 34 = .ok (.aload_n 0, 1) := by decide +kernel
theorem dX7_weeks_35 : decode cX7_weeks 35 = .ok (.getfield 239, 3) := by decide +kernel
theorem dX7_weeks_38 : decode cX7_weeks 38 = .ok (.ldc2_w 245, 3) := by decide +kernel
theorem dX7_weeks_41 : decode cX7_weeks 41 = .ok (.lmul, 1) := by decide +kernel
theorem dX7_weeks_42 : decode cX7_weeks 42 = .ok (.ldc2_w 247, 3) := by decide +kernel
theorem dX7_weeks_45 : decode cX7_weeks 45 = .ok (.ladd, 1) := by decide +kernel
theorem dX7_weeks_46 : decode cX7_weeks 46 = .ok (.putfield 239, 3) := by decide +kernel
theorem dX7_weeks_49 : decode cX7_weeks 49 = .ok (.aload_n 0, 1) := by decide +kernel
theorem dX7_weeks_50 : decode cX7_weeks 50 = .ok (.getfield 239, 3) := by decide +kernel
theorem dX7_weeks_53 : decode cX7_weeks 53 = .ok (.bipush 33, 2) := by decide +kernel
theorem dX7_weeks_55 : decode cX7_weeks 55 = .ok (.lushr, 1) := by decide +kernel
theorem dX7_weeks_56 : decode cX7_weeks 56 = .ok (.ldc2_w 249, 3) := by decide +kernel
theorem dX7_weeks_59 : decode cX7_weeks 59 = .ok (.lrem, 1) := by decide +kernel
theorem dX7_weeks_60 : decode cX7_weeks 60 = .ok (.l2i, 1) := by decide +kernel
theorem dX7_weeks_61 : decode cX7_weeks 61 = .ok (.istore 4, 2) := by decide +kernel
theorem dX7_weeks_63 : decode cX7_weeks 63 = .ok (.aload_n 0, 1) := by decide +kernel
theorem dX7_weeks_64 : decode cX7_weeks 64 = .ok (.iload 4, 2) := by decide +kernel
theorem dX7_weeks_66 : decode cX7_weeks 66 = .ok (.iconst 5, 1) := by decide +kernel
theorem dX7_weeks_67 : decode cX7_weeks 67 = .ok (.if_icmp .ge 11, 3) := by decide +kernel
theorem dX7_weeks_70 : decode cX7_weeks 70 = .ok (.bipush 100, 2) := by decide +kernel
theorem dX7_weeks_72 : decode cX7_weeks 72 = .ok (.iload 4, 2) := by decide +kernel
theorem dX7_weeks_74 : decode cX7_weeks 74 = .ok (.iadd, 1) := by decide +kernel
theorem dX7_weeks_75 : decode cX7_weeks 75 = .ok (.goto 42, 3) := by decide +kernel
theorem dX7_weeks_78 : decode cX7_weeks 78 = .ok (.iload 4, 2) := by decide +kernel
theorem dX7_weeks_80 : decode cX7_weeks 80 = .ok (.bipush 10, 2) := by decide +kernel
theorem dX7_weeks_82 : decode cX7_weeks 82 = .ok (.if_icmp .ge 12, 3) := by decide +kernel
theorem dX7_weeks_85 : decode cX7_weeks 85 = .ok (.sipush 195, 3) := by decide +kernel
theorem dX7_weeks_88 : decode cX7_weeks 88 = .ok (.iload 4, 2) := by decide +kernel
theorem dX7_weeks_90 : decode cX7_weeks 90 = .ok (.iadd, 1) := by decide +kernel
theorem dX7_weeks_91 : decode cX7_weeks 91 = .ok (.goto 26, 3) := by decide +kernel
theorem dX7_weeks_94 : decode cX7_weeks 94 = .ok (.iload 4, 2) := by decide +kernel
theorem dX7_weeks_96 : decode cX7_weeks 96 = .ok (.bipush 15, 2) := by decide +kernel
theorem dX7_weeks_98 : decode cX7_weeks 98 = .ok (.if_icmp .ge 18, 3) := by decide +kernel
theorem dX7_weeks_101 : decode cX7_weeks 101 = .ok (.sipush 301, 3) := by decide +kernel
theorem dX7_weeks_104 : decode cX7_weeks 104 = .ok (.bipush 10, 2) := by decide +kernel
theorem dX7_weeks_106 : decode cX7_weeks 106 = .ok (.iload 4, 2) := by decide +kernel
theorem dX7_weeks_108 : decode cX7_weeks 108 = .ok (.bipush 10, 2) := by decide +kernel
theorem dX7_weeks_110 : decode cX7_weeks 110 = .ok (.isub, 1) := by decide +kernel
theorem dX7_weeks_111 : decode cX7_weeks 111 = .ok (.imul, 1) := by decide +kernel
theorem dX7_weeks_112 : decode cX7_weeks 112 = .ok (.iadd, 1) := by decide +kernel
theorem dX7_weeks_113 : decode cX7_weeks 113 = .ok (.goto 4, 3) := by decide +kernel
theorem dX7_weeks_116 : decode cX7_weeks 116 = .ok (.iconst 0, 1) := by decide +kernel
theorem dX7_weeks_117 : decode cX7_weeks 117 = .ok (.invokevirtual 194, 3) := by decide +kernel
theorem dX7_weeks_120 : decode cX7_weeks 120 = .ok (.pop, 1) := by decide +kernel
theorem dX7_weeks_121 : decode cX7_weeks 121 = .ok (.iload_n 2, 1) := by decide +kernel
theorem dX7_weeks_122 : decode cX7_weeks 122 = .ok (.aload_n 0, 1) := by decide +kernel
theorem dX7_weeks_123 : decode cX7_weeks 123 = .ok (.aload_n 0, 1) := by decide +kernel
theorem dX7_weeks_124 : decode cX7_weeks 124 = .ok (.getfield 28, 3) := by decide +kernel
theorem dX7_weeks_127 : decode cX7_weeks 127 = .ok (.invokevirtual 118, 3) := by decide +kernel
theorem dX7_weeks_130 : decode cX7_weeks 130 = .ok (.invokestatic 170, 3) := by decide +kernel
theorem dX7_weeks_133 : decode cX7_weeks 133 = .ok (.iadd, 1) := by decide +kernel
theorem dX7_weeks_134 : decode cX7_weeks 134 = .ok (.istore_n 2, 1) := by decide +kernel
theorem dX7_weeks_135 : decode cX7_weeks 135 = .ok (.iinc 3 1, 3) := by decide +kernel
theorem dX7_weeks_138 : decode cX7_weeks 138 = .ok (.goto (-110), 3) := by decide +kernel
theorem dX7_weeks_141 : decode cX7_weeks 141 = .ok (.iload_n 2, 1) := by decide +kernel
theorem dX7_weeks_142 : decode cX7_weeks 142 = .ok (.ireturn, 1) := by decide +kernel
theorem dX7_keep_0 : decode cX7_keep 0 = .ok (.aload_n 0, 1) := by decide +kernel
theorem dX7_keep_1 : decode cX7_keep 1 = .ok (.iconst 0, 1) := by decide +kernel
theorem dX7_keep_2 : decode cX7_keep 2 = .ok (.putfield 56, 3) := by decide +kernel
theorem dX7_keep_5 : decode cX7_keep 5 = .ok (.iload_n 1, 1) := by decide +kernel
theorem dX7_keep_6 : decode cX7_keep 6 = .ok (.i2l, 1) := by decide +kernel
theorem dX7_keep_7 : decode cX7_keep 7 = .ok (.lconst 0, 1) := by decide +kernel
theorem dX7_keep_8 : decode cX7_keep 8 = .ok (.lconst 1, 1) := by decide +kernel
theorem dX7_keep_9 : decode cX7_keep 9 = .ok (.invokestatic 63, 3) := by decide +kernel
theorem dX7_keep_12 : decode cX7_keep 12 = .ok (.ifCond .ne 5, 3) := by decide +kernel
theorem dX7_keep_15 : decode cX7_keep 15 = .ok (.iconst (-1), 1) := by decide +kernel
theorem dX7_keep_16 : decode cX7_keep 16 = .ok (.ireturn, 1) := by decide +kernel
theorem dX7_keep_17 : decode cX7_keep 17 = .ok (.aload_n 0, 1) := by decide +kernel
theorem dX7_keep_18 : decode cX7_keep 18 = .ok (.getfield 37, 3) := by decide +kernel
theorem dX7_keep_21 : decode cX7_keep 21 = .ok (.iload_n 1, 1) := by decide +kernel
theorem dX7_keep_22 : decode cX7_keep 22 = .ok (.iconst 1, 1) := by decide +kernel
theorem dX7_keep_23 : decode cX7_keep 23 = .ok (.bastore, 1) := by decide +kernel
theorem dX7_keep_24 : decode cX7_keep 24 = .ok (.iconst 0, 1) := by decide +kernel
theorem dX7_keep_25 : decode cX7_keep 25 = .ok (.istore_n 2, 1) := by decide +kernel
theorem dX7_keep_26 : decode cX7_keep 26 = .ok (.iload_n 2, 1) := by decide +kernel
theorem dX7_keep_27 : decode cX7_keep 27 = .ok (.bipush 24, 2) := by decide +kernel
theorem dX7_keep_29 : decode cX7_keep 29 = .ok (.if_icmp .ge 26, 3) := by decide +kernel
theorem dX7_keep_32 : decode cX7_keep 32 = .ok (.aload_n 0, 1) := by decide +kernel
theorem dX7_keep_33 : decode cX7_keep 33 = .ok (.getfield 34, 3) := by decide +kernel
theorem dX7_keep_36 : decode cX7_keep 36 = .ok (.bipush 24, 2) := by decide +kernel
theorem dX7_keep_38 : decode cX7_keep 38 = .ok (.iload_n 1, 1) := by decide +kernel
theorem dX7_keep_39 : decode cX7_keep 39 = .ok (.imul, 1) := by decide +kernel
theorem dX7_keep_40 : decode cX7_keep 40 = .ok (.iload_n 2, 1) := by decide +kernel
theorem dX7_keep_41 : decode cX7_keep 41 = .ok (.iadd, 1) := by decide +kernel
theorem dX7_keep_42 : decode cX7_keep 42 = .ok (.aload_n 0, 1) := by decide +kernel
theorem dX7_keep_43 : decode cX7_keep 43 = .ok (.getfield 25, 3) := by decide +kernel
theorem dX7_keep_46 : decode cX7_keep 46 = .ok (.iload_n 2, 1) := by decide +kernel
theorem dX7_keep_47 : decode cX7_keep 47 = .ok (.iaload, 1) := by decide +kernel
theorem dX7_keep_48 : decode cX7_keep 48 = .ok (.iastore, 1) := by decide +kernel
theorem dX7_keep_49 : decode cX7_keep 49 = .ok (.iinc 2 1, 3) := by decide +kernel
theorem dX7_keep_52 : decode cX7_keep 52 = .ok (.goto (-26), 3) := by decide +kernel
theorem dX7_keep_55 : decode cX7_keep 55 = .ok (.aload_n 0, 1) := by decide +kernel
theorem dX7_keep_56 : decode cX7_keep 56 = .ok (.getfield 25, 3) := by decide +kernel
theorem dX7_keep_59 : decode cX7_keep 59 = .ok (.bipush 23, 2) := by decide +kernel
theorem dX7_keep_61 : decode cX7_keep 61 = .ok (.iaload, 1) := by decide +kernel
theorem dX7_keep_62 : decode cX7_keep 62 = .ok (.ireturn, 1) := by decide +kernel
theorem dX7_again_0 : decode cX7_again 0 = .ok (.aload_n 0, 1) := by decide +kernel
theorem dX7_again_1 : decode cX7_again 1 = .ok (.iconst 0, 1) := by decide +kernel
theorem dX7_again_2 : decode cX7_again 2 = .ok (.putfield 56, 3) := by decide +kernel
theorem dX7_again_5 : decode cX7_again 5 = .ok (.iload_n 1, 1) := by decide +kernel
theorem dX7_again_6 : decode cX7_again 6 = .ok (.i2l, 1) := by decide +kernel
theorem dX7_again_7 : decode cX7_again 7 = .ok (.lconst 0, 1) := by decide +kernel
theorem dX7_again_8 : decode cX7_again 8 = .ok (.lconst 1, 1) := by decide +kernel
theorem dX7_again_9 : decode cX7_again 9 = .ok (.invokestatic 63, 3) := by decide +kernel
theorem dX7_again_12 : decode cX7_again 12 = .ok (.ifCond .ne 5, 3) := by decide +kernel
theorem dX7_again_15 : decode cX7_again 15 = .ok (.iconst (-1), 1) := by decide +kernel
theorem dX7_again_16 : decode cX7_again 16 = .ok (.ireturn, 1) := by decide +kernel
theorem dX7_again_17 : decode cX7_again 17 = .ok (.aload_n 0, 1) := by decide +kernel
theorem dX7_again_18 : decode cX7_again 18 = .ok (.getfield 37, 3) := by decide +kernel
theorem dX7_again_21 : decode cX7_again 21 = .ok (.iload_n 1, 1) := by decide +kernel
theorem dX7_again_22 : decode cX7_again 22 = .ok (.baload, 1) := by decide +kernel
theorem dX7_again_23 : decode cX7_again 23 = .ok (.ifCond .ne 6, 3) := by decide +kernel
theorem dX7_again_26 : decode cX7_again 26 = .ok (.bipush (-3), 2) := by decide +kernel
theorem dX7_again_28 : decode cX7_again 28 = .ok (.ireturn, 1) := by decide +kernel
theorem dX7_again_29 : decode cX7_again 29 = .ok (.iconst 0, 1) := by decide +kernel
theorem dX7_again_30 : decode cX7_again 30 = .ok (.istore_n 2, 1) := by decide +kernel
theorem dX7_again_31 : decode cX7_again 31 = .ok (.iload_n 2, 1) := by decide +kernel
theorem dX7_again_32 : decode cX7_again 32 = .ok (.bipush 24, 2) := by decide +kernel
theorem dX7_again_34 : decode cX7_again 34 = .ok (.if_icmp .ge 26, 3) := by decide +kernel
theorem dX7_again_37 : decode cX7_again 37 = .ok (.aload_n 0, 1) := by decide +kernel
theorem dX7_again_38 : decode cX7_again 38 = .ok (.getfield 25, 3) := by decide +kernel
theorem dX7_again_41 : decode cX7_again 41 = .ok (.iload_n 2, 1) := by decide +kernel
theorem dX7_again_42 : decode cX7_again 42 = .ok (.aload_n 0, 1) := by decide +kernel
theorem dX7_again_43 : decode cX7_again 43 = .ok (.getfield 34, 3) := by decide +kernel
theorem dX7_again_46 : decode cX7_again 46 = .ok (.bipush 24, 2) := by decide +kernel
theorem dX7_again_48 : decode cX7_again 48 = .ok (.iload_n 1, 1) := by decide +kernel
theorem dX7_again_49 : decode cX7_again 49 = .ok (.imul, 1) := by decide +kernel
theorem dX7_again_50 : decode cX7_again 50 = .ok (.iload_n 2, 1) := by decide +kernel
theorem dX7_again_51 : decode cX7_again 51 = .ok (.iadd, 1) := by decide +kernel
theorem dX7_again_52 : decode cX7_again 52 = .ok (.iaload, 1) := by decide +kernel
theorem dX7_again_53 : decode cX7_again 53 = .ok (.iastore, 1) := by decide +kernel
theorem dX7_again_54 : decode cX7_again 54 = .ok (.iinc 2 1, 3) := by decide +kernel
theorem dX7_again_57 : decode cX7_again 57 = .ok (.goto (-26), 3) := by decide +kernel
theorem dX7_again_60 : decode cX7_again 60 = .ok (.aload_n 0, 1) := by decide +kernel
theorem dX7_again_61 : decode cX7_again 61 = .ok (.iconst 0, 1) := by decide +kernel
theorem dX7_again_62 : decode cX7_again 62 = .ok (.putfield 104, 3) := by decide +kernel
theorem dX7_again_65 : decode cX7_again 65 = .ok (.aload_n 0, 1) := by decide +kernel
theorem dX7_again_66 : decode cX7_again 66 = .ok (.getfield 25, 3) := by decide +kernel
theorem dX7_again_69 : decode cX7_again 69 = .ok (.bipush 23, 2) := by decide +kernel
theorem dX7_again_71 : decode cX7_again 71 = .ok (.iaload, 1) := by decide +kernel
theorem dX7_again_72 : decode cX7_again 72 = .ok (.ireturn, 1) := by decide +kernel
theorem dJ6_bitCount_0f7a4_0 : decode cJ6_bitCount_0f7a4 0 = .ok (.iload_n 0, 1) := by decide +kernel
theorem dJ6_bitCount_0f7a4_1 : decode cJ6_bitCount_0f7a4 1 = .ok (.iload_n 0, 1) := by decide +kernel
theorem dJ6_bitCount_0f7a4_2 : decode cJ6_bitCount_0f7a4 2 = .ok (.iconst 1, 1) := by decide +kernel
theorem dJ6_bitCount_0f7a4_3 : decode cJ6_bitCount_0f7a4 3 = .ok (.iushr, 1) := by decide +kernel
theorem dJ6_bitCount_0f7a4_4 : decode cJ6_bitCount_0f7a4 4 = .ok (.ldc_w 265, 3) := by decide +kernel
theorem dJ6_bitCount_0f7a4_7 : decode cJ6_bitCount_0f7a4 7 = .ok (.iand, 1) := by decide +kernel
theorem dJ6_bitCount_0f7a4_8 : decode cJ6_bitCount_0f7a4 8 = .ok (.isub, 1) := by decide +kernel
theorem dJ6_bitCount_0f7a4_9 : decode cJ6_bitCount_0f7a4 9 = .ok (.istore_n 0, 1) := by decide +kernel
theorem dJ6_bitCount_0f7a4_10 : decode cJ6_bitCount_0f7a4 10 = .ok (.iload_n 0, 1) := by decide +kernel
theorem dJ6_bitCount_0f7a4_11 : decode cJ6_bitCount_0f7a4 11 = .ok (.ldc_w 266, 3) := by decide +kernel
theorem dJ6_bitCount_0f7a4_14 : decode cJ6_bitCount_0f7a4 14 = .ok (.iand, 1) := by decide +kernel
theorem dJ6_bitCount_0f7a4_15 : decode cJ6_bitCount_0f7a4 15 = .ok (.iload_n 0, 1) := by decide +kernel
theorem dJ6_bitCount_0f7a4_16 : decode cJ6_bitCount_0f7a4 16 = .ok (.iconst 2, 1) := by decide +kernel
theorem dJ6_bitCount_0f7a4_17 : decode cJ6_bitCount_0f7a4 17 = .ok (.iushr, 1) := by decide +kernel
theorem dJ6_bitCount_0f7a4_18 : decode cJ6_bitCount_0f7a4 18 = .ok (.ldc_w 266, 3) := by decide +kernel
theorem dJ6_bitCount_0f7a4_21 : decode cJ6_bitCount_0f7a4 21 = .ok (.iand, 1) := by decide +kernel
theorem dJ6_bitCount_0f7a4_22 : decode cJ6_bitCount_0f7a4 22 = .ok (.iadd, 1) := by decide +kernel
theorem dJ6_bitCount_0f7a4_23 : decode cJ6_bitCount_0f7a4 23 = .ok (.istore_n 0, 1) := by decide +kernel
theorem dJ6_bitCount_0f7a4_24 : decode cJ6_bitCount_0f7a4 24 = .ok (.iload_n 0, 1) := by decide +kernel
theorem dJ6_bitCount_0f7a4_25 : decode cJ6_bitCount_0f7a4 25 = .ok (.iload_n 0, 1) := by decide +kernel
theorem dJ6_bitCount_0f7a4_26 : decode cJ6_bitCount_0f7a4 26 = .ok (.iconst 4, 1) := by decide +kernel
theorem dJ6_bitCount_0f7a4_27 : decode cJ6_bitCount_0f7a4 27 = .ok (.iushr, 1) := by decide +kernel
theorem dJ6_bitCount_0f7a4_28 : decode cJ6_bitCount_0f7a4 28 = .ok (.iadd, 1) := by decide +kernel
theorem dJ6_bitCount_0f7a4_29 : decode cJ6_bitCount_0f7a4 29 = .ok (.ldc_w 267, 3) := by decide +kernel
theorem dJ6_bitCount_0f7a4_32 : decode cJ6_bitCount_0f7a4 32 = .ok (.iand, 1) := by decide +kernel
theorem dJ6_bitCount_0f7a4_33 : decode cJ6_bitCount_0f7a4 33 = .ok (.istore_n 0, 1) := by decide +kernel
theorem dJ6_bitCount_0f7a4_34 : decode cJ6_bitCount_0f7a4 34 = .ok (.iload_n 0, 1) := by decide +kernel
theorem dJ6_bitCount_0f7a4_35 : decode cJ6_bitCount_0f7a4 35 = .ok (.iload_n 0, 1) := by decide +kernel
theorem dJ6_bitCount_0f7a4_36 : decode cJ6_bitCount_0f7a4 36 = .ok (.bipush 8, 2) := by decide +kernel
theorem dJ6_bitCount_0f7a4_38 : decode cJ6_bitCount_0f7a4 38 = .ok (.iushr, 1) := by decide +kernel
theorem dJ6_bitCount_0f7a4_39 : decode cJ6_bitCount_0f7a4 39 = .ok (.iadd, 1) := by decide +kernel
theorem dJ6_bitCount_0f7a4_40 : decode cJ6_bitCount_0f7a4 40 = .ok (.istore_n 0, 1) := by decide +kernel
theorem dJ6_bitCount_0f7a4_41 : decode cJ6_bitCount_0f7a4 41 = .ok (.iload_n 0, 1) := by decide +kernel
theorem dJ6_bitCount_0f7a4_42 : decode cJ6_bitCount_0f7a4 42 = .ok (.iload_n 0, 1) := by decide +kernel
theorem dJ6_bitCount_0f7a4_43 : decode cJ6_bitCount_0f7a4 43 = .ok (.bipush 16, 2) := by decide +kernel
theorem dJ6_bitCount_0f7a4_45 : decode cJ6_bitCount_0f7a4 45 = .ok (.iushr, 1) := by decide +kernel
theorem dJ6_bitCount_0f7a4_46 : decode cJ6_bitCount_0f7a4 46 = .ok (.iadd, 1) := by decide +kernel
theorem dJ6_bitCount_0f7a4_47 : decode cJ6_bitCount_0f7a4 47 = .ok (.istore_n 0, 1) := by decide +kernel
theorem dJ6_bitCount_0f7a4_48 : decode cJ6_bitCount_0f7a4 48 = .ok (.iload_n 0, 1) := by decide +kernel
theorem dJ6_bitCount_0f7a4_49 : decode cJ6_bitCount_0f7a4 49 = .ok (.bipush 63, 2) := by decide +kernel
theorem dJ6_bitCount_0f7a4_51 : decode cJ6_bitCount_0f7a4 51 = .ok (.iand, 1) := by decide +kernel
theorem dJ6_bitCount_0f7a4_52 : decode cJ6_bitCount_0f7a4 52 = .ok (.ireturn, 1) := by decide +kernel
theorem dJ9_abs_0f7a4_0 : decode cJ9_abs_0f7a4 0 = .ok (.iload_n 0, 1) := by decide +kernel
theorem dJ9_abs_0f7a4_1 : decode cJ9_abs_0f7a4 1 = .ok (.ifCond .ge 8, 3) := by decide +kernel
theorem dJ9_abs_0f7a4_4 : decode cJ9_abs_0f7a4 4 = .ok (.iload_n 0, 1) := by decide +kernel
theorem dJ9_abs_0f7a4_5 : decode cJ9_abs_0f7a4 5 = .ok (.ineg, 1) := by decide +kernel
theorem dJ9_abs_0f7a4_6 : decode cJ9_abs_0f7a4 6 = .ok (.goto 4, 3) := by decide +kernel
theorem dJ9_abs_0f7a4_9 : decode cJ9_abs_0f7a4 9 = .ok (.iload_n 0, 1) := by decide +kernel
theorem dJ9_abs_0f7a4_10 : decode cJ9_abs_0f7a4 10 = .ok (.ireturn, 1) := by decide +kernel
theorem dJ9_max_7cf53_0 : decode cJ9_max_7cf53 0 = .ok (.iload_n 0, 1) := by decide +kernel
theorem dJ9_max_7cf53_1 : decode cJ9_max_7cf53 1 = .ok (.iload_n 1, 1) := by decide +kernel
theorem dJ9_max_7cf53_2 : decode cJ9_max_7cf53 2 = .ok (.if_icmp .lt 7, 3) := by decide +kernel
theorem dJ9_max_7cf53_5 : decode cJ9_max_7cf53 5 = .ok (.iload_n 0, 1) := by decide +kernel
theorem dJ9_max_7cf53_6 : decode cJ9_max_7cf53 6 = .ok (.goto 4, 3) := by decide +kernel
theorem dJ9_max_7cf53_9 : decode cJ9_max_7cf53 9 = .ok (.iload_n 1, 1) := by decide +kernel
theorem dJ9_max_7cf53_10 : decode cJ9_max_7cf53 10 = .ok (.ireturn, 1) := by decide +kernel
theorem dJ7_fill_53178_0 : decode cJ7_fill_53178 0 = .ok (.iconst 0, 1) := by decide +kernel
theorem dJ7_fill_53178_1 : decode cJ7_fill_53178 1 = .ok (.istore_n 2, 1) := by decide +kernel
theorem dJ7_fill_53178_2 : decode cJ7_fill_53178 2 = .ok (.aload_n 0, 1) := by decide +kernel
theorem dJ7_fill_53178_3 : decode cJ7_fill_53178 3 = .ok (.arraylength, 1) := by decide +kernel
theorem dJ7_fill_53178_4 : decode cJ7_fill_53178 4 = .ok (.istore_n 3, 1) := by decide +kernel
theorem dJ7_fill_53178_5 : decode cJ7_fill_53178 5 = .ok (.iload_n 2, 1) := by decide +kernel
theorem dJ7_fill_53178_6 : decode cJ7_fill_53178 6 = .ok (.iload_n 3, 1) := by decide +kernel
theorem dJ7_fill_53178_7 : decode cJ7_fill_53178 7 = .ok (.if_icmp .ge 13, 3) := by decide +kernel
theorem dJ7_fill_53178_10 : decode cJ7_fill_53178 10 = .ok (.aload_n 0, 1) := by decide +kernel
theorem dJ7_fill_53178_11 : decode cJ7_fill_53178 11 = .ok (.iload_n 2, 1) := by decide +kernel
theorem dJ7_fill_53178_12 : decode cJ7_fill_53178 12 = .ok (.iload_n 1, 1) := by decide +kernel
theorem dJ7_fill_53178_13 : decode cJ7_fill_53178 13 = .ok (.iastore, 1) := by decide +kernel
theorem dJ7_fill_53178_14 : decode cJ7_fill_53178 14 = .ok (.iinc 2 1, 3) := by decide +kernel
theorem dJ7_fill_53178_17 : decode cJ7_fill_53178 17 = .ok (.goto (-12), 3) := by decide +kernel
theorem dJ7_fill_53178_20 : decode cJ7_fill_53178 20 = .ok (.return_, 1) := by decide +kernel
theorem dL_law_0 : decode cL_law 0 = .ok (.new 7, 3) := by decide +kernel
theorem dL_law_3 : decode cL_law 3 = .ok (.dup, 1) := by decide +kernel
theorem dL_law_4 : decode cL_law 4 = .ok (.invokespecial 9, 3) := by decide +kernel
theorem dL_law_7 : decode cL_law 7 = .ok (.astore_n 1, 1) := by decide +kernel
theorem dL_law_8 : decode cL_law 8 = .ok (.new 10, 3) := by decide +kernel
theorem dL_law_11 : decode cL_law 11 = .ok (.dup, 1) := by decide +kernel
theorem dL_law_12 : decode cL_law 12 = .ok (.invokespecial 12, 3) := by decide +kernel
theorem dL_law_15 : decode cL_law 15 = .ok (.astore_n 2, 1) := by decide +kernel
theorem dL_law_16 : decode cL_law 16 = .ok (.iconst 0, 1) := by decide +kernel
theorem dL_law_17 : decode cL_law 17 = .ok (.istore_n 3, 1) := by decide +kernel
theorem dL_law_18 : decode cL_law 18 = .ok (.iload_n 3, 1) := by decide +kernel
theorem dL_law_19 : decode cL_law 19 = .ok (.aload_n 0, 1) := by decide +kernel
theorem dL_law_20 : decode cL_law 20 = .ok (.arraylength, 1) := by decide +kernel
theorem dL_law_21 : decode cL_law 21 = .ok (.iconst 5, 1) := by decide +kernel
theorem dL_law_22 : decode cL_law 22 = .ok (.isub, 1) := by decide +kernel
theorem dL_law_23 : decode cL_law 23 = .ok (.if_icmp .gt 1023, 3) := by decide +kernel
theorem dL_law_26 : decode cL_law 26 = .ok (.aload_n 0, 1) := by decide +kernel
theorem dL_law_27 : decode cL_law 27 = .ok (.iload_n 3, 1) := by decide +kernel
theorem dL_law_28 : decode cL_law 28 = .ok (.iaload, 1) := by decide +kernel
theorem dL_law_29 : decode cL_law 29 = .ok (.bipush 31, 2) := by decide +kernel
theorem dL_law_31 : decode cL_law 31 = .ok (.iand, 1) := by decide +kernel
theorem dL_law_32 : decode cL_law 32 = .ok (.tableswitch 1008 0 28 #[132, 155, 168, 181, 194, 217, 250, 283, 316, 339, 362, 411, 424, 437, 470, 503, 526, 549, 582, 645, 694, 737, 750, 773, 816, 885, 939, 962, 985], 132) := by decide +kernel
theorem dL_law_164 : decode cL_law 164 = .ok (.aload_n 1, 1) := by decide +kernel
theorem dL_law_165 : decode cL_law 165 = .ok (.aload_n 0, 1) := by decide +kernel
theorem dL_law_166 : decode cL_law 166 = .ok (.iload_n 3, 1) := by decide +kernel
theorem dL_law_167 : decode cL_law 167 = .ok (.iconst 1, 1) := by decide +kernel
theorem dL_law_168 : decode cL_law 168 = .ok (.iadd, 1) := by decide +kernel
theorem dL_law_169 : decode cL_law 169 = .ok (.iaload, 1) := by decide +kernel
theorem dL_law_170 : decode cL_law 170 = .ok (.invokevirtual 13, 3) := by decide +kernel
theorem dL_law_173 : decode cL_law 173 = .ok (.aload_n 2, 1) := by decide +kernel
theorem dL_law_174 : decode cL_law 174 = .ok (.aload_n 0, 1) := by decide +kernel
theorem dL_law_175 : decode cL_law 175 = .ok (.iload_n 3, 1) := by decide +kernel
theorem dL_law_176 : decode cL_law 176 = .ok (.iconst 1, 1) := by decide +kernel
theorem dL_law_177 : decode cL_law 177 = .ok (.iadd, 1) := by decide +kernel
theorem dL_law_178 : decode cL_law 178 = .ok (.iaload, 1) := by decide +kernel
theorem dL_law_179 : decode cL_law 179 = .ok (.invokevirtual 17, 3) := by decide +kernel
theorem dL_law_182 : decode cL_law 182 = .ok (.if_icmp .eq 858, 3) := by decide +kernel
theorem dL_law_185 : decode cL_law 185 = .ok (.iconst 0, 1) := by decide +kernel
theorem dL_law_186 : decode cL_law 186 = .ok (.ireturn, 1) := by decide +kernel
theorem dL_law_187 : decode cL_law 187 = .ok (.aload_n 1, 1) := by decide +kernel
theorem dL_law_188 : decode cL_law 188 = .ok (.invokevirtual 18, 3) := by decide +kernel
theorem dL_law_191 : decode cL_law 191 = .ok (.aload_n 2, 1) := by decide +kernel
theorem dL_law_192 : decode cL_law 192 = .ok (.invokevirtual 22, 3) := by decide +kernel
theorem dL_law_195 : decode cL_law 195 = .ok (.if_icmp .eq 845, 3) := by decide +kernel
theorem dL_law_198 : decode cL_law 198 = .ok (.iconst 0, 1) := by decide +kernel
theorem dL_law_199 : decode cL_law 199 = .ok (.ireturn, 1) := by decide +kernel
theorem dL_law_200 : decode cL_law 200 = .ok (.aload_n 1, 1) := by decide +kernel
theorem dL_law_201 : decode cL_law 201 = .ok (.invokevirtual 23, 3) := by decide +kernel
theorem dL_law_204 : decode cL_law 204 = .ok (.aload_n 2, 1) := by decide +kernel
theorem dL_law_205 : decode cL_law 205 = .ok (.invokevirtual 26, 3) := by decide +kernel
theorem dL_law_208 : decode cL_law 208 = .ok (.if_icmp .eq 832, 3) := by decide +kernel
theorem dL_law_211 : decode cL_law 211 = .ok (.iconst 0, 1) := by decide +kernel
theorem dL_law_212 : decode cL_law 212 = .ok (.ireturn, 1) := by decide +kernel
theorem dL_law_213 : decode cL_law 213 = .ok (.aload_n 1, 1) := by decide +kernel
theorem dL_law_214 : decode cL_law 214 = .ok (.invokevirtual 27, 3) := by decide +kernel
theorem dL_law_217 : decode cL_law 217 = .ok (.aload_n 2, 1) := by decide +kernel
theorem dL_law_218 : decode cL_law 218 = .ok (.invokevirtual 30, 3) := by decide +kernel
theorem dL_law_221 : decode cL_law 221 = .ok (.if_icmp .eq 819, 3) := by decide +kernel
theorem dL_law_224 : decode cL_law 224 = .ok (.iconst 0, 1) := by decide +kernel
theorem dL_law_225 : decode cL_law 225 = .ok (.ireturn, 1) := by decide +kernel
theorem dL_law_226 : decode cL_law 226 = .ok (.aload_n 1, 1) := by decide +kernel
theorem dL_law_227 : decode cL_law 227 = .ok (.aload_n 0, 1) := by decide +kernel
theorem dL_law_228 : decode cL_law 228 = .ok (.iload_n 3, 1) := by decide +kernel
theorem dL_law_229 : decode cL_law 229 = .ok (.iconst 1, 1) := by decide +kernel
theorem dL_law_230 : decode cL_law 230 = .ok (.iadd, 1) := by decide +kernel
theorem dL_law_231 : decode cL_law 231 = .ok (.iaload, 1) := by decide +kernel
theorem dL_law_232 : decode cL_law 232 = .ok (.invokevirtual 31, 3) := by decide +kernel
theorem dL_law_235 : decode cL_law 235 = .ok (.aload_n 2, 1) := by decide +kernel
theorem dL_law_236 : decode cL_law 236 = .ok (.aload_n 0, 1) := by decide +kernel
theorem dL_law_237 : decode cL_law 237 = .ok (.iload_n 3, 1) := by decide +kernel
theorem dL_law_238 : decode cL_law 238 = .ok (.iconst 1, 1) := by decide +kernel
theorem dL_law_239 : decode cL_law 239 = .ok (.iadd, 1) := by decide +kernel
theorem dL_law_240 : decode cL_law 240 = .ok (.iaload, 1) := by decide +kernel
theorem dL_law_241 : decode cL_law 241 = .ok (.invokevirtual 34, 3) := by decide +kernel
theorem dL_law_244 : decode cL_law 244 = .ok (.if_icmp .eq 796, 3) := by decide +kernel
theorem dL_law_247 : decode cL_law 247 = .ok (.iconst 0, 1) := by decide +kernel
theorem dL_law_248 : decode cL_law 248 = .ok (.ireturn, 1) := by decide +kernel
theorem dL_law_249 : decode cL_law 249 = .ok (.aload_n 1, 1) := by decide +kernel
theorem dL_law_250 : decode cL_law 250 = .ok (.aload_n 0, 1) := by decide +kernel
theorem dL_law_251 : decode cL_law 251 = .ok (.iload_n 3, 1) := by decide +kernel
theorem dL_law_252 : decode cL_law 252 = .ok (.iconst 1, 1) := by decide +kernel
theorem dL_law_253 : decode cL_law 253 = .ok (.iadd, 1) := by decide +kernel
theorem dL_law_254 : decode cL_law 254 = .ok (.iaload, 1) := by decide +kernel
theorem dL_law_255 : decode cL_law 255 = .ok (.aload_n 0, 1) := by decide +kernel
theorem dL_law_256 : decode cL_law 256 = .ok (.iload_n 3, 1) := by decide +kernel
theorem dL_law_257 : decode cL_law 257 = .ok (.iconst 2, 1) := by decide +kernel
theorem dL_law_258 : decode cL_law 258 = .ok (.iadd, 1) := by decide +kernel
theorem dL_law_259 : decode cL_law 259 = .ok (.iaload, 1) := by decide +kernel
theorem dL_law_260 : decode cL_law 260 = .ok (.invokevirtual 35, 3) := by decide +kernel
theorem dL_law_263 : decode cL_law 263 = .ok (.aload_n 2, 1) := by decide +kernel
theorem dL_law_264 : decode cL_law 264 = .ok (.aload_n 0, 1) := by decide +kernel
theorem dL_law_265 : decode cL_law 265 = .ok (.iload_n 3, 1) := by decide +kernel
theorem dL_law_266 : decode cL_law 266 = .ok (.iconst 1, 1) := by decide +kernel
theorem dL_law_267 : decode cL_law 267 = .ok (.iadd, 1) := by decide +kernel
theorem dL_law_268 : decode cL_law 268 = .ok (.iaload, 1) := by decide +kernel
theorem dL_law_269 : decode cL_law 269 = .ok (.aload_n 0, 1) := by decide +kernel
theorem dL_law_270 : decode cL_law 270 = .ok (.iload_n 3, 1) := by decide +kernel
theorem dL_law_271 : decode cL_law 271 = .ok (.iconst 2, 1) := by decide +kernel
theorem dL_law_272 : decode cL_law 272 = .ok (.iadd, 1) := by decide +kernel
theorem dL_law_273 : decode cL_law 273 = .ok (.iaload, 1) := by decide +kernel
theorem dL_law_274 : decode cL_law 274 = .ok (.invokevirtual 39, 3) := by decide +kernel
theorem dL_law_277 : decode cL_law 277 = .ok (.if_icmp .eq 763, 3) := by decide +kernel
theorem dL_law_280 : decode cL_law 280 = .ok (.iconst 0, 1) := by decide +kernel
theorem dL_law_281 : decode cL_law 281 = .ok (.ireturn, 1) := by decide +kernel
theorem dL_law_282 : decode cL_law 282 = .ok (.aload_n 1, 1) := by decide +kernel
theorem dL_law_283 : decode cL_law 283 = .ok (.aload_n 0, 1) := by decide +kernel
theorem dL_law_284 : decode cL_law 284 = .ok (.iload_n 3, 1) := by decide +kernel
theorem dL_law_285 : decode cL_law 285 = .ok (.iconst 1, 1) := by decide +kernel
theorem dL_law_286 : decode cL_law 286 = .ok (.iadd, 1) := by decide +kernel
theorem dL_law_287 : decode cL_law 287 = .ok (.iaload, 1) := by decide +kernel
theorem dL_law_288 : decode cL_law 288 = .ok (.aload_n 0, 1) := by decide +kernel
theorem dL_law_289 : decode cL_law 289 = .ok (.iload_n 3, 1) := by decide +kernel
theorem dL_law_290 : decode cL_law 290 = .ok (.iconst 2, 1) := by decide +kernel
theorem dL_law_291 : decode cL_law 291 = .ok (.iadd, 1) := by decide +kernel
theorem dL_law_292 : decode cL_law 292 = .ok (.iaload, 1) := by decide +kernel
theorem dL_law_293 : decode cL_law 293 = .ok (.invokevirtual 40, 3) := by decide +kernel
theorem dL_law_296 : decode cL_law 296 = .ok (.aload_n 2, 1) := by decide +kernel
theorem dL_law_297 : decode cL_law 297 = .ok (.aload_n 0, 1) := by decide +kernel
theorem dL_law_298 : decode cL_law 298 = .ok (.iload_n 3, 1) := by decide +kernel
theorem dL_law_299 : decode cL_law 299 = .ok (.iconst 1, 1) := by decide +kernel
theorem dL_law_300 : decode cL_law 300 = .ok (.iadd, 1) := by decide +kernel
theorem dL_law_301 : decode cL_law 301 = .ok (.iaload, 1) := by decide +kernel
theorem dL_law_302 : decode cL_law 302 = .ok (.aload_n 0, 1) := by decide +kernel
theorem dL_law_303 : decode cL_law 303 = .ok (.iload_n 3, 1) := by decide +kernel
theorem dL_law_304 : decode cL_law 304 = .ok (.iconst 2, 1) := by decide +kernel
theorem dL_law_305 : decode cL_law 305 = .ok (.iadd, 1) := by decide +kernel
theorem dL_law_306 : decode cL_law 306 = .ok (.iaload, 1) := by decide +kernel
theorem dL_law_307 : decode cL_law 307 = .ok (.invokevirtual 43, 3) := by decide +kernel
theorem dL_law_310 : decode cL_law 310 = .ok (.if_icmp .eq 730, 3) := by decide +kernel
theorem dL_law_313 : decode cL_law 313 = .ok (.iconst 0, 1) := by decide +kernel
theorem dL_law_314 : decode cL_law 314 = .ok (.ireturn, 1) := by decide +kernel
theorem dL_law_315 : decode cL_law 315 = .ok (.aload_n 1, 1) := by decide +kernel
theorem dL_law_316 : decode cL_law 316 = .ok (.aload_n 0, 1) := by decide +kernel
theorem dL_law_317 : decode cL_law 317 = .ok (.iload_n 3, 1) := by decide +kernel
theorem dL_law_318 : decode cL_law 318 = .ok (.iconst 1, 1) := by decide +kernel
theorem dL_law_319 : decode cL_law 319 = .ok (.iadd, 1) := by decide +kernel
theorem dL_law_320 : decode cL_law 320 = .ok (.iaload, 1) := by decide +kernel
theorem dL_law_321 : decode cL_law 321 = .ok (.aload_n 0, 1) := by decide +kernel
theorem dL_law_322 : decode cL_law 322 = .ok (.iload_n 3, 1) := by decide +kernel
theorem dL_law_323 : decode cL_law 323 = .ok (.iconst 2, 1) := by decide +kernel
theorem dL_law_324 : decode cL_law 324 = .ok (.iadd, 1) := by decide +kernel
theorem dL_law_325 : decode cL_law 325 = .ok (.iaload, 1) := by decide +kernel
theorem dL_law_326 : decode cL_law 326 = .ok (.invokevirtual 44, 3) := by decide +kernel
theorem dL_law_329 : decode cL_law 329 = .ok (.aload_n 2, 1) := by decide +kernel
theorem dL_law_330 : decode cL_law 330 = .ok (.aload_n 0, 1) := by decide +kernel
theorem dL_law_331 : decode cL_law 331 = .ok (.iload_n 3, 1) := by decide +kernel
theorem dL_law_332 : decode cL_law 332 = .ok (.iconst 1, 1) := by decide +kernel
theorem dL_law_333 : decode cL_law 333 = .ok (.iadd, 1) := by decide +kernel
theorem dL_law_334 : decode cL_law 334 = .ok (.iaload, 1) := by decide +kernel
theorem dL_law_335 : decode cL_law 335 = .ok (.aload_n 0, 1) := by decide +kernel
theorem dL_law_336 : decode cL_law 336 = .ok (.iload_n 3, 1) := by decide +kernel
theorem dL_law_337 : decode cL_law 337 = .ok (.iconst 2, 1) := by decide +kernel
theorem dL_law_338 : decode cL_law 338 = .ok (.iadd, 1) := by decide +kernel
theorem dL_law_339 : decode cL_law 339 = .ok (.iaload, 1) := by decide +kernel
theorem dL_law_340 : decode cL_law 340 = .ok (.invokevirtual 47, 3) := by decide +kernel
theorem dL_law_343 : decode cL_law 343 = .ok (.if_icmp .eq 697, 3) := by decide +kernel
theorem dL_law_346 : decode cL_law 346 = .ok (.iconst 0, 1) := by decide +kernel
theorem dL_law_347 : decode cL_law 347 = .ok (.ireturn, 1) := by decide +kernel
theorem dL_law_348 : decode cL_law 348 = .ok (.aload_n 1, 1) := by decide +kernel
theorem dL_law_349 : decode cL_law 349 = .ok (.aload_n 0, 1) := by decide +kernel
theorem dL_law_350 : decode cL_law 350 = .ok (.iload_n 3, 1) := by decide +kernel
theorem dL_law_351 : decode cL_law 351 = .ok (.iconst 1, 1) := by decide +kernel
theorem dL_law_352 : decode cL_law 352 = .ok (.iadd, 1) := by decide +kernel
theorem dL_law_353 : decode cL_law 353 = .ok (.iaload, 1) := by decide +kernel
theorem dL_law_354 : decode cL_law 354 = .ok (.invokevirtual 48, 3) := by decide +kernel
theorem dL_law_357 : decode cL_law 357 = .ok (.aload_n 2, 1) := by decide +kernel
theorem dL_law_358 : decode cL_law 358 = .ok (.aload_n 0, 1) := by decide +kernel
theorem dL_law_359 : decode cL_law 359 = .ok (.iload_n 3, 1) := by decide +kernel
theorem dL_law_360 : decode cL_law 360 = .ok (.iconst 1, 1) := by decide +kernel
theorem dL_law_361 : decode cL_law 361 = .ok (.iadd, 1) := by decide +kernel
theorem dL_law_362 : decode cL_law 362 = .ok (.iaload, 1) := by decide +kernel
theorem dL_law_363 : decode cL_law 363 = .ok (.invokevirtual 51, 3) := by decide +kernel
theorem dL_law_366 : decode cL_law 366 = .ok (.if_icmp .eq 674, 3) := by decide +kernel
theorem dL_law_369 : decode cL_law 369 = .ok (.iconst 0, 1) := by decide +kernel
theorem dL_law_370 : decode cL_law 370 = .ok (.ireturn, 1) := by decide +kernel
theorem dL_law_371 : decode cL_law 371 = .ok (.aload_n 1, 1) := by decide +kernel
theorem dL_law_372 : decode cL_law 372 = .ok (.aload_n 0, 1) := by decide +kernel
theorem dL_law_373 : decode cL_law 373 = .ok (.iload_n 3, 1) := by decide +kernel
theorem dL_law_374 : decode cL_law 374 = .ok (.iconst 1, 1) := by decide +kernel
theorem dL_law_375 : decode cL_law 375 = .ok (.iadd, 1) := by decide +kernel
theorem dL_law_376 : decode cL_law 376 = .ok (.iaload, 1) := by decide +kernel
theorem dL_law_377 : decode cL_law 377 = .ok (.invokevirtual 52, 3) := by decide +kernel
theorem dL_law_380 : decode cL_law 380 = .ok (.aload_n 2, 1) := by decide +kernel
theorem dL_law_381 : decode cL_law 381 = .ok (.aload_n 0, 1) := by decide +kernel
theorem dL_law_382 : decode cL_law 382 = .ok (.iload_n 3, 1) := by decide +kernel
theorem dL_law_383 : decode cL_law 383 = .ok (.iconst 1, 1) := by decide +kernel
theorem dL_law_384 : decode cL_law 384 = .ok (.iadd, 1) := by decide +kernel
theorem dL_law_385 : decode cL_law 385 = .ok (.iaload, 1) := by decide +kernel
theorem dL_law_386 : decode cL_law 386 = .ok (.invokevirtual 55, 3) := by decide +kernel
theorem dL_law_389 : decode cL_law 389 = .ok (.if_icmp .eq 651, 3) := by decide +kernel
theorem dL_law_392 : decode cL_law 392 = .ok (.iconst 0, 1) := by decide +kernel
theorem dL_law_393 : decode cL_law 393 = .ok (.ireturn, 1) := by decide +kernel
theorem dL_law_394 : decode cL_law 394 = .ok (.aload_n 1, 1) := by decide +kernel
theorem dL_law_395 : decode cL_law 395 = .ok (.aload_n 0, 1) := by decide +kernel
theorem dL_law_396 : decode cL_law 396 = .ok (.iload_n 3, 1) := by decide +kernel
theorem dL_law_397 : decode cL_law 397 = .ok (.iconst 1, 1) := by decide +kernel
theorem dL_law_398 : decode cL_law 398 = .ok (.iadd, 1) := by decide +kernel
theorem dL_law_399 : decode cL_law 399 = .ok (.iaload, 1) := by decide +kernel
theorem dL_law_400 : decode cL_law 400 = .ok (.aload_n 0, 1) := by decide +kernel
theorem dL_law_401 : decode cL_law 401 = .ok (.iload_n 3, 1) := by decide +kernel
theorem dL_law_402 : decode cL_law 402 = .ok (.iconst 2, 1) := by decide +kernel
theorem dL_law_403 : decode cL_law 403 = .ok (.iadd, 1) := by decide +kernel
theorem dL_law_404 : decode cL_law 404 = .ok (.iaload, 1) := by decide +kernel
theorem dL_law_405 : decode cL_law 405 = .ok (.ifCond .eq 7, 3) := by decide +kernel
theorem dL_law_408 : decode cL_law 408 = .ok (.iconst 1, 1) := by decide +kernel
theorem dL_law_409 : decode cL_law 409 = .ok (.goto 4, 3) := by decide +kernel
theorem dL_law_412 : decode cL_law 412 = .ok (.iconst 0, 1) := by decide +kernel
theorem dL_law_413 : decode cL_law 413 = .ok (.invokevirtual 56, 3) := by decide +kernel
theorem dL_law_416 : decode cL_law 416 = .ok (.aload_n 2, 1) := by decide +kernel
theorem dL_law_417 : decode cL_law 417 = .ok (.aload_n 0, 1) := by decide +kernel
theorem dL_law_418 : decode cL_law 418 = .ok (.iload_n 3, 1) := by decide +kernel
theorem dL_law_419 : decode cL_law 419 = .ok (.iconst 1, 1) := by decide +kernel
theorem dL_law_420 : decode cL_law 420 = .ok (.iadd, 1) := by decide +kernel
theorem dL_law_421 : decode cL_law 421 = .ok (.iaload, 1) := by decide +kernel
theorem dL_law_422 : decode cL_law 422 = .ok (.aload_n 0, 1) := by decide +kernel
theorem dL_law_423 : decode cL_law 423 = .ok (.iload_n 3, 1) := by decide +kernel
theorem dL_law_424 : decode cL_law 424 = .ok (.iconst 2, 1) := by decide +kernel
theorem dL_law_425 : decode cL_law 425 = .ok (.iadd, 1) := by decide +kernel
theorem dL_law_426 : decode cL_law 426 = .ok (.iaload, 1) := by decide +kernel
theorem dL_law_427 : decode cL_law 427 = .ok (.ifCond .eq 7, 3) := by decide +kernel
theorem dL_law_430 : decode cL_law 430 = .ok (.iconst 1, 1) := by decide +kernel
theorem dL_law_431 : decode cL_law 431 = .ok (.goto 4, 3) := by decide +kernel
theorem dL_law_434 : decode cL_law 434 = .ok (.iconst 0, 1) := by decide +kernel
theorem dL_law_435 : decode cL_law 435 = .ok (.invokevirtual 60, 3) := by decide +kernel
theorem dL_law_438 : decode cL_law 438 = .ok (.if_icmp .eq 602, 3) := by decide +kernel
theorem dL_law_441 : decode cL_law 441 = .ok (.iconst 0, 1) := by decide +kernel
theorem dL_law_442 : decode cL_law 442 = .ok (.ireturn, 1) := by decide +kernel
theorem dL_law_443 : decode cL_law 443 = .ok (.aload_n 1, 1) := by decide +kernel
theorem dL_law_444 : decode cL_law 444 = .ok (.invokevirtual 61, 3) := by decide +kernel
theorem dL_law_447 : decode cL_law 447 = .ok (.aload_n 2, 1) := by decide +kernel
theorem dL_law_448 : decode cL_law 448 = .ok (.invokevirtual 64, 3) := by decide +kernel
theorem dL_law_451 : decode cL_law 451 = .ok (.if_icmp .eq 589, 3) := by decide +kernel
theorem dL_law_454 : decode cL_law 454 = .ok (.iconst 0, 1) := by decide +kernel
theorem dL_law_455 : decode cL_law 455 = .ok (.ireturn, 1) := by decide +kernel
theorem dL_law_456 : decode cL_law 456 = .ok (.aload_n 1, 1) := by decide +kernel
theorem dL_law_457 : decode cL_law 457 = .ok (.invokevirtual 65, 3) := by decide +kernel
theorem dL_law_460 : decode cL_law 460 = .ok (.aload_n 2, 1) := by decide +kernel
theorem dL_law_461 : decode cL_law 461 = .ok (.invokevirtual 68, 3) := by decide +kernel
theorem dL_law_464 : decode cL_law 464 = .ok (.if_icmp .eq 576, 3) := by decide +kernel
theorem dL_law_467 : decode cL_law 467 = .ok (.iconst 0, 1) := by decide +kernel
theorem dL_law_468 : decode cL_law 468 = .ok (.ireturn, 1) := by decide +kernel
theorem dL_law_469 : decode cL_law 469 = .ok (.aload_n 1, 1) := by decide +kernel
theorem dL_law_470 : decode cL_law 470 = .ok (.aload_n 0, 1) := by decide +kernel
theorem dL_law_471 : decode cL_law 471 = .ok (.iload_n 3, 1) := by decide +kernel
theorem dL_law_472 : decode cL_law 472 = .ok (.iconst 1, 1) := by decide +kernel
theorem dL_law_473 : decode cL_law 473 = .ok (.iadd, 1) := by decide +kernel
theorem dL_law_474 : decode cL_law 474 = .ok (.iaload, 1) := by decide +kernel
theorem dL_law_475 : decode cL_law 475 = .ok (.aload_n 0, 1) := by decide +kernel
theorem dL_law_476 : decode cL_law 476 = .ok (.iload_n 3, 1) := by decide +kernel
theorem dL_law_477 : decode cL_law 477 = .ok (.iconst 2, 1) := by decide +kernel
theorem dL_law_478 : decode cL_law 478 = .ok (.iadd, 1) := by decide +kernel
theorem dL_law_479 : decode cL_law 479 = .ok (.iaload, 1) := by decide +kernel
theorem dL_law_480 : decode cL_law 480 = .ok (.invokevirtual 69, 3) := by decide +kernel
theorem dL_law_483 : decode cL_law 483 = .ok (.aload_n 2, 1) := by decide +kernel
theorem dL_law_484 : decode cL_law 484 = .ok (.aload_n 0, 1) := by decide +kernel
theorem dL_law_485 : decode cL_law 485 = .ok (.iload_n 3, 1) := by decide +kernel
theorem dL_law_486 : decode cL_law 486 = .ok (.iconst 1, 1) := by decide +kernel
theorem dL_law_487 : decode cL_law 487 = .ok (.iadd, 1) := by decide +kernel
theorem dL_law_488 : decode cL_law 488 = .ok (.iaload, 1) := by decide +kernel
theorem dL_law_489 : decode cL_law 489 = .ok (.aload_n 0, 1) := by decide +kernel
theorem dL_law_490 : decode cL_law 490 = .ok (.iload_n 3, 1) := by decide +kernel
theorem dL_law_491 : decode cL_law 491 = .ok (.iconst 2, 1) := by decide +kernel
theorem dL_law_492 : decode cL_law 492 = .ok (.iadd, 1) := by decide +kernel
theorem dL_law_493 : decode cL_law 493 = .ok (.iaload, 1) := by decide +kernel
theorem dL_law_494 : decode cL_law 494 = .ok (.invokevirtual 72, 3) := by decide +kernel
theorem dL_law_497 : decode cL_law 497 = .ok (.if_icmp .eq 543, 3) := by decide +kernel
theorem dL_law_500 : decode cL_law 500 = .ok (.iconst 0, 1) := by decide +kernel
theorem dL_law_501 : decode cL_law 501 = .ok (.ireturn, 1) := by decide +kernel
theorem dL_law_502 : decode cL_law 502 = .ok (.aload_n 1, 1) := by decide +kernel
theorem dL_law_503 : decode cL_law 503 = .ok (.aload_n 0, 1) := by decide +kernel
theorem dL_law_504 : decode cL_law 504 = .ok (.iload_n 3, 1) := by decide +kernel
theorem dL_law_505 : decode cL_law 505 = .ok (.iconst 1, 1) := by decide +kernel
theorem dL_law_506 : decode cL_law 506 = .ok (.iadd, 1) := by decide +kernel
theorem dL_law_507 : decode cL_law 507 = .ok (.iaload, 1) := by decide +kernel
theorem dL_law_508 : decode cL_law 508 = .ok (.aload_n 0, 1) := by decide +kernel
theorem dL_law_509 : decode cL_law 509 = .ok (.iload_n 3, 1) := by decide +kernel
theorem dL_law_510 : decode cL_law 510 = .ok (.iconst 2, 1) := by decide +kernel
theorem dL_law_511 : decode cL_law 511 = .ok (.iadd, 1) := by decide +kernel
theorem dL_law_512 : decode cL_law 512 = .ok (.iaload, 1) := by decide +kernel
theorem dL_law_513 : decode cL_law 513 = .ok (.invokevirtual 73, 3) := by decide +kernel
theorem dL_law_516 : decode cL_law 516 = .ok (.aload_n 2, 1) := by decide +kernel
theorem dL_law_517 : decode cL_law 517 = .ok (.aload_n 0, 1) := by decide +kernel
theorem dL_law_518 : decode cL_law 518 = .ok (.iload_n 3, 1) := by decide +kernel
theorem dL_law_519 : decode cL_law 519 = .ok (.iconst 1, 1) := by decide +kernel
theorem dL_law_520 : decode cL_law 520 = .ok (.iadd, 1) := by decide +kernel
theorem dL_law_521 : decode cL_law 521 = .ok (.iaload, 1) := by decide +kernel
theorem dL_law_522 : decode cL_law 522 = .ok (.aload_n 0, 1) := by decide +kernel
theorem dL_law_523 : decode cL_law 523 = .ok (.iload_n 3, 1) := by decide +kernel
theorem dL_law_524 : decode cL_law 524 = .ok (.iconst 2, 1) := by decide +kernel
theorem dL_law_525 : decode cL_law 525 = .ok (.iadd, 1) := by decide +kernel
theorem dL_law_526 : decode cL_law 526 = .ok (.iaload, 1) := by decide +kernel
theorem dL_law_527 : decode cL_law 527 = .ok (.invokevirtual 76, 3) := by decide +kernel
theorem dL_law_530 : decode cL_law 530 = .ok (.if_icmp .eq 510, 3) := by decide +kernel
theorem dL_law_533 : decode cL_law 533 = .ok (.iconst 0, 1) := by decide +kernel
theorem dL_law_534 : decode cL_law 534 = .ok (.ireturn, 1) := by decide +kernel
theorem dL_law_535 : decode cL_law 535 = .ok (.aload_n 1, 1) := by decide +kernel
theorem dL_law_536 : decode cL_law 536 = .ok (.aload_n 0, 1) := by decide +kernel
theorem dL_law_537 : decode cL_law 537 = .ok (.iload_n 3, 1) := by decide +kernel
theorem dL_law_538 : decode cL_law 538 = .ok (.iconst 1, 1) := by decide +kernel
theorem dL_law_539 : decode cL_law 539 = .ok (.iadd, 1) := by decide +kernel
theorem dL_law_540 : decode cL_law 540 = .ok (.iaload, 1) := by decide +kernel
theorem dL_law_541 : decode cL_law 541 = .ok (.invokevirtual 77, 3) := by decide +kernel
theorem dL_law_544 : decode cL_law 544 = .ok (.aload_n 2, 1) := by decide +kernel
theorem dL_law_545 : decode cL_law 545 = .ok (.aload_n 0, 1) := by decide +kernel
theorem dL_law_546 : decode cL_law 546 = .ok (.iload_n 3, 1) := by decide +kernel
theorem dL_law_547 : decode cL_law 547 = .ok (.iconst 1, 1) := by decide +kernel
theorem dL_law_548 : decode cL_law 548 = .ok (.iadd, 1) := by decide +kernel
theorem dL_law_549 : decode cL_law 549 = .ok (.iaload, 1) := by decide +kernel
theorem dL_law_550 : decode cL_law 550 = .ok (.invokevirtual 80, 3) := by decide +kernel
theorem dL_law_553 : decode cL_law 553 = .ok (.if_icmp .eq 487, 3) := by decide +kernel
theorem dL_law_556 : decode cL_law 556 = .ok (.iconst 0, 1) := by decide +kernel
theorem dL_law_557 : decode cL_law 557 = .ok (.ireturn, 1) := by decide +kernel
theorem dL_law_558 : decode cL_law 558 = .ok (.aload_n 1, 1) := by decide +kernel
theorem dL_law_559 : decode cL_law 559 = .ok (.aload_n 0, 1) := by decide +kernel
theorem dL_law_560 : decode cL_law 560 = .ok (.iload_n 3, 1) := by decide +kernel
theorem dL_law_561 : decode cL_law 561 = .ok (.iconst 1, 1) := by decide +kernel
theorem dL_law_562 : decode cL_law 562 = .ok (.iadd, 1) := by decide +kernel
theorem dL_law_563 : decode cL_law 563 = .ok (.iaload, 1) := by decide +kernel
theorem dL_law_564 : decode cL_law 564 = .ok (.invokevirtual 81, 3) := by decide +kernel
theorem dL_law_567 : decode cL_law 567 = .ok (.aload_n 2, 1) := by decide +kernel
theorem dL_law_568 : decode cL_law 568 = .ok (.aload_n 0, 1) := by decide +kernel
theorem dL_law_569 : decode cL_law 569 = .ok (.iload_n 3, 1) := by decide +kernel
theorem dL_law_570 : decode cL_law 570 = .ok (.iconst 1, 1) := by decide +kernel
theorem dL_law_571 : decode cL_law 571 = .ok (.iadd, 1) := by decide +kernel
theorem dL_law_572 : decode cL_law 572 = .ok (.iaload, 1) := by decide +kernel
theorem dL_law_573 : decode cL_law 573 = .ok (.invokevirtual 84, 3) := by decide +kernel
theorem dL_law_576 : decode cL_law 576 = .ok (.if_icmp .eq 464, 3) := by decide +kernel
theorem dL_law_579 : decode cL_law 579 = .ok (.iconst 0, 1) := by decide +kernel
theorem dL_law_580 : decode cL_law 580 = .ok (.ireturn, 1) := by decide +kernel
theorem dL_law_581 : decode cL_law 581 = .ok (.aload_n 1, 1) := by decide +kernel
theorem dL_law_582 : decode cL_law 582 = .ok (.aload_n 0, 1) := by decide +kernel
theorem dL_law_583 : decode cL_law 583 = .ok (.iload_n 3, 1) := by decide +kernel
theorem dL_law_584 : decode cL_law 584 = .ok (.iconst 1, 1) := by decide +kernel
theorem dL_law_585 : decode cL_law 585 = .ok (.iadd, 1) := by decide +kernel
theorem dL_law_586 : decode cL_law 586 = .ok (.iaload, 1) := by decide +kernel
theorem dL_law_587 : decode cL_law 587 = .ok (.aload_n 0, 1) := by decide +kernel
theorem dL_law_588 : decode cL_law 588 = .ok (.iload_n 3, 1) := by decide +kernel
theorem dL_law_589 : decode cL_law 589 = .ok (.iconst 2, 1) := by decide +kernel
theorem dL_law_590 : decode cL_law 590 = .ok (.iadd, 1) := by decide +kernel
theorem dL_law_591 : decode cL_law 591 = .ok (.iaload, 1) := by decide +kernel
theorem dL_law_592 : decode cL_law 592 = .ok (.invokevirtual 85, 3) := by decide +kernel
theorem dL_law_595 : decode cL_law 595 = .ok (.aload_n 2, 1) := by decide +kernel
theorem dL_law_596 : decode cL_law 596 = .ok (.aload_n 0, 1) := by decide +kernel
theorem dL_law_597 : decode cL_law 597 = .ok (.iload_n 3, 1) := by decide +kernel
theorem dL_law_598 : decode cL_law 598 = .ok (.iconst 1, 1) := by decide +kernel
theorem dL_law_599 : decode cL_law 599 = .ok (.iadd, 1) := by decide +kernel
theorem dL_law_600 : decode cL_law 600 = .ok (.iaload, 1) := by decide +kernel
theorem dL_law_601 : decode cL_law 601 = .ok (.aload_n 0, 1) := by decide +kernel
theorem dL_law_602 : decode cL_law 602 = .ok (.iload_n 3, 1) := by decide +kernel
theorem dL_law_603 : decode cL_law 603 = .ok (.iconst 2, 1) := by decide +kernel
theorem dL_law_604 : decode cL_law 604 = .ok (.iadd, 1) := by decide +kernel
theorem dL_law_605 : decode cL_law 605 = .ok (.iaload, 1) := by decide +kernel
theorem dL_law_606 : decode cL_law 606 = .ok (.invokevirtual 88, 3) := by decide +kernel
theorem dL_law_609 : decode cL_law 609 = .ok (.if_icmp .eq 431, 3) := by decide +kernel
theorem dL_law_612 : decode cL_law 612 = .ok (.iconst 0, 1) := by decide +kernel
theorem dL_law_613 : decode cL_law 613 = .ok (.ireturn, 1) := by decide +kernel
theorem dL_law_614 : decode cL_law 614 = .ok (.aload_n 1, 1) := by decide +kernel
theorem dL_law_615 : decode cL_law 615 = .ok (.aload_n 0, 1) := by decide +kernel
theorem dL_law_616 : decode cL_law 616 = .ok (.iload_n 3, 1) := by decide +kernel
theorem dL_law_617 : decode cL_law 617 = .ok (.iconst 1, 1) := by decide +kernel
theorem dL_law_618 : decode cL_law 618 = .ok (.iadd, 1) := by decide +kernel
theorem dL_law_619 : decode cL_law 619 = .ok (.iaload, 1) := by decide +kernel
theorem dL_law_620 : decode cL_law 620 = .ok (.aload_n 0, 1) := by decide +kernel
theorem dL_law_621 : decode cL_law 621 = .ok (.iload_n 3, 1) := by decide +kernel
theorem dL_law_622 : decode cL_law 622 = .ok (.iconst 2, 1) := by decide +kernel
theorem dL_law_623 : decode cL_law 623 = .ok (.iadd, 1) := by decide +kernel
theorem dL_law_624 : decode cL_law 624 = .ok (.iaload, 1) := by decide +kernel
theorem dL_law_625 : decode cL_law 625 = .ok (.i2l, 1) := by decide +kernel
theorem dL_law_626 : decode cL_law 626 = .ok (.bipush 32, 2) := by decide +kernel
theorem dL_law_628 : decode cL_law 628 = .ok (.lshl, 1) := by decide +kernel
theorem dL_law_629 : decode cL_law 629 = .ok (.aload_n 0, 1) := by decide +kernel
theorem dL_law_630 : decode cL_law 630 = .ok (.iload_n 3, 1) := by decide +kernel
theorem dL_law_631 : decode cL_law 631 = .ok (.iconst 3, 1) := by decide +kernel
theorem dL_law_632 : decode cL_law 632 = .ok (.iadd, 1) := by decide +kernel
theorem dL_law_633 : decode cL_law 633 = .ok (.iaload, 1) := by decide +kernel
theorem dL_law_634 : decode cL_law 634 = .ok (.i2l, 1) := by decide +kernel
theorem dL_law_635 : decode cL_law 635 = .ok (.ldc2_w 89, 3) := by decide +kernel
theorem dL_law_638 : decode cL_law 638 = .ok (.land, 1) := by decide +kernel
theorem dL_law_639 : decode cL_law 639 = .ok (.lor, 1) := by decide +kernel
theorem dL_law_640 : decode cL_law 640 = .ok (.invokevirtual 91, 3) := by decide +kernel
theorem dL_law_643 : decode cL_law 643 = .ok (.aload_n 2, 1) := by decide +kernel
theorem dL_law_644 : decode cL_law 644 = .ok (.aload_n 0, 1) := by decide +kernel
theorem dL_law_645 : decode cL_law 645 = .ok (.iload_n 3, 1) := by decide +kernel
theorem dL_law_646 : decode cL_law 646 = .ok (.iconst 1, 1) := by decide +kernel
theorem dL_law_647 : decode cL_law 647 = .ok (.iadd, 1) := by decide +kernel
theorem dL_law_648 : decode cL_law 648 = .ok (.iaload, 1) := by decide +kernel
theorem dL_law_649 : decode cL_law 649 = .ok (.aload_n 0, 1) := by decide +kernel
theorem dL_law_650 : decode cL_law 650 = .ok (.iload_n 3, 1) := by decide +kernel
theorem dL_law_651 : decode cL_law 651 = .ok (.iconst 2, 1) := by decide +kernel
theorem dL_law_652 : decode cL_law 652 = .ok (.iadd, 1) := by decide +kernel
theorem dL_law_653 : decode cL_law 653 = .ok (.iaload, 1) := by decide +kernel
theorem dL_law_654 : decode cL_law 654 = .ok (.i2l, 1) := by decide +kernel
theorem dL_law_655 : decode cL_law 655 = .ok (.bipush 32, 2) := by decide +kernel
theorem dL_law_657 : decode cL_law 657 = .ok (.lshl, 1) := by decide +kernel
theorem dL_law_658 : decode cL_law 658 = .ok (.aload_n 0, 1) := by decide +kernel
theorem dL_law_659 : decode cL_law 659 = .ok (.iload_n 3, 1) := by decide +kernel
theorem dL_law_660 : decode cL_law 660 = .ok (.iconst 3, 1) := by decide +kernel
theorem dL_law_661 : decode cL_law 661 = .ok (.iadd, 1) := by decide +kernel
theorem dL_law_662 : decode cL_law 662 = .ok (.iaload, 1) := by decide +kernel
theorem dL_law_663 : decode cL_law 663 = .ok (.i2l, 1) := by decide +kernel
theorem dL_law_664 : decode cL_law 664 = .ok (.ldc2_w 89, 3) := by decide +kernel
theorem dL_law_667 : decode cL_law 667 = .ok (.land, 1) := by decide +kernel
theorem dL_law_668 : decode cL_law 668 = .ok (.lor, 1) := by decide +kernel
theorem dL_law_669 : decode cL_law 669 = .ok (.invokevirtual 95, 3) := by decide +kernel
theorem dL_law_672 : decode cL_law 672 = .ok (.if_icmp .eq 368, 3) := by decide +kernel
theorem dL_law_675 : decode cL_law 675 = .ok (.iconst 0, 1) := by decide +kernel
theorem dL_law_676 : decode cL_law 676 = .ok (.ireturn, 1) := by decide +kernel
theorem dL_law_677 : decode cL_law 677 = .ok (.aload_n 1, 1) := by decide +kernel
theorem dL_law_678 : decode cL_law 678 = .ok (.aload_n 0, 1) := by decide +kernel
theorem dL_law_679 : decode cL_law 679 = .ok (.iload_n 3, 1) := by decide +kernel
theorem dL_law_680 : decode cL_law 680 = .ok (.iconst 1, 1) := by decide +kernel
theorem dL_law_681 : decode cL_law 681 = .ok (.iadd, 1) := by decide +kernel
theorem dL_law_682 : decode cL_law 682 = .ok (.iaload, 1) := by decide +kernel
theorem dL_law_683 : decode cL_law 683 = .ok (.aload_n 0, 1) := by decide +kernel
theorem dL_law_684 : decode cL_law 684 = .ok (.iload_n 3, 1) := by decide +kernel
theorem dL_law_685 : decode cL_law 685 = .ok (.iconst 2, 1) := by decide +kernel
theorem dL_law_686 : decode cL_law 686 = .ok (.iadd, 1) := by decide +kernel
theorem dL_law_687 : decode cL_law 687 = .ok (.iaload, 1) := by decide +kernel
theorem dL_law_688 : decode cL_law 688 = .ok (.ifCond .eq 7, 3) := by decide +kernel
theorem dL_law_691 : decode cL_law 691 = .ok (.iconst 1, 1) := by decide +kernel
theorem dL_law_692 : decode cL_law 692 = .ok (.goto 4, 3) := by decide +kernel
theorem dL_law_695 : decode cL_law 695 = .ok (.iconst 0, 1) := by decide +kernel
theorem dL_law_696 : decode cL_law 696 = .ok (.invokevirtual 96, 3) := by decide +kernel
theorem dL_law_699 : decode cL_law 699 = .ok (.aload_n 2, 1) := by decide +kernel
theorem dL_law_700 : decode cL_law 700 = .ok (.aload_n 0, 1) := by decide +kernel
theorem dL_law_701 : decode cL_law 701 = .ok (.iload_n 3, 1) := by decide +kernel
theorem dL_law_702 : decode cL_law 702 = .ok (.iconst 1, 1) := by decide +kernel
theorem dL_law_703 : decode cL_law 703 = .ok (.iadd, 1) := by decide +kernel
theorem dL_law_704 : decode cL_law 704 = .ok (.iaload, 1) := by decide +kernel
theorem dL_law_705 : decode cL_law 705 = .ok (.aload_n 0, 1) := by decide +kernel
theorem dL_law_706 : decode cL_law 706 = .ok (.iload_n 3, 1) := by decide +kernel
theorem dL_law_707 : decode cL_law 707 = .ok (.iconst 2, 1) := by decide +kernel
theorem dL_law_708 : decode cL_law 708 = .ok (.iadd, 1) := by decide +kernel
theorem dL_law_709 : decode cL_law 709 = .ok (.iaload, 1) := by decide +kernel
theorem dL_law_710 : decode cL_law 710 = .ok (.ifCond .eq 7, 3) := by decide +kernel
theorem dL_law_713 : decode cL_law 713 = .ok (.iconst 1, 1) := by decide +kernel
theorem dL_law_714 : decode cL_law 714 = .ok (.goto 4, 3) := by decide +kernel
theorem dL_law_717 : decode cL_law 717 = .ok (.iconst 0, 1) := by decide +kernel
theorem dL_law_718 : decode cL_law 718 = .ok (.invokevirtual 99, 3) := by decide +kernel
theorem dL_law_721 : decode cL_law 721 = .ok (.if_icmp .eq 319, 3) := by decide +kernel
theorem dL_law_724 : decode cL_law 724 = .ok (.iconst 0, 1) := by decide +kernel
theorem dL_law_725 : decode cL_law 725 = .ok (.ireturn, 1) := by decide +kernel
theorem dL_law_726 : decode cL_law 726 = .ok (.aload_n 1, 1) := by decide +kernel
theorem dL_law_727 : decode cL_law 727 = .ok (.aload_n 0, 1) := by decide +kernel
theorem dL_law_728 : decode cL_law 728 = .ok (.iload_n 3, 1) := by decide +kernel
theorem dL_law_729 : decode cL_law 729 = .ok (.iconst 1, 1) := by decide +kernel
theorem dL_law_730 : decode cL_law 730 = .ok (.iadd, 1) := by decide +kernel
theorem dL_law_731 : decode cL_law 731 = .ok (.iaload, 1) := by decide +kernel
theorem dL_law_732 : decode cL_law 732 = .ok (.aload_n 0, 1) := by decide +kernel
theorem dL_law_733 : decode cL_law 733 = .ok (.iload_n 3, 1) := by decide +kernel
theorem dL_law_734 : decode cL_law 734 = .ok (.iconst 2, 1) := by decide +kernel
theorem dL_law_735 : decode cL_law 735 = .ok (.iadd, 1) := by decide +kernel
theorem dL_law_736 : decode cL_law 736 = .ok (.iaload, 1) := by decide +kernel
theorem dL_law_737 : decode cL_law 737 = .ok (.aload_n 0, 1) := by decide +kernel
theorem dL_law_738 : decode cL_law 738 = .ok (.iload_n 3, 1) := by decide +kernel
theorem dL_law_739 : decode cL_law 739 = .ok (.iconst 3, 1) := by decide +kernel
theorem dL_law_740 : decode cL_law 740 = .ok (.iadd, 1) := by decide +kernel
theorem dL_law_741 : decode cL_law 741 = .ok (.iaload, 1) := by decide +kernel
theorem dL_law_742 : decode cL_law 742 = .ok (.invokevirtual 100, 3) := by decide +kernel
theorem dL_law_745 : decode cL_law 745 = .ok (.aload_n 2, 1) := by decide +kernel
theorem dL_law_746 : decode cL_law 746 = .ok (.aload_n 0, 1) := by decide +kernel
theorem dL_law_747 : decode cL_law 747 = .ok (.iload_n 3, 1) := by decide +kernel
theorem dL_law_748 : decode cL_law 748 = .ok (.iconst 1, 1) := by decide +kernel
theorem dL_law_749 : decode cL_law 749 = .ok (.iadd, 1) := by decide +kernel
theorem dL_law_750 : decode cL_law 750 = .ok (.iaload, 1) := by decide +kernel
theorem dL_law_751 : decode cL_law 751 = .ok (.aload_n 0, 1) := by decide +kernel
theorem dL_law_752 : decode cL_law 752 = .ok (.iload_n 3, 1) := by decide +kernel
theorem dL_law_753 : decode cL_law 753 = .ok (.iconst 2, 1) := by decide +kernel
theorem dL_law_754 : decode cL_law 754 = .ok (.iadd, 1) := by decide +kernel
theorem dL_law_755 : decode cL_law 755 = .ok (.iaload, 1) := by decide +kernel
theorem dL_law_756 : decode cL_law 756 = .ok (.aload_n 0, 1) := by decide +kernel
theorem dL_law_757 : decode cL_law 757 = .ok (.iload_n 3, 1) := by decide +kernel
theorem dL_law_758 : decode cL_law 758 = .ok (.iconst 3, 1) := by decide +kernel
theorem dL_law_759 : decode cL_law 759 = .ok (.iadd, 1) := by decide +kernel
theorem dL_law_760 : decode cL_law 760 = .ok (.iaload, 1) := by decide +kernel
theorem dL_law_761 : decode cL_law 761 = .ok (.invokevirtual 104, 3) := by decide +kernel
theorem dL_law_764 : decode cL_law 764 = .ok (.if_icmp .eq 276, 3) := by decide +kernel
theorem dL_law_767 : decode cL_law 767 = .ok (.iconst 0, 1) := by decide +kernel
theorem dL_law_768 : decode cL_law 768 = .ok (.ireturn, 1) := by decide +kernel
theorem dL_law_769 : decode cL_law 769 = .ok (.aload_n 1, 1) := by decide +kernel
theorem dL_law_770 : decode cL_law 770 = .ok (.invokevirtual 105, 3) := by decide +kernel
theorem dL_law_773 : decode cL_law 773 = .ok (.aload_n 2, 1) := by decide +kernel
theorem dL_law_774 : decode cL_law 774 = .ok (.invokevirtual 108, 3) := by decide +kernel
theorem dL_law_777 : decode cL_law 777 = .ok (.if_icmp .eq 263, 3) := by decide +kernel
theorem dL_law_780 : decode cL_law 780 = .ok (.iconst 0, 1) := by decide +kernel
theorem dL_law_781 : decode cL_law 781 = .ok (.ireturn, 1) := by decide +kernel
theorem dL_law_782 : decode cL_law 782 = .ok (.aload_n 1, 1) := by decide +kernel
theorem dL_law_783 : decode cL_law 783 = .ok (.aload_n 0, 1) := by decide +kernel
theorem dL_law_784 : decode cL_law 784 = .ok (.iload_n 3, 1) := by decide +kernel
theorem dL_law_785 : decode cL_law 785 = .ok (.iconst 1, 1) := by decide +kernel
theorem dL_law_786 : decode cL_law 786 = .ok (.iadd, 1) := by decide +kernel
theorem dL_law_787 : decode cL_law 787 = .ok (.iaload, 1) := by decide +kernel
theorem dL_law_788 : decode cL_law 788 = .ok (.invokevirtual 109, 3) := by decide +kernel
theorem dL_law_791 : decode cL_law 791 = .ok (.aload_n 2, 1) := by decide +kernel
theorem dL_law_792 : decode cL_law 792 = .ok (.aload_n 0, 1) := by decide +kernel
theorem dL_law_793 : decode cL_law 793 = .ok (.iload_n 3, 1) := by decide +kernel
theorem dL_law_794 : decode cL_law 794 = .ok (.iconst 1, 1) := by decide +kernel
theorem dL_law_795 : decode cL_law 795 = .ok (.iadd, 1) := by decide +kernel
theorem dL_law_796 : decode cL_law 796 = .ok (.iaload, 1) := by decide +kernel
theorem dL_law_797 : decode cL_law 797 = .ok (.invokevirtual 112, 3) := by decide +kernel
theorem dL_law_800 : decode cL_law 800 = .ok (.if_icmp .eq 240, 3) := by decide +kernel
theorem dL_law_803 : decode cL_law 803 = .ok (.iconst 0, 1) := by decide +kernel
theorem dL_law_804 : decode cL_law 804 = .ok (.ireturn, 1) := by decide +kernel
theorem dL_law_805 : decode cL_law 805 = .ok (.aload_n 1, 1) := by decide +kernel
theorem dL_law_806 : decode cL_law 806 = .ok (.aload_n 0, 1) := by decide +kernel
theorem dL_law_807 : decode cL_law 807 = .ok (.iload_n 3, 1) := by decide +kernel
theorem dL_law_808 : decode cL_law 808 = .ok (.iconst 1, 1) := by decide +kernel
theorem dL_law_809 : decode cL_law 809 = .ok (.iadd, 1) := by decide +kernel
theorem dL_law_810 : decode cL_law 810 = .ok (.iaload, 1) := by decide +kernel
theorem dL_law_811 : decode cL_law 811 = .ok (.aload_n 0, 1) := by decide +kernel
theorem dL_law_812 : decode cL_law 812 = .ok (.iload_n 3, 1) := by decide +kernel
theorem dL_law_813 : decode cL_law 813 = .ok (.iconst 2, 1) := by decide +kernel
theorem dL_law_814 : decode cL_law 814 = .ok (.iadd, 1) := by decide +kernel
theorem dL_law_815 : decode cL_law 815 = .ok (.iaload, 1) := by decide +kernel
theorem dL_law_816 : decode cL_law 816 = .ok (.aload_n 0, 1) := by decide +kernel
theorem dL_law_817 : decode cL_law 817 = .ok (.iload_n 3, 1) := by decide +kernel
theorem dL_law_818 : decode cL_law 818 = .ok (.iconst 3, 1) := by decide +kernel
theorem dL_law_819 : decode cL_law 819 = .ok (.iadd, 1) := by decide +kernel
theorem dL_law_820 : decode cL_law 820 = .ok (.iaload, 1) := by decide +kernel
theorem dL_law_821 : decode cL_law 821 = .ok (.invokevirtual 113, 3) := by decide +kernel
theorem dL_law_824 : decode cL_law 824 = .ok (.aload_n 2, 1) := by decide +kernel
theorem dL_law_825 : decode cL_law 825 = .ok (.aload_n 0, 1) := by decide +kernel
theorem dL_law_826 : decode cL_law 826 = .ok (.iload_n 3, 1) := by decide +kernel
theorem dL_law_827 : decode cL_law 827 = .ok (.iconst 1, 1) := by decide +kernel
theorem dL_law_828 : decode cL_law 828 = .ok (.iadd, 1) := by decide +kernel
theorem dL_law_829 : decode cL_law 829 = .ok (.iaload, 1) := by decide +kernel
theorem dL_law_830 : decode cL_law 830 = .ok (.aload_n 0, 1) := by decide +kernel
theorem dL_law_831 : decode cL_law 831 = .ok (.iload_n 3, 1) := by decide +kernel
theorem dL_law_832 : decode cL_law 832 = .ok (.iconst 2, 1) := by decide +kernel
theorem dL_law_833 : decode cL_law 833 = .ok (.iadd, 1) := by decide +kernel
theorem dL_law_834 : decode cL_law 834 = .ok (.iaload, 1) := by decide +kernel
theorem dL_law_835 : decode cL_law 835 = .ok (.aload_n 0, 1) := by decide +kernel
theorem dL_law_836 : decode cL_law 836 = .ok (.iload_n 3, 1) := by decide +kernel
theorem dL_law_837 : decode cL_law 837 = .ok (.iconst 3, 1) := by decide +kernel
theorem dL_law_838 : decode cL_law 838 = .ok (.iadd, 1) := by decide +kernel
theorem dL_law_839 : decode cL_law 839 = .ok (.iaload, 1) := by decide +kernel
theorem dL_law_840 : decode cL_law 840 = .ok (.invokevirtual 116, 3) := by decide +kernel
theorem dL_law_843 : decode cL_law 843 = .ok (.if_icmp .eq 197, 3) := by decide +kernel
theorem dL_law_846 : decode cL_law 846 = .ok (.iconst 0, 1) := by decide +kernel
theorem dL_law_847 : decode cL_law 847 = .ok (.ireturn, 1) := by decide +kernel
theorem dL_law_848 : decode cL_law 848 = .ok (.aload_n 1, 1) := by decide +kernel
theorem dL_law_849 : decode cL_law 849 = .ok (.aload_n 0, 1) := by decide +kernel
theorem dL_law_850 : decode cL_law 850 = .ok (.iload_n 3, 1) := by decide +kernel
theorem dL_law_851 : decode cL_law 851 = .ok (.iconst 1, 1) := by decide +kernel
theorem dL_law_852 : decode cL_law 852 = .ok (.iadd, 1) := by decide +kernel
theorem dL_law_853 : decode cL_law 853 = .ok (.iaload, 1) := by decide +kernel
theorem dL_law_854 : decode cL_law 854 = .ok (.aload_n 0, 1) := by decide +kernel
theorem dL_law_855 : decode cL_law 855 = .ok (.iload_n 3, 1) := by decide +kernel
theorem dL_law_856 : decode cL_law 856 = .ok (.iconst 2, 1) := by decide +kernel
theorem dL_law_857 : decode cL_law 857 = .ok (.iadd, 1) := by decide +kernel
theorem dL_law_858 : decode cL_law 858 = .ok (.iaload, 1) := by decide +kernel
theorem dL_law_859 : decode cL_law 859 = .ok (.aload_n 0, 1) := by decide +kernel
theorem dL_law_860 : decode cL_law 860 = .ok (.iload_n 3, 1) := by decide +kernel
theorem dL_law_861 : decode cL_law 861 = .ok (.iconst 3, 1) := by decide +kernel
theorem dL_law_862 : decode cL_law 862 = .ok (.iadd, 1) := by decide +kernel
theorem dL_law_863 : decode cL_law 863 = .ok (.iaload, 1) := by decide +kernel
theorem dL_law_864 : decode cL_law 864 = .ok (.aload_n 0, 1) := by decide +kernel
theorem dL_law_865 : decode cL_law 865 = .ok (.iload_n 3, 1) := by decide +kernel
theorem dL_law_866 : decode cL_law 866 = .ok (.iconst 4, 1) := by decide +kernel
theorem dL_law_867 : decode cL_law 867 = .ok (.iadd, 1) := by decide +kernel
theorem dL_law_868 : decode cL_law 868 = .ok (.iaload, 1) := by decide +kernel
theorem dL_law_869 : decode cL_law 869 = .ok (.ifCond .eq 7, 3) := by decide +kernel
theorem dL_law_872 : decode cL_law 872 = .ok (.iconst 1, 1) := by decide +kernel
theorem dL_law_873 : decode cL_law 873 = .ok (.goto 4, 3) := by decide +kernel
theorem dL_law_876 : decode cL_law 876 = .ok (.iconst 0, 1) := by decide +kernel
theorem dL_law_877 : decode cL_law 877 = .ok (.invokevirtual 117, 3) := by decide +kernel
theorem dL_law_880 : decode cL_law 880 = .ok (.aload_n 2, 1) := by decide +kernel
theorem dL_law_881 : decode cL_law 881 = .ok (.aload_n 0, 1) := by decide +kernel
theorem dL_law_882 : decode cL_law 882 = .ok (.iload_n 3, 1) := by decide +kernel
theorem dL_law_883 : decode cL_law 883 = .ok (.iconst 1, 1) := by decide +kernel
theorem dL_law_884 : decode cL_law 884 = .ok (.iadd, 1) := by decide +kernel
theorem dL_law_885 : decode cL_law 885 = .ok (.iaload, 1) := by decide +kernel
theorem dL_law_886 : decode cL_law 886 = .ok (.aload_n 0, 1) := by decide +kernel
theorem dL_law_887 : decode cL_law 887 = .ok (.iload_n 3, 1) := by decide +kernel
theorem dL_law_888 : decode cL_law 888 = .ok (.iconst 2, 1) := by decide +kernel
theorem dL_law_889 : decode cL_law 889 = .ok (.iadd, 1) := by decide +kernel
theorem dL_law_890 : decode cL_law 890 = .ok (.iaload, 1) := by decide +kernel
theorem dL_law_891 : decode cL_law 891 = .ok (.aload_n 0, 1) := by decide +kernel
theorem dL_law_892 : decode cL_law 892 = .ok (.iload_n 3, 1) := by decide +kernel
theorem dL_law_893 : decode cL_law 893 = .ok (.iconst 3, 1) := by decide +kernel
theorem dL_law_894 : decode cL_law 894 = .ok (.iadd, 1) := by decide +kernel
theorem dL_law_895 : decode cL_law 895 = .ok (.iaload, 1) := by decide +kernel
theorem dL_law_896 : decode cL_law 896 = .ok (.aload_n 0, 1) := by decide +kernel
theorem dL_law_897 : decode cL_law 897 = .ok (.iload_n 3, 1) := by decide +kernel
theorem dL_law_898 : decode cL_law 898 = .ok (.iconst 4, 1) := by decide +kernel
theorem dL_law_899 : decode cL_law 899 = .ok (.iadd, 1) := by decide +kernel
theorem dL_law_900 : decode cL_law 900 = .ok (.iaload, 1) := by decide +kernel
theorem dL_law_901 : decode cL_law 901 = .ok (.ifCond .eq 7, 3) := by decide +kernel
theorem dL_law_904 : decode cL_law 904 = .ok (.iconst 1, 1) := by decide +kernel
theorem dL_law_905 : decode cL_law 905 = .ok (.goto 4, 3) := by decide +kernel
theorem dL_law_908 : decode cL_law 908 = .ok (.iconst 0, 1) := by decide +kernel
theorem dL_law_909 : decode cL_law 909 = .ok (.invokevirtual 121, 3) := by decide +kernel
theorem dL_law_912 : decode cL_law 912 = .ok (.if_icmp .eq 128, 3) := by decide +kernel
theorem dL_law_915 : decode cL_law 915 = .ok (.iconst 0, 1) := by decide +kernel
theorem dL_law_916 : decode cL_law 916 = .ok (.ireturn, 1) := by decide +kernel
theorem dL_law_917 : decode cL_law 917 = .ok (.aload_n 1, 1) := by decide +kernel
theorem dL_law_918 : decode cL_law 918 = .ok (.aload_n 0, 1) := by decide +kernel
theorem dL_law_919 : decode cL_law 919 = .ok (.iload_n 3, 1) := by decide +kernel
theorem dL_law_920 : decode cL_law 920 = .ok (.iconst 1, 1) := by decide +kernel
theorem dL_law_921 : decode cL_law 921 = .ok (.iadd, 1) := by decide +kernel
theorem dL_law_922 : decode cL_law 922 = .ok (.iaload, 1) := by decide +kernel
theorem dL_law_923 : decode cL_law 923 = .ok (.i2l, 1) := by decide +kernel
theorem dL_law_924 : decode cL_law 924 = .ok (.bipush 32, 2) := by decide +kernel
theorem dL_law_926 : decode cL_law 926 = .ok (.lshl, 1) := by decide +kernel
theorem dL_law_927 : decode cL_law 927 = .ok (.aload_n 0, 1) := by decide +kernel
theorem dL_law_928 : decode cL_law 928 = .ok (.iload_n 3, 1) := by decide +kernel
theorem dL_law_929 : decode cL_law 929 = .ok (.iconst 2, 1) := by decide +kernel
theorem dL_law_930 : decode cL_law 930 = .ok (.iadd, 1) := by decide +kernel
theorem dL_law_931 : decode cL_law 931 = .ok (.iaload, 1) := by decide +kernel
theorem dL_law_932 : decode cL_law 932 = .ok (.i2l, 1) := by decide +kernel
theorem dL_law_933 : decode cL_law 933 = .ok (.ldc2_w 89, 3) := by decide +kernel
theorem dL_law_936 : decode cL_law 936 = .ok (.land, 1) := by decide +kernel
theorem dL_law_937 : decode cL_law 937 = .ok (.lor, 1) := by decide +kernel
theorem dL_law_938 : decode cL_law 938 = .ok (.invokevirtual 122, 3) := by decide +kernel
theorem dL_law_941 : decode cL_law 941 = .ok (.aload_n 2, 1) := by decide +kernel
theorem dL_law_942 : decode cL_law 942 = .ok (.aload_n 0, 1) := by decide +kernel
theorem dL_law_943 : decode cL_law 943 = .ok (.iload_n 3, 1) := by decide +kernel
theorem dL_law_944 : decode cL_law 944 = .ok (.iconst 1, 1) := by decide +kernel
theorem dL_law_945 : decode cL_law 945 = .ok (.iadd, 1) := by decide +kernel
theorem dL_law_946 : decode cL_law 946 = .ok (.iaload, 1) := by decide +kernel
theorem dL_law_947 : decode cL_law 947 = .ok (.i2l, 1) := by decide +kernel
theorem dL_law_948 : decode cL_law 948 = .ok (.bipush 32, 2) := by decide +kernel
theorem dL_law_950 : decode cL_law 950 = .ok (.lshl, 1) := by decide +kernel
theorem dL_law_951 : decode cL_law 951 = .ok (.aload_n 0, 1) := by decide +kernel
theorem dL_law_952 : decode cL_law 952 = .ok (.iload_n 3, 1) := by decide +kernel
theorem dL_law_953 : decode cL_law 953 = .ok (.iconst 2, 1) := by decide +kernel
theorem dL_law_954 : decode cL_law 954 = .ok (.iadd, 1) := by decide +kernel
theorem dL_law_955 : decode cL_law 955 = .ok (.iaload, 1) := by decide +kernel
theorem dL_law_956 : decode cL_law 956 = .ok (.i2l, 1) := by decide +kernel
theorem dL_law_957 : decode cL_law 957 = .ok (.ldc2_w 89, 3) := by decide +kernel
theorem dL_law_960 : decode cL_law 960 = .ok (.land, 1) := by decide +kernel
theorem dL_law_961 : decode cL_law 961 = .ok (.lor, 1) := by decide +kernel
theorem dL_law_962 : decode cL_law 962 = .ok (.invokevirtual 126, 3) := by decide +kernel
theorem dL_law_965 : decode cL_law 965 = .ok (.lcmp, 1) := by decide +kernel
theorem dL_law_966 : decode cL_law 966 = .ok (.ifCond .eq 74, 3) := by decide +kernel
theorem dL_law_969 : decode cL_law 969 = .ok (.iconst 0, 1) := by decide +kernel
theorem dL_law_970 : decode cL_law 970 = .ok (.ireturn, 1) := by decide +kernel
theorem dL_law_971 : decode cL_law 971 = .ok (.aload_n 1, 1) := by decide +kernel
theorem dL_law_972 : decode cL_law 972 = .ok (.aload_n 0, 1) := by decide +kernel
theorem dL_law_973 : decode cL_law 973 = .ok (.iload_n 3, 1) := by decide +kernel
theorem dL_law_974 : decode cL_law 974 = .ok (.iconst 1, 1) := by decide +kernel
theorem dL_law_975 : decode cL_law 975 = .ok (.iadd, 1) := by decide +kernel
theorem dL_law_976 : decode cL_law 976 = .ok (.iaload, 1) := by decide +kernel
theorem dL_law_977 : decode cL_law 977 = .ok (.invokevirtual 127, 3) := by decide +kernel
theorem dL_law_980 : decode cL_law 980 = .ok (.aload_n 2, 1) := by decide +kernel
theorem dL_law_981 : decode cL_law 981 = .ok (.aload_n 0, 1) := by decide +kernel
theorem dL_law_982 : decode cL_law 982 = .ok (.iload_n 3, 1) := by decide +kernel
theorem dL_law_983 : decode cL_law 983 = .ok (.iconst 1, 1) := by decide +kernel
theorem dL_law_984 : decode cL_law 984 = .ok (.iadd, 1) := by decide +kernel
theorem dL_law_985 : decode cL_law 985 = .ok (.iaload, 1) := by decide +kernel
theorem dL_law_986 : decode cL_law 986 = .ok (.invokevirtual 130, 3) := by decide +kernel
theorem dL_law_989 : decode cL_law 989 = .ok (.if_icmp .eq 51, 3) := by decide +kernel
theorem dL_law_992 : decode cL_law 992 = .ok (.iconst 0, 1) := by decide +kernel
theorem dL_law_993 : decode cL_law 993 = .ok (.ireturn, 1) := by decide +kernel
theorem dL_law_994 : decode cL_law 994 = .ok (.aload_n 1, 1) := by decide +kernel
theorem dL_law_995 : decode cL_law 995 = .ok (.aload_n 0, 1) := by decide +kernel
theorem dL_law_996 : decode cL_law 996 = .ok (.iload_n 3, 1) := by decide +kernel
theorem dL_law_997 : decode cL_law 997 = .ok (.iconst 1, 1) := by decide +kernel
theorem dL_law_998 : decode cL_law 998 = .ok (.iadd, 1) := by decide +kernel
theorem dL_law_999 : decode cL_law 999 = .ok (.iaload, 1) := by decide +kernel
theorem dL_law_1000 : decode cL_law 1000 = .ok (.invokevirtual 131, 3) := by decide +kernel
theorem dL_law_1003 : decode cL_law 1003 = .ok (.aload_n 2, 1) := by decide +kernel
theorem dL_law_1004 : decode cL_law 1004 = .ok (.aload_n 0, 1) := by decide +kernel
theorem dL_law_1005 : decode cL_law 1005 = .ok (.iload_n 3, 1) := by decide +kernel
theorem dL_law_1006 : decode cL_law 1006 = .ok (.iconst 1, 1) := by decide +kernel
theorem dL_law_1007 : decode cL_law 1007 = .ok (.iadd, 1) := by decide +kernel
theorem dL_law_1008 : decode cL_law 1008 = .ok (.iaload, 1) := by decide +kernel
theorem dL_law_1009 : decode cL_law 1009 = .ok (.invokevirtual 134, 3) := by decide +kernel
theorem dL_law_1012 : decode cL_law 1012 = .ok (.if_icmp .eq 28, 3) := by decide +kernel
theorem dL_law_1015 : decode cL_law 1015 = .ok (.iconst 0, 1) := by decide +kernel
theorem dL_law_1016 : decode cL_law 1016 = .ok (.ireturn, 1) := by decide +kernel
theorem dL_law_1017 : decode cL_law 1017 = .ok (.aload_n 1, 1) := by decide +kernel
theorem dL_law_1018 : decode cL_law 1018 = .ok (.aload_n 0, 1) := by decide +kernel
theorem dL_law_1019 : decode cL_law 1019 = .ok (.iload_n 3, 1) := by decide +kernel
theorem dL_law_1020 : decode cL_law 1020 = .ok (.iconst 1, 1) := by decide +kernel
theorem dL_law_1021 : decode cL_law 1021 = .ok (.iadd, 1) := by decide +kernel
theorem dL_law_1022 : decode cL_law 1022 = .ok (.iaload, 1) := by decide +kernel
theorem dL_law_1023 : decode cL_law 1023 = .ok (.invokevirtual 135, 3) := by decide +kernel
theorem dL_law_1026 : decode cL_law 1026 = .ok (.aload_n 2, 1) := by decide +kernel
theorem dL_law_1027 : decode cL_law 1027 = .ok (.aload_n 0, 1) := by decide +kernel
theorem dL_law_1028 : decode cL_law 1028 = .ok (.iload_n 3, 1) := by decide +kernel
theorem dL_law_1029 : decode cL_law 1029 = .ok (.iconst 1, 1) := by decide +kernel
theorem dL_law_1030 : decode cL_law 1030 = .ok (.iadd, 1) := by decide +kernel
theorem dL_law_1031 : decode cL_law 1031 = .ok (.iaload, 1) := by decide +kernel
theorem dL_law_1032 : decode cL_law 1032 = .ok (.invokevirtual 138, 3) := by decide +kernel
theorem dL_law_1035 : decode cL_law 1035 = .ok (.if_icmp .eq 5, 3) := by decide +kernel
theorem dL_law_1038 : decode cL_law 1038 = .ok (.iconst 0, 1) := by decide +kernel
theorem dL_law_1039 : decode cL_law 1039 = .ok (.ireturn, 1) := by decide +kernel
theorem dL_law_1040 : decode cL_law 1040 = .ok (.iinc 3 5, 3) := by decide +kernel
theorem dL_law_1043 : decode cL_law 1043 = .ok (.goto (-1025), 3) := by decide +kernel
theorem dL_law_1046 : decode cL_law 1046 = .ok (.iconst 1, 1) := by decide +kernel
theorem dL_law_1047 : decode cL_law 1047 = .ok (.ireturn, 1) := by decide +kernel
