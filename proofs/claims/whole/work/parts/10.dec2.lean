theorem dX7_town_74 : decode cX7_town 74 = .ok (.iload_n 1, 1) := by decide +kernel
theorem dX7_town_75 : decode cX7_town 75 = .ok (.imul, 1) := by decide +kernel
theorem dX7_town_76 : decode cX7_town 76 = .ok (.iaload, 1) := by decide +kernel
theorem dX7_town_77 : decode cX7_town 77 = .ok (.iastore, 1) := by decide +kernel
theorem dX7_town_78 : decode cX7_town 78 = .ok (.aload_n 0, 1) := by decide +kernel
theorem dX7_town_79 : decode cX7_town 79 = .ok (.getfield 13, 3) := by decide +kernel
theorem dX7_town_82 : decode cX7_town 82 = .ok (.iload_n 1, 1) := by decide +kernel
theorem dX7_town_83 : decode cX7_town 83 = .ok (.aload_n 0, 1) := by decide +kernel
theorem dX7_town_84 : decode cX7_town 84 = .ok (.getfield 19, 3) := by decide +kernel
theorem dX7_town_87 : decode cX7_town 87 = .ok (.iconst 2, 1) := by decide +kernel
theorem dX7_town_88 : decode cX7_town 88 = .ok (.iload_n 1, 1) := by decide +kernel
theorem dX7_town_89 : decode cX7_town 89 = .ok (.imul, 1) := by decide +kernel
theorem dX7_town_90 : decode cX7_town 90 = .ok (.iconst 1, 1) := by decide +kernel
theorem dX7_town_91 : decode cX7_town 91 = .ok (.iadd, 1) := by decide +kernel
theorem dX7_town_92 : decode cX7_town 92 = .ok (.iaload, 1) := by decide +kernel
theorem dX7_town_93 : decode cX7_town 93 = .ok (.iastore, 1) := by decide +kernel
theorem dX7_town_94 : decode cX7_town 94 = .ok (.iinc 1 1, 3) := by decide +kernel
theorem dX7_town_97 : decode cX7_town 97 = .ok (.goto (-41), 3) := by decide +kernel
theorem dX7_town_100 : decode cX7_town 100 = .ok (.iconst 0, 1) := by decide +kernel
theorem dX7_town_101 : decode cX7_town 101 = .ok (.istore_n 1, 1) := by decide +kernel
theorem dX7_town_102 : decode cX7_town 102 = .ok (.iload_n 1, 1) := by decide +kernel
theorem dX7_town_103 : decode cX7_town 103 = .ok (.iconst 3, 1) := by decide +kernel
theorem dX7_town_104 : decode cX7_town 104 = .ok (.aload_n 0, 1) := by decide +kernel
theorem dX7_town_105 : decode cX7_town 105 = .ok (.getfield 101, 3) := by decide +kernel
theorem dX7_town_108 : decode cX7_town 108 = .ok (.imul, 1) := by decide +kernel
theorem dX7_town_109 : decode cX7_town 109 = .ok (.if_icmp .ge 21, 3) := by decide +kernel
theorem dX7_town_112 : decode cX7_town 112 = .ok (.aload_n 0, 1) := by decide +kernel
theorem dX7_town_113 : decode cX7_town 113 = .ok (.getfield 16, 3) := by decide +kernel
theorem dX7_town_116 : decode cX7_town 116 = .ok (.iload_n 1, 1) := by decide +kernel
theorem dX7_town_117 : decode cX7_town 117 = .ok (.aload_n 0, 1) := by decide +kernel
theorem dX7_town_118 : decode cX7_town 118 = .ok (.getfield 22, 3) := by decide +kernel
theorem dX7_town_121 : decode cX7_town 121 = .ok (.iload_n 1, 1) := by decide +kernel
theorem dX7_town_122 : decode cX7_town 122 = .ok (.iaload, 1) := by decide +kernel
theorem dX7_town_123 : decode cX7_town 123 = .ok (.iastore, 1) := by decide +kernel
theorem dX7_town_124 : decode cX7_town 124 = .ok (.iinc 1 1, 3) := by decide +kernel
theorem dX7_town_127 : decode cX7_town 127 = .ok (.goto (-25), 3) := by decide +kernel
theorem dX7_town_130 : decode cX7_town 130 = .ok (.aload_n 0, 1) := by decide +kernel
theorem dX7_town_131 : decode cX7_town 131 = .ok (.iconst 0, 1) := by decide +kernel
theorem dX7_town_132 : decode cX7_town 132 = .ok (.putfield 104, 3) := by decide +kernel
theorem dX7_town_135 : decode cX7_town 135 = .ok (.aload_n 0, 1) := by decide +kernel
theorem dX7_town_136 : decode cX7_town 136 = .ok (.getfield 37, 3) := by decide +kernel
theorem dX7_town_139 : decode cX7_town 139 = .ok (.iconst 0, 1) := by decide +kernel
theorem dX7_town_140 : decode cX7_town 140 = .ok (.iconst 0, 1) := by decide +kernel
theorem dX7_town_141 : decode cX7_town 141 = .ok (.bastore, 1) := by decide +kernel
theorem dX7_town_142 : decode cX7_town 142 = .ok (.aload_n 0, 1) := by decide +kernel
theorem dX7_town_143 : decode cX7_town 143 = .ok (.getfield 37, 3) := by decide +kernel
theorem dX7_town_146 : decode cX7_town 146 = .ok (.iconst 1, 1) := by decide +kernel
theorem dX7_town_147 : decode cX7_town 147 = .ok (.iconst 0, 1) := by decide +kernel
theorem dX7_town_148 : decode cX7_town 148 = .ok (.bastore, 1) := by decide +kernel
theorem dX7_town_149 : decode cX7_town 149 = .ok (.bipush 10, 2) := by decide +kernel
theorem dX7_town_151 : decode cX7_town 151 = .ok (.aload_n 0, 1) := by decide +kernel
theorem dX7_town_152 : decode cX7_town 152 = .ok (.getfield 60, 3) := by decide +kernel
theorem dX7_town_155 : decode cX7_town 155 = .ok (.imul, 1) := by decide +kernel
theorem dX7_town_156 : decode cX7_town 156 = .ok (.aload_n 0, 1) := by decide +kernel
theorem dX7_town_157 : decode cX7_town 157 = .ok (.getfield 101, 3) := by decide +kernel
theorem dX7_town_160 : decode cX7_town 160 = .ok (.iadd, 1) := by decide +kernel
theorem dX7_town_161 : decode cX7_town 161 = .ok (.ireturn, 1) := by decide +kernel
theorem dX7_openIn_0 : decode cX7_openIn 0 = .ok (.iconst 0, 1) := by decide +kernel
theorem dX7_openIn_1 : decode cX7_openIn 1 = .ok (.istore_n 3, 1) := by decide +kernel
theorem dX7_openIn_2 : decode cX7_openIn 2 = .ok (.iconst 0, 1) := by decide +kernel
theorem dX7_openIn_3 : decode cX7_openIn 3 = .ok (.istore 4, 2) := by decide +kernel
theorem dX7_openIn_5 : decode cX7_openIn 5 = .ok (.iload 4, 2) := by decide +kernel
theorem dX7_openIn_7 : decode cX7_openIn 7 = .ok (.aload_n 0, 1) := by decide +kernel
theorem dX7_openIn_8 : decode cX7_openIn 8 = .ok (.getfield 60, 3) := by decide +kernel
theorem dX7_openIn_11 : decode cX7_openIn 11 = .ok (.if_icmp .ge 36, 3) := by decide +kernel
theorem dX7_openIn_14 : decode cX7_openIn 14 = .ok (.iload_n 3, 1) := by decide +kernel
theorem dX7_openIn_15 : decode cX7_openIn 15 = .ok (.aload_n 1, 1) := by decide +kernel
theorem dX7_openIn_16 : decode cX7_openIn 16 = .ok (.iconst 5, 1) := by decide +kernel
theorem dX7_openIn_17 : decode cX7_openIn 17 = .ok (.iaload, 1) := by decide +kernel
theorem dX7_openIn_18 : decode cX7_openIn 18 = .ok (.iload 4, 2) := by decide +kernel
theorem dX7_openIn_20 : decode cX7_openIn 20 = .ok (.invokestatic 107, 3) := by decide +kernel
theorem dX7_openIn_23 : decode cX7_openIn 23 = .ok (.ifCond .eq 15, 3) := by decide +kernel
theorem dX7_openIn_26 : decode cX7_openIn 26 = .ok (.aload_n 1, 1) := by decide +kernel
theorem dX7_openIn_27 : decode cX7_openIn 27 = .ok (.iload 4, 2) := by decide +kernel
theorem dX7_openIn_29 : decode cX7_openIn 29 = .ok (.iaload, 1) := by decide +kernel
theorem dX7_openIn_30 : decode cX7_openIn 30 = .ok (.iload_n 2, 1) := by decide +kernel
theorem dX7_openIn_31 : decode cX7_openIn 31 = .ok (.if_icmp .ne 7, 3) := by decide +kernel
theorem dX7_openIn_34 : decode cX7_openIn 34 = .ok (.iconst 1, 1) := by decide +kernel
theorem dX7_openIn_35 : decode cX7_openIn 35 = .ok (.goto 4, 3) := by decide +kernel
theorem dX7_openIn_38 : decode cX7_openIn 38 = .ok (.iconst 0, 1) := by decide +kernel
theorem dX7_openIn_39 : decode cX7_openIn 39 = .ok (.iadd, 1) := by decide +kernel
theorem dX7_openIn_40 : decode cX7_openIn 40 = .ok (.istore_n 3, 1) := by decide +kernel
theorem dX7_openIn_41 : decode cX7_openIn 41 = .ok (.iinc 4 1, 3) := by decide +kernel
theorem dX7_openIn_44 : decode cX7_openIn 44 = .ok (.goto (-39), 3) := by decide +kernel
theorem dX7_openIn_47 : decode cX7_openIn 47 = .ok (.iload_n 3, 1) := by decide +kernel
theorem dX7_openIn_48 : decode cX7_openIn 48 = .ok (.ireturn, 1) := by decide +kernel
theorem dX7_rainOf_0 : decode cX7_rainOf 0 = .ok (.iconst 0, 1) := by decide +kernel
theorem dX7_rainOf_1 : decode cX7_rainOf 1 = .ok (.istore_n 2, 1) := by decide +kernel
theorem dX7_rainOf_2 : decode cX7_rainOf 2 = .ok (.iconst 0, 1) := by decide +kernel
theorem dX7_rainOf_3 : decode cX7_rainOf 3 = .ok (.istore_n 3, 1) := by decide +kernel
theorem dX7_rainOf_4 : decode cX7_rainOf 4 = .ok (.iload_n 3, 1) := by decide +kernel
theorem dX7_rainOf_5 : decode cX7_rainOf 5 = .ok (.bipush 6, 2) := by decide +kernel
theorem dX7_rainOf_7 : decode cX7_rainOf 7 = .ok (.if_icmp .ge 28, 3) := by decide +kernel
theorem dX7_rainOf_10 : decode cX7_rainOf 10 = .ok (.iload_n 2, 1) := by decide +kernel
theorem dX7_rainOf_11 : decode cX7_rainOf 11 = .ok (.aload_n 1, 1) := by decide +kernel
theorem dX7_rainOf_12 : decode cX7_rainOf 12 = .ok (.bipush 6, 2) := by decide +kernel
theorem dX7_rainOf_14 : decode cX7_rainOf 14 = .ok (.iload_n 3, 1) := by decide +kernel
theorem dX7_rainOf_15 : decode cX7_rainOf 15 = .ok (.iadd, 1) := by decide +kernel
theorem dX7_rainOf_16 : decode cX7_rainOf 16 = .ok (.iaload, 1) := by decide +kernel
theorem dX7_rainOf_17 : decode cX7_rainOf 17 = .ok (.ifCond .le 9, 3) := by decide +kernel
theorem dX7_rainOf_20 : decode cX7_rainOf 20 = .ok (.iconst 1, 1) := by decide +kernel
theorem dX7_rainOf_21 : decode cX7_rainOf 21 = .ok (.iload_n 3, 1) := by decide +kernel
theorem dX7_rainOf_22 : decode cX7_rainOf 22 = .ok (.ishl, 1) := by decide +kernel
theorem dX7_rainOf_23 : decode cX7_rainOf 23 = .ok (.goto 4, 3) := by decide +kernel
theorem dX7_rainOf_26 : decode cX7_rainOf 26 = .ok (.iconst 0, 1) := by decide +kernel
theorem dX7_rainOf_27 : decode cX7_rainOf 27 = .ok (.ior, 1) := by decide +kernel
theorem dX7_rainOf_28 : decode cX7_rainOf 28 = .ok (.istore_n 2, 1) := by decide +kernel
theorem dX7_rainOf_29 : decode cX7_rainOf 29 = .ok (.iinc 3 1, 3) := by decide +kernel
theorem dX7_rainOf_32 : decode cX7_rainOf 32 = .ok (.goto (-28), 3) := by decide +kernel
theorem dX7_rainOf_35 : decode cX7_rainOf 35 = .ok (.iconst 0, 1) := by decide +kernel
theorem dX7_rainOf_36 : decode cX7_rainOf 36 = .ok (.istore_n 3, 1) := by decide +kernel
theorem dX7_rainOf_37 : decode cX7_rainOf 37 = .ok (.iload_n 3, 1) := by decide +kernel
theorem dX7_rainOf_38 : decode cX7_rainOf 38 = .ok (.aload_n 0, 1) := by decide +kernel
theorem dX7_rainOf_39 : decode cX7_rainOf 39 = .ok (.getfield 60, 3) := by decide +kernel
theorem dX7_rainOf_42 : decode cX7_rainOf 42 = .ok (.if_icmp .ge 60, 3) := by decide +kernel
theorem dX7_rainOf_45 : decode cX7_rainOf 45 = .ok (.aload_n 1, 1) := by decide +kernel
theorem dX7_rainOf_46 : decode cX7_rainOf 46 = .ok (.iconst 5, 1) := by decide +kernel
theorem dX7_rainOf_47 : decode cX7_rainOf 47 = .ok (.iaload, 1) := by decide +kernel
theorem dX7_rainOf_48 : decode cX7_rainOf 48 = .ok (.iload_n 3, 1) := by decide +kernel
theorem dX7_rainOf_49 : decode cX7_rainOf 49 = .ok (.invokestatic 107, 3) := by decide +kernel
theorem dX7_rainOf_52 : decode cX7_rainOf 52 = .ok (.ifCond .eq 11, 3) := by decide +kernel
theorem dX7_rainOf_55 : decode cX7_rainOf 55 = .ok (.iconst 1, 1) := by decide +kernel
theorem dX7_rainOf_56 : decode cX7_rainOf 56 = .ok (.aload_n 1, 1) := by decide +kernel
theorem dX7_rainOf_57 : decode cX7_rainOf 57 = .ok (.iload_n 3, 1) := by decide +kernel
theorem dX7_rainOf_58 : decode cX7_rainOf 58 = .ok (.iaload, 1) := by decide +kernel
theorem dX7_rainOf_59 : decode cX7_rainOf 59 = .ok (.ishl, 1) := by decide +kernel
theorem dX7_rainOf_60 : decode cX7_rainOf 60 = .ok (.goto 4, 3) := by decide +kernel
theorem dX7_rainOf_63 : decode cX7_rainOf 63 = .ok (.iconst 0, 1) := by decide +kernel
theorem dX7_rainOf_64 : decode cX7_rainOf 64 = .ok (.istore 4, 2) := by decide +kernel
theorem dX7_rainOf_66 : decode cX7_rainOf 66 = .ok (.iload_n 2, 1) := by decide +kernel
theorem dX7_rainOf_67 : decode cX7_rainOf 67 = .ok (.aload_n 0, 1) := by decide +kernel
theorem dX7_rainOf_68 : decode cX7_rainOf 68 = .ok (.getfield 13, 3) := by decide +kernel
theorem dX7_rainOf_71 : decode cX7_rainOf 71 = .ok (.iload_n 3, 1) := by decide +kernel
theorem dX7_rainOf_72 : decode cX7_rainOf 72 = .ok (.iaload, 1) := by decide +kernel
theorem dX7_rainOf_73 : decode cX7_rainOf 73 = .ok (.iconst 3, 1) := by decide +kernel
theorem dX7_rainOf_74 : decode cX7_rainOf 74 = .ok (.if_icmp .ne 18, 3) := by decide +kernel
theorem dX7_rainOf_77 : decode cX7_rainOf 77 = .ok (.iload 4, 2) := by decide +kernel
theorem dX7_rainOf_79 : decode cX7_rainOf 79 = .ok (.iload 4, 2) := by decide +kernel
theorem dX7_rainOf_81 : decode cX7_rainOf 81 = .ok (.iconst 1, 1) := by decide +kernel
theorem dX7_rainOf_82 : decode cX7_rainOf 82 = .ok (.ishl, 1) := by decide +kernel
theorem dX7_rainOf_83 : decode cX7_rainOf 83 = .ok (.ior, 1) := by decide +kernel
theorem dX7_rainOf_84 : decode cX7_rainOf 84 = .ok (.iload 4, 2) := by decide +kernel
theorem dX7_rainOf_86 : decode cX7_rainOf 86 = .ok (.iconst 1, 1) := by decide +kernel
theorem dX7_rainOf_87 : decode cX7_rainOf 87 = .ok (.ishr, 1) := by decide +kernel
theorem dX7_rainOf_88 : decode cX7_rainOf 88 = .ok (.ior, 1) := by decide +kernel
theorem dX7_rainOf_89 : decode cX7_rainOf 89 = .ok (.goto 5, 3) := by decide +kernel
theorem dX7_rainOf_92 : decode cX7_rainOf 92 = .ok (.iload 4, 2) := by decide +kernel
theorem dX7_rainOf_94 : decode cX7_rainOf 94 = .ok (.ior, 1) := by decide +kernel
theorem dX7_rainOf_95 : decode cX7_rainOf 95 = .ok (.istore_n 2, 1) := by decide +kernel
theorem dX7_rainOf_96 : decode cX7_rainOf 96 = .ok (.iinc 3 1, 3) := by decide +kernel
theorem dX7_rainOf_99 : decode cX7_rainOf 99 = .ok (.goto (-62), 3) := by decide +kernel
theorem dX7_rainOf_102 : decode cX7_rainOf 102 = .ok (.iload_n 2, 1) := by decide +kernel
theorem dX7_rainOf_103 : decode cX7_rainOf 103 = .ok (.bipush 63, 2) := by decide +kernel
theorem dX7_rainOf_105 : decode cX7_rainOf 105 = .ok (.iand, 1) := by decide +kernel
theorem dX7_rainOf_106 : decode cX7_rainOf 106 = .ok (.ireturn, 1) := by decide +kernel
theorem dX7_hailOf_0 : decode cX7_hailOf 0 = .ok (.iconst 0, 1) := by decide +kernel
theorem dX7_hailOf_1 : decode cX7_hailOf 1 = .ok (.istore_n 2, 1) := by decide +kernel
theorem dX7_hailOf_2 : decode cX7_hailOf 2 = .ok (.iconst 0, 1) := by decide +kernel
theorem dX7_hailOf_3 : decode cX7_hailOf 3 = .ok (.istore_n 3, 1) := by decide +kernel
theorem dX7_hailOf_4 : decode cX7_hailOf 4 = .ok (.iload_n 3, 1) := by decide +kernel
theorem dX7_hailOf_5 : decode cX7_hailOf 5 = .ok (.bipush 6, 2) := by decide +kernel
theorem dX7_hailOf_7 : decode cX7_hailOf 7 = .ok (.if_icmp .ge 29, 3) := by decide +kernel
theorem dX7_hailOf_10 : decode cX7_hailOf 10 = .ok (.iload_n 2, 1) := by decide +kernel
theorem dX7_hailOf_11 : decode cX7_hailOf 11 = .ok (.aload_n 0, 1) := by decide +kernel
theorem dX7_hailOf_12 : decode cX7_hailOf 12 = .ok (.aload_n 1, 1) := by decide +kernel
theorem dX7_hailOf_13 : decode cX7_hailOf 13 = .ok (.iload_n 3, 1) := by decide +kernel
theorem dX7_hailOf_14 : decode cX7_hailOf 14 = .ok (.invokevirtual 111, 3) := by decide +kernel
theorem dX7_hailOf_17 : decode cX7_hailOf 17 = .ok (.iconst 1, 1) := by decide +kernel
theorem dX7_hailOf_18 : decode cX7_hailOf 18 = .ok (.if_icmp .le 9, 3) := by decide +kernel
theorem dX7_hailOf_21 : decode cX7_hailOf 21 = .ok (.iconst 1, 1) := by decide +kernel
theorem dX7_hailOf_22 : decode cX7_hailOf 22 = .ok (.iload_n 3, 1) := by decide +kernel
theorem dX7_hailOf_23 : decode cX7_hailOf 23 = .ok (.ishl, 1) := by decide +kernel
theorem dX7_hailOf_24 : decode cX7_hailOf 24 = .ok (.goto 4, 3) := by decide +kernel
theorem dX7_hailOf_27 : decode cX7_hailOf 27 = .ok (.iconst 0, 1) := by decide +kernel
theorem dX7_hailOf_28 : decode cX7_hailOf 28 = .ok (.ior, 1) := by decide +kernel
theorem dX7_hailOf_29 : decode cX7_hailOf 29 = .ok (.istore_n 2, 1) := by decide +kernel
theorem dX7_hailOf_30 : decode cX7_hailOf 30 = .ok (.iinc 3 1, 3) := by decide +kernel
theorem dX7_hailOf_33 : decode cX7_hailOf 33 = .ok (.goto (-29), 3) := by decide +kernel
theorem dX7_hailOf_36 : decode cX7_hailOf 36 = .ok (.iload_n 2, 1) := by decide +kernel
theorem dX7_hailOf_37 : decode cX7_hailOf 37 = .ok (.ireturn, 1) := by decide +kernel
theorem dX7_greater_0 : decode cX7_greater 0 = .ok (.iload_n 0, 1) := by decide +kernel
theorem dX7_greater_1 : decode cX7_greater 1 = .ok (.iload_n 1, 1) := by decide +kernel
theorem dX7_greater_2 : decode cX7_greater 2 = .ok (.if_icmp .ge 7, 3) := by decide +kernel
theorem dX7_greater_5 : decode cX7_greater 5 = .ok (.iload_n 1, 1) := by decide +kernel
theorem dX7_greater_6 : decode cX7_greater 6 = .ok (.goto 4, 3) := by decide +kernel
theorem dX7_greater_9 : decode cX7_greater 9 = .ok (.iload_n 0, 1) := by decide +kernel
theorem dX7_greater_10 : decode cX7_greater 10 = .ok (.ireturn, 1) := by decide +kernel
theorem dX7_goOpen_0 : decode cX7_goOpen 0 = .ok (.aload_n 1, 1) := by decide +kernel
theorem dX7_goOpen_1 : decode cX7_goOpen 1 = .ok (.iconst 5, 1) := by decide +kernel
theorem dX7_goOpen_2 : decode cX7_goOpen 2 = .ok (.dup2, 1) := by decide +kernel
theorem dX7_goOpen_3 : decode cX7_goOpen 3 = .ok (.iaload, 1) := by decide +kernel
theorem dX7_goOpen_4 : decode cX7_goOpen 4 = .ok (.iconst 1, 1) := by decide +kernel
theorem dX7_goOpen_5 : decode cX7_goOpen 5 = .ok (.iload_n 2, 1) := by decide +kernel
theorem dX7_goOpen_6 : decode cX7_goOpen 6 = .ok (.ishl, 1) := by decide +kernel
theorem dX7_goOpen_7 : decode cX7_goOpen 7 = .ok (.ior, 1) := by decide +kernel
theorem dX7_goOpen_8 : decode cX7_goOpen 8 = .ok (.iastore, 1) := by decide +kernel
theorem dX7_goOpen_9 : decode cX7_goOpen 9 = .ok (.bipush 6, 2) := by decide +kernel
theorem dX7_goOpen_11 : decode cX7_goOpen 11 = .ok (.aload_n 1, 1) := by decide +kernel
theorem dX7_goOpen_12 : decode cX7_goOpen 12 = .ok (.iload_n 2, 1) := by decide +kernel
theorem dX7_goOpen_13 : decode cX7_goOpen 13 = .ok (.iaload, 1) := by decide +kernel
theorem dX7_goOpen_14 : decode cX7_goOpen 14 = .ok (.iadd, 1) := by decide +kernel
theorem dX7_goOpen_15 : decode cX7_goOpen 15 = .ok (.istore_n 3, 1) := by decide +kernel
theorem dX7_goOpen_16 : decode cX7_goOpen 16 = .ok (.aload_n 1, 1) := by decide +kernel
theorem dX7_goOpen_17 : decode cX7_goOpen 17 = .ok (.iload_n 3, 1) := by decide +kernel
theorem dX7_goOpen_18 : decode cX7_goOpen 18 = .ok (.aload_n 0, 1) := by decide +kernel
theorem dX7_goOpen_19 : decode cX7_goOpen 19 = .ok (.getfield 13, 3) := by decide +kernel
theorem dX7_goOpen_22 : decode cX7_goOpen 22 = .ok (.iload_n 2, 1) := by decide +kernel
theorem dX7_goOpen_23 : decode cX7_goOpen 23 = .ok (.iaload, 1) := by decide +kernel
theorem dX7_goOpen_24 : decode cX7_goOpen 24 = .ok (.iconst 2, 1) := by decide +kernel
theorem dX7_goOpen_25 : decode cX7_goOpen 25 = .ok (.if_icmp .ne 14, 3) := by decide +kernel
theorem dX7_goOpen_28 : decode cX7_goOpen 28 = .ok (.aload_n 1, 1) := by decide +kernel
theorem dX7_goOpen_29 : decode cX7_goOpen 29 = .ok (.iload_n 3, 1) := by decide +kernel
theorem dX7_goOpen_30 : decode cX7_goOpen 30 = .ok (.iaload, 1) := by decide +kernel
theorem dX7_goOpen_31 : decode cX7_goOpen 31 = .ok (.bipush 7, 2) := by decide +kernel
theorem dX7_goOpen_33 : decode cX7_goOpen 33 = .ok (.invokestatic 115, 3) := by decide +kernel
theorem dX7_goOpen_36 : decode cX7_goOpen 36 = .ok (.goto 6, 3) := by decide +kernel
theorem dX7_goOpen_39 : decode cX7_goOpen 39 = .ok (.aload_n 1, 1) := by decide +kernel
theorem dX7_goOpen_40 : decode cX7_goOpen 40 = .ok (.iload_n 3, 1) := by decide +kernel
theorem dX7_goOpen_41 : decode cX7_goOpen 41 = .ok (.iaload, 1) := by decide +kernel
theorem dX7_goOpen_42 : decode cX7_goOpen 42 = .ok (.iastore, 1) := by decide +kernel
theorem dX7_goOpen_43 : decode cX7_goOpen 43 = .ok (.return_, 1) := by decide +kernel
theorem dX7_goShut_0 : decode cX7_goShut 0 = .ok (.aload_n 1, 1) := by decide +kernel
theorem dX7_goShut_1 : decode cX7_goShut 1 = .ok (.iconst 5, 1) := by decide +kernel
theorem dX7_goShut_2 : decode cX7_goShut 2 = .ok (.dup2, 1) := by decide +kernel
theorem dX7_goShut_3 : decode cX7_goShut 3 = .ok (.iaload, 1) := by decide +kernel
theorem dX7_goShut_4 : decode cX7_goShut 4 = .ok (.iconst 1, 1) := by decide +kernel
theorem dX7_goShut_5 : decode cX7_goShut 5 = .ok (.iload_n 2, 1) := by decide +kernel
theorem dX7_goShut_6 : decode cX7_goShut 6 = .ok (.ishl, 1) := by decide +kernel
theorem dX7_goShut_7 : decode cX7_goShut 7 = .ok (.iconst (-1), 1) := by decide +kernel
theorem dX7_goShut_8 : decode cX7_goShut 8 = .ok (.ixor, 1) := by decide +kernel
theorem dX7_goShut_9 : decode cX7_goShut 9 = .ok (.iand, 1) := by decide +kernel
theorem dX7_goShut_10 : decode cX7_goShut 10 = .ok (.iastore, 1) := by decide +kernel
theorem dX7_goShut_11 : decode cX7_goShut 11 = .ok (.bipush 6, 2) := by decide +kernel
theorem dX7_goShut_13 : decode cX7_goShut 13 = .ok (.aload_n 1, 1) := by decide +kernel
theorem dX7_goShut_14 : decode cX7_goShut 14 = .ok (.iload_n 2, 1) := by decide +kernel
theorem dX7_goShut_15 : decode cX7_goShut 15 = .ok (.iaload, 1) := by decide +kernel
theorem dX7_goShut_16 : decode cX7_goShut 16 = .ok (.iadd, 1) := by decide +kernel
theorem dX7_goShut_17 : decode cX7_goShut 17 = .ok (.istore_n 3, 1) := by decide +kernel
theorem dX7_goShut_18 : decode cX7_goShut 18 = .ok (.aload_n 1, 1) := by decide +kernel
theorem dX7_goShut_19 : decode cX7_goShut 19 = .ok (.iload_n 3, 1) := by decide +kernel
theorem dX7_goShut_20 : decode cX7_goShut 20 = .ok (.aload_n 0, 1) := by decide +kernel
theorem dX7_goShut_21 : decode cX7_goShut 21 = .ok (.getfield 13, 3) := by decide +kernel
theorem dX7_goShut_24 : decode cX7_goShut 24 = .ok (.iload_n 2, 1) := by decide +kernel
theorem dX7_goShut_25 : decode cX7_goShut 25 = .ok (.iaload, 1) := by decide +kernel
theorem dX7_goShut_26 : decode cX7_goShut 26 = .ok (.iconst 1, 1) := by decide +kernel
theorem dX7_goShut_27 : decode cX7_goShut 27 = .ok (.if_icmp .ne 13, 3) := by decide +kernel
theorem dX7_goShut_30 : decode cX7_goShut 30 = .ok (.aload_n 1, 1) := by decide +kernel
theorem dX7_goShut_31 : decode cX7_goShut 31 = .ok (.iload_n 3, 1) := by decide +kernel
theorem dX7_goShut_32 : decode cX7_goShut 32 = .ok (.iaload, 1) := by decide +kernel
theorem dX7_goShut_33 : decode cX7_goShut 33 = .ok (.iconst 1, 1) := by decide +kernel
theorem dX7_goShut_34 : decode cX7_goShut 34 = .ok (.invokestatic 115, 3) := by decide +kernel
theorem dX7_goShut_37 : decode cX7_goShut 37 = .ok (.goto 6, 3) := by decide +kernel
theorem dX7_goShut_40 : decode cX7_goShut 40 = .ok (.aload_n 1, 1) := by decide +kernel
theorem dX7_goShut_41 : decode cX7_goShut 41 = .ok (.iload_n 3, 1) := by decide +kernel
theorem dX7_goShut_42 : decode cX7_goShut 42 = .ok (.iaload, 1) := by decide +kernel
theorem dX7_goShut_43 : decode cX7_goShut 43 = .ok (.iastore, 1) := by decide +kernel
theorem dX7_goShut_44 : decode cX7_goShut 44 = .ok (.return_, 1) := by decide +kernel
theorem dX7_stateThen_0 : decode cX7_stateThen 0 = .ok (.aload_n 0, 1) := by decide +kernel
theorem dX7_stateThen_1 : decode cX7_stateThen 1 = .ok (.getfield 16, 3) := by decide +kernel
theorem dX7_stateThen_4 : decode cX7_stateThen 4 = .ok (.iconst 3, 1) := by decide +kernel
theorem dX7_stateThen_5 : decode cX7_stateThen 5 = .ok (.iload_n 2, 1) := by decide +kernel
theorem dX7_stateThen_6 : decode cX7_stateThen 6 = .ok (.imul, 1) := by decide +kernel
theorem dX7_stateThen_7 : decode cX7_stateThen 7 = .ok (.iconst 1, 1) := by decide +kernel
theorem dX7_stateThen_8 : decode cX7_stateThen 8 = .ok (.iadd, 1) := by decide +kernel
theorem dX7_stateThen_9 : decode cX7_stateThen 9 = .ok (.iaload, 1) := by decide +kernel
theorem dX7_stateThen_10 : decode cX7_stateThen 10 = .ok (.istore 4, 2) := by decide +kernel
theorem dX7_stateThen_12 : decode cX7_stateThen 12 = .ok (.aload_n 0, 1) := by decide +kernel
theorem dX7_stateThen_13 : decode cX7_stateThen 13 = .ok (.getfield 16, 3) := by decide +kernel
theorem dX7_stateThen_16 : decode cX7_stateThen 16 = .ok (.iconst 3, 1) := by decide +kernel
theorem dX7_stateThen_17 : decode cX7_stateThen 17 = .ok (.iload_n 2, 1) := by decide +kernel
theorem dX7_stateThen_18 : decode cX7_stateThen 18 = .ok (.imul, 1) := by decide +kernel
theorem dX7_stateThen_19 : decode cX7_stateThen 19 = .ok (.iconst 2, 1) := by decide +kernel
theorem dX7_stateThen_20 : decode cX7_stateThen 20 = .ok (.iadd, 1) := by decide +kernel
theorem dX7_stateThen_21 : decode cX7_stateThen 21 = .ok (.iaload, 1) := by decide +kernel
theorem dX7_stateThen_22 : decode cX7_stateThen 22 = .ok (.istore 5, 2) := by decide +kernel
theorem dX7_stateThen_24 : decode cX7_stateThen 24 = .ok (.iload_n 3, 1) := by decide +kernel
theorem dX7_stateThen_25 : decode cX7_stateThen 25 = .ok (.aload_n 0, 1) := by decide +kernel
theorem dX7_stateThen_26 : decode cX7_stateThen 26 = .ok (.getfield 16, 3) := by decide +kernel
theorem dX7_stateThen_29 : decode cX7_stateThen 29 = .ok (.iconst 3, 1) := by decide +kernel
theorem dX7_stateThen_30 : decode cX7_stateThen 30 = .ok (.iload_n 2, 1) := by decide +kernel
theorem dX7_stateThen_31 : decode cX7_stateThen 31 = .ok (.imul, 1) := by decide +kernel
theorem dX7_stateThen_32 : decode cX7_stateThen 32 = .ok (.iaload, 1) := by decide +kernel
theorem dX7_stateThen_33 : decode cX7_stateThen 33 = .ok (.invokestatic 107, 3) := by decide +kernel
theorem dX7_stateThen_36 : decode cX7_stateThen 36 = .ok (.istore 6, 2) := by decide +kernel
theorem dX7_stateThen_38 : decode cX7_stateThen 38 = .ok (.iload 4, 2) := by decide +kernel
theorem dX7_stateThen_40 : decode cX7_stateThen 40 = .ok (.iconst 1, 1) := by decide +kernel
theorem dX7_stateThen_41 : decode cX7_stateThen 41 = .ok (.if_icmp .ne 27, 3) := by decide +kernel
theorem dX7_stateThen_44 : decode cX7_stateThen 44 = .ok (.aload_n 1, 1) := by decide +kernel
theorem dX7_stateThen_45 : decode cX7_stateThen 45 = .ok (.bipush 12, 2) := by decide +kernel
theorem dX7_stateThen_47 : decode cX7_stateThen 47 = .ok (.aload_n 0, 1) := by decide +kernel
theorem dX7_stateThen_48 : decode cX7_stateThen 48 = .ok (.getfield 16, 3) := by decide +kernel
theorem dX7_stateThen_51 : decode cX7_stateThen 51 = .ok (.iconst 3, 1) := by decide +kernel
theorem dX7_stateThen_52 : decode cX7_stateThen 52 = .ok (.iload_n 2, 1) := by decide +kernel
theorem dX7_stateThen_53 : decode cX7_stateThen 53 = .ok (.imul, 1) := by decide +kernel
theorem dX7_stateThen_54 : decode cX7_stateThen 54 = .ok (.iaload, 1) := by decide +kernel
theorem dX7_stateThen_55 : decode cX7_stateThen 55 = .ok (.iadd, 1) := by decide +kernel
theorem dX7_stateThen_56 : decode cX7_stateThen 56 = .ok (.iaload, 1) := by decide +kernel
theorem dX7_stateThen_57 : decode cX7_stateThen 57 = .ok (.iload 5, 2) := by decide +kernel
theorem dX7_stateThen_59 : decode cX7_stateThen 59 = .ok (.if_icmp .lt 7, 3) := by decide +kernel
theorem dX7_stateThen_62 : decode cX7_stateThen 62 = .ok (.iconst 1, 1) := by decide +kernel
theorem dX7_stateThen_63 : decode cX7_stateThen 63 = .ok (.goto 4, 3) := by decide +kernel
theorem dX7_stateThen_66 : decode cX7_stateThen 66 = .ok (.iconst 0, 1) := by decide +kernel
theorem dX7_stateThen_67 : decode cX7_stateThen 67 = .ok (.ireturn, 1) := by decide +kernel
theorem dX7_stateThen_68 : decode cX7_stateThen 68 = .ok (.iload 4, 2) := by decide +kernel
theorem dX7_stateThen_70 : decode cX7_stateThen 70 = .ok (.iconst 2, 1) := by decide +kernel
theorem dX7_stateThen_71 : decode cX7_stateThen 71 = .ok (.if_icmp .ne 27, 3) := by decide +kernel
theorem dX7_stateThen_74 : decode cX7_stateThen 74 = .ok (.aload_n 1, 1) := by decide +kernel
theorem dX7_stateThen_75 : decode cX7_stateThen 75 = .ok (.bipush 23, 2) := by decide +kernel
theorem dX7_stateThen_77 : decode cX7_stateThen 77 = .ok (.iaload, 1) := by decide +kernel
theorem dX7_stateThen_78 : decode cX7_stateThen 78 = .ok (.iload 5, 2) := by decide +kernel
theorem dX7_stateThen_80 : decode cX7_stateThen 80 = .ok (.if_icmp .eq 7, 3) := by decide +kernel
theorem dX7_stateThen_83 : decode cX7_stateThen 83 = .ok (.iconst 0, 1) := by decide +kernel
theorem dX7_stateThen_84 : decode cX7_stateThen 84 = .ok (.goto 13, 3) := by decide +kernel
theorem dX7_stateThen_87 : decode cX7_stateThen 87 = .ok (.iload 6, 2) := by decide +kernel
theorem dX7_stateThen_89 : decode cX7_stateThen 89 = .ok (.ifCond .eq 7, 3) := by decide +kernel
theorem dX7_stateThen_92 : decode cX7_stateThen 92 = .ok (.iconst 2, 1) := by decide +kernel
theorem dX7_stateThen_93 : decode cX7_stateThen 93 = .ok (.goto 4, 3) := by decide +kernel
theorem dX7_stateThen_96 : decode cX7_stateThen 96 = .ok (.iconst 1, 1) := by decide +kernel
theorem dX7_stateThen_97 : decode cX7_stateThen 97 = .ok (.ireturn, 1) := by decide +kernel
theorem dX7_stateThen_98 : decode cX7_stateThen 98 = .ok (.aload_n 1, 1) := by decide +kernel
theorem dX7_stateThen_99 : decode cX7_stateThen 99 = .ok (.bipush 23, 2) := by decide +kernel
theorem dX7_stateThen_101 : decode cX7_stateThen 101 = .ok (.iaload, 1) := by decide +kernel
theorem dX7_stateThen_102 : decode cX7_stateThen 102 = .ok (.iload 5, 2) := by decide +kernel
theorem dX7_stateThen_104 : decode cX7_stateThen 104 = .ok (.if_icmp .le 7, 3) := by decide +kernel
theorem dX7_stateThen_107 : decode cX7_stateThen 107 = .ok (.iconst 0, 1) := by decide +kernel
theorem dX7_stateThen_108 : decode cX7_stateThen 108 = .ok (.goto 26, 3) := by decide +kernel
theorem dX7_stateThen_111 : decode cX7_stateThen 111 = .ok (.iload 6, 2) := by decide +kernel
theorem dX7_stateThen_113 : decode cX7_stateThen 113 = .ok (.ifCond .eq 7, 3) := by decide +kernel
theorem dX7_stateThen_116 : decode cX7_stateThen 116 = .ok (.iconst 2, 1) := by decide +kernel
theorem dX7_stateThen_117 : decode cX7_stateThen 117 = .ok (.goto 17, 3) := by decide +kernel
theorem dX7_stateThen_120 : decode cX7_stateThen 120 = .ok (.aload_n 1, 1) := by decide +kernel
theorem dX7_stateThen_121 : decode cX7_stateThen 121 = .ok (.bipush 23, 2) := by decide +kernel
theorem dX7_stateThen_123 : decode cX7_stateThen 123 = .ok (.iaload, 1) := by decide +kernel
theorem dX7_stateThen_124 : decode cX7_stateThen 124 = .ok (.iload 5, 2) := by decide +kernel
theorem dX7_stateThen_126 : decode cX7_stateThen 126 = .ok (.if_icmp .ne 7, 3) := by decide +kernel
theorem dX7_stateThen_129 : decode cX7_stateThen 129 = .ok (.iconst 1, 1) := by decide +kernel
theorem dX7_stateThen_130 : decode cX7_stateThen 130 = .ok (.goto 4, 3) := by decide +kernel
theorem dX7_stateThen_133 : decode cX7_stateThen 133 = .ok (.iconst 0, 1) := by decide +kernel
theorem dX7_stateThen_134 : decode cX7_stateThen 134 = .ok (.ireturn, 1) := by decide +kernel
theorem dX7_goHour_0 : decode cX7_goHour 0 = .ok (.aload_n 0, 1) := by decide +kernel
theorem dX7_goHour_1 : decode cX7_goHour 1 = .ok (.aload_n 1, 1) := by decide +kernel
theorem dX7_goHour_2 : decode cX7_goHour 2 = .ok (.invokevirtual 118, 3) := by decide +kernel
theorem dX7_goHour_5 : decode cX7_goHour 5 = .ok (.istore_n 2, 1) := by decide +kernel
theorem dX7_goHour_6 : decode cX7_goHour 6 = .ok (.aload_n 0, 1) := by decide +kernel
theorem dX7_goHour_7 : decode cX7_goHour 7 = .ok (.aload_n 1, 1) := by decide +kernel
theorem dX7_goHour_8 : decode cX7_goHour 8 = .ok (.invokevirtual 122, 3) := by decide +kernel
theorem dX7_goHour_11 : decode cX7_goHour 11 = .ok (.istore_n 3, 1) := by decide +kernel
theorem dX7_goHour_12 : decode cX7_goHour 12 = .ok (.iconst 0, 1) := by decide +kernel
theorem dX7_goHour_13 : decode cX7_goHour 13 = .ok (.istore 4, 2) := by decide +kernel
theorem dX7_goHour_15 : decode cX7_goHour 15 = .ok (.iload 4, 2) := by decide +kernel
theorem dX7_goHour_17 : decode cX7_goHour 17 = .ok (.bipush 6, 2) := by decide +kernel
theorem dX7_goHour_19 : decode cX7_goHour 19 = .ok (.if_icmp .ge 46, 3) := by decide +kernel
theorem dX7_goHour_22 : decode cX7_goHour 22 = .ok (.aload_n 1, 1) := by decide +kernel
theorem dX7_goHour_23 : decode cX7_goHour 23 = .ok (.bipush 12, 2) := by decide +kernel
theorem dX7_goHour_25 : decode cX7_goHour 25 = .ok (.iload 4, 2) := by decide +kernel
theorem dX7_goHour_27 : decode cX7_goHour 27 = .ok (.iadd, 1) := by decide +kernel
theorem dX7_goHour_28 : decode cX7_goHour 28 = .ok (.dup2, 1) := by decide +kernel
theorem dX7_goHour_29 : decode cX7_goHour 29 = .ok (.iaload, 1) := by decide +kernel
theorem dX7_goHour_30 : decode cX7_goHour 30 = .ok (.iload_n 2, 1) := by decide +kernel
theorem dX7_goHour_31 : decode cX7_goHour 31 = .ok (.iload 4, 2) := by decide +kernel
theorem dX7_goHour_33 : decode cX7_goHour 33 = .ok (.invokestatic 107, 3) := by decide +kernel
theorem dX7_goHour_36 : decode cX7_goHour 36 = .ok (.ifCond .eq 20, 3) := by decide +kernel
theorem dX7_goHour_39 : decode cX7_goHour 39 = .ok (.iload_n 3, 1) := by decide +kernel
theorem dX7_goHour_40 : decode cX7_goHour 40 = .ok (.iload 4, 2) := by decide +kernel
theorem dX7_goHour_42 : decode cX7_goHour 42 = .ok (.invokestatic 107, 3) := by decide +kernel
theorem dX7_goHour_45 : decode cX7_goHour 45 = .ok (.ifCond .eq 7, 3) := by decide +kernel
theorem dX7_goHour_48 : decode cX7_goHour 48 = .ok (.iconst 2, 1) := by decide +kernel
theorem dX7_goHour_49 : decode cX7_goHour 49 = .ok (.goto 8, 3) := by decide +kernel
theorem dX7_goHour_52 : decode cX7_goHour 52 = .ok (.iconst 1, 1) := by decide +kernel
theorem dX7_goHour_53 : decode cX7_goHour 53 = .ok (.goto 4, 3) := by decide +kernel
theorem dX7_goHour_56 : decode cX7_goHour 56 = .ok (.iconst 0, 1) := by decide +kernel
theorem dX7_goHour_57 : decode cX7_goHour 57 = .ok (.iadd, 1) := by decide +kernel
theorem dX7_goHour_58 : decode cX7_goHour 58 = .ok (.iastore, 1) := by decide +kernel
theorem dX7_goHour_59 : decode cX7_goHour 59 = .ok (.iinc 4 1, 3) := by decide +kernel
theorem dX7_goHour_62 : decode cX7_goHour 62 = .ok (.goto (-47), 3) := by decide +kernel
theorem dX7_goHour_65 : decode cX7_goHour 65 = .ok (.iconst 0, 1) := by decide +kernel
theorem dX7_goHour_66 : decode cX7_goHour 66 = .ok (.istore 4, 2) := by decide +kernel
theorem dX7_goHour_68 : decode cX7_goHour 68 = .ok (.iload 4, 2) := by decide +kernel
theorem dX7_goHour_70 : decode cX7_goHour 70 = .ok (.aload_n 0, 1) := by decide +kernel
theorem dX7_goHour_71 : decode cX7_goHour 71 = .ok (.getfield 101, 3) := by decide +kernel
theorem dX7_goHour_74 : decode cX7_goHour 74 = .ok (.if_icmp .ge 44, 3) := by decide +kernel
theorem dX7_goHour_77 : decode cX7_goHour 77 = .ok (.aload_n 1, 1) := by decide +kernel
theorem dX7_goHour_78 : decode cX7_goHour 78 = .ok (.bipush 18, 2) := by decide +kernel
theorem dX7_goHour_80 : decode cX7_goHour 80 = .ok (.iload 4, 2) := by decide +kernel
theorem dX7_goHour_82 : decode cX7_goHour 82 = .ok (.iadd, 1) := by decide +kernel
theorem dX7_goHour_83 : decode cX7_goHour 83 = .ok (.aload_n 1, 1) := by decide +kernel
theorem dX7_goHour_84 : decode cX7_goHour 84 = .ok (.bipush 18, 2) := by decide +kernel
theorem dX7_goHour_86 : decode cX7_goHour 86 = .ok (.iload 4, 2) := by decide +kernel
theorem dX7_goHour_88 : decode cX7_goHour 88 = .ok (.iadd, 1) := by decide +kernel
theorem dX7_goHour_89 : decode cX7_goHour 89 = .ok (.iaload, 1) := by decide +kernel
theorem dX7_goHour_90 : decode cX7_goHour 90 = .ok (.ifCond .ne 14, 3) := by decide +kernel
theorem dX7_goHour_93 : decode cX7_goHour 93 = .ok (.aload_n 0, 1) := by decide +kernel
theorem dX7_goHour_94 : decode cX7_goHour 94 = .ok (.aload_n 1, 1) := by decide +kernel
theorem dX7_goHour_95 : decode cX7_goHour 95 = .ok (.iload 4, 2) := by decide +kernel
theorem dX7_goHour_97 : decode cX7_goHour 97 = .ok (.iload_n 2, 1) := by decide +kernel
theorem dX7_goHour_98 : decode cX7_goHour 98 = .ok (.invokevirtual 125, 3) := by decide +kernel
theorem dX7_goHour_101 : decode cX7_goHour 101 = .ok (.goto 10, 3) := by decide +kernel
theorem dX7_goHour_104 : decode cX7_goHour 104 = .ok (.aload_n 1, 1) := by decide +kernel
theorem dX7_goHour_105 : decode cX7_goHour 105 = .ok (.bipush 18, 2) := by decide +kernel
theorem dX7_goHour_107 : decode cX7_goHour 107 = .ok (.iload 4, 2) := by decide +kernel
theorem dX7_goHour_109 : decode cX7_goHour 109 = .ok (.iadd, 1) := by decide +kernel
theorem dX7_goHour_110 : decode cX7_goHour 110 = .ok (.iaload, 1) := by decide +kernel
theorem dX7_goHour_111 : decode cX7_goHour 111 = .ok (.iastore, 1) := by decide +kernel
theorem dX7_goHour_112 : decode cX7_goHour 112 = .ok (.iinc 4 1, 3) := by decide +kernel
theorem dX7_goHour_115 : decode cX7_goHour 115 = .ok (.goto (-47), 3) := by decide +kernel
theorem dX7_goHour_118 : decode cX7_goHour 118 = .ok (.iconst 0, 1) := by decide +kernel
theorem dX7_goHour_119 : decode cX7_goHour 119 = .ok (.istore 4, 2) := by decide +kernel
theorem dX7_goHour_121 : decode cX7_goHour 121 = .ok (.iload 4, 2) := by decide +kernel
theorem dX7_goHour_123 : decode cX7_goHour 123 = .ok (.bipush 6, 2) := by decide +kernel
theorem dX7_goHour_125 : decode cX7_goHour 125 = .ok (.if_icmp .ge 34, 3) := by decide +kernel
theorem dX7_goHour_128 : decode cX7_goHour 128 = .ok (.aload_n 1, 1) := by decide +kernel
theorem dX7_goHour_129 : decode cX7_goHour 129 = .ok (.bipush 6, 2) := by decide +kernel
theorem dX7_goHour_131 : decode cX7_goHour 131 = .ok (.iload 4, 2) := by decide +kernel
theorem dX7_goHour_133 : decode cX7_goHour 133 = .ok (.iadd, 1) := by decide +kernel
theorem dX7_goHour_134 : decode cX7_goHour 134 = .ok (.dup2, 1) := by decide +kernel
theorem dX7_goHour_135 : decode cX7_goHour 135 = .ok (.iaload, 1) := by decide +kernel
theorem dX7_goHour_136 : decode cX7_goHour 136 = .ok (.aload_n 1, 1) := by decide +kernel
theorem dX7_goHour_137 : decode cX7_goHour 137 = .ok (.bipush 6, 2) := by decide +kernel
theorem dX7_goHour_139 : decode cX7_goHour 139 = .ok (.iload 4, 2) := by decide +kernel
theorem dX7_goHour_141 : decode cX7_goHour 141 = .ok (.iadd, 1) := by decide +kernel
theorem dX7_goHour_142 : decode cX7_goHour 142 = .ok (.iaload, 1) := by decide +kernel
theorem dX7_goHour_143 : decode cX7_goHour 143 = .ok (.ifCond .le 7, 3) := by decide +kernel
theorem dX7_goHour_146 : decode cX7_goHour 146 = .ok (.iconst 1, 1) := by decide +kernel
theorem dX7_goHour_147 : decode cX7_goHour 147 = .ok (.goto 4, 3) := by decide +kernel
theorem dX7_goHour_150 : decode cX7_goHour 150 = .ok (.iconst 0, 1) := by decide +kernel
theorem dX7_goHour_151 : decode cX7_goHour 151 = .ok (.isub, 1) := by decide +kernel
theorem dX7_goHour_152 : decode cX7_goHour 152 = .ok (.iastore, 1) := by decide +kernel
theorem dX7_goHour_153 : decode cX7_goHour 153 = .ok (.iinc 4 1, 3) := by decide +kernel
theorem dX7_goHour_156 : decode cX7_goHour 156 = .ok (.goto (-35), 3) := by decide +kernel
theorem dX7_goHour_159 : decode cX7_goHour 159 = .ok (.aload_n 1, 1) := by decide +kernel
theorem dX7_goHour_160 : decode cX7_goHour 160 = .ok (.bipush 23, 2) := by decide +kernel
theorem dX7_goHour_162 : decode cX7_goHour 162 = .ok (.dup2, 1) := by decide +kernel
theorem dX7_goHour_163 : decode cX7_goHour 163 = .ok (.iaload, 1) := by decide +kernel
theorem dX7_goHour_164 : decode cX7_goHour 164 = .ok (.iconst 1, 1) := by decide +kernel
theorem dX7_goHour_165 : decode cX7_goHour 165 = .ok (.iadd, 1) := by decide +kernel
theorem dX7_goHour_166 : decode cX7_goHour 166 = .ok (.iastore, 1) := by decide +kernel
theorem dX7_goHour_167 : decode cX7_goHour 167 = .ok (.iload_n 2, 1) := by decide +kernel
theorem dX7_goHour_168 : decode cX7_goHour 168 = .ok (.ireturn, 1) := by decide +kernel
theorem dX7_goHours_0 : decode cX7_goHours 0 = .ok (.iconst 0, 1) := by decide +kernel
theorem dX7_goHours_1 : decode cX7_goHours 1 = .ok (.istore_n 2, 1) := by decide +kernel
theorem dX7_goHours_2 : decode cX7_goHours 2 = .ok (.iload_n 2, 1) := by decide +kernel
theorem dX7_goHours_3 : decode cX7_goHours 3 = .ok (.iload_n 1, 1) := by decide +kernel
theorem dX7_goHours_4 : decode cX7_goHours 4 = .ok (.if_icmp .ge 18, 3) := by decide +kernel
theorem dX7_goHours_7 : decode cX7_goHours 7 = .ok (.aload_n 0, 1) := by decide +kernel
theorem dX7_goHours_8 : decode cX7_goHours 8 = .ok (.aload_n 0, 1) := by decide +kernel
theorem dX7_goHours_9 : decode cX7_goHours 9 = .ok (.getfield 28, 3) := by decide +kernel
theorem dX7_goHours_12 : decode cX7_goHours 12 = .ok (.invokevirtual 129, 3) := by decide +kernel
theorem dX7_goHours_15 : decode cX7_goHours 15 = .ok (.pop, 1) := by decide +kernel
theorem dX7_goHours_16 : decode cX7_goHours 16 = .ok (.iinc 2 1, 3) := by decide +kernel
theorem dX7_goHours_19 : decode cX7_goHours 19 = .ok (.goto (-17), 3) := by decide +kernel
theorem dX7_goHours_22 : decode cX7_goHours 22 = .ok (.return_, 1) := by decide +kernel
theorem dX7_needsThat_0 : decode cX7_needsThat 0 = .ok (.iconst 0, 1) := by decide +kernel
theorem dX7_needsThat_1 : decode cX7_needsThat 1 = .ok (.istore_n 3, 1) := by decide +kernel
theorem dX7_needsThat_2 : decode cX7_needsThat 2 = .ok (.iconst 0, 1) := by decide +kernel
theorem dX7_needsThat_3 : decode cX7_needsThat 3 = .ok (.istore 4, 2) := by decide +kernel
theorem dX7_needsThat_5 : decode cX7_needsThat 5 = .ok (.iload 4, 2) := by decide +kernel
theorem dX7_needsThat_7 : decode cX7_needsThat 7 = .ok (.aload_n 0, 1) := by decide +kernel
theorem dX7_needsThat_8 : decode cX7_needsThat 8 = .ok (.getfield 101, 3) := by decide +kernel
theorem dX7_needsThat_11 : decode cX7_needsThat 11 = .ok (.if_icmp .ge 31, 3) := by decide +kernel
theorem dX7_needsThat_14 : decode cX7_needsThat 14 = .ok (.iload_n 3, 1) := by decide +kernel
theorem dX7_needsThat_15 : decode cX7_needsThat 15 = .ok (.aload_n 1, 1) := by decide +kernel
theorem dX7_needsThat_16 : decode cX7_needsThat 16 = .ok (.bipush 18, 2) := by decide +kernel
theorem dX7_needsThat_18 : decode cX7_needsThat 18 = .ok (.iload 4, 2) := by decide +kernel
theorem dX7_needsThat_20 : decode cX7_needsThat 20 = .ok (.iadd, 1) := by decide +kernel
theorem dX7_needsThat_21 : decode cX7_needsThat 21 = .ok (.iaload, 1) := by decide +kernel
theorem dX7_needsThat_22 : decode cX7_needsThat 22 = .ok (.iload_n 2, 1) := by decide +kernel
theorem dX7_needsThat_23 : decode cX7_needsThat 23 = .ok (.if_icmp .ne 10, 3) := by decide +kernel
theorem dX7_needsThat_26 : decode cX7_needsThat 26 = .ok (.iconst 1, 1) := by decide +kernel
theorem dX7_needsThat_27 : decode cX7_needsThat 27 = .ok (.iload 4, 2) := by decide +kernel
theorem dX7_needsThat_29 : decode cX7_needsThat 29 = .ok (.ishl, 1) := by decide +kernel
theorem dX7_needsThat_30 : decode cX7_needsThat 30 = .ok (.goto 4, 3) := by decide +kernel
theorem dX7_needsThat_33 : decode cX7_needsThat 33 = .ok (.iconst 0, 1) := by decide +kernel
theorem dX7_needsThat_34 : decode cX7_needsThat 34 = .ok (.ior, 1) := by decide +kernel
theorem dX7_needsThat_35 : decode cX7_needsThat 35 = .ok (.istore_n 3, 1) := by decide +kernel
theorem dX7_needsThat_36 : decode cX7_needsThat 36 = .ok (.iinc 4 1, 3) := by decide +kernel
theorem dX7_needsThat_39 : decode cX7_needsThat 39 = .ok (.goto (-34), 3) := by decide +kernel
theorem dX7_needsThat_42 : decode cX7_needsThat 42 = .ok (.iload_n 3, 1) := by decide +kernel
theorem dX7_needsThat_43 : decode cX7_needsThat 43 = .ok (.ireturn, 1) := by decide +kernel
theorem dX7_about_0 : decode cX7_about 0 = .ok (.aload_n 0, 1) := by decide +kernel
theorem dX7_about_1 : decode cX7_about 1 = .ok (.iconst 0, 1) := by decide +kernel
theorem dX7_about_2 : decode cX7_about 2 = .ok (.putfield 56, 3) := by decide +kernel
theorem dX7_about_5 : decode cX7_about 5 = .ok (.iload_n 1, 1) := by decide +kernel
theorem dX7_about_6 : decode cX7_about 6 = .ok (.tableswitch 136 0 10 #[58, 63, 68, 76, 83, 92, 101, 111, 121, 126, 131], 58) := by decide +kernel
theorem dX7_about_64 : decode cX7_about 64 = .ok (.aload_n 0, 1) := by decide +kernel
theorem dX7_about_65 : decode cX7_about 65 = .ok (.getfield 60, 3) := by decide +kernel
theorem dX7_about_68 : decode cX7_about 68 = .ok (.ireturn, 1) := by decide +kernel
theorem dX7_about_69 : decode cX7_about 69 = .ok (.aload_n 0, 1) := by decide +kernel
theorem dX7_about_70 : decode cX7_about 70 = .ok (.getfield 101, 3) := by decide +kernel
theorem dX7_about_73 : decode cX7_about 73 = .ok (.ireturn, 1) := by decide +kernel
theorem dX7_about_74 : decode cX7_about 74 = .ok (.aload_n 0, 1) := by decide +kernel
theorem dX7_about_75 : decode cX7_about 75 = .ok (.getfield 25, 3) := by decide +kernel
theorem dX7_about_78 : decode cX7_about 78 = .ok (.bipush 23, 2) := by decide +kernel
theorem dX7_about_80 : decode cX7_about 80 = .ok (.iaload, 1) := by decide +kernel
theorem dX7_about_81 : decode cX7_about 81 = .ok (.ireturn, 1) := by decide +kernel
theorem dX7_about_82 : decode cX7_about 82 = .ok (.aload_n 0, 1) := by decide +kernel
theorem dX7_about_83 : decode cX7_about 83 = .ok (.getfield 25, 3) := by decide +kernel
theorem dX7_about_86 : decode cX7_about 86 = .ok (.iconst 5, 1) := by decide +kernel
theorem dX7_about_87 : decode cX7_about 87 = .ok (.iaload, 1) := by decide +kernel
theorem dX7_about_88 : decode cX7_about 88 = .ok (.ireturn, 1) := by decide +kernel
theorem dX7_about_89 : decode cX7_about 89 = .ok (.aload_n 0, 1) := by decide +kernel
theorem dX7_about_90 : decode cX7_about 90 = .ok (.aload_n 0, 1) := by decide +kernel
theorem dX7_about_91 : decode cX7_about 91 = .ok (.getfield 25, 3) := by decide +kernel
theorem dX7_about_94 : decode cX7_about 94 = .ok (.invokevirtual 118, 3) := by decide +kernel
theorem dX7_about_97 : decode cX7_about 97 = .ok (.ireturn, 1) := by decide +kernel
theorem dX7_about_98 : decode cX7_about 98 = .ok (.aload_n 0, 1) := by decide +kernel
theorem dX7_about_99 : decode cX7_about 99 = .ok (.aload_n 0, 1) := by decide +kernel
theorem dX7_about_100 : decode cX7_about 100 = .ok (.getfield 25, 3) := by decide +kernel
theorem dX7_about_103 : decode cX7_about 103 = .ok (.invokevirtual 122, 3) := by decide +kernel
theorem dX7_about_106 : decode cX7_about 106 = .ok (.ireturn, 1) := by decide +kernel
theorem dX7_about_107 : decode cX7_about 107 = .ok (.aload_n 0, 1) := by decide +kernel
theorem dX7_about_108 : decode cX7_about 108 = .ok (.aload_n 0, 1) := by decide +kernel
theorem dX7_about_109 : decode cX7_about 109 = .ok (.getfield 25, 3) := by decide +kernel
theorem dX7_about_112 : decode cX7_about 112 = .ok (.iconst 1, 1) := by decide +kernel
theorem dX7_about_113 : decode cX7_about 113 = .ok (.invokevirtual 132, 3) := by decide +kernel
theorem dX7_about_116 : decode cX7_about 116 = .ok (.ireturn, 1) := by decide +kernel
theorem dX7_about_117 : decode cX7_about 117 = .ok (.aload_n 0, 1) := by decide +kernel
theorem dX7_about_118 : decode cX7_about 118 = .ok (.aload_n 0, 1) := by decide +kernel
theorem dX7_about_119 : decode cX7_about 119 = .ok (.getfield 25, 3) := by decide +kernel
theorem dX7_about_122 : decode cX7_about 122 = .ok (.iconst 2, 1) := by decide +kernel
theorem dX7_about_123 : decode cX7_about 123 = .ok (.invokevirtual 132, 3) := by decide +kernel
theorem dX7_about_126 : decode cX7_about 126 = .ok (.ireturn, 1) := by decide +kernel
theorem dX7_about_127 : decode cX7_about 127 = .ok (.aload_n 0, 1) := by decide +kernel
theorem dX7_about_128 : decode cX7_about 128 = .ok (.getfield 104, 3) := by decide +kernel
theorem dX7_about_131 : decode cX7_about 131 = .ok (.ireturn, 1) := by decide +kernel
theorem dX7_about_132 : decode cX7_about 132 = .ok (.aload_n 0, 1) := by decide +kernel
theorem dX7_about_133 : decode cX7_about 133 = .ok (.getfield 135, 3) := by decide +kernel
theorem dX7_about_136 : decode cX7_about 136 = .ok (.ireturn, 1) := by decide +kernel
theorem dX7_about_137 : decode cX7_about 137 = .ok (.aload_n 0, 1) := by decide +kernel
theorem dX7_about_138 : decode cX7_about 138 = .ok (.getfield 71, 3) := by decide +kernel
theorem dX7_about_141 : decode cX7_about 141 = .ok (.ireturn, 1) := by decide +kernel
theorem dX7_about_142 : decode cX7_about 142 = .ok (.bipush (-2), 2) := by decide +kernel
theorem dX7_about_144 : decode cX7_about 144 = .ok (.ireturn, 1) := by decide +kernel
theorem dX7_walker_0 : decode cX7_walker 0 = .ok (.aload_n 0, 1) := by decide +kernel
theorem dX7_walker_1 : decode cX7_walker 1 = .ok (.iconst 0, 1) := by decide +kernel
theorem dX7_walker_2 : decode cX7_walker 2 = .ok (.putfield 56, 3) := by decide +kernel
theorem dX7_walker_5 : decode cX7_walker 5 = .ok (.aload_n 0, 1) := by decide +kernel
theorem dX7_walker_6 : decode cX7_walker 6 = .ok (.iload_n 1, 1) := by decide +kernel
theorem dX7_walker_7 : decode cX7_walker 7 = .ok (.invokevirtual 138, 3) := by decide +kernel
theorem dX7_walker_10 : decode cX7_walker 10 = .ok (.ifCond .eq 5, 3) := by decide +kernel
theorem dX7_walker_13 : decode cX7_walker 13 = .ok (.iconst (-1), 1) := by decide +kernel
theorem dX7_walker_14 : decode cX7_walker 14 = .ok (.ireturn, 1) := by decide +kernel
theorem dX7_walker_15 : decode cX7_walker 15 = .ok (.iload_n 2, 1) := by decide +kernel
theorem dX7_walker_16 : decode cX7_walker 16 = .ok (.tableswitch 53 0 2 #[28, 35, 42], 28) := by decide +kernel
theorem dX7_walker_44 : decode cX7_walker 44 = .ok (.aload_n 0, 1) := by decide +kernel
theorem dX7_walker_45 : decode cX7_walker 45 = .ok (.getfield 25, 3) := by decide +kernel
theorem dX7_walker_48 : decode cX7_walker 48 = .ok (.iload_n 1, 1) := by decide +kernel
theorem dX7_walker_49 : decode cX7_walker 49 = .ok (.iaload, 1) := by decide +kernel
theorem dX7_walker_50 : decode cX7_walker 50 = .ok (.ireturn, 1) := by decide +kernel
theorem dX7_walker_51 : decode cX7_walker 51 = .ok (.aload_n 0, 1) := by decide +kernel
theorem dX7_walker_52 : decode cX7_walker 52 = .ok (.getfield 13, 3) := by decide +kernel
theorem dX7_walker_55 : decode cX7_walker 55 = .ok (.iload_n 1, 1) := by decide +kernel
theorem dX7_walker_56 : decode cX7_walker 56 = .ok (.iaload, 1) := by decide +kernel
theorem dX7_walker_57 : decode cX7_walker 57 = .ok (.ireturn, 1) := by decide +kernel
theorem dX7_walker_58 : decode cX7_walker 58 = .ok (.aload_n 0, 1) := by decide +kernel
theorem dX7_walker_59 : decode cX7_walker 59 = .ok (.getfield 25, 3) := by decide +kernel
theorem dX7_walker_62 : decode cX7_walker 62 = .ok (.iconst 5, 1) := by decide +kernel
theorem dX7_walker_63 : decode cX7_walker 63 = .ok (.iaload, 1) := by decide +kernel
theorem dX7_walker_64 : decode cX7_walker 64 = .ok (.iload_n 1, 1) := by decide +kernel
theorem dX7_walker_65 : decode cX7_walker 65 = .ok (.ishr, 1) := by decide +kernel
theorem dX7_walker_66 : decode cX7_walker 66 = .ok (.iconst 1, 1) := by decide +kernel
theorem dX7_walker_67 : decode cX7_walker 67 = .ok (.iand, 1) := by decide +kernel
theorem dX7_walker_68 : decode cX7_walker 68 = .ok (.ireturn, 1) := by decide +kernel
theorem dX7_walker_69 : decode cX7_walker 69 = .ok (.bipush (-2), 2) := by decide +kernel
theorem dX7_walker_71 : decode cX7_walker 71 = .ok (.ireturn, 1) := by decide +kernel
theorem dX7_need_0 : decode cX7_need 0 = .ok (.aload_n 0, 1) := by decide +kernel
theorem dX7_need_1 : decode cX7_need 1 = .ok (.iconst 0, 1) := by decide +kernel
theorem dX7_need_2 : decode cX7_need 2 = .ok (.putfield 56, 3) := by decide +kernel
theorem dX7_need_5 : decode cX7_need 5 = .ok (.iload_n 1, 1) := by decide +kernel
theorem dX7_need_6 : decode cX7_need 6 = .ok (.i2l, 1) := by decide +kernel
theorem dX7_need_7 : decode cX7_need 7 = .ok (.lconst 0, 1) := by decide +kernel
theorem dX7_need_8 : decode cX7_need 8 = .ok (.aload_n 0, 1) := by decide +kernel
theorem dX7_need_9 : decode cX7_need 9 = .ok (.getfield 101, 3) := by decide +kernel
theorem dX7_need_12 : decode cX7_need 12 = .ok (.iconst 1, 1) := by decide +kernel
theorem dX7_need_13 : decode cX7_need 13 = .ok (.isub, 1) := by decide +kernel
theorem dX7_need_14 : decode cX7_need 14 = .ok (.i2l, 1) := by decide +kernel
theorem dX7_need_15 : decode cX7_need 15 = .ok (.invokestatic 63, 3) := by decide +kernel
theorem dX7_need_18 : decode cX7_need 18 = .ok (.ifCond .ne 5, 3) := by decide +kernel
theorem dX7_need_21 : decode cX7_need 21 = .ok (.iconst (-1), 1) := by decide +kernel
theorem dX7_need_22 : decode cX7_need 22 = .ok (.ireturn, 1) := by decide +kernel
theorem dX7_need_23 : decode cX7_need 23 = .ok (.iload_n 2, 1) := by decide +kernel
theorem dX7_need_24 : decode cX7_need 24 = .ok (.i2l, 1) := by decide +kernel
theorem dX7_need_25 : decode cX7_need 25 = .ok (.lconst 0, 1) := by decide +kernel
theorem dX7_need_26 : decode cX7_need 26 = .ok (.ldc2_w 142, 3) := by decide +kernel
theorem dX7_need_29 : decode cX7_need 29 = .ok (.invokestatic 63, 3) := by decide +kernel
theorem dX7_need_32 : decode cX7_need 32 = .ok (.ifCond .eq 16, 3) := by decide +kernel
theorem dX7_need_35 : decode cX7_need 35 = .ok (.aload_n 0, 1) := by decide +kernel
theorem dX7_need_36 : decode cX7_need 36 = .ok (.getfield 16, 3) := by decide +kernel
theorem dX7_need_39 : decode cX7_need 39 = .ok (.iconst 3, 1) := by decide +kernel
theorem dX7_need_40 : decode cX7_need 40 = .ok (.iload_n 1, 1) := by decide +kernel
theorem dX7_need_41 : decode cX7_need 41 = .ok (.imul, 1) := by decide +kernel
theorem dX7_need_42 : decode cX7_need 42 = .ok (.iload_n 2, 1) := by decide +kernel
theorem dX7_need_43 : decode cX7_need 43 = .ok (.iadd, 1) := by decide +kernel
theorem dX7_need_44 : decode cX7_need 44 = .ok (.iaload, 1) := by decide +kernel
theorem dX7_need_45 : decode cX7_need 45 = .ok (.goto 22, 3) := by decide +kernel
theorem dX7_need_48 : decode cX7_need 48 = .ok (.iload_n 2, 1) := by decide +kernel
theorem dX7_need_49 : decode cX7_need 49 = .ok (.iconst 3, 1) := by decide +kernel
theorem dX7_need_50 : decode cX7_need 50 = .ok (.if_icmp .ne 15, 3) := by decide +kernel
theorem dX7_need_53 : decode cX7_need 53 = .ok (.aload_n 0, 1) := by decide +kernel
theorem dX7_need_54 : decode cX7_need 54 = .ok (.getfield 25, 3) := by decide +kernel
theorem dX7_need_57 : decode cX7_need 57 = .ok (.bipush 18, 2) := by decide +kernel
theorem dX7_need_59 : decode cX7_need 59 = .ok (.iload_n 1, 1) := by decide +kernel
theorem dX7_need_60 : decode cX7_need 60 = .ok (.iadd, 1) := by decide +kernel
theorem dX7_need_61 : decode cX7_need 61 = .ok (.iaload, 1) := by decide +kernel
theorem dX7_need_62 : decode cX7_need 62 = .ok (.goto 5, 3) := by decide +kernel
theorem dX7_need_65 : decode cX7_need 65 = .ok (.bipush (-2), 2) := by decide +kernel
theorem dX7_need_67 : decode cX7_need 67 = .ok (.ireturn, 1) := by decide +kernel
theorem dX7_street_0 : decode cX7_street 0 = .ok (.aload_n 0, 1) := by decide +kernel
theorem dX7_street_1 : decode cX7_street 1 = .ok (.iconst 0, 1) := by decide +kernel
theorem dX7_street_2 : decode cX7_street 2 = .ok (.putfield 56, 3) := by decide +kernel
theorem dX7_street_5 : decode cX7_street 5 = .ok (.iload_n 1, 1) := by decide +kernel
theorem dX7_street_6 : decode cX7_street 6 = .ok (.invokestatic 144, 3) := by decide +kernel
theorem dX7_street_9 : decode cX7_street 9 = .ok (.ifCond .eq 5, 3) := by decide +kernel
theorem dX7_street_12 : decode cX7_street 12 = .ok (.iconst (-1), 1) := by decide +kernel
theorem dX7_street_13 : decode cX7_street 13 = .ok (.ireturn, 1) := by decide +kernel
theorem dX7_street_14 : decode cX7_street 14 = .ok (.iload_n 2, 1) := by decide +kernel
theorem dX7_street_15 : decode cX7_street 15 = .ok (.tableswitch 55 0 2 #[25, 35, 45], 25) := by decide +kernel
theorem dX7_street_40 : decode cX7_street 40 = .ok (.aload_n 0, 1) := by decide +kernel
theorem dX7_street_41 : decode cX7_street 41 = .ok (.getfield 25, 3) := by decide +kernel
theorem dX7_street_44 : decode cX7_street 44 = .ok (.bipush 12, 2) := by decide +kernel
theorem dX7_street_46 : decode cX7_street 46 = .ok (.iload_n 1, 1) := by decide +kernel
theorem dX7_street_47 : decode cX7_street 47 = .ok (.iadd, 1) := by decide +kernel
theorem dX7_street_48 : decode cX7_street 48 = .ok (.iaload, 1) := by decide +kernel
theorem dX7_street_49 : decode cX7_street 49 = .ok (.ireturn, 1) := by decide +kernel
theorem dX7_street_50 : decode cX7_street 50 = .ok (.aload_n 0, 1) := by decide +kernel
theorem dX7_street_51 : decode cX7_street 51 = .ok (.getfield 25, 3) := by decide +kernel
theorem dX7_street_54 : decode cX7_street 54 = .ok (.bipush 6, 2) := by decide +kernel
theorem dX7_street_56 : decode cX7_street 56 = .ok (.iload_n 1, 1) := by decide +kernel
theorem dX7_street_57 : decode cX7_street 57 = .ok (.iadd, 1) := by decide +kernel
theorem dX7_street_58 : decode cX7_street 58 = .ok (.iaload, 1) := by decide +kernel
theorem dX7_street_59 : decode cX7_street 59 = .ok (.ireturn, 1) := by decide +kernel
theorem dX7_street_60 : decode cX7_street 60 = .ok (.aload_n 0, 1) := by decide +kernel
theorem dX7_street_61 : decode cX7_street 61 = .ok (.aload_n 0, 1) := by decide +kernel
theorem dX7_street_62 : decode cX7_street 62 = .ok (.getfield 25, 3) := by decide +kernel
theorem dX7_street_65 : decode cX7_street 65 = .ok (.iload_n 1, 1) := by decide +kernel
theorem dX7_street_66 : decode cX7_street 66 = .ok (.invokevirtual 111, 3) := by decide +kernel
theorem dX7_street_69 : decode cX7_street 69 = .ok (.ireturn, 1) := by decide +kernel
theorem dX7_street_70 : decode cX7_street 70 = .ok (.bipush (-2), 2) := by decide +kernel
theorem dX7_street_72 : decode cX7_street 72 = .ok (.ireturn, 1) := by decide +kernel
theorem dX7_note_0 : decode cX7_note 0 = .ok (.aload_n 0, 1) := by decide +kernel
theorem dX7_note_1 : decode cX7_note 1 = .ok (.getfield 104, 3) := by decide +kernel
theorem dX7_note_4 : decode cX7_note 4 = .ok (.bipush 14, 2) := by decide +kernel
theorem dX7_note_6 : decode cX7_note 6 = .ok (.if_icmp .ne 43, 3) := by decide +kernel
theorem dX7_note_9 : decode cX7_note 9 = .ok (.iconst 0, 1) := by decide +kernel
theorem dX7_note_10 : decode cX7_note 10 = .ok (.istore_n 1, 1) := by decide +kernel
theorem dX7_note_11 : decode cX7_note 11 = .ok (.iload_n 1, 1) := by decide +kernel
theorem dX7_note_12 : decode cX7_note 12 = .ok (.sipush 312, 3) := by decide +kernel
theorem dX7_note_15 : decode cX7_note 15 = .ok (.if_icmp .ge 24, 3) := by decide +kernel
theorem dX7_note_18 : decode cX7_note 18 = .ok (.aload_n 0, 1) := by decide +kernel
theorem dX7_note_19 : decode cX7_note 19 = .ok (.getfield 31, 3) := by decide +kernel
theorem dX7_note_22 : decode cX7_note 22 = .ok (.iload_n 1, 1) := by decide +kernel
theorem dX7_note_23 : decode cX7_note 23 = .ok (.aload_n 0, 1) := by decide +kernel
theorem dX7_note_24 : decode cX7_note 24 = .ok (.getfield 31, 3) := by decide +kernel
theorem dX7_note_27 : decode cX7_note 27 = .ok (.iload_n 1, 1) := by decide +kernel
theorem dX7_note_28 : decode cX7_note 28 = .ok (.bipush 24, 2) := by decide +kernel
theorem dX7_note_30 : decode cX7_note 30 = .ok (.iadd, 1) := by decide +kernel
theorem dX7_note_31 : decode cX7_note 31 = .ok (.iaload, 1) := by decide +kernel
theorem dX7_note_32 : decode cX7_note 32 = .ok (.iastore, 1) := by decide +kernel
theorem dX7_note_33 : decode cX7_note 33 = .ok (.iinc 1 1, 3) := by decide +kernel
theorem dX7_note_36 : decode cX7_note 36 = .ok (.goto (-25), 3) := by decide +kernel
theorem dX7_note_39 : decode cX7_note 39 = .ok (.aload_n 0, 1) := by decide +kernel
theorem dX7_note_40 : decode cX7_note 40 = .ok (.dup, 1) := by decide +kernel
theorem dX7_note_41 : decode cX7_note 41 = .ok (.getfield 104, 3) := by decide +kernel
theorem dX7_note_44 : decode cX7_note 44 = .ok (.iconst 1, 1) := by decide +kernel
theorem dX7_note_45 : decode cX7_note 45 = .ok (.isub, 1) := by decide +kernel
theorem dX7_note_46 : decode cX7_note 46 = .ok (.putfield 104, 3) := by decide +kernel
theorem dX7_note_49 : decode cX7_note 49 = .ok (.iconst 0, 1) := by decide +kernel
theorem dX7_note_50 : decode cX7_note 50 = .ok (.istore_n 1, 1) := by decide +kernel
theorem dX7_note_51 : decode cX7_note 51 = .ok (.iload_n 1, 1) := by decide +kernel
theorem dX7_note_52 : decode cX7_note 52 = .ok (.bipush 24, 2) := by decide +kernel
theorem dX7_note_54 : decode cX7_note 54 = .ok (.if_icmp .ge 29, 3) := by decide +kernel
theorem dX7_note_57 : decode cX7_note 57 = .ok (.aload_n 0, 1) := by decide +kernel
theorem dX7_note_58 : decode cX7_note 58 = .ok (.getfield 31, 3) := by decide +kernel
theorem dX7_note_61 : decode cX7_note 61 = .ok (.bipush 24, 2) := by decide +kernel
theorem dX7_note_63 : decode cX7_note 63 = .ok (.aload_n 0, 1) := by decide +kernel
theorem dX7_note_64 : decode cX7_note 64 = .ok (.getfield 104, 3) := by decide +kernel
theorem dX7_note_67 : decode cX7_note 67 = .ok (.imul, 1) := by decide +kernel
theorem dX7_note_68 : decode cX7_note 68 = .ok (.iload_n 1, 1) := by decide +kernel
theorem dX7_note_69 : decode cX7_note 69 = .ok (.iadd, 1) := by decide +kernel
theorem dX7_note_70 : decode cX7_note 70 = .ok (.aload_n 0, 1) := by decide +kernel
theorem dX7_note_71 : decode cX7_note 71 = .ok (.getfield 25, 3) := by decide +kernel
theorem dX7_note_74 : decode cX7_note 74 = .ok (.iload_n 1, 1) := by decide +kernel
theorem dX7_note_75 : decode cX7_note 75 = .ok (.iaload, 1) := by decide +kernel
theorem dX7_note_76 : decode cX7_note 76 = .ok (.iastore, 1) := by decide +kernel
theorem dX7_note_77 : decode cX7_note 77 = .ok (.iinc 1 1, 3) := by decide +kernel
theorem dX7_note_80 : decode cX7_note 80 = .ok (.goto (-29), 3) := by decide +kernel
theorem dX7_note_83 : decode cX7_note 83 = .ok (.aload_n 0, 1) := by decide +kernel
theorem dX7_note_84 : decode cX7_note 84 = .ok (.dup, 1) := by decide +kernel
theorem dX7_note_85 : decode cX7_note 85 = .ok (.getfield 104, 3) := by decide +kernel
theorem dX7_note_88 : decode cX7_note 88 = .ok (.iconst 1, 1) := by decide +kernel
theorem dX7_note_89 : decode cX7_note 89 = .ok (.iadd, 1) := by decide +kernel
theorem dX7_note_90 : decode cX7_note 90 = .ok (.putfield 104, 3) := by decide +kernel
theorem dX7_note_93 : decode cX7_note 93 = .ok (.return_, 1) := by decide +kernel
theorem dX7_open_0 : decode cX7_open 0 = .ok (.aload_n 0, 1) := by decide +kernel
theorem dX7_open_1 : decode cX7_open 1 = .ok (.iconst 0, 1) := by decide +kernel
theorem dX7_open_2 : decode cX7_open 2 = .ok (.putfield 56, 3) := by decide +kernel
theorem dX7_open_5 : decode cX7_open 5 = .ok (.aload_n 0, 1) := by decide +kernel
theorem dX7_open_6 : decode cX7_open 6 = .ok (.iload_n 1, 1) := by decide +kernel
theorem dX7_open_7 : decode cX7_open 7 = .ok (.invokevirtual 138, 3) := by decide +kernel
theorem dX7_open_10 : decode cX7_open 10 = .ok (.ifCond .eq 5, 3) := by decide +kernel
theorem dX7_open_13 : decode cX7_open 13 = .ok (.iconst (-1), 1) := by decide +kernel
theorem dX7_open_14 : decode cX7_open 14 = .ok (.ireturn, 1) := by decide +kernel
theorem dX7_open_15 : decode cX7_open 15 = .ok (.aload_n 0, 1) := by decide +kernel
theorem dX7_open_16 : decode cX7_open 16 = .ok (.getfield 25, 3) := by decide +kernel
theorem dX7_open_19 : decode cX7_open 19 = .ok (.iconst 5, 1) := by decide +kernel
theorem dX7_open_20 : decode cX7_open 20 = .ok (.iaload, 1) := by decide +kernel
theorem dX7_open_21 : decode cX7_open 21 = .ok (.iload_n 1, 1) := by decide +kernel
theorem dX7_open_22 : decode cX7_open 22 = .ok (.invokestatic 107, 3) := by decide +kernel
theorem dX7_open_25 : decode cX7_open 25 = .ok (.ifCond .eq 6, 3) := by decide +kernel
theorem dX7_open_28 : decode cX7_open 28 = .ok (.bipush (-3), 2) := by decide +kernel
theorem dX7_open_30 : decode cX7_open 30 = .ok (.ireturn, 1) := by decide +kernel
theorem dX7_open_31 : decode cX7_open 31 = .ok (.aload_n 0, 1) := by decide +kernel
theorem dX7_open_32 : decode cX7_open 32 = .ok (.invokevirtual 147, 3) := by decide +kernel
theorem dX7_open_35 : decode cX7_open 35 = .ok (.aload_n 0, 1) := by decide +kernel
theorem dX7_open_36 : decode cX7_open 36 = .ok (.aload_n 0, 1) := by decide +kernel
theorem dX7_open_37 : decode cX7_open 37 = .ok (.getfield 25, 3) := by decide +kernel
theorem dX7_open_40 : decode cX7_open 40 = .ok (.iload_n 1, 1) := by decide +kernel
theorem dX7_open_41 : decode cX7_open 41 = .ok (.invokevirtual 150, 3) := by decide +kernel
theorem dX7_open_44 : decode cX7_open 44 = .ok (.aload_n 0, 1) := by decide +kernel
theorem dX7_open_45 : decode cX7_open 45 = .ok (.aload_n 0, 1) := by decide +kernel
theorem dX7_open_46 : decode cX7_open 46 = .ok (.getfield 25, 3) := by decide +kernel
theorem dX7_open_49 : decode cX7_open 49 = .ok (.aload_n 0, 1) := by decide +kernel
theorem dX7_open_50 : decode cX7_open 50 = .ok (.getfield 25, 3) := by decide +kernel
theorem dX7_open_53 : decode cX7_open 53 = .ok (.iload_n 1, 1) := by decide +kernel
theorem dX7_open_54 : decode cX7_open 54 = .ok (.iaload, 1) := by decide +kernel
theorem dX7_open_55 : decode cX7_open 55 = .ok (.invokevirtual 111, 3) := by decide +kernel
theorem dX7_open_58 : decode cX7_open 58 = .ok (.ireturn, 1) := by decide +kernel
theorem dX7_shut_0 : decode cX7_shut 0 = .ok (.aload_n 0, 1) := by decide +kernel
theorem dX7_shut_1 : decode cX7_shut 1 = .ok (.iconst 0, 1) := by decide +kernel
theorem dX7_shut_2 : decode cX7_shut 2 = .ok (.putfield 56, 3) := by decide +kernel
theorem dX7_shut_5 : decode cX7_shut 5 = .ok (.aload_n 0, 1) := by decide +kernel
theorem dX7_shut_6 : decode cX7_shut 6 = .ok (.iload_n 1, 1) := by decide +kernel
theorem dX7_shut_7 : decode cX7_shut 7 = .ok (.invokevirtual 138, 3) := by decide +kernel
theorem dX7_shut_10 : decode cX7_shut 10 = .ok (.ifCond .eq 5, 3) := by decide +kernel
theorem dX7_shut_13 : decode cX7_shut 13 = .ok (.iconst (-1), 1) := by decide +kernel
theorem dX7_shut_14 : decode cX7_shut 14 = .ok (.ireturn, 1) := by decide +kernel
theorem dX7_shut_15 : decode cX7_shut 15 = .ok (.aload_n 0, 1) := by decide +kernel
theorem dX7_shut_16 : decode cX7_shut 16 = .ok (.getfield 25, 3) := by decide +kernel
theorem dX7_shut_19 : decode cX7_shut 19 = .ok (.iconst 5, 1) := by decide +kernel
theorem dX7_shut_20 : decode cX7_shut 20 = .ok (.iaload, 1) := by decide +kernel
theorem dX7_shut_21 : decode cX7_shut 21 = .ok (.iload_n 1, 1) := by decide +kernel
theorem dX7_shut_22 : decode cX7_shut 22 = .ok (.invokestatic 107, 3) := by decide +kernel
theorem dX7_shut_25 : decode cX7_shut 25 = .ok (.ifCond .ne 6, 3) := by decide +kernel
theorem dX7_shut_28 : decode cX7_shut 28 = .ok (.bipush (-3), 2) := by decide +kernel
theorem dX7_shut_30 : decode cX7_shut 30 = .ok (.ireturn, 1) := by decide +kernel
theorem dX7_shut_31 : decode cX7_shut 31 = .ok (.aload_n 0, 1) := by decide +kernel
theorem dX7_shut_32 : decode cX7_shut 32 = .ok (.invokevirtual 147, 3) := by decide +kernel
theorem dX7_shut_35 : decode cX7_shut 35 = .ok (.aload_n 0, 1) := by decide +kernel
theorem dX7_shut_36 : decode cX7_shut 36 = .ok (.aload_n 0, 1) := by decide +kernel
theorem dX7_shut_37 : decode cX7_shut 37 = .ok (.getfield 25, 3) := by decide +kernel
theorem dX7_shut_40 : decode cX7_shut 40 = .ok (.iload_n 1, 1) := by decide +kernel
theorem dX7_shut_41 : decode cX7_shut 41 = .ok (.invokevirtual 154, 3) := by decide +kernel
theorem dX7_shut_44 : decode cX7_shut 44 = .ok (.aload_n 0, 1) := by decide +kernel
theorem dX7_shut_45 : decode cX7_shut 45 = .ok (.aload_n 0, 1) := by decide +kernel
theorem dX7_shut_46 : decode cX7_shut 46 = .ok (.getfield 25, 3) := by decide +kernel
theorem dX7_shut_49 : decode cX7_shut 49 = .ok (.aload_n 0, 1) := by decide +kernel
theorem dX7_shut_50 : decode cX7_shut 50 = .ok (.getfield 25, 3) := by decide +kernel
theorem dX7_shut_53 : decode cX7_shut 53 = .ok (.iload_n 1, 1) := by decide +kernel
theorem dX7_shut_54 : decode cX7_shut 54 = .ok (.iaload, 1) := by decide +kernel
theorem dX7_shut_55 : decode cX7_shut 55 = .ok (.invokevirtual 111, 3) := by decide +kernel
theorem dX7_shut_58 : decode cX7_shut 58 = .ok (.ireturn, 1) := by decide +kernel
theorem dX7_canWalk_0 : decode cX7_canWalk 0 = .ok (.aload_n 0, 1) := by decide +kernel
theorem dX7_canWalk_1 : decode cX7_canWalk 1 = .ok (.iload_n 1, 1) := by decide +kernel
theorem dX7_canWalk_2 : decode cX7_canWalk 2 = .ok (.iaload, 1) := by decide +kernel
theorem dX7_canWalk_3 : decode cX7_canWalk 3 = .ok (.iload_n 2, 1) := by decide +kernel
theorem dX7_canWalk_4 : decode cX7_canWalk 4 = .ok (.iadd, 1) := by decide +kernel
theorem dX7_canWalk_5 : decode cX7_canWalk 5 = .ok (.invokestatic 144, 3) := by decide +kernel
theorem dX7_canWalk_8 : decode cX7_canWalk 8 = .ok (.ifCond .ne 17, 3) := by decide +kernel
theorem dX7_canWalk_11 : decode cX7_canWalk 11 = .ok (.aload_n 0, 1) := by decide +kernel
theorem dX7_canWalk_12 : decode cX7_canWalk 12 = .ok (.iconst 5, 1) := by decide +kernel
theorem dX7_canWalk_13 : decode cX7_canWalk 13 = .ok (.iaload, 1) := by decide +kernel
theorem dX7_canWalk_14 : decode cX7_canWalk 14 = .ok (.iload_n 1, 1) := by decide +kernel
theorem dX7_canWalk_15 : decode cX7_canWalk 15 = .ok (.invokestatic 107, 3) := by decide +kernel
theorem dX7_canWalk_18 : decode cX7_canWalk 18 = .ok (.ifCond .ne 7, 3) := by decide +kernel
theorem dX7_canWalk_21 : decode cX7_canWalk 21 = .ok (.iconst 1, 1) := by decide +kernel
theorem dX7_canWalk_22 : decode cX7_canWalk 22 = .ok (.goto 4, 3) := by decide +kernel
theorem dX7_canWalk_25 : decode cX7_canWalk 25 = .ok (.iconst 0, 1) := by decide +kernel
theorem dX7_canWalk_26 : decode cX7_canWalk 26 = .ok (.ireturn, 1) := by decide +kernel
theorem dX7_walk_0 : decode cX7_walk 0 = .ok (.aload_n 0, 1) := by decide +kernel
theorem dX7_walk_1 : decode cX7_walk 1 = .ok (.iconst 0, 1) := by decide +kernel
theorem dX7_walk_2 : decode cX7_walk 2 = .ok (.putfield 56, 3) := by decide +kernel
theorem dX7_walk_5 : decode cX7_walk 5 = .ok (.aload_n 0, 1) := by decide +kernel
theorem dX7_walk_6 : decode cX7_walk 6 = .ok (.iload_n 1, 1) := by decide +kernel
theorem dX7_walk_7 : decode cX7_walk 7 = .ok (.invokevirtual 138, 3) := by decide +kernel
theorem dX7_walk_10 : decode cX7_walk 10 = .ok (.ifCond .eq 5, 3) := by decide +kernel
theorem dX7_walk_13 : decode cX7_walk 13 = .ok (.iconst (-1), 1) := by decide +kernel
theorem dX7_walk_14 : decode cX7_walk 14 = .ok (.ireturn, 1) := by decide +kernel
theorem dX7_walk_15 : decode cX7_walk 15 = .ok (.iload_n 2, 1) := by decide +kernel
theorem dX7_walk_16 : decode cX7_walk 16 = .ok (.ifCond .eq 7, 3) := by decide +kernel
theorem dX7_walk_19 : decode cX7_walk 19 = .ok (.iconst 1, 1) := by decide +kernel
theorem dX7_walk_20 : decode cX7_walk 20 = .ok (.goto 4, 3) := by decide +kernel
theorem dX7_walk_23 : decode cX7_walk 23 = .ok (.iconst (-1), 1) := by decide +kernel
theorem dX7_walk_24 : decode cX7_walk 24 = .ok (.istore_n 3, 1) := by decide +kernel
theorem dX7_walk_25 : decode cX7_walk 25 = .ok (.aload_n 0, 1) := by decide +kernel
theorem dX7_walk_26 : decode cX7_walk 26 = .ok (.getfield 25, 3) := by decide +kernel
theorem dX7_walk_29 : decode cX7_walk 29 = .ok (.iload_n 1, 1) := by decide +kernel
theorem dX7_walk_30 : decode cX7_walk 30 = .ok (.iload_n 3, 1) := by decide +kernel
theorem dX7_walk_31 : decode cX7_walk 31 = .ok (.invokestatic 157, 3) := by decide +kernel
theorem dX7_walk_34 : decode cX7_walk 34 = .ok (.ifCond .ne 6, 3) := by decide +kernel
theorem dX7_walk_37 : decode cX7_walk 37 = .ok (.bipush (-3), 2) := by decide +kernel
theorem dX7_walk_39 : decode cX7_walk 39 = .ok (.ireturn, 1) := by decide +kernel
theorem dX7_walk_40 : decode cX7_walk 40 = .ok (.aload_n 0, 1) := by decide +kernel
theorem dX7_walk_41 : decode cX7_walk 41 = .ok (.invokevirtual 147, 3) := by decide +kernel
theorem dX7_walk_44 : decode cX7_walk 44 = .ok (.aload_n 0, 1) := by decide +kernel
theorem dX7_walk_45 : decode cX7_walk 45 = .ok (.getfield 25, 3) := by decide +kernel
theorem dX7_walk_48 : decode cX7_walk 48 = .ok (.iload_n 1, 1) := by decide +kernel
theorem dX7_walk_49 : decode cX7_walk 49 = .ok (.dup2, 1) := by decide +kernel
theorem dX7_walk_50 : decode cX7_walk 50 = .ok (.iaload, 1) := by decide +kernel
theorem dX7_walk_51 : decode cX7_walk 51 = .ok (.iload_n 3, 1) := by decide +kernel
theorem dX7_walk_52 : decode cX7_walk 52 = .ok (.iadd, 1) := by decide +kernel
theorem dX7_walk_53 : decode cX7_walk 53 = .ok (.iastore, 1) := by decide +kernel
theorem dX7_walk_54 : decode cX7_walk 54 = .ok (.aload_n 0, 1) := by decide +kernel
theorem dX7_walk_55 : decode cX7_walk 55 = .ok (.getfield 25, 3) := by decide +kernel
theorem dX7_walk_58 : decode cX7_walk 58 = .ok (.iload_n 1, 1) := by decide +kernel
theorem dX7_walk_59 : decode cX7_walk 59 = .ok (.iaload, 1) := by decide +kernel
theorem dX7_walk_60 : decode cX7_walk 60 = .ok (.ireturn, 1) := by decide +kernel
theorem dX7_hour_0 : decode cX7_hour 0 = .ok (.aload_n 0, 1) := by decide +kernel
theorem dX7_hour_1 : decode cX7_hour 1 = .ok (.iconst 0, 1) := by decide +kernel
theorem dX7_hour_2 : decode cX7_hour 2 = .ok (.putfield 56, 3) := by decide +kernel
theorem dX7_hour_5 : decode cX7_hour 5 = .ok (.aload_n 0, 1) := by decide +kernel
theorem dX7_hour_6 : decode cX7_hour 6 = .ok (.invokevirtual 147, 3) := by decide +kernel
theorem dX7_hour_9 : decode cX7_hour 9 = .ok (.aload_n 0, 1) := by decide +kernel
theorem dX7_hour_10 : decode cX7_hour 10 = .ok (.aload_n 0, 1) := by decide +kernel
theorem dX7_hour_11 : decode cX7_hour 11 = .ok (.getfield 25, 3) := by decide +kernel
theorem dX7_hour_14 : decode cX7_hour 14 = .ok (.invokevirtual 129, 3) := by decide +kernel
theorem dX7_hour_17 : decode cX7_hour 17 = .ok (.ireturn, 1) := by decide +kernel
theorem dX7_undo_0 : decode cX7_undo 0 = .ok (.aload_n 0, 1) := by decide +kernel
theorem dX7_undo_1 : decode cX7_undo 1 = .ok (.iconst 0, 1) := by decide +kernel
theorem dX7_undo_2 : decode cX7_undo 2 = .ok (.putfield 56, 3) := by decide +kernel
theorem dX7_undo_5 : decode cX7_undo 5 = .ok (.aload_n 0, 1) := by decide +kernel
theorem dX7_undo_6 : decode cX7_undo 6 = .ok (.getfield 104, 3) := by decide +kernel
theorem dX7_undo_9 : decode cX7_undo 9 = .ok (.ifCond .ne 6, 3) := by decide +kernel
theorem dX7_undo_12 : decode cX7_undo 12 = .ok (.bipush (-3), 2) := by decide +kernel
theorem dX7_undo_14 : decode cX7_undo 14 = .ok (.ireturn, 1) := by decide +kernel
theorem dX7_undo_15 : decode cX7_undo 15 = .ok (.aload_n 0, 1) := by decide +kernel
theorem dX7_undo_16 : decode cX7_undo 16 = .ok (.dup, 1) := by decide +kernel
theorem dX7_undo_17 : decode cX7_undo 17 = .ok (.getfield 104, 3) := by decide +kernel
theorem dX7_undo_20 : decode cX7_undo 20 = .ok (.iconst 1, 1) := by decide +kernel
theorem dX7_undo_21 : decode cX7_undo 21 = .ok (.isub, 1) := by decide +kernel
theorem dX7_undo_22 : decode cX7_undo 22 = .ok (.putfield 104, 3) := by decide +kernel
theorem dX7_undo_25 : decode cX7_undo 25 = .ok (.iconst 0, 1) := by decide +kernel
theorem dX7_undo_26 : decode cX7_undo 26 = .ok (.istore_n 1, 1) := by decide +kernel
theorem dX7_undo_27 : decode cX7_undo 27 = .ok (.iload_n 1, 1) := by decide +kernel
theorem dX7_undo_28 : decode cX7_undo 28 = .ok (.bipush 24, 2) := by decide +kernel
theorem dX7_undo_30 : decode cX7_undo 30 = .ok (.if_icmp .ge 29, 3) := by decide +kernel
theorem dX7_undo_33 : decode cX7_undo 33 = .ok (.aload_n 0, 1) := by decide +kernel
theorem dX7_undo_34 : decode cX7_undo 34 = .ok (.getfield 25, 3) := by decide +kernel
theorem dX7_undo_37 : decode cX7_undo 37 = .ok (.iload_n 1, 1) := by decide +kernel
theorem dX7_undo_38 : decode cX7_undo 38 = .ok (.aload_n 0, 1) := by decide +kernel
theorem dX7_undo_39 : decode cX7_undo 39 = .ok (.getfield 31, 3) := by decide +kernel
theorem dX7_undo_42 : decode cX7_undo 42 = .ok (.bipush 24, 2) := by decide +kernel
theorem dX7_undo_44 : decode cX7_undo 44 = .ok (.aload_n 0, 1) := by decide +kernel
theorem dX7_undo_45 : decode cX7_undo 45 = .ok (.getfield 104, 3) := by decide +kernel
theorem dX7_undo_48 : decode cX7_undo 48 = .ok (.imul, 1) := by decide +kernel
theorem dX7_undo_49 : decode cX7_undo 49 = .ok (.iload_n 1, 1) := by decide +kernel
theorem dX7_undo_50 : decode cX7_undo 50 = .ok (.iadd, 1) := by decide +kernel
theorem dX7_undo_51 : decode cX7_undo 51 = .ok (.iaload, 1) := by decide +kernel
theorem dX7_undo_52 : decode cX7_undo 52 = .ok (.iastore, 1) := by decide +kernel
theorem dX7_undo_53 : decode cX7_undo 53 = .ok (.iinc 1 1, 3) := by decide +kernel
theorem dX7_undo_56 : decode cX7_undo 56 = .ok (.goto (-29), 3) := by decide +kernel
theorem dX7_undo_59 : decode cX7_undo 59 = .ok (.aload_n 0, 1) := by decide +kernel
theorem dX7_undo_60 : decode cX7_undo 60 = .ok (.getfield 104, 3) := by decide +kernel
theorem dX7_undo_63 : decode cX7_undo 63 = .ok (.ireturn, 1) := by decide +kernel
theorem dX7_begin_0 : decode cX7_begin 0 = .ok (.iconst 0, 1) := by decide +kernel
theorem dX7_begin_1 : decode cX7_begin 1 = .ok (.istore_n 1, 1) := by decide +kernel
theorem dX7_begin_2 : decode cX7_begin 2 = .ok (.iload_n 1, 1) := by decide +kernel
theorem dX7_begin_3 : decode cX7_begin 3 = .ok (.bipush 24, 2) := by decide +kernel
theorem dX7_begin_5 : decode cX7_begin 5 = .ok (.if_icmp .ge 21, 3) := by decide +kernel
theorem dX7_begin_8 : decode cX7_begin 8 = .ok (.aload_n 0, 1) := by decide +kernel
theorem dX7_begin_9 : decode cX7_begin 9 = .ok (.getfield 28, 3) := by decide +kernel
theorem dX7_begin_12 : decode cX7_begin 12 = .ok (.iload_n 1, 1) := by decide +kernel
theorem dX7_begin_13 : decode cX7_begin 13 = .ok (.aload_n 0, 1) := by decide +kernel
theorem dX7_begin_14 : decode cX7_begin 14 = .ok (.getfield 25, 3) := by decide +kernel
theorem dX7_begin_17 : decode cX7_begin 17 = .ok (.iload_n 1, 1) := by decide +kernel
theorem dX7_begin_18 : decode cX7_begin 18 = .ok (.iaload, 1) := by decide +kernel
theorem dX7_begin_19 : decode cX7_begin 19 = .ok (.iastore, 1) := by decide +kernel
theorem dX7_begin_20 : decode cX7_begin 20 = .ok (.iinc 1 1, 3) := by decide +kernel
theorem dX7_begin_23 : decode cX7_begin 23 = .ok (.goto (-21), 3) := by decide +kernel
theorem dX7_begin_26 : decode cX7_begin 26 = .ok (.return_, 1) := by decide +kernel
theorem dX7_wet_0 : decode cX7_wet 0 = .ok (.aload_n 0, 1) := by decide +kernel
theorem dX7_wet_1 : decode cX7_wet 1 = .ok (.iconst 0, 1) := by decide +kernel
theorem dX7_wet_2 : decode cX7_wet 2 = .ok (.putfield 56, 3) := by decide +kernel
theorem dX7_wet_5 : decode cX7_wet 5 = .ok (.iload_n 1, 1) := by decide +kernel
theorem dX7_wet_6 : decode cX7_wet 6 = .ok (.invokestatic 144, 3) := by decide +kernel
theorem dX7_wet_9 : decode cX7_wet 9 = .ok (.ifCond .eq 5, 3) := by decide +kernel
theorem dX7_wet_12 : decode cX7_wet 12 = .ok (.iconst (-1), 1) := by decide +kernel
theorem dX7_wet_13 : decode cX7_wet 13 = .ok (.ireturn, 1) := by decide +kernel
theorem dX7_wet_14 : decode cX7_wet 14 = .ok (.iload_n 2, 1) := by decide +kernel
theorem dX7_wet_15 : decode cX7_wet 15 = .ok (.i2l, 1) := by decide +kernel
theorem dX7_wet_16 : decode cX7_wet 16 = .ok (.lconst 0, 1) := by decide +kernel
theorem dX7_wet_17 : decode cX7_wet 17 = .ok (.ldc2_w 161, 3) := by decide +kernel
theorem dX7_wet_20 : decode cX7_wet 20 = .ok (.invokestatic 63, 3) := by decide +kernel
theorem dX7_wet_23 : decode cX7_wet 23 = .ok (.ifCond .ne 6, 3) := by decide +kernel
theorem dX7_wet_26 : decode cX7_wet 26 = .ok (.bipush (-2), 2) := by decide +kernel
theorem dX7_wet_28 : decode cX7_wet 28 = .ok (.ireturn, 1) := by decide +kernel
theorem dX7_wet_29 : decode cX7_wet 29 = .ok (.aload_n 0, 1) := by decide +kernel
theorem dX7_wet_30 : decode cX7_wet 30 = .ok (.invokevirtual 163, 3) := by decide +kernel
theorem dX7_wet_33 : decode cX7_wet 33 = .ok (.aload_n 0, 1) := by decide +kernel
theorem dX7_wet_34 : decode cX7_wet 34 = .ok (.iload_n 2, 1) := by decide +kernel
theorem dX7_wet_35 : decode cX7_wet 35 = .ok (.invokevirtual 166, 3) := by decide +kernel
theorem dX7_wet_38 : decode cX7_wet 38 = .ok (.aload_n 0, 1) := by decide +kernel
theorem dX7_wet_39 : decode cX7_wet 39 = .ok (.getfield 28, 3) := by decide +kernel
theorem dX7_wet_42 : decode cX7_wet 42 = .ok (.bipush 12, 2) := by decide +kernel
theorem dX7_wet_44 : decode cX7_wet 44 = .ok (.iload_n 1, 1) := by decide +kernel
theorem dX7_wet_45 : decode cX7_wet 45 = .ok (.iadd, 1) := by decide +kernel
theorem dX7_wet_46 : decode cX7_wet 46 = .ok (.iaload, 1) := by decide +kernel
theorem dX7_wet_47 : decode cX7_wet 47 = .ok (.ireturn, 1) := by decide +kernel
theorem dX7_needs_0 : decode cX7_needs 0 = .ok (.aload_n 0, 1) := by decide +kernel
theorem dX7_needs_1 : decode cX7_needs 1 = .ok (.iconst 0, 1) := by decide +kernel
theorem dX7_needs_2 : decode cX7_needs 2 = .ok (.putfield 56, 3) := by decide +kernel
theorem dX7_needs_5 : decode cX7_needs 5 = .ok (.iload_n 1, 1) := by decide +kernel
theorem dX7_needs_6 : decode cX7_needs 6 = .ok (.i2l, 1) := by decide +kernel
theorem dX7_needs_7 : decode cX7_needs 7 = .ok (.lconst 0, 1) := by decide +kernel
theorem dX7_needs_8 : decode cX7_needs 8 = .ok (.ldc2_w 161, 3) := by decide +kernel
theorem dX7_needs_11 : decode cX7_needs 11 = .ok (.invokestatic 63, 3) := by decide +kernel
theorem dX7_needs_14 : decode cX7_needs 14 = .ok (.ifCond .eq 13, 3) := by decide +kernel
theorem dX7_needs_17 : decode cX7_needs 17 = .ok (.iload_n 2, 1) := by decide +kernel
theorem dX7_needs_18 : decode cX7_needs 18 = .ok (.i2l, 1) := by decide +kernel
theorem dX7_needs_19 : decode cX7_needs 19 = .ok (.lconst 0, 1) := by decide +kernel
theorem dX7_needs_20 : decode cX7_needs 20 = .ok (.lconst 1, 1) := by decide +kernel
theorem dX7_needs_21 : decode cX7_needs 21 = .ok (.invokestatic 63, 3) := by decide +kernel
theorem dX7_needs_24 : decode cX7_needs 24 = .ok (.ifCond .ne 6, 3) := by decide +kernel
theorem dX7_needs_27 : decode cX7_needs 27 = .ok (.bipush (-2), 2) := by decide +kernel
theorem dX7_needs_29 : decode cX7_needs 29 = .ok (.ireturn, 1) := by decide +kernel
theorem dX7_needs_30 : decode cX7_needs 30 = .ok (.aload_n 0, 1) := by decide +kernel
theorem dX7_needs_31 : decode cX7_needs 31 = .ok (.invokevirtual 163, 3) := by decide +kernel
theorem dX7_needs_34 : decode cX7_needs 34 = .ok (.aload_n 0, 1) := by decide +kernel
theorem dX7_needs_35 : decode cX7_needs 35 = .ok (.iload_n 1, 1) := by decide +kernel
theorem dX7_needs_36 : decode cX7_needs 36 = .ok (.invokevirtual 166, 3) := by decide +kernel
theorem dX7_needs_39 : decode cX7_needs 39 = .ok (.aload_n 0, 1) := by decide +kernel
theorem dX7_needs_40 : decode cX7_needs 40 = .ok (.aload_n 0, 1) := by decide +kernel
theorem dX7_needs_41 : decode cX7_needs 41 = .ok (.getfield 28, 3) := by decide +kernel
theorem dX7_needs_44 : decode cX7_needs 44 = .ok (.iload_n 2, 1) := by decide +kernel
theorem dX7_needs_45 : decode cX7_needs 45 = .ok (.iconst 1, 1) := by decide +kernel
theorem dX7_needs_46 : decode cX7_needs 46 = .ok (.iadd, 1) := by decide +kernel
theorem dX7_needs_47 : decode cX7_needs 47 = .ok (.invokevirtual 132, 3) := by decide +kernel
theorem dX7_needs_50 : decode cX7_needs 50 = .ok (.ireturn, 1) := by decide +kernel
theorem dX7_dry_0 : decode cX7_dry 0 = .ok (.aload_n 0, 1) := by decide +kernel
theorem dX7_dry_1 : decode cX7_dry 1 = .ok (.iconst 0, 1) := by decide +kernel
theorem dX7_dry_2 : decode cX7_dry 2 = .ok (.putfield 56, 3) := by decide +kernel
theorem dX7_dry_5 : decode cX7_dry 5 = .ok (.iload_n 1, 1) := by decide +kernel
theorem dX7_dry_6 : decode cX7_dry 6 = .ok (.invokestatic 144, 3) := by decide +kernel
theorem dX7_dry_9 : decode cX7_dry 9 = .ok (.ifCond .eq 5, 3) := by decide +kernel
theorem dX7_dry_12 : decode cX7_dry 12 = .ok (.iconst (-1), 1) := by decide +kernel
theorem dX7_dry_13 : decode cX7_dry 13 = .ok (.ireturn, 1) := by decide +kernel
theorem dX7_dry_14 : decode cX7_dry 14 = .ok (.aload_n 0, 1) := by decide +kernel
theorem dX7_dry_15 : decode cX7_dry 15 = .ok (.invokevirtual 163, 3) := by decide +kernel
theorem dX7_dry_18 : decode cX7_dry 18 = .ok (.iconst 0, 1) := by decide +kernel
theorem dX7_dry_19 : decode cX7_dry 19 = .ok (.istore_n 2, 1) := by decide +kernel
theorem dX7_dry_20 : decode cX7_dry 20 = .ok (.iload_n 2, 1) := by decide +kernel
theorem dX7_dry_21 : decode cX7_dry 21 = .ok (.bipush 20, 2) := by decide +kernel
theorem dX7_dry_23 : decode cX7_dry 23 = .ok (.if_icmp .gt 35, 3) := by decide +kernel
theorem dX7_dry_26 : decode cX7_dry 26 = .ok (.aload_n 0, 1) := by decide +kernel
theorem dX7_dry_27 : decode cX7_dry 27 = .ok (.aload_n 0, 1) := by decide +kernel
theorem dX7_dry_28 : decode cX7_dry 28 = .ok (.getfield 28, 3) := by decide +kernel
theorem dX7_dry_31 : decode cX7_dry 31 = .ok (.invokevirtual 118, 3) := by decide +kernel
theorem dX7_dry_34 : decode cX7_dry 34 = .ok (.iload_n 1, 1) := by decide +kernel
theorem dX7_dry_35 : decode cX7_dry 35 = .ok (.invokestatic 107, 3) := by decide +kernel
theorem dX7_dry_38 : decode cX7_dry 38 = .ok (.ifCond .ne 5, 3) := by decide +kernel
theorem dX7_dry_41 : decode cX7_dry 41 = .ok (.iload_n 2, 1) := by decide +kernel
theorem dX7_dry_42 : decode cX7_dry 42 = .ok (.ireturn, 1) := by decide +kernel
theorem dX7_dry_43 : decode cX7_dry 43 = .ok (.aload_n 0, 1) := by decide +kernel
theorem dX7_dry_44 : decode cX7_dry 44 = .ok (.aload_n 0, 1) := by decide +kernel
theorem dX7_dry_45 : decode cX7_dry 45 = .ok (.getfield 28, 3) := by decide +kernel
theorem dX7_dry_48 : decode cX7_dry 48 = .ok (.invokevirtual 129, 3) := by decide +kernel
theorem dX7_dry_51 : decode cX7_dry 51 = .ok (.pop, 1) := by decide +kernel
theorem dX7_dry_52 : decode cX7_dry 52 = .ok (.iinc 2 1, 3) := by decide +kernel
theorem dX7_dry_55 : decode cX7_dry 55 = .ok (.goto (-35), 3) := by decide +kernel
theorem dX7_dry_58 : decode cX7_dry 58 = .ok (.bipush (-9), 2) := by decide +kernel
theorem dX7_dry_60 : decode cX7_dry 60 = .ok (.ireturn, 1) := by decide +kernel
theorem dX7_keptThen_0 : decode cX7_keptThen 0 = .ok (.aload_n 0, 1) := by decide +kernel
theorem dX7_keptThen_1 : decode cX7_keptThen 1 = .ok (.bipush 9, 2) := by decide +kernel
theorem dX7_keptThen_3 : decode cX7_keptThen 3 = .ok (.invokevirtual 166, 3) := by decide +kernel
theorem dX7_keptThen_6 : decode cX7_keptThen 6 = .ok (.aload_n 0, 1) := by decide +kernel
theorem dX7_keptThen_7 : decode cX7_keptThen 7 = .ok (.aload_n 0, 1) := by decide +kernel
theorem dX7_keptThen_8 : decode cX7_keptThen 8 = .ok (.getfield 28, 3) := by decide +kernel
theorem dX7_keptThen_11 : decode cX7_keptThen 11 = .ok (.iconst 1, 1) := by decide +kernel
theorem dX7_keptThen_12 : decode cX7_keptThen 12 = .ok (.invokevirtual 132, 3) := by decide +kernel
theorem dX7_keptThen_15 : decode cX7_keptThen 15 = .ok (.invokestatic 170, 3) := by decide +kernel
theorem dX7_keptThen_18 : decode cX7_keptThen 18 = .ok (.ireturn, 1) := by decide +kernel
theorem dX7_openAll_0 : decode cX7_openAll 0 = .ok (.iconst 0, 1) := by decide +kernel
theorem dX7_openAll_1 : decode cX7_openAll 1 = .ok (.istore_n 2, 1) := by decide +kernel
theorem dX7_openAll_2 : decode cX7_openAll 2 = .ok (.iload_n 2, 1) := by decide +kernel
theorem dX7_openAll_3 : decode cX7_openAll 3 = .ok (.aload_n 0, 1) := by decide +kernel
theorem dX7_openAll_4 : decode cX7_openAll 4 = .ok (.getfield 60, 3) := by decide +kernel
theorem dX7_openAll_7 : decode cX7_openAll 7 = .ok (.if_icmp .ge 26, 3) := by decide +kernel
theorem dX7_openAll_10 : decode cX7_openAll 10 = .ok (.iload_n 1, 1) := by decide +kernel
theorem dX7_openAll_11 : decode cX7_openAll 11 = .ok (.iload_n 2, 1) := by decide +kernel
theorem dX7_openAll_12 : decode cX7_openAll 12 = .ok (.invokestatic 107, 3) := by decide +kernel
theorem dX7_openAll_15 : decode cX7_openAll 15 = .ok (.ifCond .eq 12, 3) := by decide +kernel
theorem dX7_openAll_18 : decode cX7_openAll 18 = .ok (.aload_n 0, 1) := by decide +kernel
theorem dX7_openAll_19 : decode cX7_openAll 19 = .ok (.aload_n 0, 1) := by decide +kernel
theorem dX7_openAll_20 : decode cX7_openAll 20 = .ok (.getfield 28, 3) := by decide +kernel
theorem dX7_openAll_23 : decode cX7_openAll 23 = .ok (.iload_n 2, 1) := by decide +kernel
theorem dX7_openAll_24 : decode cX7_openAll 24 = .ok (.invokevirtual 150, 3) := by decide +kernel
theorem dX7_openAll_27 : decode cX7_openAll 27 = .ok (.iinc 2 1, 3) := by decide +kernel
theorem dX7_openAll_30 : decode cX7_openAll 30 = .ok (.goto (-28), 3) := by decide +kernel
theorem dX7_openAll_33 : decode cX7_openAll 33 = .ok (.return_, 1) := by decide +kernel
theorem dX7_asked_0 : decode cX7_asked 0 = .ok (.aload_n 0, 1) := by decide +kernel
theorem dX7_asked_1 : decode cX7_asked 1 = .ok (.iconst 0, 1) := by decide +kernel
theorem dX7_asked_2 : decode cX7_asked 2 = .ok (.putfield 56, 3) := by decide +kernel
theorem dX7_asked_5 : decode cX7_asked 5 = .ok (.iload_n 1, 1) := by decide +kernel
theorem dX7_asked_6 : decode cX7_asked 6 = .ok (.i2l, 1) := by decide +kernel
theorem dX7_asked_7 : decode cX7_asked 7 = .ok (.lconst 0, 1) := by decide +kernel
theorem dX7_asked_8 : decode cX7_asked 8 = .ok (.lconst 1, 1) := by decide +kernel
theorem dX7_asked_9 : decode cX7_asked 9 = .ok (.invokestatic 63, 3) := by decide +kernel
theorem dX7_asked_12 : decode cX7_asked 12 = .ok (.ifCond .ne 6, 3) := by decide +kernel
theorem dX7_asked_15 : decode cX7_asked 15 = .ok (.bipush (-2), 2) := by decide +kernel
theorem dX7_asked_17 : decode cX7_asked 17 = .ok (.ireturn, 1) := by decide +kernel
theorem dX7_asked_18 : decode cX7_asked 18 = .ok (.aload_n 0, 1) := by decide +kernel
theorem dX7_asked_19 : decode cX7_asked 19 = .ok (.iconst 0, 1) := by decide +kernel
theorem dX7_asked_20 : decode cX7_asked 20 = .ok (.putfield 174, 3) := by decide +kernel
theorem dX7_asked_23 : decode cX7_asked 23 = .ok (.aload_n 0, 1) := by decide +kernel
theorem dX7_asked_24 : decode cX7_asked 24 = .ok (.bipush (-9), 2) := by decide +kernel
theorem dX7_asked_26 : decode cX7_asked 26 = .ok (.putfield 177, 3) := by decide +kernel
theorem dX7_asked_29 : decode cX7_asked 29 = .ok (.iconst 0, 1) := by decide +kernel
theorem dX7_asked_30 : decode cX7_asked 30 = .ok (.istore_n 2, 1) := by decide +kernel
theorem dX7_asked_31 : decode cX7_asked 31 = .ok (.iload_n 2, 1) := by decide +kernel
theorem dX7_asked_32 : decode cX7_asked 32 = .ok (.iconst 1, 1) := by decide +kernel
theorem dX7_asked_33 : decode cX7_asked 33 = .ok (.aload_n 0, 1) := by decide +kernel
theorem dX7_asked_34 : decode cX7_asked 34 = .ok (.getfield 60, 3) := by decide +kernel
theorem dX7_asked_37 : decode cX7_asked 37 = .ok (.ishl, 1) := by decide +kernel
theorem dX7_asked_38 : decode cX7_asked 38 = .ok (.if_icmp .ge 74, 3) := by decide +kernel
theorem dX7_asked_41 : decode cX7_asked 41 = .ok (.iload_n 2, 1) := by decide +kernel
theorem dX7_asked_42 : decode cX7_asked 42 = .ok (.aload_n 0, 1) := by decide +kernel
theorem dX7_asked_43 : decode cX7_asked 43 = .ok (.getfield 25, 3) := by decide +kernel
theorem dX7_asked_46 : decode cX7_asked 46 = .ok (.iconst 5, 1) := by decide +kernel
theorem dX7_asked_47 : decode cX7_asked 47 = .ok (.iaload, 1) := by decide +kernel
theorem dX7_asked_48 : decode cX7_asked 48 = .ok (.iand, 1) := by decide +kernel
theorem dX7_asked_49 : decode cX7_asked 49 = .ok (.ifCond .ne 57, 3) := by decide +kernel
theorem dX7_asked_52 : decode cX7_asked 52 = .ok (.aload_n 0, 1) := by decide +kernel
theorem dX7_asked_53 : decode cX7_asked 53 = .ok (.invokevirtual 163, 3) := by decide +kernel
theorem dX7_asked_56 : decode cX7_asked 56 = .ok (.aload_n 0, 1) := by decide +kernel
theorem dX7_asked_57 : decode cX7_asked 57 = .ok (.iload_n 2, 1) := by decide +kernel
theorem dX7_asked_58 : decode cX7_asked 58 = .ok (.invokevirtual 180, 3) := by decide +kernel
theorem dX7_asked_61 : decode cX7_asked 61 = .ok (.aload_n 0, 1) := by decide +kernel
theorem dX7_asked_62 : decode cX7_asked 62 = .ok (.invokevirtual 183, 3) := by decide +kernel
theorem dX7_asked_65 : decode cX7_asked 65 = .ok (.istore_n 3, 1) := by decide +kernel
theorem dX7_asked_66 : decode cX7_asked 66 = .ok (.iload_n 3, 1) := by decide +kernel
theorem dX7_asked_67 : decode cX7_asked 67 = .ok (.aload_n 0, 1) := by decide +kernel
theorem dX7_asked_68 : decode cX7_asked 68 = .ok (.getfield 177, 3) := by decide +kernel
theorem dX7_asked_71 : decode cX7_asked 71 = .ok (.if_icmp .gt 25, 3) := by decide +kernel
theorem dX7_asked_74 : decode cX7_asked 74 = .ok (.iload_n 3, 1) := by decide +kernel
theorem dX7_asked_75 : decode cX7_asked 75 = .ok (.aload_n 0, 1) := by decide +kernel
theorem dX7_asked_76 : decode cX7_asked 76 = .ok (.getfield 177, 3) := by decide +kernel
theorem dX7_asked_79 : decode cX7_asked 79 = .ok (.if_icmp .ne 27, 3) := by decide +kernel
theorem dX7_asked_82 : decode cX7_asked 82 = .ok (.iload_n 2, 1) := by decide +kernel
theorem dX7_asked_83 : decode cX7_asked 83 = .ok (.invokestatic 170, 3) := by decide +kernel
theorem dX7_asked_86 : decode cX7_asked 86 = .ok (.aload_n 0, 1) := by decide +kernel
theorem dX7_asked_87 : decode cX7_asked 87 = .ok (.getfield 174, 3) := by decide +kernel
theorem dX7_asked_90 : decode cX7_asked 90 = .ok (.invokestatic 170, 3) := by decide +kernel
theorem dX7_asked_93 : decode cX7_asked 93 = .ok (.if_icmp .ge 13, 3) := by decide +kernel
theorem dX7_asked_96 : decode cX7_asked 96 = .ok (.aload_n 0, 1) := by decide +kernel
theorem dX7_asked_97 : decode cX7_asked 97 = .ok (.iload_n 3, 1) := by decide +kernel
theorem dX7_asked_98 : decode cX7_asked 98 = .ok (.putfield 177, 3) := by decide +kernel
theorem dX7_asked_101 : decode cX7_asked 101 = .ok (.aload_n 0, 1) := by decide +kernel
theorem dX7_asked_102 : decode cX7_asked 102 = .ok (.iload_n 2, 1) := by decide +kernel
theorem dX7_asked_103 : decode cX7_asked 103 = .ok (.putfield 174, 3) := by decide +kernel
theorem dX7_asked_106 : decode cX7_asked 106 = .ok (.iinc 2 1, 3) := by decide +kernel
theorem dX7_asked_109 : decode cX7_asked 109 = .ok (.goto (-78), 3) := by decide +kernel
theorem dX7_asked_112 : decode cX7_asked 112 = .ok (.iload_n 1, 1) := by decide +kernel
theorem dX7_asked_113 : decode cX7_asked 113 = .ok (.ifCond .ne 10, 3) := by decide +kernel
theorem dX7_asked_116 : decode cX7_asked 116 = .ok (.aload_n 0, 1) := by decide +kernel
theorem dX7_asked_117 : decode cX7_asked 117 = .ok (.getfield 174, 3) := by decide +kernel
theorem dX7_asked_120 : decode cX7_asked 120 = .ok (.goto 7, 3) := by decide +kernel
theorem dX7_asked_123 : decode cX7_asked 123 = .ok (.aload_n 0, 1) := by decide +kernel
theorem dX7_asked_124 : decode cX7_asked 124 = .ok (.getfield 177, 3) := by decide +kernel
theorem dX7_asked_127 : decode cX7_asked 127 = .ok (.ireturn, 1) := by decide +kernel
theorem dX7_sent_0 : decode cX7_sent 0 = .ok (.aload_n 0, 1) := by decide +kernel
theorem dX7_sent_1 : decode cX7_sent 1 = .ok (.iconst 0, 1) := by decide +kernel
theorem dX7_sent_2 : decode cX7_sent 2 = .ok (.putfield 56, 3) := by decide +kernel
theorem dX7_sent_5 : decode cX7_sent 5 = .ok (.aload_n 0, 1) := by decide +kernel
theorem dX7_sent_6 : decode cX7_sent 6 = .ok (.iload_n 1, 1) := by decide +kernel
theorem dX7_sent_7 : decode cX7_sent 7 = .ok (.invokevirtual 138, 3) := by decide +kernel
theorem dX7_sent_10 : decode cX7_sent 10 = .ok (.ifCond .eq 5, 3) := by decide +kernel
theorem dX7_sent_13 : decode cX7_sent 13 = .ok (.iconst (-1), 1) := by decide +kernel
theorem dX7_sent_14 : decode cX7_sent 14 = .ok (.ireturn, 1) := by decide +kernel
theorem dX7_sent_15 : decode cX7_sent 15 = .ok (.iload_n 2, 1) := by decide +kernel
theorem dX7_sent_16 : decode cX7_sent 16 = .ok (.i2l, 1) := by decide +kernel
theorem dX7_sent_17 : decode cX7_sent 17 = .ok (.lconst 0, 1) := by decide +kernel
theorem dX7_sent_18 : decode cX7_sent 18 = .ok (.lconst 1, 1) := by decide +kernel
theorem dX7_sent_19 : decode cX7_sent 19 = .ok (.invokestatic 63, 3) := by decide +kernel
theorem dX7_sent_22 : decode cX7_sent 22 = .ok (.ifCond .ne 6, 3) := by decide +kernel
theorem dX7_sent_25 : decode cX7_sent 25 = .ok (.bipush (-2), 2) := by decide +kernel
theorem dX7_sent_27 : decode cX7_sent 27 = .ok (.ireturn, 1) := by decide +kernel
theorem dX7_sent_28 : decode cX7_sent 28 = .ok (.aload_n 0, 1) := by decide +kernel
theorem dX7_sent_29 : decode cX7_sent 29 = .ok (.getfield 25, 3) := by decide +kernel
theorem dX7_sent_32 : decode cX7_sent 32 = .ok (.iconst 5, 1) := by decide +kernel
theorem dX7_sent_33 : decode cX7_sent 33 = .ok (.iaload, 1) := by decide +kernel
theorem dX7_sent_34 : decode cX7_sent 34 = .ok (.iload_n 1, 1) := by decide +kernel
theorem dX7_sent_35 : decode cX7_sent 35 = .ok (.invokestatic 107, 3) := by decide +kernel
theorem dX7_sent_38 : decode cX7_sent 38 = .ok (.ifCond .eq 6, 3) := by decide +kernel
theorem dX7_sent_41 : decode cX7_sent 41 = .ok (.bipush (-3), 2) := by decide +kernel
theorem dX7_sent_43 : decode cX7_sent 43 = .ok (.ireturn, 1) := by decide +kernel
theorem dX7_sent_44 : decode cX7_sent 44 = .ok (.aload_n 0, 1) := by decide +kernel
theorem dX7_sent_45 : decode cX7_sent 45 = .ok (.iconst 0, 1) := by decide +kernel
theorem dX7_sent_46 : decode cX7_sent 46 = .ok (.putfield 174, 3) := by decide +kernel
theorem dX7_sent_49 : decode cX7_sent 49 = .ok (.aload_n 0, 1) := by decide +kernel
theorem dX7_sent_50 : decode cX7_sent 50 = .ok (.bipush (-9), 2) := by decide +kernel
theorem dX7_sent_52 : decode cX7_sent 52 = .ok (.putfield 177, 3) := by decide +kernel
theorem dX7_sent_55 : decode cX7_sent 55 = .ok (.iconst 0, 1) := by decide +kernel
theorem dX7_sent_56 : decode cX7_sent 56 = .ok (.istore_n 3, 1) := by decide +kernel
theorem dX7_sent_57 : decode cX7_sent 57 = .ok (.iload_n 3, 1) := by decide +kernel
theorem dX7_sent_58 : decode cX7_sent 58 = .ok (.bipush 6, 2) := by decide +kernel
theorem dX7_sent_60 : decode cX7_sent 60 = .ok (.if_icmp .ge 78, 3) := by decide +kernel
theorem dX7_sent_63 : decode cX7_sent 63 = .ok (.aload_n 0, 1) := by decide +kernel
theorem dX7_sent_64 : decode cX7_sent 64 = .ok (.invokevirtual 163, 3) := by decide +kernel
theorem dX7_sent_67 : decode cX7_sent 67 = .ok (.aload_n 0, 1) := by decide +kernel
theorem dX7_sent_68 : decode cX7_sent 68 = .ok (.getfield 28, 3) := by decide +kernel
theorem dX7_sent_71 : decode cX7_sent 71 = .ok (.iload_n 1, 1) := by decide +kernel
theorem dX7_sent_72 : decode cX7_sent 72 = .ok (.iload_n 3, 1) := by decide +kernel
theorem dX7_sent_73 : decode cX7_sent 73 = .ok (.iastore, 1) := by decide +kernel
theorem dX7_sent_74 : decode cX7_sent 74 = .ok (.aload_n 0, 1) := by decide +kernel
theorem dX7_sent_75 : decode cX7_sent 75 = .ok (.aload_n 0, 1) := by decide +kernel
theorem dX7_sent_76 : decode cX7_sent 76 = .ok (.getfield 28, 3) := by decide +kernel
theorem dX7_sent_79 : decode cX7_sent 79 = .ok (.iload_n 1, 1) := by decide +kernel
theorem dX7_sent_80 : decode cX7_sent 80 = .ok (.invokevirtual 150, 3) := by decide +kernel
theorem dX7_sent_83 : decode cX7_sent 83 = .ok (.aload_n 0, 1) := by decide +kernel
theorem dX7_sent_84 : decode cX7_sent 84 = .ok (.invokevirtual 183, 3) := by decide +kernel
theorem dX7_sent_87 : decode cX7_sent 87 = .ok (.istore 4, 2) := by decide +kernel
theorem dX7_sent_89 : decode cX7_sent 89 = .ok (.aload_n 0, 1) := by decide +kernel
theorem dX7_sent_90 : decode cX7_sent 90 = .ok (.iload 4, 2) := by decide +kernel
theorem dX7_sent_92 : decode cX7_sent 92 = .ok (.aload_n 0, 1) := by decide +kernel
theorem dX7_sent_93 : decode cX7_sent 93 = .ok (.getfield 177, 3) := by decide +kernel
theorem dX7_sent_96 : decode cX7_sent 96 = .ok (.if_icmp .le 7, 3) := by decide +kernel
theorem dX7_sent_99 : decode cX7_sent 99 = .ok (.iload_n 3, 1) := by decide +kernel
theorem dX7_sent_100 : decode cX7_sent 100 = .ok (.goto 7, 3) := by decide +kernel
theorem dX7_sent_103 : decode cX7_sent 103 = .ok (.aload_n 0, 1) := by decide +kernel
theorem dX7_sent_104 : decode cX7_sent 104 = .ok (.getfield 174, 3) := by decide +kernel
theorem dX7_sent_107 : decode cX7_sent 107 = .ok (.putfield 174, 3) := by decide +kernel
theorem dX7_sent_110 : decode cX7_sent 110 = .ok (.aload_n 0, 1) := by decide +kernel
theorem dX7_sent_111 : decode cX7_sent 111 = .ok (.iload 4, 2) := by decide +kernel
theorem dX7_sent_113 : decode cX7_sent 113 = .ok (.aload_n 0, 1) := by decide +kernel
theorem dX7_sent_114 : decode cX7_sent 114 = .ok (.getfield 177, 3) := by decide +kernel
theorem dX7_sent_117 : decode cX7_sent 117 = .ok (.if_icmp .le 8, 3) := by decide +kernel
theorem dX7_sent_120 : decode cX7_sent 120 = .ok (.iload 4, 2) := by decide +kernel
theorem dX7_sent_122 : decode cX7_sent 122 = .ok (.goto 7, 3) := by decide +kernel
theorem dX7_sent_125 : decode cX7_sent 125 = .ok (.aload_n 0, 1) := by decide +kernel
theorem dX7_sent_126 : decode cX7_sent 126 = .ok (.getfield 177, 3) := by decide +kernel
theorem dX7_sent_129 : decode cX7_sent 129 = .ok (.putfield 177, 3) := by decide +kernel
theorem dX7_sent_132 : decode cX7_sent 132 = .ok (.iinc 3 1, 3) := by decide +kernel
theorem dX7_sent_135 : decode cX7_sent 135 = .ok (.goto (-78), 3) := by decide +kernel
theorem dX7_sent_138 : decode cX7_sent 138 = .ok (.iload_n 2, 1) := by decide +kernel
theorem dX7_sent_139 : decode cX7_sent 139 = .ok (.ifCond .ne 10, 3) := by decide +kernel
theorem dX7_sent_142 : decode cX7_sent 142 = .ok (.aload_n 0, 1) := by decide +kernel
theorem dX7_sent_143 : decode cX7_sent 143 = .ok (.getfield 174, 3) := by decide +kernel
theorem dX7_sent_146 : decode cX7_sent 146 = .ok (.goto 7, 3) := by decide +kernel
theorem dX7_sent_149 : decode cX7_sent 149 = .ok (.aload_n 0, 1) := by decide +kernel
theorem dX7_sent_150 : decode cX7_sent 150 = .ok (.getfield 177, 3) := by decide +kernel
theorem dX7_sent_153 : decode cX7_sent 153 = .ok (.ireturn, 1) := by decide +kernel
theorem dX7_longPower_0 : decode cX7_longPower 0 = .ok (.lconst 1, 1) := by decide +kernel
theorem dX7_longPower_1 : decode cX7_longPower 1 = .ok (.lstore_n 3, 1) := by decide +kernel
theorem dX7_longPower_2 : decode cX7_longPower 2 = .ok (.iconst 0, 1) := by decide +kernel
theorem dX7_longPower_3 : decode cX7_longPower 3 = .ok (.istore 5, 2) := by decide +kernel
theorem dX7_longPower_5 : decode cX7_longPower 5 = .ok (.iload 5, 2) := by decide +kernel
theorem dX7_longPower_7 : decode cX7_longPower 7 = .ok (.iload_n 2, 1) := by decide +kernel
theorem dX7_longPower_8 : decode cX7_longPower 8 = .ok (.if_icmp .ge 13, 3) := by decide +kernel
theorem dX7_longPower_11 : decode cX7_longPower 11 = .ok (.lload_n 3, 1) := by decide +kernel
theorem dX7_longPower_12 : decode cX7_longPower 12 = .ok (.lload_n 0, 1) := by decide +kernel
theorem dX7_longPower_13 : decode cX7_longPower 13 = .ok (.lmul, 1) := by decide +kernel
theorem dX7_longPower_14 : decode cX7_longPower 14 = .ok (.lstore_n 3, 1) := by decide +kernel
theorem dX7_longPower_15 : decode cX7_longPower 15 = .ok (.iinc 5 1, 3) := by decide +kernel
theorem dX7_longPower_18 : decode cX7_longPower 18 = .ok (.goto (-13), 3) := by decide +kernel
theorem dX7_longPower_21 : decode cX7_longPower 21 = .ok (.lload_n 3, 1) := by decide +kernel
theorem dX7_longPower_22 : decode cX7_longPower 22 = .ok (.lreturn, 1) := by decide +kernel
theorem dX7_does_0 : decode cX7_does 0 = .ok (.iload_n 1, 1) := by decide +kernel
theorem dX7_does_1 : decode cX7_does 1 = .ok (.bipush 100, 2) := by decide +kernel
theorem dX7_does_3 : decode cX7_does 3 = .ok (.idiv, 1) := by decide +kernel
theorem dX7_does_4 : decode cX7_does 4 = .ok (.istore_n 2, 1) := by decide +kernel
theorem dX7_does_5 : decode cX7_does 5 = .ok (.iload_n 1, 1) := by decide +kernel
theorem dX7_does_6 : decode cX7_does 6 = .ok (.bipush 10, 2) := by decide +kernel
theorem dX7_does_8 : decode cX7_does 8 = .ok (.idiv, 1) := by decide +kernel
theorem dX7_does_9 : decode cX7_does 9 = .ok (.bipush 10, 2) := by decide +kernel
theorem dX7_does_11 : decode cX7_does 11 = .ok (.irem, 1) := by decide +kernel
theorem dX7_does_12 : decode cX7_does 12 = .ok (.istore_n 3, 1) := by decide +kernel
theorem dX7_does_13 : decode cX7_does 13 = .ok (.iload_n 1, 1) := by decide +kernel
theorem dX7_does_14 : decode cX7_does 14 = .ok (.bipush 10, 2) := by decide +kernel
theorem dX7_does_16 : decode cX7_does 16 = .ok (.irem, 1) := by decide +kernel
theorem dX7_does_17 : decode cX7_does 17 = .ok (.istore 4, 2) := by decide +kernel
theorem dX7_does_19 : decode cX7_does 19 = .ok (.iload_n 1, 1) := by decide +kernel
theorem dX7_does_20 : decode cX7_does 20 = .ok (.ifCond .ne 14, 3) := by decide +kernel
theorem dX7_does_23 : decode cX7_does 23 = .ok (.aload_n 0, 1) := by decide +kernel
theorem dX7_does_24 : decode cX7_does 24 = .ok (.aload_n 0, 1) := by decide +kernel
theorem dX7_does_25 : decode cX7_does 25 = .ok (.getfield 28, 3) := by decide +kernel
theorem dX7_does_28 : decode cX7_does 28 = .ok (.invokevirtual 129, 3) := by decide +kernel
theorem dX7_does_31 : decode cX7_does 31 = .ok (.pop, 1) := by decide +kernel
theorem dX7_does_32 : decode cX7_does 32 = .ok (.iconst 1, 1) := by decide +kernel
theorem dX7_does_33 : decode cX7_does 33 = .ok (.ireturn, 1) := by decide +kernel
theorem dX7_does_34 : decode cX7_does 34 = .ok (.iload_n 2, 1) := by decide +kernel
theorem dX7_does_35 : decode cX7_does 35 = .ok (.iconst 1, 1) := by decide +kernel
theorem dX7_does_36 : decode cX7_does 36 = .ok (.if_icmp .ne 42, 3) := by decide +kernel
theorem dX7_does_39 : decode cX7_does 39 = .ok (.iload_n 3, 1) := by decide +kernel
theorem dX7_does_40 : decode cX7_does 40 = .ok (.ifCond .ne 38, 3) := by decide +kernel
theorem dX7_does_43 : decode cX7_does 43 = .ok (.aload_n 0, 1) := by decide +kernel
theorem dX7_does_44 : decode cX7_does 44 = .ok (.iload 4, 2) := by decide +kernel
theorem dX7_does_46 : decode cX7_does 46 = .ok (.invokevirtual 138, 3) := by decide +kernel
theorem dX7_does_49 : decode cX7_does 49 = .ok (.ifCond .ne 29, 3) := by decide +kernel
theorem dX7_does_52 : decode cX7_does 52 = .ok (.aload_n 0, 1) := by decide +kernel
theorem dX7_does_53 : decode cX7_does 53 = .ok (.getfield 28, 3) := by decide +kernel
theorem dX7_does_56 : decode cX7_does 56 = .ok (.iconst 5, 1) := by decide +kernel
theorem dX7_does_57 : decode cX7_does 57 = .ok (.iaload, 1) := by decide +kernel
theorem dX7_does_58 : decode cX7_does 58 = .ok (.iload 4, 2) := by decide +kernel
theorem dX7_does_60 : decode cX7_does 60 = .ok (.invokestatic 107, 3) := by decide +kernel
theorem dX7_does_63 : decode cX7_does 63 = .ok (.ifCond .ne 15, 3) := by decide +kernel
theorem dX7_does_66 : decode cX7_does 66 = .ok (.aload_n 0, 1) := by decide +kernel
theorem dX7_does_67 : decode cX7_does 67 = .ok (.aload_n 0, 1) := by decide +kernel
theorem dX7_does_68 : decode cX7_does 68 = .ok (.getfield 28, 3) := by decide +kernel
theorem dX7_does_71 : decode cX7_does 71 = .ok (.iload 4, 2) := by decide +kernel
theorem dX7_does_73 : decode cX7_does 73 = .ok (.invokevirtual 150, 3) := by decide +kernel
theorem dX7_does_76 : decode cX7_does 76 = .ok (.iconst 1, 1) := by decide +kernel
theorem dX7_does_77 : decode cX7_does 77 = .ok (.ireturn, 1) := by decide +kernel
theorem dX7_does_78 : decode cX7_does 78 = .ok (.iload_n 2, 1) := by decide +kernel
theorem dX7_does_79 : decode cX7_does 79 = .ok (.iconst 2, 1) := by decide +kernel
theorem dX7_does_80 : decode cX7_does 80 = .ok (.if_icmp .ne 42, 3) := by decide +kernel
theorem dX7_does_83 : decode cX7_does 83 = .ok (.iload_n 3, 1) := by decide +kernel
theorem dX7_does_84 : decode cX7_does 84 = .ok (.ifCond .ne 38, 3) := by decide +kernel
theorem dX7_does_87 : decode cX7_does 87 = .ok (.aload_n 0, 1) := by decide +kernel
theorem dX7_does_88 : decode cX7_does 88 = .ok (.iload 4, 2) := by decide +kernel
theorem dX7_does_90 : decode cX7_does 90 = .ok (.invokevirtual 138, 3) := by decide +kernel
theorem dX7_does_93 : decode cX7_does 93 = .ok (.ifCond .ne 29, 3) := by decide +kernel
theorem dX7_does_96 : decode cX7_does 96 = .ok (.aload_n 0, 1) := by decide +kernel
theorem dX7_does_97 : decode cX7_does 97 = .ok (.getfield 28, 3) := by decide +kernel
theorem dX7_does_100 : decode cX7_does 100 = .ok (.iconst 5, 1) := by decide +kernel
theorem dX7_does_101 : decode cX7_does 101 = .ok (.iaload, 1) := by decide +kernel
theorem dX7_does_102 : decode cX7_does 102 = .ok (.iload 4, 2) := by decide +kernel
theorem dX7_does_104 : decode cX7_does 104 = .ok (.invokestatic 107, 3) := by decide +kernel
theorem dX7_does_107 : decode cX7_does 107 = .ok (.ifCond .eq 15, 3) := by decide +kernel
theorem dX7_does_110 : decode cX7_does 110 = .ok (.aload_n 0, 1) := by decide +kernel
theorem dX7_does_111 : decode cX7_does 111 = .ok (.aload_n 0, 1) := by decide +kernel
theorem dX7_does_112 : decode cX7_does 112 = .ok (.getfield 28, 3) := by decide +kernel
theorem dX7_does_115 : decode cX7_does 115 = .ok (.iload 4, 2) := by decide +kernel
theorem dX7_does_117 : decode cX7_does 117 = .ok (.invokevirtual 154, 3) := by decide +kernel
theorem dX7_does_120 : decode cX7_does 120 = .ok (.iconst 1, 1) := by decide +kernel
theorem dX7_does_121 : decode cX7_does 121 = .ok (.ireturn, 1) := by decide +kernel
theorem dX7_does_122 : decode cX7_does 122 = .ok (.iload_n 2, 1) := by decide +kernel
theorem dX7_does_123 : decode cX7_does 123 = .ok (.iconst 3, 1) := by decide +kernel
theorem dX7_does_124 : decode cX7_does 124 = .ok (.if_icmp .ne 51, 3) := by decide +kernel
theorem dX7_does_127 : decode cX7_does 127 = .ok (.aload_n 0, 1) := by decide +kernel
theorem dX7_does_128 : decode cX7_does 128 = .ok (.iload_n 3, 1) := by decide +kernel
theorem dX7_does_129 : decode cX7_does 129 = .ok (.invokevirtual 138, 3) := by decide +kernel
theorem dX7_does_132 : decode cX7_does 132 = .ok (.ifCond .ne 43, 3) := by decide +kernel
theorem dX7_does_135 : decode cX7_does 135 = .ok (.iload 4, 2) := by decide +kernel
theorem dX7_does_137 : decode cX7_does 137 = .ok (.iconst 2, 1) := by decide +kernel
theorem dX7_does_138 : decode cX7_does 138 = .ok (.if_icmp .ge 37, 3) := by decide +kernel
theorem dX7_does_141 : decode cX7_does 141 = .ok (.aload_n 0, 1) := by decide +kernel
theorem dX7_does_142 : decode cX7_does 142 = .ok (.getfield 28, 3) := by decide +kernel
theorem dX7_does_145 : decode cX7_does 145 = .ok (.iload_n 3, 1) := by decide +kernel
theorem dX7_does_146 : decode cX7_does 146 = .ok (.iconst 2, 1) := by decide +kernel
theorem dX7_does_147 : decode cX7_does 147 = .ok (.iload 4, 2) := by decide +kernel
theorem dX7_does_149 : decode cX7_does 149 = .ok (.imul, 1) := by decide +kernel
theorem dX7_does_150 : decode cX7_does 150 = .ok (.iconst 1, 1) := by decide +kernel
theorem dX7_does_151 : decode cX7_does 151 = .ok (.isub, 1) := by decide +kernel
theorem dX7_does_152 : decode cX7_does 152 = .ok (.invokestatic 157, 3) := by decide +kernel
theorem dX7_does_155 : decode cX7_does 155 = .ok (.ifCond .eq 20, 3) := by decide +kernel
theorem dX7_does_158 : decode cX7_does 158 = .ok (.aload_n 0, 1) := by decide +kernel
theorem dX7_does_159 : decode cX7_does 159 = .ok (.getfield 28, 3) := by decide +kernel
theorem dX7_does_162 : decode cX7_does 162 = .ok (.iload_n 3, 1) := by decide +kernel
theorem dX7_does_163 : decode cX7_does 163 = .ok (.dup2, 1) := by decide +kernel
theorem dX7_does_164 : decode cX7_does 164 = .ok (.iaload, 1) := by decide +kernel
theorem dX7_does_165 : decode cX7_does 165 = .ok (.iconst 2, 1) := by decide +kernel
theorem dX7_does_166 : decode cX7_does 166 = .ok (.iload 4, 2) := by decide +kernel
theorem dX7_does_168 : decode cX7_does 168 = .ok (.imul, 1) := by decide +kernel
theorem dX7_does_169 : decode cX7_does 169 = .ok (.iconst 1, 1) := by decide +kernel
theorem dX7_does_170 : decode cX7_does 170 = .ok (.isub, 1) := by decide +kernel
theorem dX7_does_171 : decode cX7_does 171 = .ok (.iadd, 1) := by decide +kernel
theorem dX7_does_172 : decode cX7_does 172 = .ok (.iastore, 1) := by decide +kernel
theorem dX7_does_173 : decode cX7_does 173 = .ok (.iconst 1, 1) := by decide +kernel
theorem dX7_does_174 : decode cX7_does 174 = .ok (.ireturn, 1) := by decide +kernel
theorem dX7_does_175 : decode cX7_does 175 = .ok (.iload_n 2, 1) := by decide +kernel
theorem dX7_does_176 : decode cX7_does 176 = .ok (.iconst 4, 1) := by decide +kernel
theorem dX7_does_177 : decode cX7_does 177 = .ok (.if_icmp .ne 37, 3) := by decide +kernel
theorem dX7_does_180 : decode cX7_does 180 = .ok (.iload_n 3, 1) := by decide +kernel
theorem dX7_does_181 : decode cX7_does 181 = .ok (.ifCond .ne 31, 3) := by decide +kernel
theorem dX7_does_184 : decode cX7_does 184 = .ok (.iload 4, 2) := by decide +kernel
theorem dX7_does_186 : decode cX7_does 186 = .ok (.invokestatic 144, 3) := by decide +kernel
theorem dX7_does_189 : decode cX7_does 189 = .ok (.ifCond .ne 23, 3) := by decide +kernel
theorem dX7_does_192 : decode cX7_does 192 = .ok (.aload_n 0, 1) := by decide +kernel
theorem dX7_does_193 : decode cX7_does 193 = .ok (.aload_n 0, 1) := by decide +kernel
theorem dX7_does_194 : decode cX7_does 194 = .ok (.getfield 28, 3) := by decide +kernel
theorem dX7_does_197 : decode cX7_does 197 = .ok (.invokevirtual 118, 3) := by decide +kernel
theorem dX7_does_200 : decode cX7_does 200 = .ok (.iload 4, 2) := by decide +kernel
theorem dX7_does_202 : decode cX7_does 202 = .ok (.invokestatic 107, 3) := by decide +kernel
theorem dX7_does_205 : decode cX7_does 205 = .ok (.ifCond .eq 7, 3) := by decide +kernel
theorem dX7_does_208 : decode cX7_does 208 = .ok (.iconst 1, 1) := by decide +kernel
theorem dX7_does_209 : decode cX7_does 209 = .ok (.goto 4, 3) := by decide +kernel
theorem dX7_does_212 : decode cX7_does 212 = .ok (.iconst 0, 1) := by decide +kernel
theorem dX7_does_213 : decode cX7_does 213 = .ok (.ireturn, 1) := by decide +kernel
theorem dX7_does_214 : decode cX7_does 214 = .ok (.iload_n 2, 1) := by decide +kernel
theorem dX7_does_215 : decode cX7_does 215 = .ok (.iconst 5, 1) := by decide +kernel
theorem dX7_does_216 : decode cX7_does 216 = .ok (.if_icmp .ne 34, 3) := by decide +kernel
theorem dX7_does_219 : decode cX7_does 219 = .ok (.iload_n 3, 1) := by decide +kernel
theorem dX7_does_220 : decode cX7_does 220 = .ok (.ifCond .ne 30, 3) := by decide +kernel
theorem dX7_does_223 : decode cX7_does 223 = .ok (.iload 4, 2) := by decide +kernel
theorem dX7_does_225 : decode cX7_does 225 = .ok (.aload_n 0, 1) := by decide +kernel
theorem dX7_does_226 : decode cX7_does 226 = .ok (.getfield 101, 3) := by decide +kernel
theorem dX7_does_229 : decode cX7_does 229 = .ok (.if_icmp .ge 21, 3) := by decide +kernel
theorem dX7_does_232 : decode cX7_does 232 = .ok (.aload_n 0, 1) := by decide +kernel
theorem dX7_does_233 : decode cX7_does 233 = .ok (.getfield 28, 3) := by decide +kernel
theorem dX7_does_236 : decode cX7_does 236 = .ok (.bipush 18, 2) := by decide +kernel
theorem dX7_does_238 : decode cX7_does 238 = .ok (.iload 4, 2) := by decide +kernel
theorem dX7_does_240 : decode cX7_does 240 = .ok (.iadd, 1) := by decide +kernel
theorem dX7_does_241 : decode cX7_does 241 = .ok (.iaload, 1) := by decide +kernel
theorem dX7_does_242 : decode cX7_does 242 = .ok (.iconst 1, 1) := by decide +kernel
theorem dX7_does_243 : decode cX7_does 243 = .ok (.if_icmp .ne 7, 3) := by decide +kernel
theorem dX7_does_246 : decode cX7_does 246 = .ok (.iconst 1, 1) := by decide +kernel
theorem dX7_does_247 : decode cX7_does 247 = .ok (.goto 4, 3) := by decide +kernel
theorem dX7_does_250 : decode cX7_does 250 = .ok (.iconst 0, 1) := by decide +kernel
theorem dX7_does_251 : decode cX7_does 251 = .ok (.ireturn, 1) := by decide +kernel
theorem dX7_judge_0 : decode cX7_judge 0 = .ok (.aload_n 0, 1) := by decide +kernel
theorem dX7_judge_1 : decode cX7_judge 1 = .ok (.iconst 0, 1) := by decide +kernel
theorem dX7_judge_2 : decode cX7_judge 2 = .ok (.putfield 56, 3) := by decide +kernel
theorem dX7_judge_5 : decode cX7_judge 5 = .ok (.iload_n 1, 1) := by decide +kernel
theorem dX7_judge_6 : decode cX7_judge 6 = .ok (.i2l, 1) := by decide +kernel
theorem dX7_judge_7 : decode cX7_judge 7 = .ok (.lconst 1, 1) := by decide +kernel
theorem dX7_judge_8 : decode cX7_judge 8 = .ok (.ldc2_w 186, 3) := by decide +kernel
theorem dX7_judge_11 : decode cX7_judge 11 = .ok (.invokestatic 63, 3) := by decide +kernel
theorem dX7_judge_14 : decode cX7_judge 14 = .ok (.ifCond .eq 20, 3) := by decide +kernel
theorem dX7_judge_17 : decode cX7_judge 17 = .ok (.lload_n 2, 1) := by decide +kernel
theorem dX7_judge_18 : decode cX7_judge 18 = .ok (.lconst 0, 1) := by decide +kernel
theorem dX7_judge_19 : decode cX7_judge 19 = .ok (.ldc2_w 188, 3) := by decide +kernel
theorem dX7_judge_22 : decode cX7_judge 22 = .ok (.iload_n 1, 1) := by decide +kernel
theorem dX7_judge_23 : decode cX7_judge 23 = .ok (.invokestatic 190, 3) := by decide +kernel
theorem dX7_judge_26 : decode cX7_judge 26 = .ok (.lconst 1, 1) := by decide +kernel
theorem dX7_judge_27 : decode cX7_judge 27 = .ok (.lsub, 1) := by decide +kernel
theorem dX7_judge_28 : decode cX7_judge 28 = .ok (.invokestatic 63, 3) := by decide +kernel
theorem dX7_judge_31 : decode cX7_judge 31 = .ok (.ifCond .ne 6, 3) := by decide +kernel
theorem dX7_judge_34 : decode cX7_judge 34 = .ok (.bipush (-2), 2) := by decide +kernel
theorem dX7_judge_36 : decode cX7_judge 36 = .ok (.ireturn, 1) := by decide +kernel
theorem dX7_judge_37 : decode cX7_judge 37 = .ok (.aload_n 0, 1) := by decide +kernel
theorem dX7_judge_38 : decode cX7_judge 38 = .ok (.invokevirtual 163, 3) := by decide +kernel
theorem dX7_judge_41 : decode cX7_judge 41 = .ok (.iconst 0, 1) := by decide +kernel
theorem dX7_judge_42 : decode cX7_judge 42 = .ok (.istore 4, 2) := by decide +kernel
theorem dX7_judge_44 : decode cX7_judge 44 = .ok (.iload 4, 2) := by decide +kernel
theorem dX7_judge_46 : decode cX7_judge 46 = .ok (.iload_n 1, 1) := by decide +kernel
theorem dX7_judge_47 : decode cX7_judge 47 = .ok (.if_icmp .ge 38, 3) := by decide +kernel
theorem dX7_judge_50 : decode cX7_judge 50 = .ok (.aload_n 0, 1) := by decide +kernel
theorem dX7_judge_51 : decode cX7_judge 51 = .ok (.lload_n 2, 1) := by decide +kernel
theorem dX7_judge_52 : decode cX7_judge 52 = .ok (.ldc2_w 188, 3) := by decide +kernel
theorem dX7_judge_55 : decode cX7_judge 55 = .ok (.iload_n 1, 1) := by decide +kernel
theorem dX7_judge_56 : decode cX7_judge 56 = .ok (.iconst 1, 1) := by decide +kernel
theorem dX7_judge_57 : decode cX7_judge 57 = .ok (.isub, 1) := by decide +kernel
theorem dX7_judge_58 : decode cX7_judge 58 = .ok (.iload 4, 2) := by decide +kernel
theorem dX7_judge_60 : decode cX7_judge 60 = .ok (.isub, 1) := by decide +kernel
theorem dX7_judge_61 : decode cX7_judge 61 = .ok (.invokestatic 190, 3) := by decide +kernel
theorem dX7_judge_64 : decode cX7_judge 64 = .ok (.ldiv, 1) := by decide +kernel
theorem dX7_judge_65 : decode cX7_judge 65 = .ok (.ldc2_w 188, 3) := by decide +kernel
theorem dX7_judge_68 : decode cX7_judge 68 = .ok (.lrem, 1) := by decide +kernel
theorem dX7_judge_69 : decode cX7_judge 69 = .ok (.l2i, 1) := by decide +kernel
theorem dX7_judge_70 : decode cX7_judge 70 = .ok (.invokevirtual 194, 3) := by decide +kernel
theorem dX7_judge_73 : decode cX7_judge 73 = .ok (.ifCond .ne 6, 3) := by decide +kernel
theorem dX7_judge_76 : decode cX7_judge 76 = .ok (.iload 4, 2) := by decide +kernel
theorem dX7_judge_78 : decode cX7_judge 78 = .ok (.ireturn, 1) := by decide +kernel
theorem dX7_judge_79 : decode cX7_judge 79 = .ok (.iinc 4 1, 3) := by decide +kernel
theorem dX7_judge_82 : decode cX7_judge 82 = .ok (.goto (-38), 3) := by decide +kernel
theorem dX7_judge_85 : decode cX7_judge 85 = .ok (.bipush (-9), 2) := by decide +kernel
theorem dX7_judge_87 : decode cX7_judge 87 = .ok (.ireturn, 1) := by decide +kernel
theorem dX7_ways_0 : decode cX7_ways 0 = .ok (.iconst 1, 1) := by decide +kernel
theorem dX7_ways_1 : decode cX7_ways 1 = .ok (.istore_n 1, 1) := by decide +kernel
theorem dX7_ways_2 : decode cX7_ways 2 = .ok (.iconst 2, 1) := by decide +kernel
theorem dX7_ways_3 : decode cX7_ways 3 = .ok (.istore_n 2, 1) := by decide +kernel
theorem dX7_ways_4 : decode cX7_ways 4 = .ok (.iload_n 2, 1) := by decide +kernel
theorem dX7_ways_5 : decode cX7_ways 5 = .ok (.iload_n 0, 1) := by decide +kernel
theorem dX7_ways_6 : decode cX7_ways 6 = .ok (.if_icmp .gt 13, 3) := by decide +kernel
theorem dX7_ways_9 : decode cX7_ways 9 = .ok (.iload_n 1, 1) := by decide +kernel
theorem dX7_ways_10 : decode cX7_ways 10 = .ok (.iload_n 2, 1) := by decide +kernel
theorem dX7_ways_11 : decode cX7_ways 11 = .ok (.imul, 1) := by decide +kernel
theorem dX7_ways_12 : decode cX7_ways 12 = .ok (.istore_n 1, 1) := by decide +kernel
theorem dX7_ways_13 : decode cX7_ways 13 = .ok (.iinc 2 1, 3) := by decide +kernel
theorem dX7_ways_16 : decode cX7_ways 16 = .ok (.goto (-12), 3) := by decide +kernel
theorem dX7_ways_19 : decode cX7_ways 19 = .ok (.iload_n 1, 1) := by decide +kernel
theorem dX7_ways_20 : decode cX7_ways 20 = .ok (.ireturn, 1) := by decide +kernel
theorem dX7_divisor_0 : decode cX7_divisor 0 = .ok (.iload_n 0, 1) := by decide +kernel
theorem dX7_divisor_1 : decode cX7_divisor 1 = .ok (.ifCond .ge 8, 3) := by decide +kernel
theorem dX7_divisor_4 : decode cX7_divisor 4 = .ok (.iload_n 0, 1) := by decide +kernel
theorem dX7_divisor_5 : decode cX7_divisor 5 = .ok (.ineg, 1) := by decide +kernel
theorem dX7_divisor_6 : decode cX7_divisor 6 = .ok (.goto 4, 3) := by decide +kernel
theorem dX7_divisor_9 : decode cX7_divisor 9 = .ok (.iload_n 0, 1) := by decide +kernel
theorem dX7_divisor_10 : decode cX7_divisor 10 = .ok (.istore_n 2, 1) := by decide +kernel
theorem dX7_divisor_11 : decode cX7_divisor 11 = .ok (.iload_n 1, 1) := by decide +kernel
theorem dX7_divisor_12 : decode cX7_divisor 12 = .ok (.istore_n 3, 1) := by decide +kernel
theorem dX7_divisor_13 : decode cX7_divisor 13 = .ok (.iload_n 3, 1) := by decide +kernel
theorem dX7_divisor_14 : decode cX7_divisor 14 = .ok (.ifCond .eq 16, 3) := by decide +kernel
theorem dX7_divisor_17 : decode cX7_divisor 17 = .ok (.iload_n 2, 1) := by decide +kernel
theorem dX7_divisor_18 : decode cX7_divisor 18 = .ok (.iload_n 3, 1) := by decide +kernel
theorem dX7_divisor_19 : decode cX7_divisor 19 = .ok (.irem, 1) := by decide +kernel
theorem dX7_divisor_20 : decode cX7_divisor 20 = .ok (.istore 4, 2) := by decide +kernel
theorem dX7_divisor_22 : decode cX7_divisor 22 = .ok (.iload_n 3, 1) := by decide +kernel
theorem dX7_divisor_23 : decode cX7_divisor 23 = .ok (.istore_n 2, 1) := by decide +kernel
theorem dX7_divisor_24 : decode cX7_divisor 24 = .ok (.iload 4, 2) := by decide +kernel
theorem dX7_divisor_26 : decode cX7_divisor 26 = .ok (.istore_n 3, 1) := by decide +kernel
theorem dX7_divisor_27 : decode cX7_divisor 27 = .ok (.goto (-14), 3) := by decide +kernel
theorem dX7_divisor_30 : decode cX7_divisor 30 = .ok (.iload_n 2, 1) := by decide +kernel
theorem dX7_divisor_31 : decode cX7_divisor 31 = .ok (.ireturn, 1) := by decide +kernel
theorem dX7_fraction_0 : decode cX7_fraction 0 = .ok (.iload_n 0, 1) := by decide +kernel
theorem dX7_fraction_1 : decode cX7_fraction 1 = .ok (.iload_n 1, 1) := by decide +kernel
theorem dX7_fraction_2 : decode cX7_fraction 2 = .ok (.invokestatic 197, 3) := by decide +kernel
theorem dX7_fraction_5 : decode cX7_fraction 5 = .ok (.istore_n 3, 1) := by decide +kernel
theorem dX7_fraction_6 : decode cX7_fraction 6 = .ok (.iload_n 2, 1) := by decide +kernel
theorem dX7_fraction_7 : decode cX7_fraction 7 = .ok (.ifCond .eq 9, 3) := by decide +kernel
theorem dX7_fraction_10 : decode cX7_fraction 10 = .ok (.iload_n 0, 1) := by decide +kernel
theorem dX7_fraction_11 : decode cX7_fraction 11 = .ok (.iload_n 3, 1) := by decide +kernel
theorem dX7_fraction_12 : decode cX7_fraction 12 = .ok (.idiv, 1) := by decide +kernel
theorem dX7_fraction_13 : decode cX7_fraction 13 = .ok (.goto 6, 3) := by decide +kernel
theorem dX7_fraction_16 : decode cX7_fraction 16 = .ok (.iload_n 1, 1) := by decide +kernel
theorem dX7_fraction_17 : decode cX7_fraction 17 = .ok (.iload_n 3, 1) := by decide +kernel
theorem dX7_fraction_18 : decode cX7_fraction 18 = .ok (.idiv, 1) := by decide +kernel
theorem dX7_fraction_19 : decode cX7_fraction 19 = .ok (.ireturn, 1) := by decide +kernel
theorem dX7_share_0 : decode cX7_share 0 = .ok (.aload_n 0, 1) := by decide +kernel
theorem dX7_share_1 : decode cX7_share 1 = .ok (.iconst 0, 1) := by decide +kernel
theorem dX7_share_2 : decode cX7_share 2 = .ok (.putfield 56, 3) := by decide +kernel
theorem dX7_share_5 : decode cX7_share 5 = .ok (.aload_n 0, 1) := by decide +kernel
theorem dX7_share_6 : decode cX7_share 6 = .ok (.iload_n 1, 1) := by decide +kernel
theorem dX7_share_7 : decode cX7_share 7 = .ok (.invokevirtual 138, 3) := by decide +kernel
theorem dX7_share_10 : decode cX7_share 10 = .ok (.ifCond .eq 5, 3) := by decide +kernel
theorem dX7_share_13 : decode cX7_share 13 = .ok (.iconst (-1), 1) := by decide +kernel
theorem dX7_share_14 : decode cX7_share 14 = .ok (.ireturn, 1) := by decide +kernel
theorem dX7_share_15 : decode cX7_share 15 = .ok (.iconst 0, 1) := by decide +kernel
theorem dX7_share_16 : decode cX7_share 16 = .ok (.istore_n 3, 1) := by decide +kernel
theorem dX7_share_17 : decode cX7_share 17 = .ok (.iload_n 3, 1) := by decide +kernel
theorem dX7_share_18 : decode cX7_share 18 = .ok (.iconst 1, 1) := by decide +kernel
theorem dX7_share_19 : decode cX7_share 19 = .ok (.aload_n 0, 1) := by decide +kernel
theorem dX7_share_20 : decode cX7_share 20 = .ok (.getfield 60, 3) := by decide +kernel
theorem dX7_share_23 : decode cX7_share 23 = .ok (.ishl, 1) := by decide +kernel
theorem dX7_share_24 : decode cX7_share 24 = .ok (.if_icmp .ge 47, 3) := by decide +kernel
theorem dX7_share_27 : decode cX7_share 27 = .ok (.aload_n 0, 1) := by decide +kernel
theorem dX7_share_28 : decode cX7_share 28 = .ok (.invokevirtual 163, 3) := by decide +kernel
theorem dX7_share_31 : decode cX7_share 31 = .ok (.aload_n 0, 1) := by decide +kernel
theorem dX7_share_32 : decode cX7_share 32 = .ok (.getfield 28, 3) := by decide +kernel
theorem dX7_share_35 : decode cX7_share 35 = .ok (.iconst 5, 1) := by decide +kernel
theorem dX7_share_36 : decode cX7_share 36 = .ok (.dup2, 1) := by decide +kernel
theorem dX7_share_37 : decode cX7_share 37 = .ok (.iaload, 1) := by decide +kernel
theorem dX7_share_38 : decode cX7_share 38 = .ok (.iload_n 3, 1) := by decide +kernel
theorem dX7_share_39 : decode cX7_share 39 = .ok (.iand, 1) := by decide +kernel
theorem dX7_share_40 : decode cX7_share 40 = .ok (.iastore, 1) := by decide +kernel
theorem dX7_share_41 : decode cX7_share 41 = .ok (.aload_n 0, 1) := by decide +kernel
theorem dX7_share_42 : decode cX7_share 42 = .ok (.iload_n 3, 1) := by decide +kernel
theorem dX7_share_43 : decode cX7_share 43 = .ok (.aload_n 0, 1) := by decide +kernel
theorem dX7_share_44 : decode cX7_share 44 = .ok (.getfield 25, 3) := by decide +kernel
theorem dX7_share_47 : decode cX7_share 47 = .ok (.iconst 5, 1) := by decide +kernel
theorem dX7_share_48 : decode cX7_share 48 = .ok (.iaload, 1) := by decide +kernel
theorem dX7_share_49 : decode cX7_share 49 = .ok (.iconst (-1), 1) := by decide +kernel
theorem dX7_share_50 : decode cX7_share 50 = .ok (.ixor, 1) := by decide +kernel
theorem dX7_share_51 : decode cX7_share 51 = .ok (.iand, 1) := by decide +kernel
theorem dX7_share_52 : decode cX7_share 52 = .ok (.invokevirtual 180, 3) := by decide +kernel
theorem dX7_share_55 : decode cX7_share 55 = .ok (.aload_n 0, 1) := by decide +kernel
theorem dX7_share_56 : decode cX7_share 56 = .ok (.getfield 53, 3) := by decide +kernel
theorem dX7_share_59 : decode cX7_share 59 = .ok (.iload_n 3, 1) := by decide +kernel
theorem dX7_share_60 : decode cX7_share 60 = .ok (.aload_n 0, 1) := by decide +kernel
theorem dX7_share_61 : decode cX7_share 61 = .ok (.invokevirtual 183, 3) := by decide +kernel
theorem dX7_share_64 : decode cX7_share 64 = .ok (.iastore, 1) := by decide +kernel
theorem dX7_share_65 : decode cX7_share 65 = .ok (.iinc 3 1, 3) := by decide +kernel
theorem dX7_share_68 : decode cX7_share 68 = .ok (.goto (-51), 3) := by decide +kernel
theorem dX7_share_71 : decode cX7_share 71 = .ok (.iconst 0, 1) := by decide +kernel
theorem dX7_share_72 : decode cX7_share 72 = .ok (.istore_n 3, 1) := by decide +kernel
theorem dX7_share_73 : decode cX7_share 73 = .ok (.iconst 0, 1) := by decide +kernel
theorem dX7_share_74 : decode cX7_share 74 = .ok (.istore 4, 2) := by decide +kernel
theorem dX7_share_76 : decode cX7_share 76 = .ok (.iload 4, 2) := by decide +kernel
theorem dX7_share_78 : decode cX7_share 78 = .ok (.iconst 1, 1) := by decide +kernel
theorem dX7_share_79 : decode cX7_share 79 = .ok (.aload_n 0, 1) := by decide +kernel
theorem dX7_share_80 : decode cX7_share 80 = .ok (.getfield 60, 3) := by decide +kernel
theorem dX7_share_83 : decode cX7_share 83 = .ok (.ishl, 1) := by decide +kernel
theorem dX7_share_84 : decode cX7_share 84 = .ok (.if_icmp .ge 66, 3) := by decide +kernel
theorem dX7_share_87 : decode cX7_share 87 = .ok (.iload 4, 2) := by decide +kernel
theorem dX7_share_89 : decode cX7_share 89 = .ok (.iload_n 1, 1) := by decide +kernel
theorem dX7_share_90 : decode cX7_share 90 = .ok (.invokestatic 107, 3) := by decide +kernel
theorem dX7_share_93 : decode cX7_share 93 = .ok (.ifCond .ne 51, 3) := by decide +kernel
theorem dX7_share_96 : decode cX7_share 96 = .ok (.iload 4, 2) := by decide +kernel
theorem dX7_share_98 : decode cX7_share 98 = .ok (.invokestatic 170, 3) := by decide +kernel
theorem dX7_share_101 : decode cX7_share 101 = .ok (.istore 5, 2) := by decide +kernel
theorem dX7_share_103 : decode cX7_share 103 = .ok (.iload_n 3, 1) := by decide +kernel
theorem dX7_share_104 : decode cX7_share 104 = .ok (.iload 5, 2) := by decide +kernel
theorem dX7_share_106 : decode cX7_share 106 = .ok (.invokestatic 200, 3) := by decide +kernel
theorem dX7_share_109 : decode cX7_share 109 = .ok (.aload_n 0, 1) := by decide +kernel
theorem dX7_share_110 : decode cX7_share 110 = .ok (.getfield 60, 3) := by decide +kernel
theorem dX7_share_113 : decode cX7_share 113 = .ok (.iconst 1, 1) := by decide +kernel
theorem dX7_share_114 : decode cX7_share 114 = .ok (.isub, 1) := by decide +kernel
theorem dX7_share_115 : decode cX7_share 115 = .ok (.iload 5, 2) := by decide +kernel
theorem dX7_share_117 : decode cX7_share 117 = .ok (.isub, 1) := by decide +kernel
theorem dX7_share_118 : decode cX7_share 118 = .ok (.invokestatic 200, 3) := by decide +kernel
theorem dX7_share_121 : decode cX7_share 121 = .ok (.imul, 1) := by decide +kernel
theorem dX7_share_122 : decode cX7_share 122 = .ok (.aload_n 0, 1) := by decide +kernel
theorem dX7_share_123 : decode cX7_share 123 = .ok (.getfield 53, 3) := by decide +kernel
theorem dX7_share_126 : decode cX7_share 126 = .ok (.iload 4, 2) := by decide +kernel
theorem dX7_share_128 : decode cX7_share 128 = .ok (.iconst 1, 1) := by decide +kernel
theorem dX7_share_129 : decode cX7_share 129 = .ok (.iload_n 1, 1) := by decide +kernel
theorem dX7_share_130 : decode cX7_share 130 = .ok (.ishl, 1) := by decide +kernel
theorem dX7_share_131 : decode cX7_share 131 = .ok (.ior, 1) := by decide +kernel
theorem dX7_share_132 : decode cX7_share 132 = .ok (.iaload, 1) := by decide +kernel
theorem dX7_share_133 : decode cX7_share 133 = .ok (.aload_n 0, 1) := by decide +kernel
theorem dX7_share_134 : decode cX7_share 134 = .ok (.getfield 53, 3) := by decide +kernel
theorem dX7_share_137 : decode cX7_share 137 = .ok (.iload 4, 2) := by decide +kernel
theorem dX7_share_139 : decode cX7_share 139 = .ok (.iaload, 1) := by decide +kernel
theorem dX7_share_140 : decode cX7_share 140 = .ok (.isub, 1) := by decide +kernel
theorem dX7_share_141 : decode cX7_share 141 = .ok (.imul, 1) := by decide +kernel
theorem dX7_share_142 : decode cX7_share 142 = .ok (.iadd, 1) := by decide +kernel
theorem dX7_share_143 : decode cX7_share 143 = .ok (.istore_n 3, 1) := by decide +kernel
theorem dX7_share_144 : decode cX7_share 144 = .ok (.iinc 4 1, 3) := by decide +kernel
theorem dX7_share_147 : decode cX7_share 147 = .ok (.goto (-71), 3) := by decide +kernel
theorem dX7_share_150 : decode cX7_share 150 = .ok (.iload_n 3, 1) := by decide +kernel
theorem dX7_share_151 : decode cX7_share 151 = .ok (.aload_n 0, 1) := by decide +kernel
theorem dX7_share_152 : decode cX7_share 152 = .ok (.getfield 60, 3) := by decide +kernel
theorem dX7_share_155 : decode cX7_share 155 = .ok (.invokestatic 200, 3) := by decide +kernel
theorem dX7_share_158 : decode cX7_share 158 = .ok (.iload_n 2, 1) := by decide +kernel
theorem dX7_share_159 : decode cX7_share 159 = .ok (.invokestatic 203, 3) := by decide +kernel
theorem dX7_share_162 : decode cX7_share 162 = .ok (.ireturn, 1) := by decide +kernel
theorem dX7_feel_0 : decode cX7_feel 0 = .ok (.aload_n 0, 1) := by decide +kernel
theorem dX7_feel_1 : decode cX7_feel 1 = .ok (.iconst 0, 1) := by decide +kernel
theorem dX7_feel_2 : decode cX7_feel 2 = .ok (.putfield 56, 3) := by decide +kernel
theorem dX7_feel_5 : decode cX7_feel 5 = .ok (.iload_n 1, 1) := by decide +kernel
theorem dX7_feel_6 : decode cX7_feel 6 = .ok (.invokestatic 144, 3) := by decide +kernel
theorem dX7_feel_9 : decode cX7_feel 9 = .ok (.ifCond .eq 5, 3) := by decide +kernel
theorem dX7_feel_12 : decode cX7_feel 12 = .ok (.iconst (-1), 1) := by decide +kernel
theorem dX7_feel_13 : decode cX7_feel 13 = .ok (.ireturn, 1) := by decide +kernel
theorem dX7_feel_14 : decode cX7_feel 14 = .ok (.iload_n 2, 1) := by decide +kernel
theorem dX7_feel_15 : decode cX7_feel 15 = .ok (.i2l, 1) := by decide +kernel
theorem dX7_feel_16 : decode cX7_feel 16 = .ok (.lconst 0, 1) := by decide +kernel
theorem dX7_feel_17 : decode cX7_feel 17 = .ok (.ldc2_w 207, 3) := by decide +kernel
theorem dX7_feel_20 : decode cX7_feel 20 = .ok (.invokestatic 63, 3) := by decide +kernel
theorem dX7_feel_23 : decode cX7_feel 23 = .ok (.ifCond .eq 13, 3) := by decide +kernel
theorem dX7_feel_26 : decode cX7_feel 26 = .ok (.iload_n 3, 1) := by decide +kernel
theorem dX7_feel_27 : decode cX7_feel 27 = .ok (.i2l, 1) := by decide +kernel
theorem dX7_feel_28 : decode cX7_feel 28 = .ok (.lconst 0, 1) := by decide +kernel
theorem dX7_feel_29 : decode cX7_feel 29 = .ok (.lconst 1, 1) := by decide +kernel
theorem dX7_feel_30 : decode cX7_feel 30 = .ok (.invokestatic 63, 3) := by decide +kernel
theorem dX7_feel_33 : decode cX7_feel 33 = .ok (.ifCond .ne 6, 3) := by decide +kernel
theorem dX7_feel_36 : decode cX7_feel 36 = .ok (.bipush (-2), 2) := by decide +kernel
theorem dX7_feel_38 : decode cX7_feel 38 = .ok (.ireturn, 1) := by decide +kernel
theorem dX7_feel_39 : decode cX7_feel 39 = .ok (.aload_n 0, 1) := by decide +kernel
theorem dX7_feel_40 : decode cX7_feel 40 = .ok (.getfield 135, 3) := by decide +kernel
theorem dX7_feel_43 : decode cX7_feel 43 = .ok (.bipush 6, 2) := by decide +kernel
theorem dX7_feel_45 : decode cX7_feel 45 = .ok (.if_icmp .ne 6, 3) := by decide +kernel
theorem dX7_feel_48 : decode cX7_feel 48 = .ok (.bipush (-4), 2) := by decide +kernel
theorem dX7_feel_50 : decode cX7_feel 50 = .ok (.ireturn, 1) := by decide +kernel
theorem dX7_feel_51 : decode cX7_feel 51 = .ok (.aload_n 0, 1) := by decide +kernel
theorem dX7_feel_52 : decode cX7_feel 52 = .ok (.getfield 41, 3) := by decide +kernel
theorem dX7_feel_55 : decode cX7_feel 55 = .ok (.aload_n 0, 1) := by decide +kernel
theorem dX7_feel_56 : decode cX7_feel 56 = .ok (.getfield 135, 3) := by decide +kernel
theorem dX7_feel_59 : decode cX7_feel 59 = .ok (.iload_n 1, 1) := by decide +kernel
theorem dX7_feel_60 : decode cX7_feel 60 = .ok (.iastore, 1) := by decide +kernel
theorem dX7_feel_61 : decode cX7_feel 61 = .ok (.aload_n 0, 1) := by decide +kernel
theorem dX7_feel_62 : decode cX7_feel 62 = .ok (.getfield 44, 3) := by decide +kernel
theorem dX7_feel_65 : decode cX7_feel 65 = .ok (.aload_n 0, 1) := by decide +kernel
theorem dX7_feel_66 : decode cX7_feel 66 = .ok (.getfield 135, 3) := by decide +kernel
theorem dX7_feel_69 : decode cX7_feel 69 = .ok (.iload_n 2, 1) := by decide +kernel
theorem dX7_feel_70 : decode cX7_feel 70 = .ok (.iastore, 1) := by decide +kernel
theorem dX7_feel_71 : decode cX7_feel 71 = .ok (.aload_n 0, 1) := by decide +kernel
theorem dX7_feel_72 : decode cX7_feel 72 = .ok (.getfield 47, 3) := by decide +kernel
theorem dX7_feel_75 : decode cX7_feel 75 = .ok (.aload_n 0, 1) := by decide +kernel
theorem dX7_feel_76 : decode cX7_feel 76 = .ok (.getfield 135, 3) := by decide +kernel
theorem dX7_feel_79 : decode cX7_feel 79 = .ok (.iload_n 3, 1) := by decide +kernel
theorem dX7_feel_80 : decode cX7_feel 80 = .ok (.iastore, 1) := by decide +kernel
theorem dX7_feel_81 : decode cX7_feel 81 = .ok (.aload_n 0, 1) := by decide +kernel
theorem dX7_feel_82 : decode cX7_feel 82 = .ok (.dup, 1) := by decide +kernel
theorem dX7_feel_83 : decode cX7_feel 83 = .ok (.getfield 135, 3) := by decide +kernel
theorem dX7_feel_86 : decode cX7_feel 86 = .ok (.iconst 1, 1) := by decide +kernel
theorem dX7_feel_87 : decode cX7_feel 87 = .ok (.iadd, 1) := by decide +kernel
theorem dX7_feel_88 : decode cX7_feel 88 = .ok (.putfield 135, 3) := by decide +kernel
theorem dX7_feel_91 : decode cX7_feel 91 = .ok (.aload_n 0, 1) := by decide +kernel
theorem dX7_feel_92 : decode cX7_feel 92 = .ok (.getfield 135, 3) := by decide +kernel
theorem dX7_feel_95 : decode cX7_feel 95 = .ok (.ireturn, 1) := by decide +kernel
theorem dX7_unfeel_0 : decode cX7_unfeel 0 = .ok (.aload_n 0, 1) := by decide +kernel
theorem dX7_unfeel_1 : decode cX7_unfeel 1 = .ok (.iconst 0, 1) := by decide +kernel
theorem dX7_unfeel_2 : decode cX7_unfeel 2 = .ok (.putfield 56, 3) := by decide +kernel
theorem dX7_unfeel_5 : decode cX7_unfeel 5 = .ok (.aload_n 0, 1) := by decide +kernel
theorem dX7_unfeel_6 : decode cX7_unfeel 6 = .ok (.getfield 135, 3) := by decide +kernel
theorem dX7_unfeel_9 : decode cX7_unfeel 9 = .ok (.istore_n 1, 1) := by decide +kernel
theorem dX7_unfeel_10 : decode cX7_unfeel 10 = .ok (.aload_n 0, 1) := by decide +kernel
theorem dX7_unfeel_11 : decode cX7_unfeel 11 = .ok (.iconst 0, 1) := by decide +kernel
theorem dX7_unfeel_12 : decode cX7_unfeel 12 = .ok (.putfield 135, 3) := by decide +kernel
theorem dX7_unfeel_15 : decode cX7_unfeel 15 = .ok (.iload_n 1, 1) := by decide +kernel
theorem dX7_unfeel_16 : decode cX7_unfeel 16 = .ok (.ireturn, 1) := by decide +kernel
theorem dX7_rainsBy_0 : decode cX7_rainsBy 0 = .ok (.iload_n 0, 1) := by decide +kernel
theorem dX7_rainsBy_1 : decode cX7_rainsBy 1 = .ok (.iconst 3, 1) := by decide +kernel
theorem dX7_rainsBy_2 : decode cX7_rainsBy 2 = .ok (.if_icmp .ne 29, 3) := by decide +kernel
theorem dX7_rainsBy_5 : decode cX7_rainsBy 5 = .ok (.iload 4, 2) := by decide +kernel
theorem dX7_rainsBy_7 : decode cX7_rainsBy 7 = .ok (.iload_n 2, 1) := by decide +kernel
theorem dX7_rainsBy_8 : decode cX7_rainsBy 8 = .ok (.if_icmp .ge 21, 3) := by decide +kernel
theorem dX7_rainsBy_11 : decode cX7_rainsBy 11 = .ok (.iload_n 3, 1) := by decide +kernel
theorem dX7_rainsBy_12 : decode cX7_rainsBy 12 = .ok (.iload_n 1, 1) := by decide +kernel
theorem dX7_rainsBy_13 : decode cX7_rainsBy 13 = .ok (.isub, 1) := by decide +kernel
theorem dX7_rainsBy_14 : decode cX7_rainsBy 14 = .ok (.i2l, 1) := by decide +kernel
theorem dX7_rainsBy_15 : decode cX7_rainsBy 15 = .ok (.ldc2_w 209, 3) := by decide +kernel
theorem dX7_rainsBy_18 : decode cX7_rainsBy 18 = .ok (.lconst 1, 1) := by decide +kernel
theorem dX7_rainsBy_19 : decode cX7_rainsBy 19 = .ok (.invokestatic 63, 3) := by decide +kernel
theorem dX7_rainsBy_22 : decode cX7_rainsBy 22 = .ok (.ifCond .eq 7, 3) := by decide +kernel
theorem dX7_rainsBy_25 : decode cX7_rainsBy 25 = .ok (.iconst 1, 1) := by decide +kernel
theorem dX7_rainsBy_26 : decode cX7_rainsBy 26 = .ok (.goto 4, 3) := by decide +kernel
theorem dX7_rainsBy_29 : decode cX7_rainsBy 29 = .ok (.iconst 0, 1) := by decide +kernel
theorem dX7_rainsBy_30 : decode cX7_rainsBy 30 = .ok (.ireturn, 1) := by decide +kernel
theorem dX7_rainsBy_31 : decode cX7_rainsBy 31 = .ok (.iload_n 0, 1) := by decide +kernel
theorem dX7_rainsBy_32 : decode cX7_rainsBy 32 = .ok (.iconst 1, 1) := by decide +kernel
theorem dX7_rainsBy_33 : decode cX7_rainsBy 33 = .ok (.if_icmp .ne 9, 3) := by decide +kernel
theorem dX7_rainsBy_36 : decode cX7_rainsBy 36 = .ok (.iload_n 2, 1) := by decide +kernel
theorem dX7_rainsBy_37 : decode cX7_rainsBy 37 = .ok (.iconst 1, 1) := by decide +kernel
theorem dX7_rainsBy_38 : decode cX7_rainsBy 38 = .ok (.iadd, 1) := by decide +kernel
theorem dX7_rainsBy_39 : decode cX7_rainsBy 39 = .ok (.goto 14, 3) := by decide +kernel
theorem dX7_rainsBy_42 : decode cX7_rainsBy 42 = .ok (.iload_n 0, 1) := by decide +kernel
theorem dX7_rainsBy_43 : decode cX7_rainsBy 43 = .ok (.iconst 2, 1) := by decide +kernel
theorem dX7_rainsBy_44 : decode cX7_rainsBy 44 = .ok (.if_icmp .ne 8, 3) := by decide +kernel
theorem dX7_rainsBy_47 : decode cX7_rainsBy 47 = .ok (.bipush 7, 2) := by decide +kernel
theorem dX7_rainsBy_49 : decode cX7_rainsBy 49 = .ok (.goto 4, 3) := by decide +kernel
