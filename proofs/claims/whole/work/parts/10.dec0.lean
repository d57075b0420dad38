theorem dX0_init_0 : decode cX0_init 0 = .ok (.aload_n 0, 1) := by decide +kernel
theorem dX0_init_1 : decode cX0_init 1 = .ok (.invokespecial 3, 3) := by decide +kernel
theorem dX0_init_4 : decode cX0_init 4 = .ok (.aload_n 0, 1) := by decide +kernel
theorem dX0_init_5 : decode cX0_init 5 = .ok (.bipush 6, 2) := by decide +kernel
theorem dX0_init_7 : decode cX0_init 7 = .ok (.newarray .int, 2) := by decide +kernel
theorem dX0_init_9 : decode cX0_init 9 = .ok (.putfield 9, 3) := by decide +kernel
theorem dX0_init_12 : decode cX0_init 12 = .ok (.aload_n 0, 1) := by decide +kernel
theorem dX0_init_13 : decode cX0_init 13 = .ok (.bipush 6, 2) := by decide +kernel
theorem dX0_init_15 : decode cX0_init 15 = .ok (.newarray .int, 2) := by decide +kernel
theorem dX0_init_17 : decode cX0_init 17 = .ok (.putfield 15, 3) := by decide +kernel
theorem dX0_init_20 : decode cX0_init 20 = .ok (.return_, 1) := by decide +kernel
theorem dX0_size_0 : decode cX0_size 0 = .ok (.aload_n 0, 1) := by decide +kernel
theorem dX0_size_1 : decode cX0_size 1 = .ok (.getfield 18, 3) := by decide +kernel
theorem dX0_size_4 : decode cX0_size 4 = .ok (.ireturn, 1) := by decide +kernel
theorem dX0_clear_0 : decode cX0_clear 0 = .ok (.aload_n 0, 1) := by decide +kernel
theorem dX0_clear_1 : decode cX0_clear 1 = .ok (.iconst 0, 1) := by decide +kernel
theorem dX0_clear_2 : decode cX0_clear 2 = .ok (.putfield 18, 3) := by decide +kernel
theorem dX0_clear_5 : decode cX0_clear 5 = .ok (.aload_n 0, 1) := by decide +kernel
theorem dX0_clear_6 : decode cX0_clear 6 = .ok (.iconst 0, 1) := by decide +kernel
theorem dX0_clear_7 : decode cX0_clear 7 = .ok (.putfield 22, 3) := by decide +kernel
theorem dX0_clear_10 : decode cX0_clear 10 = .ok (.return_, 1) := by decide +kernel
theorem dX0_add_0 : decode cX0_add 0 = .ok (.aload_n 0, 1) := by decide +kernel
theorem dX0_add_1 : decode cX0_add 1 = .ok (.getfield 18, 3) := by decide +kernel
theorem dX0_add_4 : decode cX0_add 4 = .ok (.bipush 6, 2) := by decide +kernel
theorem dX0_add_6 : decode cX0_add 6 = .ok (.if_icmp .lt 5, 3) := by decide +kernel
theorem dX0_add_9 : decode cX0_add 9 = .ok (.iconst 0, 1) := by decide +kernel
theorem dX0_add_10 : decode cX0_add 10 = .ok (.ireturn, 1) := by decide +kernel
theorem dX0_add_11 : decode cX0_add 11 = .ok (.aload_n 0, 1) := by decide +kernel
theorem dX0_add_12 : decode cX0_add 12 = .ok (.getfield 9, 3) := by decide +kernel
theorem dX0_add_15 : decode cX0_add 15 = .ok (.aload_n 0, 1) := by decide +kernel
theorem dX0_add_16 : decode cX0_add 16 = .ok (.getfield 18, 3) := by decide +kernel
theorem dX0_add_19 : decode cX0_add 19 = .ok (.iload_n 1, 1) := by decide +kernel
theorem dX0_add_20 : decode cX0_add 20 = .ok (.invokestatic 25, 3) := by decide +kernel
theorem dX0_add_23 : decode cX0_add 23 = .ok (.aload_n 0, 1) := by decide +kernel
theorem dX0_add_24 : decode cX0_add 24 = .ok (.getfield 15, 3) := by decide +kernel
theorem dX0_add_27 : decode cX0_add 27 = .ok (.aload_n 0, 1) := by decide +kernel
theorem dX0_add_28 : decode cX0_add 28 = .ok (.getfield 18, 3) := by decide +kernel
theorem dX0_add_31 : decode cX0_add 31 = .ok (.iload_n 2, 1) := by decide +kernel
theorem dX0_add_32 : decode cX0_add 32 = .ok (.invokestatic 25, 3) := by decide +kernel
theorem dX0_add_35 : decode cX0_add 35 = .ok (.aload_n 0, 1) := by decide +kernel
theorem dX0_add_36 : decode cX0_add 36 = .ok (.dup, 1) := by decide +kernel
theorem dX0_add_37 : decode cX0_add 37 = .ok (.getfield 22, 3) := by decide +kernel
theorem dX0_add_40 : decode cX0_add 40 = .ok (.iload_n 3, 1) := by decide +kernel
theorem dX0_add_41 : decode cX0_add 41 = .ok (.ifCond .eq 12, 3) := by decide +kernel
theorem dX0_add_44 : decode cX0_add 44 = .ok (.iconst 1, 1) := by decide +kernel
theorem dX0_add_45 : decode cX0_add 45 = .ok (.aload_n 0, 1) := by decide +kernel
theorem dX0_add_46 : decode cX0_add 46 = .ok (.getfield 18, 3) := by decide +kernel
theorem dX0_add_49 : decode cX0_add 49 = .ok (.ishl, 1) := by decide +kernel
theorem dX0_add_50 : decode cX0_add 50 = .ok (.goto 4, 3) := by decide +kernel
theorem dX0_add_53 : decode cX0_add 53 = .ok (.iconst 0, 1) := by decide +kernel
theorem dX0_add_54 : decode cX0_add 54 = .ok (.ior, 1) := by decide +kernel
theorem dX0_add_55 : decode cX0_add 55 = .ok (.putfield 22, 3) := by decide +kernel
theorem dX0_add_58 : decode cX0_add 58 = .ok (.aload_n 0, 1) := by decide +kernel
theorem dX0_add_59 : decode cX0_add 59 = .ok (.dup, 1) := by decide +kernel
theorem dX0_add_60 : decode cX0_add 60 = .ok (.getfield 18, 3) := by decide +kernel
theorem dX0_add_63 : decode cX0_add 63 = .ok (.iconst 1, 1) := by decide +kernel
theorem dX0_add_64 : decode cX0_add 64 = .ok (.iadd, 1) := by decide +kernel
theorem dX0_add_65 : decode cX0_add 65 = .ok (.putfield 18, 3) := by decide +kernel
theorem dX0_add_68 : decode cX0_add 68 = .ok (.iconst 1, 1) := by decide +kernel
theorem dX0_add_69 : decode cX0_add 69 = .ok (.ireturn, 1) := by decide +kernel
theorem dX0_isSo_0 : decode cX0_isSo 0 = .ok (.iconst 0, 1) := by decide +kernel
theorem dX0_isSo_1 : decode cX0_isSo 1 = .ok (.istore 4, 2) := by decide +kernel
theorem dX0_isSo_3 : decode cX0_isSo 3 = .ok (.iload 4, 2) := by decide +kernel
theorem dX0_isSo_5 : decode cX0_isSo 5 = .ok (.aload_n 0, 1) := by decide +kernel
theorem dX0_isSo_6 : decode cX0_isSo 6 = .ok (.getfield 18, 3) := by decide +kernel
theorem dX0_isSo_9 : decode cX0_isSo 9 = .ok (.if_icmp .ge 47, 3) := by decide +kernel
theorem dX0_isSo_12 : decode cX0_isSo 12 = .ok (.iload_n 1, 1) := by decide +kernel
theorem dX0_isSo_13 : decode cX0_isSo 13 = .ok (.iload_n 2, 1) := by decide +kernel
theorem dX0_isSo_14 : decode cX0_isSo 14 = .ok (.iload_n 3, 1) := by decide +kernel
theorem dX0_isSo_15 : decode cX0_isSo 15 = .ok (.aload_n 0, 1) := by decide +kernel
theorem dX0_isSo_16 : decode cX0_isSo 16 = .ok (.getfield 9, 3) := by decide +kernel
theorem dX0_isSo_19 : decode cX0_isSo 19 = .ok (.iload 4, 2) := by decide +kernel
theorem dX0_isSo_21 : decode cX0_isSo 21 = .ok (.invokestatic 29, 3) := by decide +kernel
theorem dX0_isSo_24 : decode cX0_isSo 24 = .ok (.aload_n 0, 1) := by decide +kernel
theorem dX0_isSo_25 : decode cX0_isSo 25 = .ok (.getfield 15, 3) := by decide +kernel
theorem dX0_isSo_28 : decode cX0_isSo 28 = .ok (.iload 4, 2) := by decide +kernel
theorem dX0_isSo_30 : decode cX0_isSo 30 = .ok (.invokestatic 29, 3) := by decide +kernel
theorem dX0_isSo_33 : decode cX0_isSo 33 = .ok (.invokestatic 33, 3) := by decide +kernel
theorem dX0_isSo_36 : decode cX0_isSo 36 = .ok (.aload_n 0, 1) := by decide +kernel
theorem dX0_isSo_37 : decode cX0_isSo 37 = .ok (.getfield 22, 3) := by decide +kernel
theorem dX0_isSo_40 : decode cX0_isSo 40 = .ok (.iload 4, 2) := by decide +kernel
theorem dX0_isSo_42 : decode cX0_isSo 42 = .ok (.invokestatic 37, 3) := by decide +kernel
theorem dX0_isSo_45 : decode cX0_isSo 45 = .ok (.if_icmp .eq 5, 3) := by decide +kernel
theorem dX0_isSo_48 : decode cX0_isSo 48 = .ok (.iconst 0, 1) := by decide +kernel
theorem dX0_isSo_49 : decode cX0_isSo 49 = .ok (.ireturn, 1) := by decide +kernel
theorem dX0_isSo_50 : decode cX0_isSo 50 = .ok (.iinc 4 1, 3) := by decide +kernel
theorem dX0_isSo_53 : decode cX0_isSo 53 = .ok (.goto (-50), 3) := by decide +kernel
theorem dX0_isSo_56 : decode cX0_isSo 56 = .ok (.iconst 1, 1) := by decide +kernel
theorem dX0_isSo_57 : decode cX0_isSo 57 = .ok (.ireturn, 1) := by decide +kernel
theorem dX0_isWetAt_0 : decode cX0_isWetAt 0 = .ok (.iload_n 0, 1) := by decide +kernel
theorem dX0_isWetAt_1 : decode cX0_isWetAt 1 = .ok (.iconst 3, 1) := by decide +kernel
theorem dX0_isWetAt_2 : decode cX0_isWetAt 2 = .ok (.if_icmp .ne 7, 3) := by decide +kernel
theorem dX0_isWetAt_5 : decode cX0_isWetAt 5 = .ok (.iconst 1, 1) := by decide +kernel
theorem dX0_isWetAt_6 : decode cX0_isWetAt 6 = .ok (.goto 4, 3) := by decide +kernel
theorem dX0_isWetAt_9 : decode cX0_isWetAt 9 = .ok (.iconst 0, 1) := by decide +kernel
theorem dX0_isWetAt_10 : decode cX0_isWetAt 10 = .ok (.istore 5, 2) := by decide +kernel
theorem dX0_isWetAt_12 : decode cX0_isWetAt 12 = .ok (.iload_n 2, 1) := by decide +kernel
theorem dX0_isWetAt_13 : decode cX0_isWetAt 13 = .ok (.istore 6, 2) := by decide +kernel
theorem dX0_isWetAt_15 : decode cX0_isWetAt 15 = .ok (.iload_n 0, 1) := by decide +kernel
theorem dX0_isWetAt_16 : decode cX0_isWetAt 16 = .ok (.iconst 1, 1) := by decide +kernel
theorem dX0_isWetAt_17 : decode cX0_isWetAt 17 = .ok (.if_icmp .ne 11, 3) := by decide +kernel
theorem dX0_isWetAt_20 : decode cX0_isWetAt 20 = .ok (.iload_n 2, 1) := by decide +kernel
theorem dX0_isWetAt_21 : decode cX0_isWetAt 21 = .ok (.iconst 1, 1) := by decide +kernel
theorem dX0_isWetAt_22 : decode cX0_isWetAt 22 = .ok (.iadd, 1) := by decide +kernel
theorem dX0_isWetAt_23 : decode cX0_isWetAt 23 = .ok (.istore 6, 2) := by decide +kernel
theorem dX0_isWetAt_25 : decode cX0_isWetAt 25 = .ok (.goto 16, 3) := by decide +kernel
theorem dX0_isWetAt_28 : decode cX0_isWetAt 28 = .ok (.iload_n 0, 1) := by decide +kernel
theorem dX0_isWetAt_29 : decode cX0_isWetAt 29 = .ok (.iconst 2, 1) := by decide +kernel
theorem dX0_isWetAt_30 : decode cX0_isWetAt 30 = .ok (.if_icmp .ne 11, 3) := by decide +kernel
theorem dX0_isWetAt_33 : decode cX0_isWetAt 33 = .ok (.iload_n 2, 1) := by decide +kernel
theorem dX0_isWetAt_34 : decode cX0_isWetAt 34 = .ok (.bipush 7, 2) := by decide +kernel
theorem dX0_isWetAt_36 : decode cX0_isWetAt 36 = .ok (.invokestatic 41, 3) := by decide +kernel
theorem dX0_isWetAt_39 : decode cX0_isWetAt 39 = .ok (.istore 6, 2) := by decide +kernel
theorem dX0_isWetAt_41 : decode cX0_isWetAt 41 = .ok (.iload_n 3, 1) := by decide +kernel
theorem dX0_isWetAt_42 : decode cX0_isWetAt 42 = .ok (.iload_n 1, 1) := by decide +kernel
theorem dX0_isWetAt_43 : decode cX0_isWetAt 43 = .ok (.isub, 1) := by decide +kernel
theorem dX0_isWetAt_44 : decode cX0_isWetAt 44 = .ok (.invokestatic 47, 3) := by decide +kernel
theorem dX0_isWetAt_47 : decode cX0_isWetAt 47 = .ok (.iload 5, 2) := by decide +kernel
theorem dX0_isWetAt_49 : decode cX0_isWetAt 49 = .ok (.if_icmp .gt 14, 3) := by decide +kernel
theorem dX0_isWetAt_52 : decode cX0_isWetAt 52 = .ok (.iload 4, 2) := by decide +kernel
theorem dX0_isWetAt_54 : decode cX0_isWetAt 54 = .ok (.iload 6, 2) := by decide +kernel
theorem dX0_isWetAt_56 : decode cX0_isWetAt 56 = .ok (.if_icmp .ge 7, 3) := by decide +kernel
theorem dX0_isWetAt_59 : decode cX0_isWetAt 59 = .ok (.iconst 1, 1) := by decide +kernel
theorem dX0_isWetAt_60 : decode cX0_isWetAt 60 = .ok (.goto 4, 3) := by decide +kernel
theorem dX0_isWetAt_63 : decode cX0_isWetAt 63 = .ok (.iconst 0, 1) := by decide +kernel
theorem dX0_isWetAt_64 : decode cX0_isWetAt 64 = .ok (.ireturn, 1) := by decide +kernel
theorem dX1_init_0 : decode cX1_init 0 = .ok (.aload_n 0, 1) := by decide +kernel
theorem dX1_init_1 : decode cX1_init 1 = .ok (.invokespecial 3, 3) := by decide +kernel
theorem dX1_init_4 : decode cX1_init 4 = .ok (.aload_n 0, 1) := by decide +kernel
theorem dX1_init_5 : decode cX1_init 5 = .ok (.aload_n 1, 1) := by decide +kernel
theorem dX1_init_6 : decode cX1_init 6 = .ok (.bipush 14, 2) := by decide +kernel
theorem dX1_init_8 : decode cX1_init 8 = .ok (.invokestatic 9, 3) := by decide +kernel
theorem dX1_init_11 : decode cX1_init 11 = .ok (.putfield 13, 3) := by decide +kernel
theorem dX1_init_14 : decode cX1_init 14 = .ok (.return_, 1) := by decide +kernel
theorem dX1_size_0 : decode cX1_size 0 = .ok (.aload_n 0, 1) := by decide +kernel
theorem dX1_size_1 : decode cX1_size 1 = .ok (.getfield 19, 3) := by decide +kernel
theorem dX1_size_4 : decode cX1_size 4 = .ok (.ireturn, 1) := by decide +kernel
theorem dX1_clear_0 : decode cX1_clear 0 = .ok (.aload_n 0, 1) := by decide +kernel
theorem dX1_clear_1 : decode cX1_clear 1 = .ok (.iconst 0, 1) := by decide +kernel
theorem dX1_clear_2 : decode cX1_clear 2 = .ok (.putfield 19, 3) := by decide +kernel
theorem dX1_clear_5 : decode cX1_clear 5 = .ok (.return_, 1) := by decide +kernel
theorem dX1_add_0 : decode cX1_add 0 = .ok (.aload_n 0, 1) := by decide +kernel
theorem dX1_add_1 : decode cX1_add 1 = .ok (.getfield 19, 3) := by decide +kernel
theorem dX1_add_4 : decode cX1_add 4 = .ok (.bipush 14, 2) := by decide +kernel
theorem dX1_add_6 : decode cX1_add 6 = .ok (.if_icmp .ne 26, 3) := by decide +kernel
theorem dX1_add_9 : decode cX1_add 9 = .ok (.aload_n 0, 1) := by decide +kernel
theorem dX1_add_10 : decode cX1_add 10 = .ok (.aload_n 0, 1) := by decide +kernel
theorem dX1_add_11 : decode cX1_add 11 = .ok (.getfield 23, 3) := by decide +kernel
theorem dX1_add_14 : decode cX1_add 14 = .ok (.iconst 1, 1) := by decide +kernel
theorem dX1_add_15 : decode cX1_add 15 = .ok (.iadd, 1) := by decide +kernel
theorem dX1_add_16 : decode cX1_add 16 = .ok (.bipush 14, 2) := by decide +kernel
theorem dX1_add_18 : decode cX1_add 18 = .ok (.irem, 1) := by decide +kernel
theorem dX1_add_19 : decode cX1_add 19 = .ok (.putfield 23, 3) := by decide +kernel
theorem dX1_add_22 : decode cX1_add 22 = .ok (.aload_n 0, 1) := by decide +kernel
theorem dX1_add_23 : decode cX1_add 23 = .ok (.dup, 1) := by decide +kernel
theorem dX1_add_24 : decode cX1_add 24 = .ok (.getfield 19, 3) := by decide +kernel
theorem dX1_add_27 : decode cX1_add 27 = .ok (.iconst 1, 1) := by decide +kernel
theorem dX1_add_28 : decode cX1_add 28 = .ok (.isub, 1) := by decide +kernel
theorem dX1_add_29 : decode cX1_add 29 = .ok (.putfield 19, 3) := by decide +kernel
theorem dX1_add_32 : decode cX1_add 32 = .ok (.aload_n 0, 1) := by decide +kernel
theorem dX1_add_33 : decode cX1_add 33 = .ok (.getfield 13, 3) := by decide +kernel
theorem dX1_add_36 : decode cX1_add 36 = .ok (.aload_n 0, 1) := by decide +kernel
theorem dX1_add_37 : decode cX1_add 37 = .ok (.getfield 23, 3) := by decide +kernel
theorem dX1_add_40 : decode cX1_add 40 = .ok (.aload_n 0, 1) := by decide +kernel
theorem dX1_add_41 : decode cX1_add 41 = .ok (.getfield 19, 3) := by decide +kernel
theorem dX1_add_44 : decode cX1_add 44 = .ok (.iadd, 1) := by decide +kernel
theorem dX1_add_45 : decode cX1_add 45 = .ok (.bipush 14, 2) := by decide +kernel
theorem dX1_add_47 : decode cX1_add 47 = .ok (.irem, 1) := by decide +kernel
theorem dX1_add_48 : decode cX1_add 48 = .ok (.invokestatic 26, 3) := by decide +kernel
theorem dX1_add_51 : decode cX1_add 51 = .ok (.astore_n 2, 1) := by decide +kernel
theorem dX1_add_52 : decode cX1_add 52 = .ok (.aload_n 2, 1) := by decide +kernel
theorem dX1_add_53 : decode cX1_add 53 = .ok (.ifnull 8, 3) := by decide +kernel
theorem dX1_add_56 : decode cX1_add 56 = .ok (.aload_n 2, 1) := by decide +kernel
theorem dX1_add_57 : decode cX1_add 57 = .ok (.aload_n 1, 1) := by decide +kernel
theorem dX1_add_58 : decode cX1_add 58 = .ok (.invokevirtual 30, 3) := by decide +kernel
theorem dX1_add_61 : decode cX1_add 61 = .ok (.aload_n 0, 1) := by decide +kernel
theorem dX1_add_62 : decode cX1_add 62 = .ok (.dup, 1) := by decide +kernel
theorem dX1_add_63 : decode cX1_add 63 = .ok (.getfield 19, 3) := by decide +kernel
theorem dX1_add_66 : decode cX1_add 66 = .ok (.iconst 1, 1) := by decide +kernel
theorem dX1_add_67 : decode cX1_add 67 = .ok (.iadd, 1) := by decide +kernel
theorem dX1_add_68 : decode cX1_add 68 = .ok (.putfield 19, 3) := by decide +kernel
theorem dX1_add_71 : decode cX1_add 71 = .ok (.return_, 1) := by decide +kernel
theorem dX1_takeLast_0 : decode cX1_takeLast 0 = .ok (.aload_n 0, 1) := by decide +kernel
theorem dX1_takeLast_1 : decode cX1_takeLast 1 = .ok (.getfield 19, 3) := by decide +kernel
theorem dX1_takeLast_4 : decode cX1_takeLast 4 = .ok (.ifCond .le 42, 3) := by decide +kernel
theorem dX1_takeLast_7 : decode cX1_takeLast 7 = .ok (.aload_n 0, 1) := by decide +kernel
theorem dX1_takeLast_8 : decode cX1_takeLast 8 = .ok (.dup, 1) := by decide +kernel
theorem dX1_takeLast_9 : decode cX1_takeLast 9 = .ok (.getfield 19, 3) := by decide +kernel
theorem dX1_takeLast_12 : decode cX1_takeLast 12 = .ok (.iconst 1, 1) := by decide +kernel
theorem dX1_takeLast_13 : decode cX1_takeLast 13 = .ok (.isub, 1) := by decide +kernel
theorem dX1_takeLast_14 : decode cX1_takeLast 14 = .ok (.putfield 19, 3) := by decide +kernel
theorem dX1_takeLast_17 : decode cX1_takeLast 17 = .ok (.aload_n 0, 1) := by decide +kernel
theorem dX1_takeLast_18 : decode cX1_takeLast 18 = .ok (.getfield 13, 3) := by decide +kernel
theorem dX1_takeLast_21 : decode cX1_takeLast 21 = .ok (.aload_n 0, 1) := by decide +kernel
theorem dX1_takeLast_22 : decode cX1_takeLast 22 = .ok (.getfield 23, 3) := by decide +kernel
theorem dX1_takeLast_25 : decode cX1_takeLast 25 = .ok (.aload_n 0, 1) := by decide +kernel
theorem dX1_takeLast_26 : decode cX1_takeLast 26 = .ok (.getfield 19, 3) := by decide +kernel
theorem dX1_takeLast_29 : decode cX1_takeLast 29 = .ok (.iadd, 1) := by decide +kernel
theorem dX1_takeLast_30 : decode cX1_takeLast 30 = .ok (.bipush 14, 2) := by decide +kernel
theorem dX1_takeLast_32 : decode cX1_takeLast 32 = .ok (.irem, 1) := by decide +kernel
theorem dX1_takeLast_33 : decode cX1_takeLast 33 = .ok (.invokestatic 26, 3) := by decide +kernel
theorem dX1_takeLast_36 : decode cX1_takeLast 36 = .ok (.astore_n 2, 1) := by decide +kernel
theorem dX1_takeLast_37 : decode cX1_takeLast 37 = .ok (.aload_n 2, 1) := by decide +kernel
theorem dX1_takeLast_38 : decode cX1_takeLast 38 = .ok (.ifnull 8, 3) := by decide +kernel
theorem dX1_takeLast_41 : decode cX1_takeLast 41 = .ok (.aload_n 1, 1) := by decide +kernel
theorem dX1_takeLast_42 : decode cX1_takeLast 42 = .ok (.aload_n 2, 1) := by decide +kernel
theorem dX1_takeLast_43 : decode cX1_takeLast 43 = .ok (.invokevirtual 30, 3) := by decide +kernel
theorem dX1_takeLast_46 : decode cX1_takeLast 46 = .ok (.return_, 1) := by decide +kernel
theorem dX2_init_0 : decode cX2_init 0 = .ok (.aload_n 0, 1) := by decide +kernel
theorem dX2_init_1 : decode cX2_init 1 = .ok (.invokespecial 3, 3) := by decide +kernel
theorem dX2_init_4 : decode cX2_init 4 = .ok (.aload_n 0, 1) := by decide +kernel
theorem dX2_init_5 : decode cX2_init 5 = .ok (.iconst 5, 1) := by decide +kernel
theorem dX2_init_6 : decode cX2_init 6 = .ok (.newarray .int, 2) := by decide +kernel
theorem dX2_init_8 : decode cX2_init 8 = .ok (.putfield 9, 3) := by decide +kernel
theorem dX2_init_11 : decode cX2_init 11 = .ok (.aload_n 0, 1) := by decide +kernel
theorem dX2_init_12 : decode cX2_init 12 = .ok (.iconst 5, 1) := by decide +kernel
theorem dX2_init_13 : decode cX2_init 13 = .ok (.newarray .int, 2) := by decide +kernel
theorem dX2_init_15 : decode cX2_init 15 = .ok (.putfield 15, 3) := by decide +kernel
theorem dX2_init_18 : decode cX2_init 18 = .ok (.aload_n 0, 1) := by decide +kernel
theorem dX2_init_19 : decode cX2_init 19 = .ok (.iconst 5, 1) := by decide +kernel
theorem dX2_init_20 : decode cX2_init 20 = .ok (.newarray .int, 2) := by decide +kernel
theorem dX2_init_22 : decode cX2_init 22 = .ok (.putfield 18, 3) := by decide +kernel
theorem dX2_init_25 : decode cX2_init 25 = .ok (.aload_n 0, 1) := by decide +kernel
theorem dX2_init_26 : decode cX2_init 26 = .ok (.iconst 5, 1) := by decide +kernel
theorem dX2_init_27 : decode cX2_init 27 = .ok (.newarray .int, 2) := by decide +kernel
theorem dX2_init_29 : decode cX2_init 29 = .ok (.putfield 21, 3) := by decide +kernel
theorem dX2_init_32 : decode cX2_init 32 = .ok (.aload_n 0, 1) := by decide +kernel
theorem dX2_init_33 : decode cX2_init 33 = .ok (.iconst 5, 1) := by decide +kernel
theorem dX2_init_34 : decode cX2_init 34 = .ok (.newarray .int, 2) := by decide +kernel
theorem dX2_init_36 : decode cX2_init 36 = .ok (.putfield 24, 3) := by decide +kernel
theorem dX2_init_39 : decode cX2_init 39 = .ok (.return_, 1) := by decide +kernel
theorem dX2_readFrom_0 : decode cX2_readFrom 0 = .ok (.aload_n 0, 1) := by decide +kernel
theorem dX2_readFrom_1 : decode cX2_readFrom 1 = .ok (.iconst 0, 1) := by decide +kernel
theorem dX2_readFrom_2 : decode cX2_readFrom 2 = .ok (.putfield 27, 3) := by decide +kernel
theorem dX2_readFrom_5 : decode cX2_readFrom 5 = .ok (.aload_n 0, 1) := by decide +kernel
theorem dX2_readFrom_6 : decode cX2_readFrom 6 = .ok (.iconst 0, 1) := by decide +kernel
theorem dX2_readFrom_7 : decode cX2_readFrom 7 = .ok (.putfield 31, 3) := by decide +kernel
theorem dX2_readFrom_10 : decode cX2_readFrom 10 = .ok (.iconst 1, 1) := by decide +kernel
theorem dX2_readFrom_11 : decode cX2_readFrom 11 = .ok (.istore_n 2, 1) := by decide +kernel
theorem dX2_readFrom_12 : decode cX2_readFrom 12 = .ok (.iload_n 2, 1) := by decide +kernel
theorem dX2_readFrom_13 : decode cX2_readFrom 13 = .ok (.aload_n 1, 1) := by decide +kernel
theorem dX2_readFrom_14 : decode cX2_readFrom 14 = .ok (.invokevirtual 34, 3) := by decide +kernel
theorem dX2_readFrom_17 : decode cX2_readFrom 17 = .ok (.if_icmp .ge 142, 3) := by decide +kernel
theorem dX2_readFrom_20 : decode cX2_readFrom 20 = .ok (.aload_n 1, 1) := by decide +kernel
theorem dX2_readFrom_21 : decode cX2_readFrom 21 = .ok (.iload_n 2, 1) := by decide +kernel
theorem dX2_readFrom_22 : decode cX2_readFrom 22 = .ok (.invokevirtual 40, 3) := by decide +kernel
theorem dX2_readFrom_25 : decode cX2_readFrom 25 = .ok (.bipush 87, 2) := by decide +kernel
theorem dX2_readFrom_27 : decode cX2_readFrom 27 = .ok (.if_icmp .ne 52, 3) := by decide +kernel
theorem dX2_readFrom_30 : decode cX2_readFrom 30 = .ok (.aload_n 0, 1) := by decide +kernel
theorem dX2_readFrom_31 : decode cX2_readFrom 31 = .ok (.getfield 9, 3) := by decide +kernel
theorem dX2_readFrom_34 : decode cX2_readFrom 34 = .ok (.aload_n 0, 1) := by decide +kernel
theorem dX2_readFrom_35 : decode cX2_readFrom 35 = .ok (.getfield 27, 3) := by decide +kernel
theorem dX2_readFrom_38 : decode cX2_readFrom 38 = .ok (.aload_n 1, 1) := by decide +kernel
theorem dX2_readFrom_39 : decode cX2_readFrom 39 = .ok (.iload_n 2, 1) := by decide +kernel
theorem dX2_readFrom_40 : decode cX2_readFrom 40 = .ok (.iconst 1, 1) := by decide +kernel
theorem dX2_readFrom_41 : decode cX2_readFrom 41 = .ok (.iadd, 1) := by decide +kernel
theorem dX2_readFrom_42 : decode cX2_readFrom 42 = .ok (.invokevirtual 44, 3) := by decide +kernel
theorem dX2_readFrom_45 : decode cX2_readFrom 45 = .ok (.invokestatic 47, 3) := by decide +kernel
theorem dX2_readFrom_48 : decode cX2_readFrom 48 = .ok (.aload_n 0, 1) := by decide +kernel
theorem dX2_readFrom_49 : decode cX2_readFrom 49 = .ok (.getfield 15, 3) := by decide +kernel
theorem dX2_readFrom_52 : decode cX2_readFrom 52 = .ok (.aload_n 0, 1) := by decide +kernel
theorem dX2_readFrom_53 : decode cX2_readFrom 53 = .ok (.getfield 27, 3) := by decide +kernel
theorem dX2_readFrom_56 : decode cX2_readFrom 56 = .ok (.aload_n 1, 1) := by decide +kernel
theorem dX2_readFrom_57 : decode cX2_readFrom 57 = .ok (.iload_n 2, 1) := by decide +kernel
theorem dX2_readFrom_58 : decode cX2_readFrom 58 = .ok (.iconst 2, 1) := by decide +kernel
theorem dX2_readFrom_59 : decode cX2_readFrom 59 = .ok (.iadd, 1) := by decide +kernel
theorem dX2_readFrom_60 : decode cX2_readFrom 60 = .ok (.invokevirtual 44, 3) := by decide +kernel
theorem dX2_readFrom_63 : decode cX2_readFrom 63 = .ok (.invokestatic 47, 3) := by decide +kernel
theorem dX2_readFrom_66 : decode cX2_readFrom 66 = .ok (.aload_n 0, 1) := by decide +kernel
theorem dX2_readFrom_67 : decode cX2_readFrom 67 = .ok (.dup, 1) := by decide +kernel
theorem dX2_readFrom_68 : decode cX2_readFrom 68 = .ok (.getfield 27, 3) := by decide +kernel
theorem dX2_readFrom_71 : decode cX2_readFrom 71 = .ok (.iconst 1, 1) := by decide +kernel
theorem dX2_readFrom_72 : decode cX2_readFrom 72 = .ok (.iadd, 1) := by decide +kernel
theorem dX2_readFrom_73 : decode cX2_readFrom 73 = .ok (.putfield 27, 3) := by decide +kernel
theorem dX2_readFrom_76 : decode cX2_readFrom 76 = .ok (.goto 77, 3) := by decide +kernel
theorem dX2_readFrom_79 : decode cX2_readFrom 79 = .ok (.aload_n 1, 1) := by decide +kernel
theorem dX2_readFrom_80 : decode cX2_readFrom 80 = .ok (.iload_n 2, 1) := by decide +kernel
theorem dX2_readFrom_81 : decode cX2_readFrom 81 = .ok (.invokevirtual 40, 3) := by decide +kernel
theorem dX2_readFrom_84 : decode cX2_readFrom 84 = .ok (.bipush 78, 2) := by decide +kernel
theorem dX2_readFrom_86 : decode cX2_readFrom 86 = .ok (.if_icmp .ne 67, 3) := by decide +kernel
theorem dX2_readFrom_89 : decode cX2_readFrom 89 = .ok (.aload_n 0, 1) := by decide +kernel
theorem dX2_readFrom_90 : decode cX2_readFrom 90 = .ok (.getfield 18, 3) := by decide +kernel
theorem dX2_readFrom_93 : decode cX2_readFrom 93 = .ok (.aload_n 0, 1) := by decide +kernel
theorem dX2_readFrom_94 : decode cX2_readFrom 94 = .ok (.getfield 31, 3) := by decide +kernel
theorem dX2_readFrom_97 : decode cX2_readFrom 97 = .ok (.aload_n 1, 1) := by decide +kernel
theorem dX2_readFrom_98 : decode cX2_readFrom 98 = .ok (.iload_n 2, 1) := by decide +kernel
theorem dX2_readFrom_99 : decode cX2_readFrom 99 = .ok (.iconst 1, 1) := by decide +kernel
theorem dX2_readFrom_100 : decode cX2_readFrom 100 = .ok (.iadd, 1) := by decide +kernel
theorem dX2_readFrom_101 : decode cX2_readFrom 101 = .ok (.invokevirtual 44, 3) := by decide +kernel
theorem dX2_readFrom_104 : decode cX2_readFrom 104 = .ok (.invokestatic 47, 3) := by decide +kernel
theorem dX2_readFrom_107 : decode cX2_readFrom 107 = .ok (.aload_n 0, 1) := by decide +kernel
theorem dX2_readFrom_108 : decode cX2_readFrom 108 = .ok (.getfield 21, 3) := by decide +kernel
theorem dX2_readFrom_111 : decode cX2_readFrom 111 = .ok (.aload_n 0, 1) := by decide +kernel
theorem dX2_readFrom_112 : decode cX2_readFrom 112 = .ok (.getfield 31, 3) := by decide +kernel
theorem dX2_readFrom_115 : decode cX2_readFrom 115 = .ok (.aload_n 1, 1) := by decide +kernel
theorem dX2_readFrom_116 : decode cX2_readFrom 116 = .ok (.iload_n 2, 1) := by decide +kernel
theorem dX2_readFrom_117 : decode cX2_readFrom 117 = .ok (.iconst 2, 1) := by decide +kernel
theorem dX2_readFrom_118 : decode cX2_readFrom 118 = .ok (.iadd, 1) := by decide +kernel
theorem dX2_readFrom_119 : decode cX2_readFrom 119 = .ok (.invokevirtual 44, 3) := by decide +kernel
theorem dX2_readFrom_122 : decode cX2_readFrom 122 = .ok (.invokestatic 47, 3) := by decide +kernel
theorem dX2_readFrom_125 : decode cX2_readFrom 125 = .ok (.aload_n 0, 1) := by decide +kernel
theorem dX2_readFrom_126 : decode cX2_readFrom 126 = .ok (.getfield 24, 3) := by decide +kernel
theorem dX2_readFrom_129 : decode cX2_readFrom 129 = .ok (.aload_n 0, 1) := by decide +kernel
theorem dX2_readFrom_130 : decode cX2_readFrom 130 = .ok (.getfield 31, 3) := by decide +kernel
theorem dX2_readFrom_133 : decode cX2_readFrom 133 = .ok (.aload_n 1, 1) := by decide +kernel
theorem dX2_readFrom_134 : decode cX2_readFrom 134 = .ok (.iload_n 2, 1) := by decide +kernel
theorem dX2_readFrom_135 : decode cX2_readFrom 135 = .ok (.iconst 3, 1) := by decide +kernel
theorem dX2_readFrom_136 : decode cX2_readFrom 136 = .ok (.iadd, 1) := by decide +kernel
theorem dX2_readFrom_137 : decode cX2_readFrom 137 = .ok (.invokevirtual 44, 3) := by decide +kernel
theorem dX2_readFrom_140 : decode cX2_readFrom 140 = .ok (.invokestatic 47, 3) := by decide +kernel
theorem dX2_readFrom_143 : decode cX2_readFrom 143 = .ok (.aload_n 0, 1) := by decide +kernel
theorem dX2_readFrom_144 : decode cX2_readFrom 144 = .ok (.dup, 1) := by decide +kernel
theorem dX2_readFrom_145 : decode cX2_readFrom 145 = .ok (.getfield 31, 3) := by decide +kernel
theorem dX2_readFrom_148 : decode cX2_readFrom 148 = .ok (.iconst 1, 1) := by decide +kernel
theorem dX2_readFrom_149 : decode cX2_readFrom 149 = .ok (.iadd, 1) := by decide +kernel
theorem dX2_readFrom_150 : decode cX2_readFrom 150 = .ok (.putfield 31, 3) := by decide +kernel
theorem dX2_readFrom_153 : decode cX2_readFrom 153 = .ok (.iinc 2 1, 3) := by decide +kernel
theorem dX2_readFrom_156 : decode cX2_readFrom 156 = .ok (.goto (-144), 3) := by decide +kernel
theorem dX2_readFrom_159 : decode cX2_readFrom 159 = .ok (.return_, 1) := by decide +kernel
theorem dX2_walkerCount_0 : decode cX2_walkerCount 0 = .ok (.aload_n 0, 1) := by decide +kernel
theorem dX2_walkerCount_1 : decode cX2_walkerCount 1 = .ok (.getfield 27, 3) := by decide +kernel
theorem dX2_walkerCount_4 : decode cX2_walkerCount 4 = .ok (.ireturn, 1) := by decide +kernel
theorem dX2_needCount_0 : decode cX2_needCount 0 = .ok (.aload_n 0, 1) := by decide +kernel
theorem dX2_needCount_1 : decode cX2_needCount 1 = .ok (.getfield 31, 3) := by decide +kernel
theorem dX2_needCount_4 : decode cX2_needCount 4 = .ok (.ireturn, 1) := by decide +kernel
theorem dX2_hasWalker_0 : decode cX2_hasWalker 0 = .ok (.iload_n 1, 1) := by decide +kernel
theorem dX2_hasWalker_1 : decode cX2_hasWalker 1 = .ok (.ifCond .lt 15, 3) := by decide +kernel
theorem dX2_hasWalker_4 : decode cX2_hasWalker 4 = .ok (.iload_n 1, 1) := by decide +kernel
theorem dX2_hasWalker_5 : decode cX2_hasWalker 5 = .ok (.aload_n 0, 1) := by decide +kernel
theorem dX2_hasWalker_6 : decode cX2_hasWalker 6 = .ok (.getfield 27, 3) := by decide +kernel
theorem dX2_hasWalker_9 : decode cX2_hasWalker 9 = .ok (.if_icmp .ge 7, 3) := by decide +kernel
theorem dX2_hasWalker_12 : decode cX2_hasWalker 12 = .ok (.iconst 1, 1) := by decide +kernel
theorem dX2_hasWalker_13 : decode cX2_hasWalker 13 = .ok (.goto 4, 3) := by decide +kernel
theorem dX2_hasWalker_16 : decode cX2_hasWalker 16 = .ok (.iconst 0, 1) := by decide +kernel
theorem dX2_hasWalker_17 : decode cX2_hasWalker 17 = .ok (.ireturn, 1) := by decide +kernel
theorem dX2_hasNeed_0 : decode cX2_hasNeed 0 = .ok (.iload_n 1, 1) := by decide +kernel
theorem dX2_hasNeed_1 : decode cX2_hasNeed 1 = .ok (.ifCond .lt 15, 3) := by decide +kernel
theorem dX2_hasNeed_4 : decode cX2_hasNeed 4 = .ok (.iload_n 1, 1) := by decide +kernel
theorem dX2_hasNeed_5 : decode cX2_hasNeed 5 = .ok (.aload_n 0, 1) := by decide +kernel
theorem dX2_hasNeed_6 : decode cX2_hasNeed 6 = .ok (.getfield 31, 3) := by decide +kernel
theorem dX2_hasNeed_9 : decode cX2_hasNeed 9 = .ok (.if_icmp .ge 7, 3) := by decide +kernel
theorem dX2_hasNeed_12 : decode cX2_hasNeed 12 = .ok (.iconst 1, 1) := by decide +kernel
theorem dX2_hasNeed_13 : decode cX2_hasNeed 13 = .ok (.goto 4, 3) := by decide +kernel
theorem dX2_hasNeed_16 : decode cX2_hasNeed 16 = .ok (.iconst 0, 1) := by decide +kernel
theorem dX2_hasNeed_17 : decode cX2_hasNeed 17 = .ok (.ireturn, 1) := by decide +kernel
theorem dX2_homeOf_0 : decode cX2_homeOf 0 = .ok (.aload_n 0, 1) := by decide +kernel
theorem dX2_homeOf_1 : decode cX2_homeOf 1 = .ok (.getfield 9, 3) := by decide +kernel
theorem dX2_homeOf_4 : decode cX2_homeOf 4 = .ok (.iload_n 1, 1) := by decide +kernel
theorem dX2_homeOf_5 : decode cX2_homeOf 5 = .ok (.invokestatic 51, 3) := by decide +kernel
theorem dX2_homeOf_8 : decode cX2_homeOf 8 = .ok (.ireturn, 1) := by decide +kernel
theorem dX2_stuffOf_0 : decode cX2_stuffOf 0 = .ok (.aload_n 0, 1) := by decide +kernel
theorem dX2_stuffOf_1 : decode cX2_stuffOf 1 = .ok (.getfield 15, 3) := by decide +kernel
theorem dX2_stuffOf_4 : decode cX2_stuffOf 4 = .ok (.iload_n 1, 1) := by decide +kernel
theorem dX2_stuffOf_5 : decode cX2_stuffOf 5 = .ok (.invokestatic 51, 3) := by decide +kernel
theorem dX2_stuffOf_8 : decode cX2_stuffOf 8 = .ok (.ireturn, 1) := by decide +kernel
theorem dX2_streetOfNeed_0 : decode cX2_streetOfNeed 0 = .ok (.aload_n 0, 1) := by decide +kernel
theorem dX2_streetOfNeed_1 : decode cX2_streetOfNeed 1 = .ok (.getfield 18, 3) := by decide +kernel
theorem dX2_streetOfNeed_4 : decode cX2_streetOfNeed 4 = .ok (.iload_n 1, 1) := by decide +kernel
theorem dX2_streetOfNeed_5 : decode cX2_streetOfNeed 5 = .ok (.invokestatic 51, 3) := by decide +kernel
theorem dX2_streetOfNeed_8 : decode cX2_streetOfNeed 8 = .ok (.ireturn, 1) := by decide +kernel
theorem dX2_sortOfNeed_0 : decode cX2_sortOfNeed 0 = .ok (.aload_n 0, 1) := by decide +kernel
theorem dX2_sortOfNeed_1 : decode cX2_sortOfNeed 1 = .ok (.getfield 21, 3) := by decide +kernel
theorem dX2_sortOfNeed_4 : decode cX2_sortOfNeed 4 = .ok (.iload_n 1, 1) := by decide +kernel
theorem dX2_sortOfNeed_5 : decode cX2_sortOfNeed 5 = .ok (.invokestatic 51, 3) := by decide +kernel
theorem dX2_sortOfNeed_8 : decode cX2_sortOfNeed 8 = .ok (.ireturn, 1) := by decide +kernel
theorem dX2_figureOfNeed_0 : decode cX2_figureOfNeed 0 = .ok (.aload_n 0, 1) := by decide +kernel
theorem dX2_figureOfNeed_1 : decode cX2_figureOfNeed 1 = .ok (.getfield 24, 3) := by decide +kernel
theorem dX2_figureOfNeed_4 : decode cX2_figureOfNeed 4 = .ok (.iload_n 1, 1) := by decide +kernel
theorem dX2_figureOfNeed_5 : decode cX2_figureOfNeed 5 = .ok (.invokestatic 51, 3) := by decide +kernel
theorem dX2_figureOfNeed_8 : decode cX2_figureOfNeed 8 = .ok (.ireturn, 1) := by decide +kernel
theorem dX3_init_0 : decode cX3_init 0 = .ok (.aload_n 0, 1) := by decide +kernel
theorem dX3_init_1 : decode cX3_init 1 = .ok (.invokespecial 3, 3) := by decide +kernel
theorem dX3_init_4 : decode cX3_init 4 = .ok (.aload_n 0, 1) := by decide +kernel
theorem dX3_init_5 : decode cX3_init 5 = .ok (.iconst 5, 1) := by decide +kernel
theorem dX3_init_6 : decode cX3_init 6 = .ok (.newarray .int, 2) := by decide +kernel
theorem dX3_init_8 : decode cX3_init 8 = .ok (.putfield 9, 3) := by decide +kernel
theorem dX3_init_11 : decode cX3_init 11 = .ok (.aload_n 0, 1) := by decide +kernel
theorem dX3_init_12 : decode cX3_init 12 = .ok (.bipush 6, 2) := by decide +kernel
theorem dX3_init_14 : decode cX3_init 14 = .ok (.newarray .int, 2) := by decide +kernel
theorem dX3_init_16 : decode cX3_init 16 = .ok (.putfield 15, 3) := by decide +kernel
theorem dX3_init_19 : decode cX3_init 19 = .ok (.aload_n 0, 1) := by decide +kernel
theorem dX3_init_20 : decode cX3_init 20 = .ok (.bipush 6, 2) := by decide +kernel
theorem dX3_init_22 : decode cX3_init 22 = .ok (.newarray .int, 2) := by decide +kernel
theorem dX3_init_24 : decode cX3_init 24 = .ok (.putfield 18, 3) := by decide +kernel
theorem dX3_init_27 : decode cX3_init 27 = .ok (.aload_n 0, 1) := by decide +kernel
theorem dX3_init_28 : decode cX3_init 28 = .ok (.iconst 5, 1) := by decide +kernel
theorem dX3_init_29 : decode cX3_init 29 = .ok (.newarray .int, 2) := by decide +kernel
theorem dX3_init_31 : decode cX3_init 31 = .ok (.putfield 21, 3) := by decide +kernel
theorem dX3_init_34 : decode cX3_init 34 = .ok (.aload_n 0, 1) := by decide +kernel
theorem dX3_init_35 : decode cX3_init 35 = .ok (.aload_n 1, 1) := by decide +kernel
theorem dX3_init_36 : decode cX3_init 36 = .ok (.putfield 24, 3) := by decide +kernel
theorem dX3_init_39 : decode cX3_init 39 = .ok (.return_, 1) := by decide +kernel
theorem dX3_begin_0 : decode cX3_begin 0 = .ok (.iconst 0, 1) := by decide +kernel
theorem dX3_begin_1 : decode cX3_begin 1 = .ok (.istore_n 1, 1) := by decide +kernel
theorem dX3_begin_2 : decode cX3_begin 2 = .ok (.iload_n 1, 1) := by decide +kernel
theorem dX3_begin_3 : decode cX3_begin 3 = .ok (.aload_n 0, 1) := by decide +kernel
theorem dX3_begin_4 : decode cX3_begin 4 = .ok (.getfield 9, 3) := by decide +kernel
theorem dX3_begin_7 : decode cX3_begin 7 = .ok (.arraylength, 1) := by decide +kernel
theorem dX3_begin_8 : decode cX3_begin 8 = .ok (.if_icmp .ge 23, 3) := by decide +kernel
theorem dX3_begin_11 : decode cX3_begin 11 = .ok (.aload_n 0, 1) := by decide +kernel
theorem dX3_begin_12 : decode cX3_begin 12 = .ok (.getfield 9, 3) := by decide +kernel
theorem dX3_begin_15 : decode cX3_begin 15 = .ok (.iload_n 1, 1) := by decide +kernel
theorem dX3_begin_16 : decode cX3_begin 16 = .ok (.aload_n 0, 1) := by decide +kernel
theorem dX3_begin_17 : decode cX3_begin 17 = .ok (.getfield 24, 3) := by decide +kernel
theorem dX3_begin_20 : decode cX3_begin 20 = .ok (.iload_n 1, 1) := by decide +kernel
theorem dX3_begin_21 : decode cX3_begin 21 = .ok (.invokevirtual 28, 3) := by decide +kernel
theorem dX3_begin_24 : decode cX3_begin 24 = .ok (.iastore, 1) := by decide +kernel
theorem dX3_begin_25 : decode cX3_begin 25 = .ok (.iinc 1 1, 3) := by decide +kernel
theorem dX3_begin_28 : decode cX3_begin 28 = .ok (.goto (-26), 3) := by decide +kernel
theorem dX3_begin_31 : decode cX3_begin 31 = .ok (.aload_n 0, 1) := by decide +kernel
theorem dX3_begin_32 : decode cX3_begin 32 = .ok (.getfield 15, 3) := by decide +kernel
theorem dX3_begin_35 : decode cX3_begin 35 = .ok (.iconst 0, 1) := by decide +kernel
theorem dX3_begin_36 : decode cX3_begin 36 = .ok (.invokestatic 34, 3) := by decide +kernel
theorem dX3_begin_39 : decode cX3_begin 39 = .ok (.aload_n 0, 1) := by decide +kernel
theorem dX3_begin_40 : decode cX3_begin 40 = .ok (.getfield 18, 3) := by decide +kernel
theorem dX3_begin_43 : decode cX3_begin 43 = .ok (.iconst 0, 1) := by decide +kernel
theorem dX3_begin_44 : decode cX3_begin 44 = .ok (.invokestatic 34, 3) := by decide +kernel
theorem dX3_begin_47 : decode cX3_begin 47 = .ok (.aload_n 0, 1) := by decide +kernel
theorem dX3_begin_48 : decode cX3_begin 48 = .ok (.getfield 21, 3) := by decide +kernel
theorem dX3_begin_51 : decode cX3_begin 51 = .ok (.iconst 0, 1) := by decide +kernel
theorem dX3_begin_52 : decode cX3_begin 52 = .ok (.invokestatic 34, 3) := by decide +kernel
theorem dX3_begin_55 : decode cX3_begin 55 = .ok (.aload_n 0, 1) := by decide +kernel
theorem dX3_begin_56 : decode cX3_begin 56 = .ok (.iconst 0, 1) := by decide +kernel
theorem dX3_begin_57 : decode cX3_begin 57 = .ok (.putfield 40, 3) := by decide +kernel
theorem dX3_begin_60 : decode cX3_begin 60 = .ok (.aload_n 0, 1) := by decide +kernel
theorem dX3_begin_61 : decode cX3_begin 61 = .ok (.iconst 0, 1) := by decide +kernel
theorem dX3_begin_62 : decode cX3_begin 62 = .ok (.putfield 44, 3) := by decide +kernel
theorem dX3_begin_65 : decode cX3_begin 65 = .ok (.return_, 1) := by decide +kernel
theorem dX3_copy_0 : decode cX3_copy 0 = .ok (.aload_n 1, 1) := by decide +kernel
theorem dX3_copy_1 : decode cX3_copy 1 = .ok (.getfield 9, 3) := by decide +kernel
theorem dX3_copy_4 : decode cX3_copy 4 = .ok (.iconst 0, 1) := by decide +kernel
theorem dX3_copy_5 : decode cX3_copy 5 = .ok (.aload_n 0, 1) := by decide +kernel
theorem dX3_copy_6 : decode cX3_copy 6 = .ok (.getfield 9, 3) := by decide +kernel
theorem dX3_copy_9 : decode cX3_copy 9 = .ok (.iconst 0, 1) := by decide +kernel
theorem dX3_copy_10 : decode cX3_copy 10 = .ok (.aload_n 0, 1) := by decide +kernel
theorem dX3_copy_11 : decode cX3_copy 11 = .ok (.getfield 9, 3) := by decide +kernel
theorem dX3_copy_14 : decode cX3_copy 14 = .ok (.arraylength, 1) := by decide +kernel
theorem dX3_copy_15 : decode cX3_copy 15 = .ok (.invokestatic 47, 3) := by decide +kernel
theorem dX3_copy_18 : decode cX3_copy 18 = .ok (.aload_n 1, 1) := by decide +kernel
theorem dX3_copy_19 : decode cX3_copy 19 = .ok (.getfield 15, 3) := by decide +kernel
theorem dX3_copy_22 : decode cX3_copy 22 = .ok (.iconst 0, 1) := by decide +kernel
theorem dX3_copy_23 : decode cX3_copy 23 = .ok (.aload_n 0, 1) := by decide +kernel
theorem dX3_copy_24 : decode cX3_copy 24 = .ok (.getfield 15, 3) := by decide +kernel
theorem dX3_copy_27 : decode cX3_copy 27 = .ok (.iconst 0, 1) := by decide +kernel
theorem dX3_copy_28 : decode cX3_copy 28 = .ok (.aload_n 0, 1) := by decide +kernel
theorem dX3_copy_29 : decode cX3_copy 29 = .ok (.getfield 15, 3) := by decide +kernel
theorem dX3_copy_32 : decode cX3_copy 32 = .ok (.arraylength, 1) := by decide +kernel
theorem dX3_copy_33 : decode cX3_copy 33 = .ok (.invokestatic 47, 3) := by decide +kernel
theorem dX3_copy_36 : decode cX3_copy 36 = .ok (.aload_n 1, 1) := by decide +kernel
theorem dX3_copy_37 : decode cX3_copy 37 = .ok (.getfield 18, 3) := by decide +kernel
theorem dX3_copy_40 : decode cX3_copy 40 = .ok (.iconst 0, 1) := by decide +kernel
theorem dX3_copy_41 : decode cX3_copy 41 = .ok (.aload_n 0, 1) := by decide +kernel
theorem dX3_copy_42 : decode cX3_copy 42 = .ok (.getfield 18, 3) := by decide +kernel
theorem dX3_copy_45 : decode cX3_copy 45 = .ok (.iconst 0, 1) := by decide +kernel
theorem dX3_copy_46 : decode cX3_copy 46 = .ok (.aload_n 0, 1) := by decide +kernel
theorem dX3_copy_47 : decode cX3_copy 47 = .ok (.getfield 18, 3) := by decide +kernel
theorem dX3_copy_50 : decode cX3_copy 50 = .ok (.arraylength, 1) := by decide +kernel
theorem dX3_copy_51 : decode cX3_copy 51 = .ok (.invokestatic 47, 3) := by decide +kernel
theorem dX3_copy_54 : decode cX3_copy 54 = .ok (.aload_n 1, 1) := by decide +kernel
theorem dX3_copy_55 : decode cX3_copy 55 = .ok (.getfield 21, 3) := by decide +kernel
theorem dX3_copy_58 : decode cX3_copy 58 = .ok (.iconst 0, 1) := by decide +kernel
theorem dX3_copy_59 : decode cX3_copy 59 = .ok (.aload_n 0, 1) := by decide +kernel
theorem dX3_copy_60 : decode cX3_copy 60 = .ok (.getfield 21, 3) := by decide +kernel
theorem dX3_copy_63 : decode cX3_copy 63 = .ok (.iconst 0, 1) := by decide +kernel
theorem dX3_copy_64 : decode cX3_copy 64 = .ok (.aload_n 0, 1) := by decide +kernel
theorem dX3_copy_65 : decode cX3_copy 65 = .ok (.getfield 21, 3) := by decide +kernel
theorem dX3_copy_68 : decode cX3_copy 68 = .ok (.arraylength, 1) := by decide +kernel
theorem dX3_copy_69 : decode cX3_copy 69 = .ok (.invokestatic 47, 3) := by decide +kernel
theorem dX3_copy_72 : decode cX3_copy 72 = .ok (.aload_n 0, 1) := by decide +kernel
theorem dX3_copy_73 : decode cX3_copy 73 = .ok (.aload_n 1, 1) := by decide +kernel
theorem dX3_copy_74 : decode cX3_copy 74 = .ok (.getfield 40, 3) := by decide +kernel
theorem dX3_copy_77 : decode cX3_copy 77 = .ok (.putfield 40, 3) := by decide +kernel
theorem dX3_copy_80 : decode cX3_copy 80 = .ok (.aload_n 0, 1) := by decide +kernel
theorem dX3_copy_81 : decode cX3_copy 81 = .ok (.aload_n 1, 1) := by decide +kernel
theorem dX3_copy_82 : decode cX3_copy 82 = .ok (.getfield 44, 3) := by decide +kernel
theorem dX3_copy_85 : decode cX3_copy 85 = .ok (.putfield 44, 3) := by decide +kernel
theorem dX3_copy_88 : decode cX3_copy 88 = .ok (.return_, 1) := by decide +kernel
theorem dX3_time_0 : decode cX3_time 0 = .ok (.aload_n 0, 1) := by decide +kernel
theorem dX3_time_1 : decode cX3_time 1 = .ok (.getfield 44, 3) := by decide +kernel
theorem dX3_time_4 : decode cX3_time 4 = .ok (.ireturn, 1) := by decide +kernel
theorem dX3_placeOf_0 : decode cX3_placeOf 0 = .ok (.aload_n 0, 1) := by decide +kernel
theorem dX3_placeOf_1 : decode cX3_placeOf 1 = .ok (.getfield 9, 3) := by decide +kernel
theorem dX3_placeOf_4 : decode cX3_placeOf 4 = .ok (.iload_n 1, 1) := by decide +kernel
theorem dX3_placeOf_5 : decode cX3_placeOf 5 = .ok (.invokestatic 53, 3) := by decide +kernel
theorem dX3_placeOf_8 : decode cX3_placeOf 8 = .ok (.ireturn, 1) := by decide +kernel
theorem dX3_lastsIn_0 : decode cX3_lastsIn 0 = .ok (.aload_n 0, 1) := by decide +kernel
theorem dX3_lastsIn_1 : decode cX3_lastsIn 1 = .ok (.getfield 15, 3) := by decide +kernel
theorem dX3_lastsIn_4 : decode cX3_lastsIn 4 = .ok (.iload_n 1, 1) := by decide +kernel
theorem dX3_lastsIn_5 : decode cX3_lastsIn 5 = .ok (.invokestatic 53, 3) := by decide +kernel
theorem dX3_lastsIn_8 : decode cX3_lastsIn 8 = .ok (.ireturn, 1) := by decide +kernel
theorem dX3_wetnessOf_0 : decode cX3_wetnessOf 0 = .ok (.aload_n 0, 1) := by decide +kernel
theorem dX3_wetnessOf_1 : decode cX3_wetnessOf 1 = .ok (.getfield 18, 3) := by decide +kernel
theorem dX3_wetnessOf_4 : decode cX3_wetnessOf 4 = .ok (.iload_n 1, 1) := by decide +kernel
theorem dX3_wetnessOf_5 : decode cX3_wetnessOf 5 = .ok (.invokestatic 53, 3) := by decide +kernel
theorem dX3_wetnessOf_8 : decode cX3_wetnessOf 8 = .ok (.ireturn, 1) := by decide +kernel
theorem dX3_fateOf_0 : decode cX3_fateOf 0 = .ok (.aload_n 0, 1) := by decide +kernel
theorem dX3_fateOf_1 : decode cX3_fateOf 1 = .ok (.getfield 21, 3) := by decide +kernel
theorem dX3_fateOf_4 : decode cX3_fateOf 4 = .ok (.iload_n 1, 1) := by decide +kernel
theorem dX3_fateOf_5 : decode cX3_fateOf 5 = .ok (.invokestatic 53, 3) := by decide +kernel
theorem dX3_fateOf_8 : decode cX3_fateOf 8 = .ok (.ireturn, 1) := by decide +kernel
theorem dX3_openBits_0 : decode cX3_openBits 0 = .ok (.aload_n 0, 1) := by decide +kernel
theorem dX3_openBits_1 : decode cX3_openBits 1 = .ok (.getfield 40, 3) := by decide +kernel
theorem dX3_openBits_4 : decode cX3_openBits 4 = .ok (.ireturn, 1) := by decide +kernel
theorem dX3_shutBits_0 : decode cX3_shutBits 0 = .ok (.iconst 1, 1) := by decide +kernel
theorem dX3_shutBits_1 : decode cX3_shutBits 1 = .ok (.aload_n 0, 1) := by decide +kernel
theorem dX3_shutBits_2 : decode cX3_shutBits 2 = .ok (.getfield 24, 3) := by decide +kernel
theorem dX3_shutBits_5 : decode cX3_shutBits 5 = .ok (.invokevirtual 57, 3) := by decide +kernel
theorem dX3_shutBits_8 : decode cX3_shutBits 8 = .ok (.ishl, 1) := by decide +kernel
theorem dX3_shutBits_9 : decode cX3_shutBits 9 = .ok (.iconst 1, 1) := by decide +kernel
theorem dX3_shutBits_10 : decode cX3_shutBits 10 = .ok (.isub, 1) := by decide +kernel
theorem dX3_shutBits_11 : decode cX3_shutBits 11 = .ok (.aload_n 0, 1) := by decide +kernel
theorem dX3_shutBits_12 : decode cX3_shutBits 12 = .ok (.getfield 40, 3) := by decide +kernel
theorem dX3_shutBits_15 : decode cX3_shutBits 15 = .ok (.iconst (-1), 1) := by decide +kernel
theorem dX3_shutBits_16 : decode cX3_shutBits 16 = .ok (.ixor, 1) := by decide +kernel
theorem dX3_shutBits_17 : decode cX3_shutBits 17 = .ok (.iand, 1) := by decide +kernel
theorem dX3_shutBits_18 : decode cX3_shutBits 18 = .ok (.ireturn, 1) := by decide +kernel
theorem dX3_isOpen_0 : decode cX3_isOpen 0 = .ok (.aload_n 0, 1) := by decide +kernel
theorem dX3_isOpen_1 : decode cX3_isOpen 1 = .ok (.getfield 40, 3) := by decide +kernel
theorem dX3_isOpen_4 : decode cX3_isOpen 4 = .ok (.iload_n 1, 1) := by decide +kernel
theorem dX3_isOpen_5 : decode cX3_isOpen 5 = .ok (.invokestatic 61, 3) := by decide +kernel
theorem dX3_isOpen_8 : decode cX3_isOpen 8 = .ok (.ireturn, 1) := by decide +kernel
theorem dX3_openIn_0 : decode cX3_openIn 0 = .ok (.iconst 0, 1) := by decide +kernel
theorem dX3_openIn_1 : decode cX3_openIn 1 = .ok (.istore_n 2, 1) := by decide +kernel
theorem dX3_openIn_2 : decode cX3_openIn 2 = .ok (.iconst 0, 1) := by decide +kernel
theorem dX3_openIn_3 : decode cX3_openIn 3 = .ok (.istore_n 3, 1) := by decide +kernel
theorem dX3_openIn_4 : decode cX3_openIn 4 = .ok (.iload_n 3, 1) := by decide +kernel
theorem dX3_openIn_5 : decode cX3_openIn 5 = .ok (.aload_n 0, 1) := by decide +kernel
theorem dX3_openIn_6 : decode cX3_openIn 6 = .ok (.getfield 9, 3) := by decide +kernel
theorem dX3_openIn_9 : decode cX3_openIn 9 = .ok (.arraylength, 1) := by decide +kernel
theorem dX3_openIn_10 : decode cX3_openIn 10 = .ok (.if_icmp .ge 38, 3) := by decide +kernel
theorem dX3_openIn_13 : decode cX3_openIn 13 = .ok (.iload_n 2, 1) := by decide +kernel
theorem dX3_openIn_14 : decode cX3_openIn 14 = .ok (.aload_n 0, 1) := by decide +kernel
theorem dX3_openIn_15 : decode cX3_openIn 15 = .ok (.getfield 40, 3) := by decide +kernel
theorem dX3_openIn_18 : decode cX3_openIn 18 = .ok (.iload_n 3, 1) := by decide +kernel
theorem dX3_openIn_19 : decode cX3_openIn 19 = .ok (.invokestatic 61, 3) := by decide +kernel
theorem dX3_openIn_22 : decode cX3_openIn 22 = .ok (.ifCond .eq 17, 3) := by decide +kernel
theorem dX3_openIn_25 : decode cX3_openIn 25 = .ok (.aload_n 0, 1) := by decide +kernel
theorem dX3_openIn_26 : decode cX3_openIn 26 = .ok (.getfield 9, 3) := by decide +kernel
theorem dX3_openIn_29 : decode cX3_openIn 29 = .ok (.iload_n 3, 1) := by decide +kernel
theorem dX3_openIn_30 : decode cX3_openIn 30 = .ok (.iaload, 1) := by decide +kernel
theorem dX3_openIn_31 : decode cX3_openIn 31 = .ok (.iload_n 1, 1) := by decide +kernel
theorem dX3_openIn_32 : decode cX3_openIn 32 = .ok (.if_icmp .ne 7, 3) := by decide +kernel
theorem dX3_openIn_35 : decode cX3_openIn 35 = .ok (.iconst 1, 1) := by decide +kernel
theorem dX3_openIn_36 : decode cX3_openIn 36 = .ok (.goto 4, 3) := by decide +kernel
theorem dX3_openIn_39 : decode cX3_openIn 39 = .ok (.iconst 0, 1) := by decide +kernel
theorem dX3_openIn_40 : decode cX3_openIn 40 = .ok (.iadd, 1) := by decide +kernel
theorem dX3_openIn_41 : decode cX3_openIn 41 = .ok (.istore_n 2, 1) := by decide +kernel
theorem dX3_openIn_42 : decode cX3_openIn 42 = .ok (.iinc 3 1, 3) := by decide +kernel
theorem dX3_openIn_45 : decode cX3_openIn 45 = .ok (.goto (-41), 3) := by decide +kernel
theorem dX3_openIn_48 : decode cX3_openIn 48 = .ok (.iload_n 2, 1) := by decide +kernel
theorem dX3_openIn_49 : decode cX3_openIn 49 = .ok (.ireturn, 1) := by decide +kernel
theorem dX3_rainBits_0 : decode cX3_rainBits 0 = .ok (.iconst 0, 1) := by decide +kernel
theorem dX3_rainBits_1 : decode cX3_rainBits 1 = .ok (.istore_n 1, 1) := by decide +kernel
theorem dX3_rainBits_2 : decode cX3_rainBits 2 = .ok (.iconst 0, 1) := by decide +kernel
theorem dX3_rainBits_3 : decode cX3_rainBits 3 = .ok (.istore_n 2, 1) := by decide +kernel
theorem dX3_rainBits_4 : decode cX3_rainBits 4 = .ok (.iload_n 2, 1) := by decide +kernel
theorem dX3_rainBits_5 : decode cX3_rainBits 5 = .ok (.aload_n 0, 1) := by decide +kernel
theorem dX3_rainBits_6 : decode cX3_rainBits 6 = .ok (.getfield 9, 3) := by decide +kernel
theorem dX3_rainBits_9 : decode cX3_rainBits 9 = .ok (.arraylength, 1) := by decide +kernel
theorem dX3_rainBits_10 : decode cX3_rainBits 10 = .ok (.if_icmp .ge 57, 3) := by decide +kernel
theorem dX3_rainBits_13 : decode cX3_rainBits 13 = .ok (.aload_n 0, 1) := by decide +kernel
theorem dX3_rainBits_14 : decode cX3_rainBits 14 = .ok (.getfield 40, 3) := by decide +kernel
theorem dX3_rainBits_17 : decode cX3_rainBits 17 = .ok (.iload_n 2, 1) := by decide +kernel
theorem dX3_rainBits_18 : decode cX3_rainBits 18 = .ok (.invokestatic 61, 3) := by decide +kernel
theorem dX3_rainBits_21 : decode cX3_rainBits 21 = .ok (.ifCond .eq 40, 3) := by decide +kernel
theorem dX3_rainBits_24 : decode cX3_rainBits 24 = .ok (.iconst 1, 1) := by decide +kernel
theorem dX3_rainBits_25 : decode cX3_rainBits 25 = .ok (.aload_n 0, 1) := by decide +kernel
theorem dX3_rainBits_26 : decode cX3_rainBits 26 = .ok (.getfield 9, 3) := by decide +kernel
theorem dX3_rainBits_29 : decode cX3_rainBits 29 = .ok (.iload_n 2, 1) := by decide +kernel
theorem dX3_rainBits_30 : decode cX3_rainBits 30 = .ok (.iaload, 1) := by decide +kernel
theorem dX3_rainBits_31 : decode cX3_rainBits 31 = .ok (.ishl, 1) := by decide +kernel
theorem dX3_rainBits_32 : decode cX3_rainBits 32 = .ok (.istore_n 3, 1) := by decide +kernel
theorem dX3_rainBits_33 : decode cX3_rainBits 33 = .ok (.iload_n 1, 1) := by decide +kernel
theorem dX3_rainBits_34 : decode cX3_rainBits 34 = .ok (.aload_n 0, 1) := by decide +kernel
theorem dX3_rainBits_35 : decode cX3_rainBits 35 = .ok (.getfield 24, 3) := by decide +kernel
theorem dX3_rainBits_38 : decode cX3_rainBits 38 = .ok (.iload_n 2, 1) := by decide +kernel
theorem dX3_rainBits_39 : decode cX3_rainBits 39 = .ok (.invokevirtual 65, 3) := by decide +kernel
theorem dX3_rainBits_42 : decode cX3_rainBits 42 = .ok (.iconst 3, 1) := by decide +kernel
theorem dX3_rainBits_43 : decode cX3_rainBits 43 = .ok (.if_icmp .ne 15, 3) := by decide +kernel
theorem dX3_rainBits_46 : decode cX3_rainBits 46 = .ok (.iload_n 3, 1) := by decide +kernel
theorem dX3_rainBits_47 : decode cX3_rainBits 47 = .ok (.iconst 1, 1) := by decide +kernel
theorem dX3_rainBits_48 : decode cX3_rainBits 48 = .ok (.ishl, 1) := by decide +kernel
theorem dX3_rainBits_49 : decode cX3_rainBits 49 = .ok (.iload_n 3, 1) := by decide +kernel
theorem dX3_rainBits_50 : decode cX3_rainBits 50 = .ok (.ior, 1) := by decide +kernel
theorem dX3_rainBits_51 : decode cX3_rainBits 51 = .ok (.iload_n 3, 1) := by decide +kernel
theorem dX3_rainBits_52 : decode cX3_rainBits 52 = .ok (.iconst 1, 1) := by decide +kernel
theorem dX3_rainBits_53 : decode cX3_rainBits 53 = .ok (.ishr, 1) := by decide +kernel
theorem dX3_rainBits_54 : decode cX3_rainBits 54 = .ok (.ior, 1) := by decide +kernel
theorem dX3_rainBits_55 : decode cX3_rainBits 55 = .ok (.goto 4, 3) := by decide +kernel
theorem dX3_rainBits_58 : decode cX3_rainBits 58 = .ok (.iload_n 3, 1) := by decide +kernel
theorem dX3_rainBits_59 : decode cX3_rainBits 59 = .ok (.ior, 1) := by decide +kernel
theorem dX3_rainBits_60 : decode cX3_rainBits 60 = .ok (.istore_n 1, 1) := by decide +kernel
theorem dX3_rainBits_61 : decode cX3_rainBits 61 = .ok (.iinc 2 1, 3) := by decide +kernel
theorem dX3_rainBits_64 : decode cX3_rainBits 64 = .ok (.goto (-60), 3) := by decide +kernel
theorem dX3_rainBits_67 : decode cX3_rainBits 67 = .ok (.iconst 0, 1) := by decide +kernel
theorem dX3_rainBits_68 : decode cX3_rainBits 68 = .ok (.istore_n 2, 1) := by decide +kernel
theorem dX3_rainBits_69 : decode cX3_rainBits 69 = .ok (.iload_n 2, 1) := by decide +kernel
theorem dX3_rainBits_70 : decode cX3_rainBits 70 = .ok (.aload_n 0, 1) := by decide +kernel
theorem dX3_rainBits_71 : decode cX3_rainBits 71 = .ok (.getfield 15, 3) := by decide +kernel
theorem dX3_rainBits_74 : decode cX3_rainBits 74 = .ok (.arraylength, 1) := by decide +kernel
theorem dX3_rainBits_75 : decode cX3_rainBits 75 = .ok (.if_icmp .ge 28, 3) := by decide +kernel
theorem dX3_rainBits_78 : decode cX3_rainBits 78 = .ok (.iload_n 1, 1) := by decide +kernel
theorem dX3_rainBits_79 : decode cX3_rainBits 79 = .ok (.aload_n 0, 1) := by decide +kernel
theorem dX3_rainBits_80 : decode cX3_rainBits 80 = .ok (.getfield 15, 3) := by decide +kernel
theorem dX3_rainBits_83 : decode cX3_rainBits 83 = .ok (.iload_n 2, 1) := by decide +kernel
theorem dX3_rainBits_84 : decode cX3_rainBits 84 = .ok (.iaload, 1) := by decide +kernel
theorem dX3_rainBits_85 : decode cX3_rainBits 85 = .ok (.ifCond .le 9, 3) := by decide +kernel
theorem dX3_rainBits_88 : decode cX3_rainBits 88 = .ok (.iconst 1, 1) := by decide +kernel
theorem dX3_rainBits_89 : decode cX3_rainBits 89 = .ok (.iload_n 2, 1) := by decide +kernel
theorem dX3_rainBits_90 : decode cX3_rainBits 90 = .ok (.ishl, 1) := by decide +kernel
theorem dX3_rainBits_91 : decode cX3_rainBits 91 = .ok (.goto 4, 3) := by decide +kernel
theorem dX3_rainBits_94 : decode cX3_rainBits 94 = .ok (.iconst 0, 1) := by decide +kernel
theorem dX3_rainBits_95 : decode cX3_rainBits 95 = .ok (.ior, 1) := by decide +kernel
theorem dX3_rainBits_96 : decode cX3_rainBits 96 = .ok (.istore_n 1, 1) := by decide +kernel
theorem dX3_rainBits_97 : decode cX3_rainBits 97 = .ok (.iinc 2 1, 3) := by decide +kernel
theorem dX3_rainBits_100 : decode cX3_rainBits 100 = .ok (.goto (-31), 3) := by decide +kernel
theorem dX3_rainBits_103 : decode cX3_rainBits 103 = .ok (.iload_n 1, 1) := by decide +kernel
theorem dX3_rainBits_104 : decode cX3_rainBits 104 = .ok (.bipush 63, 2) := by decide +kernel
theorem dX3_rainBits_106 : decode cX3_rainBits 106 = .ok (.iand, 1) := by decide +kernel
theorem dX3_rainBits_107 : decode cX3_rainBits 107 = .ok (.ireturn, 1) := by decide +kernel
theorem dX3_hailBits_0 : decode cX3_hailBits 0 = .ok (.iconst 0, 1) := by decide +kernel
theorem dX3_hailBits_1 : decode cX3_hailBits 1 = .ok (.istore_n 1, 1) := by decide +kernel
theorem dX3_hailBits_2 : decode cX3_hailBits 2 = .ok (.iconst 0, 1) := by decide +kernel
theorem dX3_hailBits_3 : decode cX3_hailBits 3 = .ok (.istore_n 2, 1) := by decide +kernel
theorem dX3_hailBits_4 : decode cX3_hailBits 4 = .ok (.iconst 0, 1) := by decide +kernel
theorem dX3_hailBits_5 : decode cX3_hailBits 5 = .ok (.istore_n 3, 1) := by decide +kernel
theorem dX3_hailBits_6 : decode cX3_hailBits 6 = .ok (.iload_n 3, 1) := by decide +kernel
theorem dX3_hailBits_7 : decode cX3_hailBits 7 = .ok (.aload_n 0, 1) := by decide +kernel
theorem dX3_hailBits_8 : decode cX3_hailBits 8 = .ok (.getfield 9, 3) := by decide +kernel
theorem dX3_hailBits_11 : decode cX3_hailBits 11 = .ok (.arraylength, 1) := by decide +kernel
theorem dX3_hailBits_12 : decode cX3_hailBits 12 = .ok (.if_icmp .ge 46, 3) := by decide +kernel
theorem dX3_hailBits_15 : decode cX3_hailBits 15 = .ok (.aload_n 0, 1) := by decide +kernel
theorem dX3_hailBits_16 : decode cX3_hailBits 16 = .ok (.getfield 40, 3) := by decide +kernel
theorem dX3_hailBits_19 : decode cX3_hailBits 19 = .ok (.iload_n 3, 1) := by decide +kernel
theorem dX3_hailBits_20 : decode cX3_hailBits 20 = .ok (.invokestatic 61, 3) := by decide +kernel
theorem dX3_hailBits_23 : decode cX3_hailBits 23 = .ok (.ifCond .eq 14, 3) := by decide +kernel
theorem dX3_hailBits_26 : decode cX3_hailBits 26 = .ok (.iconst 1, 1) := by decide +kernel
theorem dX3_hailBits_27 : decode cX3_hailBits 27 = .ok (.aload_n 0, 1) := by decide +kernel
theorem dX3_hailBits_28 : decode cX3_hailBits 28 = .ok (.getfield 9, 3) := by decide +kernel
theorem dX3_hailBits_31 : decode cX3_hailBits 31 = .ok (.iload_n 3, 1) := by decide +kernel
theorem dX3_hailBits_32 : decode cX3_hailBits 32 = .ok (.iaload, 1) := by decide +kernel
theorem dX3_hailBits_33 : decode cX3_hailBits 33 = .ok (.ishl, 1) := by decide +kernel
theorem dX3_hailBits_34 : decode cX3_hailBits 34 = .ok (.goto 4, 3) := by decide +kernel
theorem dX3_hailBits_37 : decode cX3_hailBits 37 = .ok (.iconst 0, 1) := by decide +kernel
theorem dX3_hailBits_38 : decode cX3_hailBits 38 = .ok (.istore 4, 2) := by decide +kernel
theorem dX3_hailBits_40 : decode cX3_hailBits 40 = .ok (.iload_n 2, 1) := by decide +kernel
theorem dX3_hailBits_41 : decode cX3_hailBits 41 = .ok (.iload_n 1, 1) := by decide +kernel
theorem dX3_hailBits_42 : decode cX3_hailBits 42 = .ok (.iload 4, 2) := by decide +kernel
theorem dX3_hailBits_44 : decode cX3_hailBits 44 = .ok (.iand, 1) := by decide +kernel
theorem dX3_hailBits_45 : decode cX3_hailBits 45 = .ok (.ior, 1) := by decide +kernel
theorem dX3_hailBits_46 : decode cX3_hailBits 46 = .ok (.istore_n 2, 1) := by decide +kernel
theorem dX3_hailBits_47 : decode cX3_hailBits 47 = .ok (.iload_n 1, 1) := by decide +kernel
theorem dX3_hailBits_48 : decode cX3_hailBits 48 = .ok (.iload 4, 2) := by decide +kernel
theorem dX3_hailBits_50 : decode cX3_hailBits 50 = .ok (.ior, 1) := by decide +kernel
theorem dX3_hailBits_51 : decode cX3_hailBits 51 = .ok (.istore_n 1, 1) := by decide +kernel
theorem dX3_hailBits_52 : decode cX3_hailBits 52 = .ok (.iinc 3 1, 3) := by decide +kernel
theorem dX3_hailBits_55 : decode cX3_hailBits 55 = .ok (.goto (-49), 3) := by decide +kernel
theorem dX3_hailBits_58 : decode cX3_hailBits 58 = .ok (.iload_n 2, 1) := by decide +kernel
theorem dX3_hailBits_59 : decode cX3_hailBits 59 = .ok (.ireturn, 1) := by decide +kernel
theorem dX3_needBits_0 : decode cX3_needBits 0 = .ok (.iconst 0, 1) := by decide +kernel
theorem dX3_needBits_1 : decode cX3_needBits 1 = .ok (.istore_n 2, 1) := by decide +kernel
theorem dX3_needBits_2 : decode cX3_needBits 2 = .ok (.iconst 0, 1) := by decide +kernel
theorem dX3_needBits_3 : decode cX3_needBits 3 = .ok (.istore_n 3, 1) := by decide +kernel
theorem dX3_needBits_4 : decode cX3_needBits 4 = .ok (.iload_n 3, 1) := by decide +kernel
theorem dX3_needBits_5 : decode cX3_needBits 5 = .ok (.aload_n 0, 1) := by decide +kernel
theorem dX3_needBits_6 : decode cX3_needBits 6 = .ok (.getfield 24, 3) := by decide +kernel
theorem dX3_needBits_9 : decode cX3_needBits 9 = .ok (.invokevirtual 68, 3) := by decide +kernel
theorem dX3_needBits_12 : decode cX3_needBits 12 = .ok (.if_icmp .ge 28, 3) := by decide +kernel
theorem dX3_needBits_15 : decode cX3_needBits 15 = .ok (.iload_n 2, 1) := by decide +kernel
theorem dX3_needBits_16 : decode cX3_needBits 16 = .ok (.aload_n 0, 1) := by decide +kernel
theorem dX3_needBits_17 : decode cX3_needBits 17 = .ok (.iload_n 3, 1) := by decide +kernel
theorem dX3_needBits_18 : decode cX3_needBits 18 = .ok (.invokevirtual 71, 3) := by decide +kernel
theorem dX3_needBits_21 : decode cX3_needBits 21 = .ok (.iload_n 1, 1) := by decide +kernel
theorem dX3_needBits_22 : decode cX3_needBits 22 = .ok (.if_icmp .ne 9, 3) := by decide +kernel
theorem dX3_needBits_25 : decode cX3_needBits 25 = .ok (.iconst 1, 1) := by decide +kernel
theorem dX3_needBits_26 : decode cX3_needBits 26 = .ok (.iload_n 3, 1) := by decide +kernel
theorem dX3_needBits_27 : decode cX3_needBits 27 = .ok (.ishl, 1) := by decide +kernel
theorem dX3_needBits_28 : decode cX3_needBits 28 = .ok (.goto 4, 3) := by decide +kernel
theorem dX3_needBits_31 : decode cX3_needBits 31 = .ok (.iconst 0, 1) := by decide +kernel
theorem dX3_needBits_32 : decode cX3_needBits 32 = .ok (.ior, 1) := by decide +kernel
theorem dX3_needBits_33 : decode cX3_needBits 33 = .ok (.istore_n 2, 1) := by decide +kernel
theorem dX3_needBits_34 : decode cX3_needBits 34 = .ok (.iinc 3 1, 3) := by decide +kernel
theorem dX3_needBits_37 : decode cX3_needBits 37 = .ok (.goto (-33), 3) := by decide +kernel
theorem dX3_needBits_40 : decode cX3_needBits 40 = .ok (.iload_n 2, 1) := by decide +kernel
theorem dX3_needBits_41 : decode cX3_needBits 41 = .ok (.ireturn, 1) := by decide +kernel
theorem dX3_keptCount_0 : decode cX3_keptCount 0 = .ok (.aload_n 0, 1) := by decide +kernel
theorem dX3_keptCount_1 : decode cX3_keptCount 1 = .ok (.iconst 1, 1) := by decide +kernel
theorem dX3_keptCount_2 : decode cX3_keptCount 2 = .ok (.invokevirtual 74, 3) := by decide +kernel
theorem dX3_keptCount_5 : decode cX3_keptCount 5 = .ok (.invokestatic 77, 3) := by decide +kernel
theorem dX3_keptCount_8 : decode cX3_keptCount 8 = .ok (.ireturn, 1) := by decide +kernel
theorem dX3_raise_0 : decode cX3_raise 0 = .ok (.aload_n 0, 1) := by decide +kernel
theorem dX3_raise_1 : decode cX3_raise 1 = .ok (.getfield 24, 3) := by decide +kernel
theorem dX3_raise_4 : decode cX3_raise 4 = .ok (.iload_n 1, 1) := by decide +kernel
theorem dX3_raise_5 : decode cX3_raise 5 = .ok (.invokevirtual 82, 3) := by decide +kernel
theorem dX3_raise_8 : decode cX3_raise 8 = .ok (.ifCond .eq 11, 3) := by decide +kernel
theorem dX3_raise_11 : decode cX3_raise 11 = .ok (.aload_n 0, 1) := by decide +kernel
theorem dX3_raise_12 : decode cX3_raise 12 = .ok (.iload_n 1, 1) := by decide +kernel
theorem dX3_raise_13 : decode cX3_raise 13 = .ok (.invokevirtual 86, 3) := by decide +kernel
theorem dX3_raise_16 : decode cX3_raise 16 = .ok (.ifCond .eq 5, 3) := by decide +kernel
theorem dX3_raise_19 : decode cX3_raise 19 = .ok (.iconst 0, 1) := by decide +kernel
theorem dX3_raise_20 : decode cX3_raise 20 = .ok (.ireturn, 1) := by decide +kernel
theorem dX3_raise_21 : decode cX3_raise 21 = .ok (.aload_n 0, 1) := by decide +kernel
theorem dX3_raise_22 : decode cX3_raise 22 = .ok (.dup, 1) := by decide +kernel
theorem dX3_raise_23 : decode cX3_raise 23 = .ok (.getfield 40, 3) := by decide +kernel
theorem dX3_raise_26 : decode cX3_raise 26 = .ok (.iconst 1, 1) := by decide +kernel
theorem dX3_raise_27 : decode cX3_raise 27 = .ok (.iload_n 1, 1) := by decide +kernel
theorem dX3_raise_28 : decode cX3_raise 28 = .ok (.ishl, 1) := by decide +kernel
theorem dX3_raise_29 : decode cX3_raise 29 = .ok (.ior, 1) := by decide +kernel
theorem dX3_raise_30 : decode cX3_raise 30 = .ok (.putfield 40, 3) := by decide +kernel
theorem dX3_raise_33 : decode cX3_raise 33 = .ok (.aload_n 0, 1) := by decide +kernel
theorem dX3_raise_34 : decode cX3_raise 34 = .ok (.getfield 24, 3) := by decide +kernel
theorem dX3_raise_37 : decode cX3_raise 37 = .ok (.iload_n 1, 1) := by decide +kernel
theorem dX3_raise_38 : decode cX3_raise 38 = .ok (.invokevirtual 65, 3) := by decide +kernel
theorem dX3_raise_41 : decode cX3_raise 41 = .ok (.iconst 2, 1) := by decide +kernel
theorem dX3_raise_42 : decode cX3_raise 42 = .ok (.if_icmp .ne 14, 3) := by decide +kernel
theorem dX3_raise_45 : decode cX3_raise 45 = .ok (.aload_n 0, 1) := by decide +kernel
theorem dX3_raise_46 : decode cX3_raise 46 = .ok (.aload_n 0, 1) := by decide +kernel
theorem dX3_raise_47 : decode cX3_raise 47 = .ok (.iload_n 1, 1) := by decide +kernel
theorem dX3_raise_48 : decode cX3_raise 48 = .ok (.invokevirtual 89, 3) := by decide +kernel
theorem dX3_raise_51 : decode cX3_raise 51 = .ok (.bipush 7, 2) := by decide +kernel
theorem dX3_raise_53 : decode cX3_raise 53 = .ok (.invokevirtual 92, 3) := by decide +kernel
theorem dX3_raise_56 : decode cX3_raise 56 = .ok (.iconst 1, 1) := by decide +kernel
theorem dX3_raise_57 : decode cX3_raise 57 = .ok (.ireturn, 1) := by decide +kernel
theorem dX3_raiseAll_0 : decode cX3_raiseAll 0 = .ok (.iconst 0, 1) := by decide +kernel
theorem dX3_raiseAll_1 : decode cX3_raiseAll 1 = .ok (.istore_n 2, 1) := by decide +kernel
theorem dX3_raiseAll_2 : decode cX3_raiseAll 2 = .ok (.iload_n 2, 1) := by decide +kernel
theorem dX3_raiseAll_3 : decode cX3_raiseAll 3 = .ok (.iconst 5, 1) := by decide +kernel
theorem dX3_raiseAll_4 : decode cX3_raiseAll 4 = .ok (.if_icmp .ge 23, 3) := by decide +kernel
theorem dX3_raiseAll_7 : decode cX3_raiseAll 7 = .ok (.iload_n 1, 1) := by decide +kernel
theorem dX3_raiseAll_8 : decode cX3_raiseAll 8 = .ok (.iload_n 2, 1) := by decide +kernel
theorem dX3_raiseAll_9 : decode cX3_raiseAll 9 = .ok (.invokestatic 61, 3) := by decide +kernel
theorem dX3_raiseAll_12 : decode cX3_raiseAll 12 = .ok (.ifCond .eq 9, 3) := by decide +kernel
theorem dX3_raiseAll_15 : decode cX3_raiseAll 15 = .ok (.aload_n 0, 1) := by decide +kernel
theorem dX3_raiseAll_16 : decode cX3_raiseAll 16 = .ok (.iload_n 2, 1) := by decide +kernel
theorem dX3_raiseAll_17 : decode cX3_raiseAll 17 = .ok (.invokevirtual 96, 3) := by decide +kernel
theorem dX3_raiseAll_20 : decode cX3_raiseAll 20 = .ok (.pop, 1) := by decide +kernel
theorem dX3_raiseAll_21 : decode cX3_raiseAll 21 = .ok (.iinc 2 1, 3) := by decide +kernel
theorem dX3_raiseAll_24 : decode cX3_raiseAll 24 = .ok (.goto (-22), 3) := by decide +kernel
theorem dX3_raiseAll_27 : decode cX3_raiseAll 27 = .ok (.return_, 1) := by decide +kernel
theorem dX3_lower_0 : decode cX3_lower 0 = .ok (.aload_n 0, 1) := by decide +kernel
theorem dX3_lower_1 : decode cX3_lower 1 = .ok (.getfield 24, 3) := by decide +kernel
theorem dX3_lower_4 : decode cX3_lower 4 = .ok (.iload_n 1, 1) := by decide +kernel
theorem dX3_lower_5 : decode cX3_lower 5 = .ok (.invokevirtual 82, 3) := by decide +kernel
theorem dX3_lower_8 : decode cX3_lower 8 = .ok (.ifCond .eq 11, 3) := by decide +kernel
theorem dX3_lower_11 : decode cX3_lower 11 = .ok (.aload_n 0, 1) := by decide +kernel
theorem dX3_lower_12 : decode cX3_lower 12 = .ok (.iload_n 1, 1) := by decide +kernel
theorem dX3_lower_13 : decode cX3_lower 13 = .ok (.invokevirtual 86, 3) := by decide +kernel
theorem dX3_lower_16 : decode cX3_lower 16 = .ok (.ifCond .ne 5, 3) := by decide +kernel
theorem dX3_lower_19 : decode cX3_lower 19 = .ok (.iconst 0, 1) := by decide +kernel
theorem dX3_lower_20 : decode cX3_lower 20 = .ok (.ireturn, 1) := by decide +kernel
theorem dX3_lower_21 : decode cX3_lower 21 = .ok (.aload_n 0, 1) := by decide +kernel
theorem dX3_lower_22 : decode cX3_lower 22 = .ok (.dup, 1) := by decide +kernel
theorem dX3_lower_23 : decode cX3_lower 23 = .ok (.getfield 40, 3) := by decide +kernel
theorem dX3_lower_26 : decode cX3_lower 26 = .ok (.iconst 1, 1) := by decide +kernel
theorem dX3_lower_27 : decode cX3_lower 27 = .ok (.iload_n 1, 1) := by decide +kernel
theorem dX3_lower_28 : decode cX3_lower 28 = .ok (.ishl, 1) := by decide +kernel
theorem dX3_lower_29 : decode cX3_lower 29 = .ok (.iconst (-1), 1) := by decide +kernel
theorem dX3_lower_30 : decode cX3_lower 30 = .ok (.ixor, 1) := by decide +kernel
theorem dX3_lower_31 : decode cX3_lower 31 = .ok (.iand, 1) := by decide +kernel
theorem dX3_lower_32 : decode cX3_lower 32 = .ok (.putfield 40, 3) := by decide +kernel
theorem dX3_lower_35 : decode cX3_lower 35 = .ok (.aload_n 0, 1) := by decide +kernel
theorem dX3_lower_36 : decode cX3_lower 36 = .ok (.getfield 24, 3) := by decide +kernel
theorem dX3_lower_39 : decode cX3_lower 39 = .ok (.iload_n 1, 1) := by decide +kernel
theorem dX3_lower_40 : decode cX3_lower 40 = .ok (.invokevirtual 65, 3) := by decide +kernel
theorem dX3_lower_43 : decode cX3_lower 43 = .ok (.iconst 1, 1) := by decide +kernel
theorem dX3_lower_44 : decode cX3_lower 44 = .ok (.if_icmp .ne 13, 3) := by decide +kernel
theorem dX3_lower_47 : decode cX3_lower 47 = .ok (.aload_n 0, 1) := by decide +kernel
theorem dX3_lower_48 : decode cX3_lower 48 = .ok (.aload_n 0, 1) := by decide +kernel
theorem dX3_lower_49 : decode cX3_lower 49 = .ok (.iload_n 1, 1) := by decide +kernel
theorem dX3_lower_50 : decode cX3_lower 50 = .ok (.invokevirtual 89, 3) := by decide +kernel
theorem dX3_lower_53 : decode cX3_lower 53 = .ok (.iconst 1, 1) := by decide +kernel
theorem dX3_lower_54 : decode cX3_lower 54 = .ok (.invokevirtual 92, 3) := by decide +kernel
theorem dX3_lower_57 : decode cX3_lower 57 = .ok (.iconst 1, 1) := by decide +kernel
theorem dX3_lower_58 : decode cX3_lower 58 = .ok (.ireturn, 1) := by decide +kernel
theorem dX3_forget_0 : decode cX3_forget 0 = .ok (.aload_n 0, 1) := by decide +kernel
theorem dX3_forget_1 : decode cX3_forget 1 = .ok (.dup, 1) := by decide +kernel
theorem dX3_forget_2 : decode cX3_forget 2 = .ok (.getfield 40, 3) := by decide +kernel
theorem dX3_forget_5 : decode cX3_forget 5 = .ok (.iload_n 1, 1) := by decide +kernel
theorem dX3_forget_6 : decode cX3_forget 6 = .ok (.iconst (-1), 1) := by decide +kernel
theorem dX3_forget_7 : decode cX3_forget 7 = .ok (.ixor, 1) := by decide +kernel
theorem dX3_forget_8 : decode cX3_forget 8 = .ok (.iand, 1) := by decide +kernel
theorem dX3_forget_9 : decode cX3_forget 9 = .ok (.putfield 40, 3) := by decide +kernel
theorem dX3_forget_12 : decode cX3_forget 12 = .ok (.return_, 1) := by decide +kernel
theorem dX3_lastAtLeast_0 : decode cX3_lastAtLeast 0 = .ok (.aload_n 0, 1) := by decide +kernel
theorem dX3_lastAtLeast_1 : decode cX3_lastAtLeast 1 = .ok (.getfield 15, 3) := by decide +kernel
theorem dX3_lastAtLeast_4 : decode cX3_lastAtLeast 4 = .ok (.iload_n 1, 1) := by decide +kernel
theorem dX3_lastAtLeast_5 : decode cX3_lastAtLeast 5 = .ok (.aload_n 0, 1) := by decide +kernel
theorem dX3_lastAtLeast_6 : decode cX3_lastAtLeast 6 = .ok (.getfield 15, 3) := by decide +kernel
theorem dX3_lastAtLeast_9 : decode cX3_lastAtLeast 9 = .ok (.iload_n 1, 1) := by decide +kernel
theorem dX3_lastAtLeast_10 : decode cX3_lastAtLeast 10 = .ok (.invokestatic 53, 3) := by decide +kernel
theorem dX3_lastAtLeast_13 : decode cX3_lastAtLeast 13 = .ok (.iload_n 2, 1) := by decide +kernel
theorem dX3_lastAtLeast_14 : decode cX3_lastAtLeast 14 = .ok (.invokestatic 99, 3) := by decide +kernel
theorem dX3_lastAtLeast_17 : decode cX3_lastAtLeast 17 = .ok (.invokestatic 105, 3) := by decide +kernel
theorem dX3_lastAtLeast_20 : decode cX3_lastAtLeast 20 = .ok (.return_, 1) := by decide +kernel
theorem dX3_place_0 : decode cX3_place 0 = .ok (.aload_n 0, 1) := by decide +kernel
theorem dX3_place_1 : decode cX3_place 1 = .ok (.getfield 9, 3) := by decide +kernel
theorem dX3_place_4 : decode cX3_place 4 = .ok (.iload_n 1, 1) := by decide +kernel
theorem dX3_place_5 : decode cX3_place 5 = .ok (.iload_n 2, 1) := by decide +kernel
theorem dX3_place_6 : decode cX3_place 6 = .ok (.invokestatic 105, 3) := by decide +kernel
theorem dX3_place_9 : decode cX3_place 9 = .ok (.return_, 1) := by decide +kernel
theorem dX3_canMove_0 : decode cX3_canMove 0 = .ok (.aload_n 0, 1) := by decide +kernel
theorem dX3_canMove_1 : decode cX3_canMove 1 = .ok (.getfield 24, 3) := by decide +kernel
theorem dX3_canMove_4 : decode cX3_canMove 4 = .ok (.iload_n 1, 1) := by decide +kernel
theorem dX3_canMove_5 : decode cX3_canMove 5 = .ok (.invokevirtual 82, 3) := by decide +kernel
theorem dX3_canMove_8 : decode cX3_canMove 8 = .ok (.ifCond .eq 36, 3) := by decide +kernel
theorem dX3_canMove_11 : decode cX3_canMove 11 = .ok (.aload_n 0, 1) := by decide +kernel
theorem dX3_canMove_12 : decode cX3_canMove 12 = .ok (.iload_n 1, 1) := by decide +kernel
theorem dX3_canMove_13 : decode cX3_canMove 13 = .ok (.invokevirtual 86, 3) := by decide +kernel
theorem dX3_canMove_16 : decode cX3_canMove 16 = .ok (.ifCond .ne 28, 3) := by decide +kernel
theorem dX3_canMove_19 : decode cX3_canMove 19 = .ok (.aload_n 0, 1) := by decide +kernel
theorem dX3_canMove_20 : decode cX3_canMove 20 = .ok (.iload_n 1, 1) := by decide +kernel
theorem dX3_canMove_21 : decode cX3_canMove 21 = .ok (.invokevirtual 89, 3) := by decide +kernel
theorem dX3_canMove_24 : decode cX3_canMove 24 = .ok (.iload_n 2, 1) := by decide +kernel
theorem dX3_canMove_25 : decode cX3_canMove 25 = .ok (.ifCond .eq 7, 3) := by decide +kernel
theorem dX3_canMove_28 : decode cX3_canMove 28 = .ok (.iconst 1, 1) := by decide +kernel
theorem dX3_canMove_29 : decode cX3_canMove 29 = .ok (.goto 4, 3) := by decide +kernel
theorem dX3_canMove_32 : decode cX3_canMove 32 = .ok (.iconst (-1), 1) := by decide +kernel
theorem dX3_canMove_33 : decode cX3_canMove 33 = .ok (.iadd, 1) := by decide +kernel
theorem dX3_canMove_34 : decode cX3_canMove 34 = .ok (.invokestatic 109, 3) := by decide +kernel
theorem dX3_canMove_37 : decode cX3_canMove 37 = .ok (.ifCond .eq 7, 3) := by decide +kernel
theorem dX3_canMove_40 : decode cX3_canMove 40 = .ok (.iconst 1, 1) := by decide +kernel
theorem dX3_canMove_41 : decode cX3_canMove 41 = .ok (.goto 4, 3) := by decide +kernel
theorem dX3_canMove_44 : decode cX3_canMove 44 = .ok (.iconst 0, 1) := by decide +kernel
theorem dX3_canMove_45 : decode cX3_canMove 45 = .ok (.ireturn, 1) := by decide +kernel
theorem dX3_move_0 : decode cX3_move 0 = .ok (.aload_n 0, 1) := by decide +kernel
theorem dX3_move_1 : decode cX3_move 1 = .ok (.iload_n 1, 1) := by decide +kernel
theorem dX3_move_2 : decode cX3_move 2 = .ok (.iload_n 2, 1) := by decide +kernel
theorem dX3_move_3 : decode cX3_move 3 = .ok (.invokevirtual 112, 3) := by decide +kernel
theorem dX3_move_6 : decode cX3_move 6 = .ok (.ifCond .ne 5, 3) := by decide +kernel
theorem dX3_move_9 : decode cX3_move 9 = .ok (.iconst 0, 1) := by decide +kernel
theorem dX3_move_10 : decode cX3_move 10 = .ok (.ireturn, 1) := by decide +kernel
theorem dX3_move_11 : decode cX3_move 11 = .ok (.aload_n 0, 1) := by decide +kernel
theorem dX3_move_12 : decode cX3_move 12 = .ok (.iload_n 1, 1) := by decide +kernel
theorem dX3_move_13 : decode cX3_move 13 = .ok (.aload_n 0, 1) := by decide +kernel
theorem dX3_move_14 : decode cX3_move 14 = .ok (.iload_n 1, 1) := by decide +kernel
theorem dX3_move_15 : decode cX3_move 15 = .ok (.invokevirtual 89, 3) := by decide +kernel
theorem dX3_move_18 : decode cX3_move 18 = .ok (.iload_n 2, 1) := by decide +kernel
theorem dX3_move_19 : decode cX3_move 19 = .ok (.ifCond .eq 7, 3) := by decide +kernel
theorem dX3_move_22 : decode cX3_move 22 = .ok (.iconst 1, 1) := by decide +kernel
theorem dX3_move_23 : decode cX3_move 23 = .ok (.goto 4, 3) := by decide +kernel
theorem dX3_move_26 : decode cX3_move 26 = .ok (.iconst (-1), 1) := by decide +kernel
theorem dX3_move_27 : decode cX3_move 27 = .ok (.iadd, 1) := by decide +kernel
theorem dX3_move_28 : decode cX3_move 28 = .ok (.invokevirtual 116, 3) := by decide +kernel
theorem dX3_move_31 : decode cX3_move 31 = .ok (.iconst 1, 1) := by decide +kernel
theorem dX3_move_32 : decode cX3_move 32 = .ok (.ireturn, 1) := by decide +kernel
theorem dX3_passHours_0 : decode cX3_passHours 0 = .ok (.iconst 0, 1) := by decide +kernel
theorem dX3_passHours_1 : decode cX3_passHours 1 = .ok (.istore_n 2, 1) := by decide +kernel
theorem dX3_passHours_2 : decode cX3_passHours 2 = .ok (.iload_n 2, 1) := by decide +kernel
theorem dX3_passHours_3 : decode cX3_passHours 3 = .ok (.iload_n 1, 1) := by decide +kernel
theorem dX3_passHours_4 : decode cX3_passHours 4 = .ok (.if_icmp .ge 14, 3) := by decide +kernel
theorem dX3_passHours_7 : decode cX3_passHours 7 = .ok (.aload_n 0, 1) := by decide +kernel
theorem dX3_passHours_8 : decode cX3_passHours 8 = .ok (.invokevirtual 119, 3) := by decide +kernel
theorem dX3_passHours_11 : decode cX3_passHours 11 = .ok (.pop, 1) := by decide +kernel
theorem dX3_passHours_12 : decode cX3_passHours 12 = .ok (.iinc 2 1, 3) := by decide +kernel
theorem dX3_passHours_15 : decode cX3_passHours 15 = .ok (.goto (-13), 3) := by decide +kernel
theorem dX3_passHours_18 : decode cX3_passHours 18 = .ok (.return_, 1) := by decide +kernel
theorem dX3_passHour_0 : decode cX3_passHour 0 = .ok (.aload_n 0, 1) := by decide +kernel
theorem dX3_passHour_1 : decode cX3_passHour 1 = .ok (.invokevirtual 122, 3) := by decide +kernel
theorem dX3_passHour_4 : decode cX3_passHour 4 = .ok (.istore_n 1, 1) := by decide +kernel
theorem dX3_passHour_5 : decode cX3_passHour 5 = .ok (.aload_n 0, 1) := by decide +kernel
theorem dX3_passHour_6 : decode cX3_passHour 6 = .ok (.invokevirtual 125, 3) := by decide +kernel
theorem dX3_passHour_9 : decode cX3_passHour 9 = .ok (.istore_n 2, 1) := by decide +kernel
theorem dX3_passHour_10 : decode cX3_passHour 10 = .ok (.iconst 0, 1) := by decide +kernel
theorem dX3_passHour_11 : decode cX3_passHour 11 = .ok (.istore_n 3, 1) := by decide +kernel
theorem dX3_passHour_12 : decode cX3_passHour 12 = .ok (.iload_n 3, 1) := by decide +kernel
theorem dX3_passHour_13 : decode cX3_passHour 13 = .ok (.aload_n 0, 1) := by decide +kernel
theorem dX3_passHour_14 : decode cX3_passHour 14 = .ok (.getfield 18, 3) := by decide +kernel
theorem dX3_passHour_17 : decode cX3_passHour 17 = .ok (.arraylength, 1) := by decide +kernel
theorem dX3_passHour_18 : decode cX3_passHour 18 = .ok (.if_icmp .ge 43, 3) := by decide +kernel
theorem dX3_passHour_21 : decode cX3_passHour 21 = .ok (.aload_n 0, 1) := by decide +kernel
theorem dX3_passHour_22 : decode cX3_passHour 22 = .ok (.getfield 18, 3) := by decide +kernel
theorem dX3_passHour_25 : decode cX3_passHour 25 = .ok (.iload_n 3, 1) := by decide +kernel
theorem dX3_passHour_26 : decode cX3_passHour 26 = .ok (.dup2, 1) := by decide +kernel
theorem dX3_passHour_27 : decode cX3_passHour 27 = .ok (.iaload, 1) := by decide +kernel
theorem dX3_passHour_28 : decode cX3_passHour 28 = .ok (.iload_n 2, 1) := by decide +kernel
theorem dX3_passHour_29 : decode cX3_passHour 29 = .ok (.iload_n 3, 1) := by decide +kernel
theorem dX3_passHour_30 : decode cX3_passHour 30 = .ok (.invokestatic 61, 3) := by decide +kernel
theorem dX3_passHour_33 : decode cX3_passHour 33 = .ok (.ifCond .eq 7, 3) := by decide +kernel
theorem dX3_passHour_36 : decode cX3_passHour 36 = .ok (.iconst 2, 1) := by decide +kernel
theorem dX3_passHour_37 : decode cX3_passHour 37 = .ok (.goto 16, 3) := by decide +kernel
theorem dX3_passHour_40 : decode cX3_passHour 40 = .ok (.iload_n 1, 1) := by decide +kernel
theorem dX3_passHour_41 : decode cX3_passHour 41 = .ok (.iload_n 3, 1) := by decide +kernel
theorem dX3_passHour_42 : decode cX3_passHour 42 = .ok (.invokestatic 61, 3) := by decide +kernel
theorem dX3_passHour_45 : decode cX3_passHour 45 = .ok (.ifCond .eq 7, 3) := by decide +kernel
theorem dX3_passHour_48 : decode cX3_passHour 48 = .ok (.iconst 1, 1) := by decide +kernel
theorem dX3_passHour_49 : decode cX3_passHour 49 = .ok (.goto 4, 3) := by decide +kernel
theorem dX3_passHour_52 : decode cX3_passHour 52 = .ok (.iconst 0, 1) := by decide +kernel
theorem dX3_passHour_53 : decode cX3_passHour 53 = .ok (.iadd, 1) := by decide +kernel
theorem dX3_passHour_54 : decode cX3_passHour 54 = .ok (.iastore, 1) := by decide +kernel
theorem dX3_passHour_55 : decode cX3_passHour 55 = .ok (.iinc 3 1, 3) := by decide +kernel
theorem dX3_passHour_58 : decode cX3_passHour 58 = .ok (.goto (-46), 3) := by decide +kernel
theorem dX3_passHour_61 : decode cX3_passHour 61 = .ok (.iconst 0, 1) := by decide +kernel
theorem dX3_passHour_62 : decode cX3_passHour 62 = .ok (.istore_n 3, 1) := by decide +kernel
theorem dX3_passHour_63 : decode cX3_passHour 63 = .ok (.iload_n 3, 1) := by decide +kernel
theorem dX3_passHour_64 : decode cX3_passHour 64 = .ok (.aload_n 0, 1) := by decide +kernel
theorem dX3_passHour_65 : decode cX3_passHour 65 = .ok (.getfield 24, 3) := by decide +kernel
theorem dX3_passHour_68 : decode cX3_passHour 68 = .ok (.invokevirtual 68, 3) := by decide +kernel
theorem dX3_passHour_71 : decode cX3_passHour 71 = .ok (.if_icmp .ge 42, 3) := by decide +kernel
theorem dX3_passHour_74 : decode cX3_passHour 74 = .ok (.aload_n 0, 1) := by decide +kernel
theorem dX3_passHour_75 : decode cX3_passHour 75 = .ok (.iload_n 3, 1) := by decide +kernel
theorem dX3_passHour_76 : decode cX3_passHour 76 = .ok (.invokevirtual 71, 3) := by decide +kernel
theorem dX3_passHour_79 : decode cX3_passHour 79 = .ok (.ifCond .ne 28, 3) := by decide +kernel
theorem dX3_passHour_82 : decode cX3_passHour 82 = .ok (.aload_n 0, 1) := by decide +kernel
theorem dX3_passHour_83 : decode cX3_passHour 83 = .ok (.getfield 21, 3) := by decide +kernel
theorem dX3_passHour_86 : decode cX3_passHour 86 = .ok (.iload_n 3, 1) := by decide +kernel
theorem dX3_passHour_87 : decode cX3_passHour 87 = .ok (.aload_n 0, 1) := by decide +kernel
theorem dX3_passHour_88 : decode cX3_passHour 88 = .ok (.iload_n 3, 1) := by decide +kernel
theorem dX3_passHour_89 : decode cX3_passHour 89 = .ok (.iload_n 1, 1) := by decide +kernel
theorem dX3_passHour_90 : decode cX3_passHour 90 = .ok (.aload_n 0, 1) := by decide +kernel
theorem dX3_passHour_91 : decode cX3_passHour 91 = .ok (.getfield 24, 3) := by decide +kernel
theorem dX3_passHour_94 : decode cX3_passHour 94 = .ok (.iload_n 3, 1) := by decide +kernel
theorem dX3_passHour_95 : decode cX3_passHour 95 = .ok (.invokevirtual 128, 3) := by decide +kernel
theorem dX3_passHour_98 : decode cX3_passHour 98 = .ok (.invokestatic 61, 3) := by decide +kernel
theorem dX3_passHour_101 : decode cX3_passHour 101 = .ok (.invokevirtual 131, 3) := by decide +kernel
theorem dX3_passHour_104 : decode cX3_passHour 104 = .ok (.invokestatic 105, 3) := by decide +kernel
theorem dX3_passHour_107 : decode cX3_passHour 107 = .ok (.iinc 3 1, 3) := by decide +kernel
theorem dX3_passHour_110 : decode cX3_passHour 110 = .ok (.goto (-47), 3) := by decide +kernel
theorem dX3_passHour_113 : decode cX3_passHour 113 = .ok (.iconst 0, 1) := by decide +kernel
theorem dX3_passHour_114 : decode cX3_passHour 114 = .ok (.istore_n 3, 1) := by decide +kernel
theorem dX3_passHour_115 : decode cX3_passHour 115 = .ok (.iload_n 3, 1) := by decide +kernel
theorem dX3_passHour_116 : decode cX3_passHour 116 = .ok (.aload_n 0, 1) := by decide +kernel
theorem dX3_passHour_117 : decode cX3_passHour 117 = .ok (.getfield 15, 3) := by decide +kernel
theorem dX3_passHour_120 : decode cX3_passHour 120 = .ok (.arraylength, 1) := by decide +kernel
theorem dX3_passHour_121 : decode cX3_passHour 121 = .ok (.if_icmp .ge 27, 3) := by decide +kernel
theorem dX3_passHour_124 : decode cX3_passHour 124 = .ok (.aload_n 0, 1) := by decide +kernel
theorem dX3_passHour_125 : decode cX3_passHour 125 = .ok (.getfield 15, 3) := by decide +kernel
theorem dX3_passHour_128 : decode cX3_passHour 128 = .ok (.iload_n 3, 1) := by decide +kernel
theorem dX3_passHour_129 : decode cX3_passHour 129 = .ok (.aload_n 0, 1) := by decide +kernel
theorem dX3_passHour_130 : decode cX3_passHour 130 = .ok (.getfield 15, 3) := by decide +kernel
theorem dX3_passHour_133 : decode cX3_passHour 133 = .ok (.iload_n 3, 1) := by decide +kernel
theorem dX3_passHour_134 : decode cX3_passHour 134 = .ok (.iaload, 1) := by decide +kernel
theorem dX3_passHour_135 : decode cX3_passHour 135 = .ok (.iconst 1, 1) := by decide +kernel
theorem dX3_passHour_136 : decode cX3_passHour 136 = .ok (.isub, 1) := by decide +kernel
theorem dX3_passHour_137 : decode cX3_passHour 137 = .ok (.iconst 0, 1) := by decide +kernel
theorem dX3_passHour_138 : decode cX3_passHour 138 = .ok (.invokestatic 99, 3) := by decide +kernel
theorem dX3_passHour_141 : decode cX3_passHour 141 = .ok (.iastore, 1) := by decide +kernel
theorem dX3_passHour_142 : decode cX3_passHour 142 = .ok (.iinc 3 1, 3) := by decide +kernel
theorem dX3_passHour_145 : decode cX3_passHour 145 = .ok (.goto (-30), 3) := by decide +kernel
theorem dX3_passHour_148 : decode cX3_passHour 148 = .ok (.aload_n 0, 1) := by decide +kernel
theorem dX3_passHour_149 : decode cX3_passHour 149 = .ok (.dup, 1) := by decide +kernel
theorem dX3_passHour_150 : decode cX3_passHour 150 = .ok (.getfield 44, 3) := by decide +kernel
theorem dX3_passHour_153 : decode cX3_passHour 153 = .ok (.iconst 1, 1) := by decide +kernel
theorem dX3_passHour_154 : decode cX3_passHour 154 = .ok (.iadd, 1) := by decide +kernel
theorem dX3_passHour_155 : decode cX3_passHour 155 = .ok (.putfield 44, 3) := by decide +kernel
theorem dX3_passHour_158 : decode cX3_passHour 158 = .ok (.iload_n 1, 1) := by decide +kernel
theorem dX3_passHour_159 : decode cX3_passHour 159 = .ok (.ireturn, 1) := by decide +kernel
theorem dX3_fateInHour_0 : decode cX3_fateInHour 0 = .ok (.aload_n 0, 1) := by decide +kernel
theorem dX3_fateInHour_1 : decode cX3_fateInHour 1 = .ok (.getfield 24, 3) := by decide +kernel
theorem dX3_fateInHour_4 : decode cX3_fateInHour 4 = .ok (.iload_n 1, 1) := by decide +kernel
theorem dX3_fateInHour_5 : decode cX3_fateInHour 5 = .ok (.invokevirtual 135, 3) := by decide +kernel
theorem dX3_fateInHour_8 : decode cX3_fateInHour 8 = .ok (.istore_n 3, 1) := by decide +kernel
theorem dX3_fateInHour_9 : decode cX3_fateInHour 9 = .ok (.aload_n 0, 1) := by decide +kernel
theorem dX3_fateInHour_10 : decode cX3_fateInHour 10 = .ok (.getfield 24, 3) := by decide +kernel
theorem dX3_fateInHour_13 : decode cX3_fateInHour 13 = .ok (.iload_n 1, 1) := by decide +kernel
theorem dX3_fateInHour_14 : decode cX3_fateInHour 14 = .ok (.invokevirtual 138, 3) := by decide +kernel
theorem dX3_fateInHour_17 : decode cX3_fateInHour 17 = .ok (.iconst 1, 1) := by decide +kernel
theorem dX3_fateInHour_18 : decode cX3_fateInHour 18 = .ok (.if_icmp .ne 25, 3) := by decide +kernel
theorem dX3_fateInHour_21 : decode cX3_fateInHour 21 = .ok (.aload_n 0, 1) := by decide +kernel
theorem dX3_fateInHour_22 : decode cX3_fateInHour 22 = .ok (.aload_n 0, 1) := by decide +kernel
theorem dX3_fateInHour_23 : decode cX3_fateInHour 23 = .ok (.getfield 24, 3) := by decide +kernel
theorem dX3_fateInHour_26 : decode cX3_fateInHour 26 = .ok (.iload_n 1, 1) := by decide +kernel
theorem dX3_fateInHour_27 : decode cX3_fateInHour 27 = .ok (.invokevirtual 128, 3) := by decide +kernel
theorem dX3_fateInHour_30 : decode cX3_fateInHour 30 = .ok (.invokevirtual 141, 3) := by decide +kernel
theorem dX3_fateInHour_33 : decode cX3_fateInHour 33 = .ok (.iload_n 3, 1) := by decide +kernel
theorem dX3_fateInHour_34 : decode cX3_fateInHour 34 = .ok (.if_icmp .lt 7, 3) := by decide +kernel
theorem dX3_fateInHour_37 : decode cX3_fateInHour 37 = .ok (.iconst 1, 1) := by decide +kernel
theorem dX3_fateInHour_38 : decode cX3_fateInHour 38 = .ok (.goto 4, 3) := by decide +kernel
theorem dX3_fateInHour_41 : decode cX3_fateInHour 41 = .ok (.iconst 0, 1) := by decide +kernel
theorem dX3_fateInHour_42 : decode cX3_fateInHour 42 = .ok (.ireturn, 1) := by decide +kernel
theorem dX3_fateInHour_43 : decode cX3_fateInHour 43 = .ok (.aload_n 0, 1) := by decide +kernel
theorem dX3_fateInHour_44 : decode cX3_fateInHour 44 = .ok (.getfield 44, 3) := by decide +kernel
theorem dX3_fateInHour_47 : decode cX3_fateInHour 47 = .ok (.iload_n 3, 1) := by decide +kernel
theorem dX3_fateInHour_48 : decode cX3_fateInHour 48 = .ok (.if_icmp .ne 7, 3) := by decide +kernel
theorem dX3_fateInHour_51 : decode cX3_fateInHour 51 = .ok (.iconst 1, 1) := by decide +kernel
theorem dX3_fateInHour_52 : decode cX3_fateInHour 52 = .ok (.goto 4, 3) := by decide +kernel
theorem dX3_fateInHour_55 : decode cX3_fateInHour 55 = .ok (.iconst 0, 1) := by decide +kernel
theorem dX3_fateInHour_56 : decode cX3_fateInHour 56 = .ok (.istore 4, 2) := by decide +kernel
theorem dX3_fateInHour_58 : decode cX3_fateInHour 58 = .ok (.iload_n 2, 1) := by decide +kernel
theorem dX3_fateInHour_59 : decode cX3_fateInHour 59 = .ok (.ifCond .eq 21, 3) := by decide +kernel
theorem dX3_fateInHour_62 : decode cX3_fateInHour 62 = .ok (.iload 4, 2) := by decide +kernel
theorem dX3_fateInHour_64 : decode cX3_fateInHour 64 = .ok (.ifCond .ne 14, 3) := by decide +kernel
theorem dX3_fateInHour_67 : decode cX3_fateInHour 67 = .ok (.aload_n 0, 1) := by decide +kernel
theorem dX3_fateInHour_68 : decode cX3_fateInHour 68 = .ok (.getfield 24, 3) := by decide +kernel
theorem dX3_fateInHour_71 : decode cX3_fateInHour 71 = .ok (.iload_n 1, 1) := by decide +kernel
theorem dX3_fateInHour_72 : decode cX3_fateInHour 72 = .ok (.invokevirtual 138, 3) := by decide +kernel
theorem dX3_fateInHour_75 : decode cX3_fateInHour 75 = .ok (.ifCond .ne 5, 3) := by decide +kernel
theorem dX3_fateInHour_78 : decode cX3_fateInHour 78 = .ok (.iconst 2, 1) := by decide +kernel
theorem dX3_fateInHour_79 : decode cX3_fateInHour 79 = .ok (.ireturn, 1) := by decide +kernel
theorem dX3_fateInHour_80 : decode cX3_fateInHour 80 = .ok (.iload 4, 2) := by decide +kernel
theorem dX3_fateInHour_82 : decode cX3_fateInHour 82 = .ok (.ifCond .eq 7, 3) := by decide +kernel
theorem dX3_fateInHour_85 : decode cX3_fateInHour 85 = .ok (.iconst 1, 1) := by decide +kernel
theorem dX3_fateInHour_86 : decode cX3_fateInHour 86 = .ok (.goto 4, 3) := by decide +kernel
theorem dX3_fateInHour_89 : decode cX3_fateInHour 89 = .ok (.iconst 0, 1) := by decide +kernel
theorem dX3_fateInHour_90 : decode cX3_fateInHour 90 = .ok (.ireturn, 1) := by decide +kernel
theorem dX4_init_0 : decode cX4_init 0 = .ok (.aload_n 0, 1) := by decide +kernel
theorem dX4_init_1 : decode cX4_init 1 = .ok (.invokespecial 3, 3) := by decide +kernel
theorem dX4_init_4 : decode cX4_init 4 = .ok (.aload_n 0, 1) := by decide +kernel
theorem dX4_init_5 : decode cX4_init 5 = .ok (.bipush 48, 2) := by decide +kernel
theorem dX4_init_7 : decode cX4_init 7 = .ok (.newarray .int, 2) := by decide +kernel
theorem dX4_init_9 : decode cX4_init 9 = .ok (.putfield 9, 3) := by decide +kernel
theorem dX4_init_12 : decode cX4_init 12 = .ok (.return_, 1) := by decide +kernel
theorem dX4_length_0 : decode cX4_length 0 = .ok (.aload_n 0, 1) := by decide +kernel
theorem dX4_length_1 : decode cX4_length 1 = .ok (.getfield 15, 3) := by decide +kernel
theorem dX4_length_4 : decode cX4_length 4 = .ok (.ireturn, 1) := by decide +kernel
theorem dX4_clear_0 : decode cX4_clear 0 = .ok (.aload_n 0, 1) := by decide +kernel
theorem dX4_clear_1 : decode cX4_clear 1 = .ok (.iconst 0, 1) := by decide +kernel
theorem dX4_clear_2 : decode cX4_clear 2 = .ok (.putfield 15, 3) := by decide +kernel
theorem dX4_clear_5 : decode cX4_clear 5 = .ok (.return_, 1) := by decide +kernel
theorem dX4_append_0 : decode cX4_append 0 = .ok (.aload_n 0, 1) := by decide +kernel
theorem dX4_append_1 : decode cX4_append 1 = .ok (.getfield 15, 3) := by decide +kernel
theorem dX4_append_4 : decode cX4_append 4 = .ok (.aload_n 0, 1) := by decide +kernel
theorem dX4_append_5 : decode cX4_append 5 = .ok (.getfield 9, 3) := by decide +kernel
theorem dX4_append_8 : decode cX4_append 8 = .ok (.arraylength, 1) := by decide +kernel
theorem dX4_append_9 : decode cX4_append 9 = .ok (.if_icmp .lt 5, 3) := by decide +kernel
theorem dX4_append_12 : decode cX4_append 12 = .ok (.iconst 0, 1) := by decide +kernel
theorem dX4_append_13 : decode cX4_append 13 = .ok (.ireturn, 1) := by decide +kernel
theorem dX4_append_14 : decode cX4_append 14 = .ok (.aload_n 0, 1) := by decide +kernel
theorem dX4_append_15 : decode cX4_append 15 = .ok (.getfield 9, 3) := by decide +kernel
theorem dX4_append_18 : decode cX4_append 18 = .ok (.aload_n 0, 1) := by decide +kernel
theorem dX4_append_19 : decode cX4_append 19 = .ok (.getfield 15, 3) := by decide +kernel
theorem dX4_append_22 : decode cX4_append 22 = .ok (.iload_n 1, 1) := by decide +kernel
theorem dX4_append_23 : decode cX4_append 23 = .ok (.invokestatic 19, 3) := by decide +kernel
theorem dX4_append_26 : decode cX4_append 26 = .ok (.aload_n 0, 1) := by decide +kernel
theorem dX4_append_27 : decode cX4_append 27 = .ok (.dup, 1) := by decide +kernel
theorem dX4_append_28 : decode cX4_append 28 = .ok (.getfield 15, 3) := by decide +kernel
theorem dX4_append_31 : decode cX4_append 31 = .ok (.iconst 1, 1) := by decide +kernel
theorem dX4_append_32 : decode cX4_append 32 = .ok (.iadd, 1) := by decide +kernel
theorem dX4_append_33 : decode cX4_append 33 = .ok (.putfield 15, 3) := by decide +kernel
theorem dX4_append_36 : decode cX4_append 36 = .ok (.iconst 1, 1) := by decide +kernel
theorem dX4_append_37 : decode cX4_append 37 = .ok (.ireturn, 1) := by decide +kernel
theorem dX4_byteAt_0 : decode cX4_byteAt 0 = .ok (.aload_n 0, 1) := by decide +kernel
theorem dX4_byteAt_1 : decode cX4_byteAt 1 = .ok (.getfield 9, 3) := by decide +kernel
theorem dX4_byteAt_4 : decode cX4_byteAt 4 = .ok (.iload_n 1, 1) := by decide +kernel
theorem dX4_byteAt_5 : decode cX4_byteAt 5 = .ok (.invokestatic 23, 3) := by decide +kernel
theorem dX4_byteAt_8 : decode cX4_byteAt 8 = .ok (.ireturn, 1) := by decide +kernel
theorem dX4_figureAt_0 : decode cX4_figureAt 0 = .ok (.aload_n 0, 1) := by decide +kernel
theorem dX4_figureAt_1 : decode cX4_figureAt 1 = .ok (.iload_n 1, 1) := by decide +kernel
theorem dX4_figureAt_2 : decode cX4_figureAt 2 = .ok (.invokevirtual 27, 3) := by decide +kernel
theorem dX4_figureAt_5 : decode cX4_figureAt 5 = .ok (.bipush 48, 2) := by decide +kernel
theorem dX4_figureAt_7 : decode cX4_figureAt 7 = .ok (.isub, 1) := by decide +kernel
theorem dX4_figureAt_8 : decode cX4_figureAt 8 = .ok (.ireturn, 1) := by decide +kernel
theorem dX4_firstFault_0 : decode cX4_firstFault 0 = .ok (.aload_n 0, 1) := by decide +kernel
theorem dX4_firstFault_1 : decode cX4_firstFault 1 = .ok (.getfield 15, 3) := by decide +kernel
theorem dX4_firstFault_4 : decode cX4_firstFault 4 = .ok (.ifCond .eq 13, 3) := by decide +kernel
theorem dX4_firstFault_7 : decode cX4_firstFault 7 = .ok (.aload_n 0, 1) := by decide +kernel
theorem dX4_firstFault_8 : decode cX4_firstFault 8 = .ok (.iconst 0, 1) := by decide +kernel
theorem dX4_firstFault_9 : decode cX4_firstFault 9 = .ok (.invokevirtual 27, 3) := by decide +kernel
theorem dX4_firstFault_12 : decode cX4_firstFault 12 = .ok (.bipush 85, 2) := by decide +kernel
theorem dX4_firstFault_14 : decode cX4_firstFault 14 = .ok (.if_icmp .eq 5, 3) := by decide +kernel
theorem dX4_firstFault_17 : decode cX4_firstFault 17 = .ok (.iconst 0, 1) := by decide +kernel
theorem dX4_firstFault_18 : decode cX4_firstFault 18 = .ok (.ireturn, 1) := by decide +kernel
theorem dX4_firstFault_19 : decode cX4_firstFault 19 = .ok (.iconst 0, 1) := by decide +kernel
theorem dX4_firstFault_20 : decode cX4_firstFault 20 = .ok (.istore_n 1, 1) := by decide +kernel
theorem dX4_firstFault_21 : decode cX4_firstFault 21 = .ok (.iconst 0, 1) := by decide +kernel
theorem dX4_firstFault_22 : decode cX4_firstFault 22 = .ok (.istore_n 2, 1) := by decide +kernel
theorem dX4_firstFault_23 : decode cX4_firstFault 23 = .ok (.iconst 1, 1) := by decide +kernel
theorem dX4_firstFault_24 : decode cX4_firstFault 24 = .ok (.istore_n 3, 1) := by decide +kernel
theorem dX4_firstFault_25 : decode cX4_firstFault 25 = .ok (.iconst 1, 1) := by decide +kernel
theorem dX4_firstFault_26 : decode cX4_firstFault 26 = .ok (.istore 4, 2) := by decide +kernel
theorem dX4_firstFault_28 : decode cX4_firstFault 28 = .ok (.iconst 1, 1) := by decide +kernel
theorem dX4_firstFault_29 : decode cX4_firstFault 29 = .ok (.istore 5, 2) := by decide +kernel
theorem dX4_firstFault_31 : decode cX4_firstFault 31 = .ok (.iload 5, 2) := by decide +kernel
theorem dX4_firstFault_33 : decode cX4_firstFault 33 = .ok (.aload_n 0, 1) := by decide +kernel
theorem dX4_firstFault_34 : decode cX4_firstFault 34 = .ok (.getfield 15, 3) := by decide +kernel
theorem dX4_firstFault_37 : decode cX4_firstFault 37 = .ok (.if_icmp .ge 137, 3) := by decide +kernel
theorem dX4_firstFault_40 : decode cX4_firstFault 40 = .ok (.iload 5, 2) := by decide +kernel
theorem dX4_firstFault_42 : decode cX4_firstFault 42 = .ok (.iload 4, 2) := by decide +kernel
theorem dX4_firstFault_44 : decode cX4_firstFault 44 = .ok (.if_icmp .ne 109, 3) := by decide +kernel
theorem dX4_firstFault_47 : decode cX4_firstFault 47 = .ok (.aload_n 0, 1) := by decide +kernel
theorem dX4_firstFault_48 : decode cX4_firstFault 48 = .ok (.iload 5, 2) := by decide +kernel
theorem dX4_firstFault_50 : decode cX4_firstFault 50 = .ok (.invokevirtual 27, 3) := by decide +kernel
theorem dX4_firstFault_53 : decode cX4_firstFault 53 = .ok (.bipush 87, 2) := by decide +kernel
theorem dX4_firstFault_55 : decode cX4_firstFault 55 = .ok (.if_icmp .ne 7, 3) := by decide +kernel
theorem dX4_firstFault_58 : decode cX4_firstFault 58 = .ok (.iconst 1, 1) := by decide +kernel
theorem dX4_firstFault_59 : decode cX4_firstFault 59 = .ok (.goto 4, 3) := by decide +kernel
theorem dX4_firstFault_62 : decode cX4_firstFault 62 = .ok (.iconst 0, 1) := by decide +kernel
theorem dX4_firstFault_63 : decode cX4_firstFault 63 = .ok (.istore 6, 2) := by decide +kernel
theorem dX4_firstFault_65 : decode cX4_firstFault 65 = .ok (.aload_n 0, 1) := by decide +kernel
theorem dX4_firstFault_66 : decode cX4_firstFault 66 = .ok (.iload 5, 2) := by decide +kernel
theorem dX4_firstFault_68 : decode cX4_firstFault 68 = .ok (.invokevirtual 27, 3) := by decide +kernel
theorem dX4_firstFault_71 : decode cX4_firstFault 71 = .ok (.bipush 78, 2) := by decide +kernel
theorem dX4_firstFault_73 : decode cX4_firstFault 73 = .ok (.if_icmp .ne 7, 3) := by decide +kernel
theorem dX4_firstFault_76 : decode cX4_firstFault 76 = .ok (.iconst 1, 1) := by decide +kernel
theorem dX4_firstFault_77 : decode cX4_firstFault 77 = .ok (.goto 4, 3) := by decide +kernel
theorem dX4_firstFault_80 : decode cX4_firstFault 80 = .ok (.iconst 0, 1) := by decide +kernel
theorem dX4_firstFault_81 : decode cX4_firstFault 81 = .ok (.istore 7, 2) := by decide +kernel
theorem dX4_firstFault_83 : decode cX4_firstFault 83 = .ok (.iload_n 1, 1) := by decide +kernel
theorem dX4_firstFault_84 : decode cX4_firstFault 84 = .ok (.iload 6, 2) := by decide +kernel
theorem dX4_firstFault_86 : decode cX4_firstFault 86 = .ok (.ifCond .eq 7, 3) := by decide +kernel
theorem dX4_firstFault_89 : decode cX4_firstFault 89 = .ok (.iconst 1, 1) := by decide +kernel
theorem dX4_firstFault_90 : decode cX4_firstFault 90 = .ok (.goto 4, 3) := by decide +kernel
theorem dX4_firstFault_93 : decode cX4_firstFault 93 = .ok (.iconst 0, 1) := by decide +kernel
theorem dX4_firstFault_94 : decode cX4_firstFault 94 = .ok (.iadd, 1) := by decide +kernel
theorem dX4_firstFault_95 : decode cX4_firstFault 95 = .ok (.istore_n 1, 1) := by decide +kernel
theorem dX4_firstFault_96 : decode cX4_firstFault 96 = .ok (.iload_n 2, 1) := by decide +kernel
theorem dX4_firstFault_97 : decode cX4_firstFault 97 = .ok (.iload 7, 2) := by decide +kernel
theorem dX4_firstFault_99 : decode cX4_firstFault 99 = .ok (.ifCond .eq 7, 3) := by decide +kernel
theorem dX4_firstFault_102 : decode cX4_firstFault 102 = .ok (.iconst 1, 1) := by decide +kernel
theorem dX4_firstFault_103 : decode cX4_firstFault 103 = .ok (.goto 4, 3) := by decide +kernel
theorem dX4_firstFault_106 : decode cX4_firstFault 106 = .ok (.iconst 0, 1) := by decide +kernel
theorem dX4_firstFault_107 : decode cX4_firstFault 107 = .ok (.iadd, 1) := by decide +kernel
theorem dX4_firstFault_108 : decode cX4_firstFault 108 = .ok (.istore_n 2, 1) := by decide +kernel
theorem dX4_firstFault_109 : decode cX4_firstFault 109 = .ok (.iload 6, 2) := by decide +kernel
theorem dX4_firstFault_111 : decode cX4_firstFault 111 = .ok (.ifCond .ne 8, 3) := by decide +kernel
theorem dX4_firstFault_114 : decode cX4_firstFault 114 = .ok (.iload 7, 2) := by decide +kernel
theorem dX4_firstFault_116 : decode cX4_firstFault 116 = .ok (.ifCond .eq 13, 3) := by decide +kernel
theorem dX4_firstFault_119 : decode cX4_firstFault 119 = .ok (.iload_n 1, 1) := by decide +kernel
theorem dX4_firstFault_120 : decode cX4_firstFault 120 = .ok (.iconst 5, 1) := by decide +kernel
theorem dX4_firstFault_121 : decode cX4_firstFault 121 = .ok (.if_icmp .gt 8, 3) := by decide +kernel
theorem dX4_firstFault_124 : decode cX4_firstFault 124 = .ok (.iload_n 2, 1) := by decide +kernel
theorem dX4_firstFault_125 : decode cX4_firstFault 125 = .ok (.iconst 5, 1) := by decide +kernel
theorem dX4_firstFault_126 : decode cX4_firstFault 126 = .ok (.if_icmp .le 6, 3) := by decide +kernel
theorem dX4_firstFault_129 : decode cX4_firstFault 129 = .ok (.iload 5, 2) := by decide +kernel
theorem dX4_firstFault_131 : decode cX4_firstFault 131 = .ok (.ireturn, 1) := by decide +kernel
theorem dX4_firstFault_132 : decode cX4_firstFault 132 = .ok (.iload 5, 2) := by decide +kernel
theorem dX4_firstFault_134 : decode cX4_firstFault 134 = .ok (.istore_n 3, 1) := by decide +kernel
theorem dX4_firstFault_135 : decode cX4_firstFault 135 = .ok (.iload 5, 2) := by decide +kernel
theorem dX4_firstFault_137 : decode cX4_firstFault 137 = .ok (.iload 6, 2) := by decide +kernel
theorem dX4_firstFault_139 : decode cX4_firstFault 139 = .ok (.ifCond .eq 7, 3) := by decide +kernel
theorem dX4_firstFault_142 : decode cX4_firstFault 142 = .ok (.iconst 3, 1) := by decide +kernel
theorem dX4_firstFault_143 : decode cX4_firstFault 143 = .ok (.goto 4, 3) := by decide +kernel
theorem dX4_firstFault_146 : decode cX4_firstFault 146 = .ok (.iconst 4, 1) := by decide +kernel
theorem dX4_firstFault_147 : decode cX4_firstFault 147 = .ok (.iadd, 1) := by decide +kernel
theorem dX4_firstFault_148 : decode cX4_firstFault 148 = .ok (.istore 4, 2) := by decide +kernel
theorem dX4_firstFault_150 : decode cX4_firstFault 150 = .ok (.goto 18, 3) := by decide +kernel
theorem dX4_firstFault_153 : decode cX4_firstFault 153 = .ok (.aload_n 0, 1) := by decide +kernel
theorem dX4_firstFault_154 : decode cX4_firstFault 154 = .ok (.iload_n 3, 1) := by decide +kernel
theorem dX4_firstFault_155 : decode cX4_firstFault 155 = .ok (.iload 5, 2) := by decide +kernel
theorem dX4_firstFault_157 : decode cX4_firstFault 157 = .ok (.iload_n 3, 1) := by decide +kernel
theorem dX4_firstFault_158 : decode cX4_firstFault 158 = .ok (.isub, 1) := by decide +kernel
theorem dX4_firstFault_159 : decode cX4_firstFault 159 = .ok (.invokevirtual 31, 3) := by decide +kernel
theorem dX4_firstFault_162 : decode cX4_firstFault 162 = .ok (.ifCond .ne 6, 3) := by decide +kernel
theorem dX4_firstFault_165 : decode cX4_firstFault 165 = .ok (.iload 5, 2) := by decide +kernel
theorem dX4_firstFault_167 : decode cX4_firstFault 167 = .ok (.ireturn, 1) := by decide +kernel
theorem dX4_firstFault_168 : decode cX4_firstFault 168 = .ok (.iinc 5 1, 3) := by decide +kernel
theorem dX4_firstFault_171 : decode cX4_firstFault 171 = .ok (.goto (-140), 3) := by decide +kernel
theorem dX4_firstFault_174 : decode cX4_firstFault 174 = .ok (.iload 4, 2) := by decide +kernel
theorem dX4_firstFault_176 : decode cX4_firstFault 176 = .ok (.aload_n 0, 1) := by decide +kernel
theorem dX4_firstFault_177 : decode cX4_firstFault 177 = .ok (.getfield 15, 3) := by decide +kernel
theorem dX4_firstFault_180 : decode cX4_firstFault 180 = .ok (.if_icmp .ne 8, 3) := by decide +kernel
theorem dX4_firstFault_183 : decode cX4_firstFault 183 = .ok (.bipush (-9), 2) := by decide +kernel
theorem dX4_firstFault_185 : decode cX4_firstFault 185 = .ok (.goto 7, 3) := by decide +kernel
theorem dX4_firstFault_188 : decode cX4_firstFault 188 = .ok (.aload_n 0, 1) := by decide +kernel
theorem dX4_firstFault_189 : decode cX4_firstFault 189 = .ok (.getfield 15, 3) := by decide +kernel
theorem dX4_firstFault_192 : decode cX4_firstFault 192 = .ok (.ireturn, 1) := by decide +kernel
theorem dX4_isFitting_0 : decode cX4_isFitting 0 = .ok (.aload_n 0, 1) := by decide +kernel
theorem dX4_isFitting_1 : decode cX4_isFitting 1 = .ok (.iload_n 1, 1) := by decide +kernel
theorem dX4_isFitting_2 : decode cX4_isFitting 2 = .ok (.iload_n 2, 1) := by decide +kernel
theorem dX4_isFitting_3 : decode cX4_isFitting 3 = .ok (.iadd, 1) := by decide +kernel
theorem dX4_isFitting_4 : decode cX4_isFitting 4 = .ok (.invokevirtual 35, 3) := by decide +kernel
theorem dX4_isFitting_7 : decode cX4_isFitting 7 = .ok (.istore_n 3, 1) := by decide +kernel
theorem dX4_isFitting_8 : decode cX4_isFitting 8 = .ok (.iconst 0, 1) := by decide +kernel
theorem dX4_isFitting_9 : decode cX4_isFitting 9 = .ok (.istore 4, 2) := by decide +kernel
theorem dX4_isFitting_11 : decode cX4_isFitting 11 = .ok (.bipush 6, 2) := by decide +kernel
theorem dX4_isFitting_13 : decode cX4_isFitting 13 = .ok (.istore 5, 2) := by decide +kernel
theorem dX4_isFitting_15 : decode cX4_isFitting 15 = .ok (.iload_n 2, 1) := by decide +kernel
theorem dX4_isFitting_16 : decode cX4_isFitting 16 = .ok (.iconst 2, 1) := by decide +kernel
theorem dX4_isFitting_17 : decode cX4_isFitting 17 = .ok (.if_icmp .ne 23, 3) := by decide +kernel
theorem dX4_isFitting_20 : decode cX4_isFitting 20 = .ok (.aload_n 0, 1) := by decide +kernel
theorem dX4_isFitting_21 : decode cX4_isFitting 21 = .ok (.iload_n 1, 1) := by decide +kernel
theorem dX4_isFitting_22 : decode cX4_isFitting 22 = .ok (.invokevirtual 27, 3) := by decide +kernel
theorem dX4_isFitting_25 : decode cX4_isFitting 25 = .ok (.bipush 87, 2) := by decide +kernel
theorem dX4_isFitting_27 : decode cX4_isFitting 27 = .ok (.if_icmp .ne 7, 3) := by decide +kernel
theorem dX4_isFitting_30 : decode cX4_isFitting 30 = .ok (.iconst 4, 1) := by decide +kernel
theorem dX4_isFitting_31 : decode cX4_isFitting 31 = .ok (.goto 4, 3) := by decide +kernel
theorem dX4_isFitting_34 : decode cX4_isFitting 34 = .ok (.iconst 3, 1) := by decide +kernel
theorem dX4_isFitting_35 : decode cX4_isFitting 35 = .ok (.istore 5, 2) := by decide +kernel
theorem dX4_isFitting_37 : decode cX4_isFitting 37 = .ok (.goto 30, 3) := by decide +kernel
theorem dX4_isFitting_40 : decode cX4_isFitting 40 = .ok (.iload_n 2, 1) := by decide +kernel
theorem dX4_isFitting_41 : decode cX4_isFitting 41 = .ok (.iconst 3, 1) := by decide +kernel
theorem dX4_isFitting_42 : decode cX4_isFitting 42 = .ok (.if_icmp .ne 25, 3) := by decide +kernel
theorem dX4_isFitting_45 : decode cX4_isFitting 45 = .ok (.aload_n 0, 1) := by decide +kernel
theorem dX4_isFitting_46 : decode cX4_isFitting 46 = .ok (.iload_n 1, 1) := by decide +kernel
theorem dX4_isFitting_47 : decode cX4_isFitting 47 = .ok (.iconst 2, 1) := by decide +kernel
theorem dX4_isFitting_48 : decode cX4_isFitting 48 = .ok (.iadd, 1) := by decide +kernel
theorem dX4_isFitting_49 : decode cX4_isFitting 49 = .ok (.invokevirtual 35, 3) := by decide +kernel
theorem dX4_isFitting_52 : decode cX4_isFitting 52 = .ok (.iconst 1, 1) := by decide +kernel
theorem dX4_isFitting_53 : decode cX4_isFitting 53 = .ok (.if_icmp .ne 7, 3) := by decide +kernel
theorem dX4_isFitting_56 : decode cX4_isFitting 56 = .ok (.iconst 1, 1) := by decide +kernel
theorem dX4_isFitting_57 : decode cX4_isFitting 57 = .ok (.goto 4, 3) := by decide +kernel
theorem dX4_isFitting_60 : decode cX4_isFitting 60 = .ok (.iconst 0, 1) := by decide +kernel
theorem dX4_isFitting_61 : decode cX4_isFitting 61 = .ok (.istore 4, 2) := by decide +kernel
theorem dX4_isFitting_63 : decode cX4_isFitting 63 = .ok (.bipush 10, 2) := by decide +kernel
theorem dX4_isFitting_65 : decode cX4_isFitting 65 = .ok (.istore 5, 2) := by decide +kernel
theorem dX4_isFitting_67 : decode cX4_isFitting 67 = .ok (.iload_n 3, 1) := by decide +kernel
theorem dX4_isFitting_68 : decode cX4_isFitting 68 = .ok (.iload 4, 2) := by decide +kernel
theorem dX4_isFitting_70 : decode cX4_isFitting 70 = .ok (.if_icmp .lt 13, 3) := by decide +kernel
theorem dX4_isFitting_73 : decode cX4_isFitting 73 = .ok (.iload_n 3, 1) := by decide +kernel
theorem dX4_isFitting_74 : decode cX4_isFitting 74 = .ok (.iload 5, 2) := by decide +kernel
theorem dX4_isFitting_76 : decode cX4_isFitting 76 = .ok (.if_icmp .ge 7, 3) := by decide +kernel
theorem dX4_isFitting_79 : decode cX4_isFitting 79 = .ok (.iconst 1, 1) := by decide +kernel
theorem dX4_isFitting_80 : decode cX4_isFitting 80 = .ok (.goto 4, 3) := by decide +kernel
theorem dX4_isFitting_83 : decode cX4_isFitting 83 = .ok (.iconst 0, 1) := by decide +kernel
theorem dX4_isFitting_84 : decode cX4_isFitting 84 = .ok (.ireturn, 1) := by decide +kernel
theorem dX5_init_0 : decode cX5_init 0 = .ok (.aload_n 0, 1) := by decide +kernel
theorem dX5_init_1 : decode cX5_init 1 = .ok (.invokespecial 3, 3) := by decide +kernel
theorem dX5_init_4 : decode cX5_init 4 = .ok (.aload_n 0, 1) := by decide +kernel
theorem dX5_init_5 : decode cX5_init 5 = .ok (.aload_n 1, 1) := by decide +kernel
theorem dX5_init_6 : decode cX5_init 6 = .ok (.iconst 2, 1) := by decide +kernel
theorem dX5_init_7 : decode cX5_init 7 = .ok (.invokestatic 9, 3) := by decide +kernel
theorem dX5_init_10 : decode cX5_init 10 = .ok (.putfield 13, 3) := by decide +kernel
theorem dX5_init_13 : decode cX5_init 13 = .ok (.return_, 1) := by decide +kernel
theorem dX5_clear_0 : decode cX5_clear 0 = .ok (.aload_n 0, 1) := by decide +kernel
theorem dX5_clear_1 : decode cX5_clear 1 = .ok (.iconst 0, 1) := by decide +kernel
theorem dX5_clear_2 : decode cX5_clear 2 = .ok (.putfield 19, 3) := by decide +kernel
theorem dX5_clear_5 : decode cX5_clear 5 = .ok (.return_, 1) := by decide +kernel
theorem dX5_store_0 : decode cX5_store 0 = .ok (.aload_n 0, 1) := by decide +kernel
theorem dX5_store_1 : decode cX5_store 1 = .ok (.getfield 13, 3) := by decide +kernel
theorem dX5_store_4 : decode cX5_store 4 = .ok (.iload_n 1, 1) := by decide +kernel
theorem dX5_store_5 : decode cX5_store 5 = .ok (.invokestatic 23, 3) := by decide +kernel
theorem dX5_store_8 : decode cX5_store 8 = .ok (.astore_n 3, 1) := by decide +kernel
theorem dX5_store_9 : decode cX5_store 9 = .ok (.aload_n 3, 1) := by decide +kernel
theorem dX5_store_10 : decode cX5_store 10 = .ok (.ifnull 20, 3) := by decide +kernel
theorem dX5_store_13 : decode cX5_store 13 = .ok (.aload_n 3, 1) := by decide +kernel
theorem dX5_store_14 : decode cX5_store 14 = .ok (.aload_n 2, 1) := by decide +kernel
theorem dX5_store_15 : decode cX5_store 15 = .ok (.invokevirtual 27, 3) := by decide +kernel
theorem dX5_store_18 : decode cX5_store 18 = .ok (.aload_n 0, 1) := by decide +kernel
theorem dX5_store_19 : decode cX5_store 19 = .ok (.dup, 1) := by decide +kernel
theorem dX5_store_20 : decode cX5_store 20 = .ok (.getfield 19, 3) := by decide +kernel
theorem dX5_store_23 : decode cX5_store 23 = .ok (.iconst 1, 1) := by decide +kernel
theorem dX5_store_24 : decode cX5_store 24 = .ok (.iload_n 1, 1) := by decide +kernel
theorem dX5_store_25 : decode cX5_store 25 = .ok (.ishl, 1) := by decide +kernel
theorem dX5_store_26 : decode cX5_store 26 = .ok (.ior, 1) := by decide +kernel
theorem dX5_store_27 : decode cX5_store 27 = .ok (.putfield 19, 3) := by decide +kernel
theorem dX5_store_30 : decode cX5_store 30 = .ok (.return_, 1) := by decide +kernel
theorem dX5_fetch_0 : decode cX5_fetch 0 = .ok (.aload_n 0, 1) := by decide +kernel
theorem dX5_fetch_1 : decode cX5_fetch 1 = .ok (.getfield 13, 3) := by decide +kernel
theorem dX5_fetch_4 : decode cX5_fetch 4 = .ok (.iload_n 1, 1) := by decide +kernel
theorem dX5_fetch_5 : decode cX5_fetch 5 = .ok (.invokestatic 23, 3) := by decide +kernel
theorem dX5_fetch_8 : decode cX5_fetch 8 = .ok (.astore_n 3, 1) := by decide +kernel
theorem dX5_fetch_9 : decode cX5_fetch 9 = .ok (.aload_n 3, 1) := by decide +kernel
theorem dX5_fetch_10 : decode cX5_fetch 10 = .ok (.ifnull 14, 3) := by decide +kernel
theorem dX5_fetch_13 : decode cX5_fetch 13 = .ok (.aload_n 0, 1) := by decide +kernel
theorem dX5_fetch_14 : decode cX5_fetch 14 = .ok (.getfield 19, 3) := by decide +kernel
theorem dX5_fetch_17 : decode cX5_fetch 17 = .ok (.iload_n 1, 1) := by decide +kernel
theorem dX5_fetch_18 : decode cX5_fetch 18 = .ok (.invokestatic 33, 3) := by decide +kernel
theorem dX5_fetch_21 : decode cX5_fetch 21 = .ok (.ifCond .ne 5, 3) := by decide +kernel
theorem dX5_fetch_24 : decode cX5_fetch 24 = .ok (.iconst 0, 1) := by decide +kernel
theorem dX5_fetch_25 : decode cX5_fetch 25 = .ok (.ireturn, 1) := by decide +kernel
theorem dX5_fetch_26 : decode cX5_fetch 26 = .ok (.aload_n 2, 1) := by decide +kernel
theorem dX5_fetch_27 : decode cX5_fetch 27 = .ok (.aload_n 3, 1) := by decide +kernel
theorem dX5_fetch_28 : decode cX5_fetch 28 = .ok (.invokevirtual 27, 3) := by decide +kernel
theorem dX5_fetch_31 : decode cX5_fetch 31 = .ok (.iconst 1, 1) := by decide +kernel
theorem dX5_fetch_32 : decode cX5_fetch 32 = .ok (.ireturn, 1) := by decide +kernel
theorem dX6_init_0 : decode cX6_init 0 = .ok (.aload_n 0, 1) := by decide +kernel
theorem dX6_init_1 : decode cX6_init 1 = .ok (.invokespecial 3, 3) := by decide +kernel
theorem dX6_init_4 : decode cX6_init 4 = .ok (.aload_n 0, 1) := by decide +kernel
theorem dX6_init_5 : decode cX6_init 5 = .ok (.new 9, 3) := by decide +kernel
theorem dX6_init_8 : decode cX6_init 8 = .ok (.dup, 1) := by decide +kernel
theorem dX6_init_9 : decode cX6_init 9 = .ok (.invokespecial 11, 3) := by decide +kernel
theorem dX6_init_12 : decode cX6_init 12 = .ok (.putfield 12, 3) := by decide +kernel
theorem dX6_init_15 : decode cX6_init 15 = .ok (.aload_n 0, 1) := by decide +kernel
theorem dX6_init_16 : decode cX6_init 16 = .ok (.new 16, 3) := by decide +kernel
theorem dX6_init_19 : decode cX6_init 19 = .ok (.dup, 1) := by decide +kernel
theorem dX6_init_20 : decode cX6_init 20 = .ok (.invokespecial 18, 3) := by decide +kernel
theorem dX6_init_23 : decode cX6_init 23 = .ok (.putfield 19, 3) := by decide +kernel
theorem dX6_init_26 : decode cX6_init 26 = .ok (.aload_n 0, 1) := by decide +kernel
theorem dX6_init_27 : decode cX6_init 27 = .ok (.new 23, 3) := by decide +kernel
theorem dX6_init_30 : decode cX6_init 30 = .ok (.dup, 1) := by decide +kernel
theorem dX6_init_31 : decode cX6_init 31 = .ok (.aload_n 0, 1) := by decide +kernel
theorem dX6_init_32 : decode cX6_init 32 = .ok (.getfield 19, 3) := by decide +kernel
theorem dX6_init_35 : decode cX6_init 35 = .ok (.invokespecial 25, 3) := by decide +kernel
theorem dX6_init_38 : decode cX6_init 38 = .ok (.putfield 28, 3) := by decide +kernel
theorem dX6_init_41 : decode cX6_init 41 = .ok (.aload_n 0, 1) := by decide +kernel
theorem dX6_init_42 : decode cX6_init 42 = .ok (.new 23, 3) := by decide +kernel
theorem dX6_init_45 : decode cX6_init 45 = .ok (.dup, 1) := by decide +kernel
theorem dX6_init_46 : decode cX6_init 46 = .ok (.aload_n 0, 1) := by decide +kernel
theorem dX6_init_47 : decode cX6_init 47 = .ok (.getfield 19, 3) := by decide +kernel
theorem dX6_init_50 : decode cX6_init 50 = .ok (.invokespecial 25, 3) := by decide +kernel
theorem dX6_init_53 : decode cX6_init 53 = .ok (.putfield 32, 3) := by decide +kernel
theorem dX6_init_56 : decode cX6_init 56 = .ok (.aload_n 0, 1) := by decide +kernel
theorem dX6_init_57 : decode cX6_init 57 = .ok (.new 35, 3) := by decide +kernel
theorem dX6_init_60 : decode cX6_init 60 = .ok (.dup, 1) := by decide +kernel
theorem dX6_init_61 : decode cX6_init 61 = .ok (.aload_n 0, 1) := by decide +kernel
theorem dX6_init_62 : decode cX6_init 62 = .ok (.getfield 19, 3) := by decide +kernel
theorem dX6_init_65 : decode cX6_init 65 = .ok (.invokespecial 37, 3) := by decide +kernel
theorem dX6_init_68 : decode cX6_init 68 = .ok (.putfield 38, 3) := by decide +kernel
theorem dX6_init_71 : decode cX6_init 71 = .ok (.aload_n 0, 1) := by decide +kernel
theorem dX6_init_72 : decode cX6_init 72 = .ok (.new 42, 3) := by decide +kernel
theorem dX6_init_75 : decode cX6_init 75 = .ok (.dup, 1) := by decide +kernel
theorem dX6_init_76 : decode cX6_init 76 = .ok (.aload_n 0, 1) := by decide +kernel
theorem dX6_init_77 : decode cX6_init 77 = .ok (.getfield 19, 3) := by decide +kernel
theorem dX6_init_80 : decode cX6_init 80 = .ok (.invokespecial 44, 3) := by decide +kernel
theorem dX6_init_83 : decode cX6_init 83 = .ok (.putfield 45, 3) := by decide +kernel
theorem dX6_init_86 : decode cX6_init 86 = .ok (.aload_n 0, 1) := by decide +kernel
theorem dX6_init_87 : decode cX6_init 87 = .ok (.new 49, 3) := by decide +kernel
theorem dX6_init_90 : decode cX6_init 90 = .ok (.dup, 1) := by decide +kernel
theorem dX6_init_91 : decode cX6_init 91 = .ok (.invokespecial 51, 3) := by decide +kernel
theorem dX6_init_94 : decode cX6_init 94 = .ok (.putfield 52, 3) := by decide +kernel
theorem dX6_init_97 : decode cX6_init 97 = .ok (.return_, 1) := by decide +kernel
theorem dX6_write_0 : decode cX6_write 0 = .ok (.iload_n 1, 1) := by decide +kernel
theorem dX6_write_1 : decode cX6_write 1 = .ok (.ifCond .lt 10, 3) := by decide +kernel
theorem dX6_write_4 : decode cX6_write 4 = .ok (.iload_n 1, 1) := by decide +kernel
theorem dX6_write_5 : decode cX6_write 5 = .ok (.sipush 255, 3) := by decide +kernel
theorem dX6_write_8 : decode cX6_write 8 = .ok (.if_icmp .le 6, 3) := by decide +kernel
theorem dX6_write_11 : decode cX6_write 11 = .ok (.bipush (-2), 2) := by decide +kernel
theorem dX6_write_13 : decode cX6_write 13 = .ok (.ireturn, 1) := by decide +kernel
theorem dX6_write_14 : decode cX6_write 14 = .ok (.aload_n 0, 1) := by decide +kernel
theorem dX6_write_15 : decode cX6_write 15 = .ok (.getfield 12, 3) := by decide +kernel
theorem dX6_write_18 : decode cX6_write 18 = .ok (.iload_n 1, 1) := by decide +kernel
theorem dX6_write_19 : decode cX6_write 19 = .ok (.invokevirtual 56, 3) := by decide +kernel
theorem dX6_write_22 : decode cX6_write 22 = .ok (.ifCond .eq 13, 3) := by decide +kernel
theorem dX6_write_25 : decode cX6_write 25 = .ok (.aload_n 0, 1) := by decide +kernel
theorem dX6_write_26 : decode cX6_write 26 = .ok (.getfield 12, 3) := by decide +kernel
theorem dX6_write_29 : decode cX6_write 29 = .ok (.invokevirtual 60, 3) := by decide +kernel
theorem dX6_write_32 : decode cX6_write 32 = .ok (.goto 5, 3) := by decide +kernel
theorem dX6_write_35 : decode cX6_write 35 = .ok (.bipush (-4), 2) := by decide +kernel
theorem dX6_write_37 : decode cX6_write 37 = .ok (.ireturn, 1) := by decide +kernel
theorem dX6_wipe_0 : decode cX6_wipe 0 = .ok (.aload_n 0, 1) := by decide +kernel
theorem dX6_wipe_1 : decode cX6_wipe 1 = .ok (.getfield 12, 3) := by decide +kernel
theorem dX6_wipe_4 : decode cX6_wipe 4 = .ok (.invokevirtual 60, 3) := by decide +kernel
theorem dX6_wipe_7 : decode cX6_wipe 7 = .ok (.istore_n 1, 1) := by decide +kernel
theorem dX6_wipe_8 : decode cX6_wipe 8 = .ok (.aload_n 0, 1) := by decide +kernel
theorem dX6_wipe_9 : decode cX6_wipe 9 = .ok (.getfield 12, 3) := by decide +kernel
theorem dX6_wipe_12 : decode cX6_wipe 12 = .ok (.invokevirtual 64, 3) := by decide +kernel
theorem dX6_wipe_15 : decode cX6_wipe 15 = .ok (.iload_n 1, 1) := by decide +kernel
theorem dX6_wipe_16 : decode cX6_wipe 16 = .ok (.ireturn, 1) := by decide +kernel
theorem dX6_fault_0 : decode cX6_fault 0 = .ok (.aload_n 0, 1) := by decide +kernel
theorem dX6_fault_1 : decode cX6_fault 1 = .ok (.getfield 12, 3) := by decide +kernel
theorem dX6_fault_4 : decode cX6_fault 4 = .ok (.invokevirtual 67, 3) := by decide +kernel
theorem dX6_fault_7 : decode cX6_fault 7 = .ok (.ireturn, 1) := by decide +kernel
theorem dX6_town_0 : decode cX6_town 0 = .ok (.aload_n 0, 1) := by decide +kernel
theorem dX6_town_1 : decode cX6_town 1 = .ok (.getfield 12, 3) := by decide +kernel
theorem dX6_town_4 : decode cX6_town 4 = .ok (.invokevirtual 67, 3) := by decide +kernel
theorem dX6_town_7 : decode cX6_town 7 = .ok (.bipush (-9), 2) := by decide +kernel
theorem dX6_town_9 : decode cX6_town 9 = .ok (.if_icmp .eq 6, 3) := by decide +kernel
theorem dX6_town_12 : decode cX6_town 12 = .ok (.bipush (-3), 2) := by decide +kernel
theorem dX6_town_14 : decode cX6_town 14 = .ok (.ireturn, 1) := by decide +kernel
theorem dX6_town_15 : decode cX6_town 15 = .ok (.aload_n 0, 1) := by decide +kernel
theorem dX6_town_16 : decode cX6_town 16 = .ok (.getfield 19, 3) := by decide +kernel
theorem dX6_town_19 : decode cX6_town 19 = .ok (.aload_n 0, 1) := by decide +kernel
theorem dX6_town_20 : decode cX6_town 20 = .ok (.getfield 12, 3) := by decide +kernel
theorem dX6_town_23 : decode cX6_town 23 = .ok (.invokevirtual 70, 3) := by decide +kernel
theorem dX6_town_26 : decode cX6_town 26 = .ok (.aload_n 0, 1) := by decide +kernel
theorem dX6_town_27 : decode cX6_town 27 = .ok (.getfield 28, 3) := by decide +kernel
theorem dX6_town_30 : decode cX6_town 30 = .ok (.invokevirtual 74, 3) := by decide +kernel
theorem dX6_town_33 : decode cX6_town 33 = .ok (.aload_n 0, 1) := by decide +kernel
theorem dX6_town_34 : decode cX6_town 34 = .ok (.getfield 38, 3) := by decide +kernel
theorem dX6_town_37 : decode cX6_town 37 = .ok (.invokevirtual 77, 3) := by decide +kernel
theorem dX6_town_40 : decode cX6_town 40 = .ok (.aload_n 0, 1) := by decide +kernel
theorem dX6_town_41 : decode cX6_town 41 = .ok (.getfield 45, 3) := by decide +kernel
theorem dX6_town_44 : decode cX6_town 44 = .ok (.invokevirtual 78, 3) := by decide +kernel
theorem dX6_town_47 : decode cX6_town 47 = .ok (.bipush 10, 2) := by decide +kernel
theorem dX6_town_49 : decode cX6_town 49 = .ok (.aload_n 0, 1) := by decide +kernel
theorem dX6_town_50 : decode cX6_town 50 = .ok (.getfield 19, 3) := by decide +kernel
theorem dX6_town_53 : decode cX6_town 53 = .ok (.invokevirtual 79, 3) := by decide +kernel
theorem dX6_town_56 : decode cX6_town 56 = .ok (.imul, 1) := by decide +kernel
theorem dX6_town_57 : decode cX6_town 57 = .ok (.aload_n 0, 1) := by decide +kernel
theorem dX6_town_58 : decode cX6_town 58 = .ok (.getfield 19, 3) := by decide +kernel
theorem dX6_town_61 : decode cX6_town 61 = .ok (.invokevirtual 82, 3) := by decide +kernel
theorem dX6_town_64 : decode cX6_town 64 = .ok (.iadd, 1) := by decide +kernel
theorem dX6_town_65 : decode cX6_town 65 = .ok (.ireturn, 1) := by decide +kernel
theorem dX6_about_0 : decode cX6_about 0 = .ok (.iload_n 1, 1) := by decide +kernel
theorem dX6_about_1 : decode cX6_about 1 = .ok (.tableswitch 149 0 10 #[59, 67, 75, 83, 91, 99, 107, 116, 125, 133, 141], 59) := by decide +kernel
theorem dX6_about_60 : decode cX6_about 60 = .ok (.aload_n 0, 1) := by decide +kernel
theorem dX6_about_61 : decode cX6_about 61 = .ok (.getfield 19, 3) := by decide +kernel
theorem dX6_about_64 : decode cX6_about 64 = .ok (.invokevirtual 79, 3) := by decide +kernel
theorem dX6_about_67 : decode cX6_about 67 = .ok (.ireturn, 1) := by decide +kernel
theorem dX6_about_68 : decode cX6_about 68 = .ok (.aload_n 0, 1) := by decide +kernel
theorem dX6_about_69 : decode cX6_about 69 = .ok (.getfield 19, 3) := by decide +kernel
theorem dX6_about_72 : decode cX6_about 72 = .ok (.invokevirtual 82, 3) := by decide +kernel
theorem dX6_about_75 : decode cX6_about 75 = .ok (.ireturn, 1) := by decide +kernel
theorem dX6_about_76 : decode cX6_about 76 = .ok (.aload_n 0, 1) := by decide +kernel
theorem dX6_about_77 : decode cX6_about 77 = .ok (.getfield 28, 3) := by decide +kernel
theorem dX6_about_80 : decode cX6_about 80 = .ok (.invokevirtual 85, 3) := by decide +kernel
theorem dX6_about_83 : decode cX6_about 83 = .ok (.ireturn, 1) := by decide +kernel
theorem dX6_about_84 : decode cX6_about 84 = .ok (.aload_n 0, 1) := by decide +kernel
theorem dX6_about_85 : decode cX6_about 85 = .ok (.getfield 28, 3) := by decide +kernel
theorem dX6_about_88 : decode cX6_about 88 = .ok (.invokevirtual 88, 3) := by decide +kernel
theorem dX6_about_91 : decode cX6_about 91 = .ok (.ireturn, 1) := by decide +kernel
theorem dX6_about_92 : decode cX6_about 92 = .ok (.aload_n 0, 1) := by decide +kernel
theorem dX6_about_93 : decode cX6_about 93 = .ok (.getfield 28, 3) := by decide +kernel
theorem dX6_about_96 : decode cX6_about 96 = .ok (.invokevirtual 91, 3) := by decide +kernel
theorem dX6_about_99 : decode cX6_about 99 = .ok (.ireturn, 1) := by decide +kernel
theorem dX6_about_100 : decode cX6_about 100 = .ok (.aload_n 0, 1) := by decide +kernel
theorem dX6_about_101 : decode cX6_about 101 = .ok (.getfield 28, 3) := by decide +kernel
theorem dX6_about_104 : decode cX6_about 104 = .ok (.invokevirtual 94, 3) := by decide +kernel
theorem dX6_about_107 : decode cX6_about 107 = .ok (.ireturn, 1) := by decide +kernel
theorem dX6_about_108 : decode cX6_about 108 = .ok (.aload_n 0, 1) := by decide +kernel
theorem dX6_about_109 : decode cX6_about 109 = .ok (.getfield 28, 3) := by decide +kernel
theorem dX6_about_112 : decode cX6_about 112 = .ok (.iconst 1, 1) := by decide +kernel
theorem dX6_about_113 : decode cX6_about 113 = .ok (.invokevirtual 97, 3) := by decide +kernel
theorem dX6_about_116 : decode cX6_about 116 = .ok (.ireturn, 1) := by decide +kernel
theorem dX6_about_117 : decode cX6_about 117 = .ok (.aload_n 0, 1) := by decide +kernel
theorem dX6_about_118 : decode cX6_about 118 = .ok (.getfield 28, 3) := by decide +kernel
theorem dX6_about_121 : decode cX6_about 121 = .ok (.iconst 2, 1) := by decide +kernel
theorem dX6_about_122 : decode cX6_about 122 = .ok (.invokevirtual 97, 3) := by decide +kernel
theorem dX6_about_125 : decode cX6_about 125 = .ok (.ireturn, 1) := by decide +kernel
theorem dX6_about_126 : decode cX6_about 126 = .ok (.aload_n 0, 1) := by decide +kernel
theorem dX6_about_127 : decode cX6_about 127 = .ok (.getfield 38, 3) := by decide +kernel
theorem dX6_about_130 : decode cX6_about 130 = .ok (.invokevirtual 101, 3) := by decide +kernel
theorem dX6_about_133 : decode cX6_about 133 = .ok (.ireturn, 1) := by decide +kernel
theorem dX6_about_134 : decode cX6_about 134 = .ok (.aload_n 0, 1) := by decide +kernel
theorem dX6_about_135 : decode cX6_about 135 = .ok (.getfield 52, 3) := by decide +kernel
theorem dX6_about_138 : decode cX6_about 138 = .ok (.invokevirtual 104, 3) := by decide +kernel
theorem dX6_about_141 : decode cX6_about 141 = .ok (.ireturn, 1) := by decide +kernel
theorem dX6_about_142 : decode cX6_about 142 = .ok (.aload_n 0, 1) := by decide +kernel
theorem dX6_about_143 : decode cX6_about 143 = .ok (.getfield 12, 3) := by decide +kernel
theorem dX6_about_146 : decode cX6_about 146 = .ok (.invokevirtual 60, 3) := by decide +kernel
theorem dX6_about_149 : decode cX6_about 149 = .ok (.ireturn, 1) := by decide +kernel
theorem dX6_about_150 : decode cX6_about 150 = .ok (.bipush (-2), 2) := by decide +kernel
theorem dX6_about_152 : decode cX6_about 152 = .ok (.ireturn, 1) := by decide +kernel
theorem dX6_walker_0 : decode cX6_walker 0 = .ok (.aload_n 0, 1) := by decide +kernel
theorem dX6_walker_1 : decode cX6_walker 1 = .ok (.getfield 19, 3) := by decide +kernel
theorem dX6_walker_4 : decode cX6_walker 4 = .ok (.iload_n 1, 1) := by decide +kernel
theorem dX6_walker_5 : decode cX6_walker 5 = .ok (.invokevirtual 105, 3) := by decide +kernel
theorem dX6_walker_8 : decode cX6_walker 8 = .ok (.ifCond .ne 5, 3) := by decide +kernel
theorem dX6_walker_11 : decode cX6_walker 11 = .ok (.iconst (-1), 1) := by decide +kernel
theorem dX6_walker_12 : decode cX6_walker 12 = .ok (.ireturn, 1) := by decide +kernel
theorem dX6_walker_13 : decode cX6_walker 13 = .ok (.iload_n 2, 1) := by decide +kernel
theorem dX6_walker_14 : decode cX6_walker 14 = .ok (.tableswitch 61 0 2 #[26, 35, 44], 26) := by decide +kernel
theorem dX6_walker_40 : decode cX6_walker 40 = .ok (.aload_n 0, 1) := by decide +kernel
theorem dX6_walker_41 : decode cX6_walker 41 = .ok (.getfield 28, 3) := by decide +kernel
theorem dX6_walker_44 : decode cX6_walker 44 = .ok (.iload_n 1, 1) := by decide +kernel
theorem dX6_walker_45 : decode cX6_walker 45 = .ok (.invokevirtual 108, 3) := by decide +kernel
theorem dX6_walker_48 : decode cX6_walker 48 = .ok (.ireturn, 1) := by decide +kernel
theorem dX6_walker_49 : decode cX6_walker 49 = .ok (.aload_n 0, 1) := by decide +kernel
theorem dX6_walker_50 : decode cX6_walker 50 = .ok (.getfield 19, 3) := by decide +kernel
theorem dX6_walker_53 : decode cX6_walker 53 = .ok (.iload_n 1, 1) := by decide +kernel
theorem dX6_walker_54 : decode cX6_walker 54 = .ok (.invokevirtual 111, 3) := by decide +kernel
theorem dX6_walker_57 : decode cX6_walker 57 = .ok (.ireturn, 1) := by decide +kernel
theorem dX6_walker_58 : decode cX6_walker 58 = .ok (.aload_n 0, 1) := by decide +kernel
theorem dX6_walker_59 : decode cX6_walker 59 = .ok (.getfield 28, 3) := by decide +kernel
theorem dX6_walker_62 : decode cX6_walker 62 = .ok (.iload_n 1, 1) := by decide +kernel
theorem dX6_walker_63 : decode cX6_walker 63 = .ok (.invokevirtual 114, 3) := by decide +kernel
theorem dX6_walker_66 : decode cX6_walker 66 = .ok (.ifCond .eq 7, 3) := by decide +kernel
theorem dX6_walker_69 : decode cX6_walker 69 = .ok (.iconst 1, 1) := by decide +kernel
theorem dX6_walker_70 : decode cX6_walker 70 = .ok (.goto 4, 3) := by decide +kernel
theorem dX6_walker_73 : decode cX6_walker 73 = .ok (.iconst 0, 1) := by decide +kernel
theorem dX6_walker_74 : decode cX6_walker 74 = .ok (.ireturn, 1) := by decide +kernel
theorem dX6_walker_75 : decode cX6_walker 75 = .ok (.bipush (-2), 2) := by decide +kernel
theorem dX6_walker_77 : decode cX6_walker 77 = .ok (.ireturn, 1) := by decide +kernel
theorem dX6_need_0 : decode cX6_need 0 = .ok (.aload_n 0, 1) := by decide +kernel
theorem dX6_need_1 : decode cX6_need 1 = .ok (.getfield 19, 3) := by decide +kernel
theorem dX6_need_4 : decode cX6_need 4 = .ok (.iload_n 1, 1) := by decide +kernel
theorem dX6_need_5 : decode cX6_need 5 = .ok (.invokevirtual 117, 3) := by decide +kernel
theorem dX6_need_8 : decode cX6_need 8 = .ok (.ifCond .ne 5, 3) := by decide +kernel
theorem dX6_need_11 : decode cX6_need 11 = .ok (.iconst (-1), 1) := by decide +kernel
theorem dX6_need_12 : decode cX6_need 12 = .ok (.ireturn, 1) := by decide +kernel
theorem dX6_need_13 : decode cX6_need 13 = .ok (.iload_n 2, 1) := by decide +kernel
theorem dX6_need_14 : decode cX6_need 14 = .ok (.tableswitch 66 0 3 #[30, 39, 48, 57], 30) := by decide +kernel
theorem dX6_need_44 : decode cX6_need 44 = .ok (.aload_n 0, 1) := by decide +kernel
theorem dX6_need_45 : decode cX6_need 45 = .ok (.getfield 19, 3) := by decide +kernel
theorem dX6_need_48 : decode cX6_need 48 = .ok (.iload_n 1, 1) := by decide +kernel
theorem dX6_need_49 : decode cX6_need 49 = .ok (.invokevirtual 120, 3) := by decide +kernel
theorem dX6_need_52 : decode cX6_need 52 = .ok (.ireturn, 1) := by decide +kernel
theorem dX6_need_53 : decode cX6_need 53 = .ok (.aload_n 0, 1) := by decide +kernel
theorem dX6_need_54 : decode cX6_need 54 = .ok (.getfield 19, 3) := by decide +kernel
theorem dX6_need_57 : decode cX6_need 57 = .ok (.iload_n 1, 1) := by decide +kernel
theorem dX6_need_58 : decode cX6_need 58 = .ok (.invokevirtual 123, 3) := by decide +kernel
theorem dX6_need_61 : decode cX6_need 61 = .ok (.ireturn, 1) := by decide +kernel
theorem dX6_need_62 : decode cX6_need 62 = .ok (.aload_n 0, 1) := by decide +kernel
theorem dX6_need_63 : decode cX6_need 63 = .ok (.getfield 19, 3) := by decide +kernel
theorem dX6_need_66 : decode cX6_need 66 = .ok (.iload_n 1, 1) := by decide +kernel
theorem dX6_need_67 : decode cX6_need 67 = .ok (.invokevirtual 126, 3) := by decide +kernel
theorem dX6_need_70 : decode cX6_need 70 = .ok (.ireturn, 1) := by decide +kernel
theorem dX6_need_71 : decode cX6_need 71 = .ok (.aload_n 0, 1) := by decide +kernel
theorem dX6_need_72 : decode cX6_need 72 = .ok (.getfield 28, 3) := by decide +kernel
theorem dX6_need_75 : decode cX6_need 75 = .ok (.iload_n 1, 1) := by decide +kernel
theorem dX6_need_76 : decode cX6_need 76 = .ok (.invokevirtual 129, 3) := by decide +kernel
theorem dX6_need_79 : decode cX6_need 79 = .ok (.ireturn, 1) := by decide +kernel
theorem dX6_need_80 : decode cX6_need 80 = .ok (.bipush (-2), 2) := by decide +kernel
theorem dX6_need_82 : decode cX6_need 82 = .ok (.ireturn, 1) := by decide +kernel
theorem dX6_street_0 : decode cX6_street 0 = .ok (.iload_n 1, 1) := by decide +kernel
theorem dX6_street_1 : decode cX6_street 1 = .ok (.invokestatic 132, 3) := by decide +kernel
theorem dX6_street_4 : decode cX6_street 4 = .ok (.ifCond .ne 5, 3) := by decide +kernel
theorem dX6_street_7 : decode cX6_street 7 = .ok (.iconst (-1), 1) := by decide +kernel
theorem dX6_street_8 : decode cX6_street 8 = .ok (.ireturn, 1) := by decide +kernel
theorem dX6_street_9 : decode cX6_street 9 = .ok (.iload_n 2, 1) := by decide +kernel
theorem dX6_street_10 : decode cX6_street 10 = .ok (.tableswitch 53 0 2 #[26, 35, 44], 26) := by decide +kernel
theorem dX6_street_36 : decode cX6_street 36 = .ok (.aload_n 0, 1) := by decide +kernel
theorem dX6_street_37 : decode cX6_street 37 = .ok (.getfield 28, 3) := by decide +kernel
theorem dX6_street_40 : decode cX6_street 40 = .ok (.iload_n 1, 1) := by decide +kernel
theorem dX6_street_41 : decode cX6_street 41 = .ok (.invokevirtual 135, 3) := by decide +kernel
theorem dX6_street_44 : decode cX6_street 44 = .ok (.ireturn, 1) := by decide +kernel
theorem dX6_street_45 : decode cX6_street 45 = .ok (.aload_n 0, 1) := by decide +kernel
theorem dX6_street_46 : decode cX6_street 46 = .ok (.getfield 28, 3) := by decide +kernel
theorem dX6_street_49 : decode cX6_street 49 = .ok (.iload_n 1, 1) := by decide +kernel
theorem dX6_street_50 : decode cX6_street 50 = .ok (.invokevirtual 138, 3) := by decide +kernel
theorem dX6_street_53 : decode cX6_street 53 = .ok (.ireturn, 1) := by decide +kernel
theorem dX6_street_54 : decode cX6_street 54 = .ok (.aload_n 0, 1) := by decide +kernel
theorem dX6_street_55 : decode cX6_street 55 = .ok (.getfield 28, 3) := by decide +kernel
theorem dX6_street_58 : decode cX6_street 58 = .ok (.iload_n 1, 1) := by decide +kernel
theorem dX6_street_59 : decode cX6_street 59 = .ok (.invokevirtual 141, 3) := by decide +kernel
theorem dX6_street_62 : decode cX6_street 62 = .ok (.ireturn, 1) := by decide +kernel
theorem dX6_street_63 : decode cX6_street 63 = .ok (.bipush (-2), 2) := by decide +kernel
theorem dX6_street_65 : decode cX6_street 65 = .ok (.ireturn, 1) := by decide +kernel
theorem dX6_open_0 : decode cX6_open 0 = .ok (.aload_n 0, 1) := by decide +kernel
theorem dX6_open_1 : decode cX6_open 1 = .ok (.getfield 19, 3) := by decide +kernel
theorem dX6_open_4 : decode cX6_open 4 = .ok (.iload_n 1, 1) := by decide +kernel
theorem dX6_open_5 : decode cX6_open 5 = .ok (.invokevirtual 105, 3) := by decide +kernel
theorem dX6_open_8 : decode cX6_open 8 = .ok (.ifCond .ne 5, 3) := by decide +kernel
theorem dX6_open_11 : decode cX6_open 11 = .ok (.iconst (-1), 1) := by decide +kernel
theorem dX6_open_12 : decode cX6_open 12 = .ok (.ireturn, 1) := by decide +kernel
theorem dX6_open_13 : decode cX6_open 13 = .ok (.aload_n 0, 1) := by decide +kernel
theorem dX6_open_14 : decode cX6_open 14 = .ok (.getfield 28, 3) := by decide +kernel
theorem dX6_open_17 : decode cX6_open 17 = .ok (.iload_n 1, 1) := by decide +kernel
theorem dX6_open_18 : decode cX6_open 18 = .ok (.invokevirtual 114, 3) := by decide +kernel
theorem dX6_open_21 : decode cX6_open 21 = .ok (.ifCond .eq 6, 3) := by decide +kernel
theorem dX6_open_24 : decode cX6_open 24 = .ok (.bipush (-3), 2) := by decide +kernel
theorem dX6_open_26 : decode cX6_open 26 = .ok (.ireturn, 1) := by decide +kernel
theorem dX6_open_27 : decode cX6_open 27 = .ok (.aload_n 0, 1) := by decide +kernel
theorem dX6_open_28 : decode cX6_open 28 = .ok (.getfield 38, 3) := by decide +kernel
theorem dX6_open_31 : decode cX6_open 31 = .ok (.aload_n 0, 1) := by decide +kernel
theorem dX6_open_32 : decode cX6_open 32 = .ok (.getfield 28, 3) := by decide +kernel
theorem dX6_open_35 : decode cX6_open 35 = .ok (.invokevirtual 144, 3) := by decide +kernel
theorem dX6_open_38 : decode cX6_open 38 = .ok (.aload_n 0, 1) := by decide +kernel
theorem dX6_open_39 : decode cX6_open 39 = .ok (.getfield 28, 3) := by decide +kernel
theorem dX6_open_42 : decode cX6_open 42 = .ok (.iload_n 1, 1) := by decide +kernel
theorem dX6_open_43 : decode cX6_open 43 = .ok (.invokevirtual 148, 3) := by decide +kernel
theorem dX6_open_46 : decode cX6_open 46 = .ok (.pop, 1) := by decide +kernel
theorem dX6_open_47 : decode cX6_open 47 = .ok (.aload_n 0, 1) := by decide +kernel
theorem dX6_open_48 : decode cX6_open 48 = .ok (.getfield 28, 3) := by decide +kernel
theorem dX6_open_51 : decode cX6_open 51 = .ok (.aload_n 0, 1) := by decide +kernel
theorem dX6_open_52 : decode cX6_open 52 = .ok (.getfield 28, 3) := by decide +kernel
theorem dX6_open_55 : decode cX6_open 55 = .ok (.iload_n 1, 1) := by decide +kernel
theorem dX6_open_56 : decode cX6_open 56 = .ok (.invokevirtual 108, 3) := by decide +kernel
theorem dX6_open_59 : decode cX6_open 59 = .ok (.invokevirtual 141, 3) := by decide +kernel
theorem dX6_open_62 : decode cX6_open 62 = .ok (.ireturn, 1) := by decide +kernel
theorem dX6_shut_0 : decode cX6_shut 0 = .ok (.aload_n 0, 1) := by decide +kernel
theorem dX6_shut_1 : decode cX6_shut 1 = .ok (.getfield 19, 3) := by decide +kernel
theorem dX6_shut_4 : decode cX6_shut 4 = .ok (.iload_n 1, 1) := by decide +kernel
theorem dX6_shut_5 : decode cX6_shut 5 = .ok (.invokevirtual 105, 3) := by decide +kernel
theorem dX6_shut_8 : decode cX6_shut 8 = .ok (.ifCond .ne 5, 3) := by decide +kernel
theorem dX6_shut_11 : decode cX6_shut 11 = .ok (.iconst (-1), 1) := by decide +kernel
theorem dX6_shut_12 : decode cX6_shut 12 = .ok (.ireturn, 1) := by decide +kernel
theorem dX6_shut_13 : decode cX6_shut 13 = .ok (.aload_n 0, 1) := by decide +kernel
theorem dX6_shut_14 : decode cX6_shut 14 = .ok (.getfield 28, 3) := by decide +kernel
theorem dX6_shut_17 : decode cX6_shut 17 = .ok (.iload_n 1, 1) := by decide +kernel
theorem dX6_shut_18 : decode cX6_shut 18 = .ok (.invokevirtual 114, 3) := by decide +kernel
theorem dX6_shut_21 : decode cX6_shut 21 = .ok (.ifCond .ne 6, 3) := by decide +kernel
theorem dX6_shut_24 : decode cX6_shut 24 = .ok (.bipush (-3), 2) := by decide +kernel
theorem dX6_shut_26 : decode cX6_shut 26 = .ok (.ireturn, 1) := by decide +kernel
theorem dX6_shut_27 : decode cX6_shut 27 = .ok (.aload_n 0, 1) := by decide +kernel
theorem dX6_shut_28 : decode cX6_shut 28 = .ok (.getfield 38, 3) := by decide +kernel
theorem dX6_shut_31 : decode cX6_shut 31 = .ok (.aload_n 0, 1) := by decide +kernel
theorem dX6_shut_32 : decode cX6_shut 32 = .ok (.getfield 28, 3) := by decide +kernel
theorem dX6_shut_35 : decode cX6_shut 35 = .ok (.invokevirtual 144, 3) := by decide +kernel
theorem dX6_shut_38 : decode cX6_shut 38 = .ok (.aload_n 0, 1) := by decide +kernel
theorem dX6_shut_39 : decode cX6_shut 39 = .ok (.getfield 28, 3) := by decide +kernel
theorem dX6_shut_42 : decode cX6_shut 42 = .ok (.iload_n 1, 1) := by decide +kernel
theorem dX6_shut_43 : decode cX6_shut 43 = .ok (.invokevirtual 151, 3) := by decide +kernel
theorem dX6_shut_46 : decode cX6_shut 46 = .ok (.pop, 1) := by decide +kernel
theorem dX6_shut_47 : decode cX6_shut 47 = .ok (.aload_n 0, 1) := by decide +kernel
theorem dX6_shut_48 : decode cX6_shut 48 = .ok (.getfield 28, 3) := by decide +kernel
theorem dX6_shut_51 : decode cX6_shut 51 = .ok (.aload_n 0, 1) := by decide +kernel
theorem dX6_shut_52 : decode cX6_shut 52 = .ok (.getfield 28, 3) := by decide +kernel
theorem dX6_shut_55 : decode cX6_shut 55 = .ok (.iload_n 1, 1) := by decide +kernel
theorem dX6_shut_56 : decode cX6_shut 56 = .ok (.invokevirtual 108, 3) := by decide +kernel
theorem dX6_shut_59 : decode cX6_shut 59 = .ok (.invokevirtual 141, 3) := by decide +kernel
theorem dX6_shut_62 : decode cX6_shut 62 = .ok (.ireturn, 1) := by decide +kernel
theorem dX6_walk_0 : decode cX6_walk 0 = .ok (.aload_n 0, 1) := by decide +kernel
theorem dX6_walk_1 : decode cX6_walk 1 = .ok (.getfield 19, 3) := by decide +kernel
theorem dX6_walk_4 : decode cX6_walk 4 = .ok (.iload_n 1, 1) := by decide +kernel
theorem dX6_walk_5 : decode cX6_walk 5 = .ok (.invokevirtual 105, 3) := by decide +kernel
theorem dX6_walk_8 : decode cX6_walk 8 = .ok (.ifCond .ne 5, 3) := by decide +kernel
theorem dX6_walk_11 : decode cX6_walk 11 = .ok (.iconst (-1), 1) := by decide +kernel
theorem dX6_walk_12 : decode cX6_walk 12 = .ok (.ireturn, 1) := by decide +kernel
theorem dX6_walk_13 : decode cX6_walk 13 = .ok (.aload_n 0, 1) := by decide +kernel
theorem dX6_walk_14 : decode cX6_walk 14 = .ok (.getfield 28, 3) := by decide +kernel
theorem dX6_walk_17 : decode cX6_walk 17 = .ok (.iload_n 1, 1) := by decide +kernel
theorem dX6_walk_18 : decode cX6_walk 18 = .ok (.iload_n 2, 1) := by decide +kernel
theorem dX6_walk_19 : decode cX6_walk 19 = .ok (.invokevirtual 154, 3) := by decide +kernel
theorem dX6_walk_22 : decode cX6_walk 22 = .ok (.ifCond .ne 6, 3) := by decide +kernel
theorem dX6_walk_25 : decode cX6_walk 25 = .ok (.bipush (-3), 2) := by decide +kernel
theorem dX6_walk_27 : decode cX6_walk 27 = .ok (.ireturn, 1) := by decide +kernel
theorem dX6_walk_28 : decode cX6_walk 28 = .ok (.aload_n 0, 1) := by decide +kernel
theorem dX6_walk_29 : decode cX6_walk 29 = .ok (.getfield 38, 3) := by decide +kernel
theorem dX6_walk_32 : decode cX6_walk 32 = .ok (.aload_n 0, 1) := by decide +kernel
theorem dX6_walk_33 : decode cX6_walk 33 = .ok (.getfield 28, 3) := by decide +kernel
theorem dX6_walk_36 : decode cX6_walk 36 = .ok (.invokevirtual 144, 3) := by decide +kernel
theorem dX6_walk_39 : decode cX6_walk 39 = .ok (.aload_n 0, 1) := by decide +kernel
theorem dX6_walk_40 : decode cX6_walk 40 = .ok (.getfield 28, 3) := by decide +kernel
theorem dX6_walk_43 : decode cX6_walk 43 = .ok (.iload_n 1, 1) := by decide +kernel
theorem dX6_walk_44 : decode cX6_walk 44 = .ok (.iload_n 2, 1) := by decide +kernel
theorem dX6_walk_45 : decode cX6_walk 45 = .ok (.invokevirtual 158, 3) := by decide +kernel
theorem dX6_walk_48 : decode cX6_walk 48 = .ok (.pop, 1) := by decide +kernel
theorem dX6_walk_49 : decode cX6_walk 49 = .ok (.aload_n 0, 1) := by decide +kernel
theorem dX6_walk_50 : decode cX6_walk 50 = .ok (.getfield 28, 3) := by decide +kernel
theorem dX6_walk_53 : decode cX6_walk 53 = .ok (.iload_n 1, 1) := by decide +kernel
theorem dX6_walk_54 : decode cX6_walk 54 = .ok (.invokevirtual 108, 3) := by decide +kernel
theorem dX6_walk_57 : decode cX6_walk 57 = .ok (.ireturn, 1) := by decide +kernel
theorem dX6_hour_0 : decode cX6_hour 0 = .ok (.aload_n 0, 1) := by decide +kernel
theorem dX6_hour_1 : decode cX6_hour 1 = .ok (.getfield 38, 3) := by decide +kernel
theorem dX6_hour_4 : decode cX6_hour 4 = .ok (.aload_n 0, 1) := by decide +kernel
theorem dX6_hour_5 : decode cX6_hour 5 = .ok (.getfield 28, 3) := by decide +kernel
theorem dX6_hour_8 : decode cX6_hour 8 = .ok (.invokevirtual 144, 3) := by decide +kernel
theorem dX6_hour_11 : decode cX6_hour 11 = .ok (.aload_n 0, 1) := by decide +kernel
theorem dX6_hour_12 : decode cX6_hour 12 = .ok (.getfield 28, 3) := by decide +kernel
theorem dX6_hour_15 : decode cX6_hour 15 = .ok (.invokevirtual 161, 3) := by decide +kernel
theorem dX6_hour_18 : decode cX6_hour 18 = .ok (.ireturn, 1) := by decide +kernel
theorem dX6_undo_0 : decode cX6_undo 0 = .ok (.aload_n 0, 1) := by decide +kernel
theorem dX6_undo_1 : decode cX6_undo 1 = .ok (.getfield 38, 3) := by decide +kernel
theorem dX6_undo_4 : decode cX6_undo 4 = .ok (.invokevirtual 101, 3) := by decide +kernel
theorem dX6_undo_7 : decode cX6_undo 7 = .ok (.ifCond .ne 6, 3) := by decide +kernel
theorem dX6_undo_10 : decode cX6_undo 10 = .ok (.bipush (-3), 2) := by decide +kernel
theorem dX6_undo_12 : decode cX6_undo 12 = .ok (.ireturn, 1) := by decide +kernel
theorem dX6_undo_13 : decode cX6_undo 13 = .ok (.aload_n 0, 1) := by decide +kernel
theorem dX6_undo_14 : decode cX6_undo 14 = .ok (.getfield 38, 3) := by decide +kernel
theorem dX6_undo_17 : decode cX6_undo 17 = .ok (.aload_n 0, 1) := by decide +kernel
