theorem dX6_undo_18 : decode cX6_undo 18 = .ok (.getfield 28, 3) := by decide +kernel
theorem dX6_undo_21 : decode cX6_undo 21 = .ok (.invokevirtual 164, 3) := by decide +kernel
theorem dX6_undo_24 : decode cX6_undo 24 = .ok (.aload_n 0, 1) := by decide +kernel
theorem dX6_undo_25 : decode cX6_undo 25 = .ok (.getfield 38, 3) := by decide +kernel
theorem dX6_undo_28 : decode cX6_undo 28 = .ok (.invokevirtual 101, 3) := by decide +kernel
theorem dX6_undo_31 : decode cX6_undo 31 = .ok (.ireturn, 1) := by decide +kernel
theorem dX6_wet_0 : decode cX6_wet 0 = .ok (.iload_n 1, 1) := by decide +kernel
theorem dX6_wet_1 : decode cX6_wet 1 = .ok (.invokestatic 132, 3) := by decide +kernel
theorem dX6_wet_4 : decode cX6_wet 4 = .ok (.ifCond .ne 5, 3) := by decide +kernel
theorem dX6_wet_7 : decode cX6_wet 7 = .ok (.iconst (-1), 1) := by decide +kernel
theorem dX6_wet_8 : decode cX6_wet 8 = .ok (.ireturn, 1) := by decide +kernel
theorem dX6_wet_9 : decode cX6_wet 9 = .ok (.iload_n 2, 1) := by decide +kernel
theorem dX6_wet_10 : decode cX6_wet 10 = .ok (.ifCond .lt 9, 3) := by decide +kernel
theorem dX6_wet_13 : decode cX6_wet 13 = .ok (.iload_n 2, 1) := by decide +kernel
theorem dX6_wet_14 : decode cX6_wet 14 = .ok (.bipush 20, 2) := by decide +kernel
theorem dX6_wet_16 : decode cX6_wet 16 = .ok (.if_icmp .le 6, 3) := by decide +kernel
theorem dX6_wet_19 : decode cX6_wet 19 = .ok (.bipush (-2), 2) := by decide +kernel
theorem dX6_wet_21 : decode cX6_wet 21 = .ok (.ireturn, 1) := by decide +kernel
theorem dX6_wet_22 : decode cX6_wet 22 = .ok (.aload_n 0, 1) := by decide +kernel
theorem dX6_wet_23 : decode cX6_wet 23 = .ok (.getfield 32, 3) := by decide +kernel
theorem dX6_wet_26 : decode cX6_wet 26 = .ok (.aload_n 0, 1) := by decide +kernel
theorem dX6_wet_27 : decode cX6_wet 27 = .ok (.getfield 28, 3) := by decide +kernel
theorem dX6_wet_30 : decode cX6_wet 30 = .ok (.invokevirtual 167, 3) := by decide +kernel
theorem dX6_wet_33 : decode cX6_wet 33 = .ok (.aload_n 0, 1) := by decide +kernel
theorem dX6_wet_34 : decode cX6_wet 34 = .ok (.getfield 32, 3) := by decide +kernel
theorem dX6_wet_37 : decode cX6_wet 37 = .ok (.iload_n 2, 1) := by decide +kernel
theorem dX6_wet_38 : decode cX6_wet 38 = .ok (.invokevirtual 170, 3) := by decide +kernel
theorem dX6_wet_41 : decode cX6_wet 41 = .ok (.aload_n 0, 1) := by decide +kernel
theorem dX6_wet_42 : decode cX6_wet 42 = .ok (.getfield 32, 3) := by decide +kernel
theorem dX6_wet_45 : decode cX6_wet 45 = .ok (.iload_n 1, 1) := by decide +kernel
theorem dX6_wet_46 : decode cX6_wet 46 = .ok (.invokevirtual 135, 3) := by decide +kernel
theorem dX6_wet_49 : decode cX6_wet 49 = .ok (.ireturn, 1) := by decide +kernel
theorem dX6_needs_0 : decode cX6_needs 0 = .ok (.iload_n 1, 1) := by decide +kernel
theorem dX6_needs_1 : decode cX6_needs 1 = .ok (.ifCond .lt 16, 3) := by decide +kernel
theorem dX6_needs_4 : decode cX6_needs 4 = .ok (.iload_n 1, 1) := by decide +kernel
theorem dX6_needs_5 : decode cX6_needs 5 = .ok (.bipush 20, 2) := by decide +kernel
theorem dX6_needs_7 : decode cX6_needs 7 = .ok (.if_icmp .gt 10, 3) := by decide +kernel
theorem dX6_needs_10 : decode cX6_needs 10 = .ok (.iload_n 2, 1) := by decide +kernel
theorem dX6_needs_11 : decode cX6_needs 11 = .ok (.invokestatic 174, 3) := by decide +kernel
theorem dX6_needs_14 : decode cX6_needs 14 = .ok (.ifCond .ne 6, 3) := by decide +kernel
theorem dX6_needs_17 : decode cX6_needs 17 = .ok (.bipush (-2), 2) := by decide +kernel
theorem dX6_needs_19 : decode cX6_needs 19 = .ok (.ireturn, 1) := by decide +kernel
theorem dX6_needs_20 : decode cX6_needs 20 = .ok (.aload_n 0, 1) := by decide +kernel
theorem dX6_needs_21 : decode cX6_needs 21 = .ok (.getfield 32, 3) := by decide +kernel
theorem dX6_needs_24 : decode cX6_needs 24 = .ok (.aload_n 0, 1) := by decide +kernel
theorem dX6_needs_25 : decode cX6_needs 25 = .ok (.getfield 28, 3) := by decide +kernel
theorem dX6_needs_28 : decode cX6_needs 28 = .ok (.invokevirtual 167, 3) := by decide +kernel
theorem dX6_needs_31 : decode cX6_needs 31 = .ok (.aload_n 0, 1) := by decide +kernel
theorem dX6_needs_32 : decode cX6_needs 32 = .ok (.getfield 32, 3) := by decide +kernel
theorem dX6_needs_35 : decode cX6_needs 35 = .ok (.iload_n 1, 1) := by decide +kernel
theorem dX6_needs_36 : decode cX6_needs 36 = .ok (.invokevirtual 170, 3) := by decide +kernel
theorem dX6_needs_39 : decode cX6_needs 39 = .ok (.aload_n 0, 1) := by decide +kernel
theorem dX6_needs_40 : decode cX6_needs 40 = .ok (.getfield 32, 3) := by decide +kernel
theorem dX6_needs_43 : decode cX6_needs 43 = .ok (.iload_n 2, 1) := by decide +kernel
theorem dX6_needs_44 : decode cX6_needs 44 = .ok (.ifCond .ne 7, 3) := by decide +kernel
theorem dX6_needs_47 : decode cX6_needs 47 = .ok (.iconst 1, 1) := by decide +kernel
theorem dX6_needs_48 : decode cX6_needs 48 = .ok (.goto 4, 3) := by decide +kernel
theorem dX6_needs_51 : decode cX6_needs 51 = .ok (.iconst 2, 1) := by decide +kernel
theorem dX6_needs_52 : decode cX6_needs 52 = .ok (.invokevirtual 97, 3) := by decide +kernel
theorem dX6_needs_55 : decode cX6_needs 55 = .ok (.ireturn, 1) := by decide +kernel
theorem dX6_dry_0 : decode cX6_dry 0 = .ok (.iload_n 1, 1) := by decide +kernel
theorem dX6_dry_1 : decode cX6_dry 1 = .ok (.invokestatic 132, 3) := by decide +kernel
theorem dX6_dry_4 : decode cX6_dry 4 = .ok (.ifCond .ne 5, 3) := by decide +kernel
theorem dX6_dry_7 : decode cX6_dry 7 = .ok (.iconst (-1), 1) := by decide +kernel
theorem dX6_dry_8 : decode cX6_dry 8 = .ok (.ireturn, 1) := by decide +kernel
theorem dX6_dry_9 : decode cX6_dry 9 = .ok (.aload_n 0, 1) := by decide +kernel
theorem dX6_dry_10 : decode cX6_dry 10 = .ok (.getfield 32, 3) := by decide +kernel
theorem dX6_dry_13 : decode cX6_dry 13 = .ok (.aload_n 0, 1) := by decide +kernel
theorem dX6_dry_14 : decode cX6_dry 14 = .ok (.getfield 28, 3) := by decide +kernel
theorem dX6_dry_17 : decode cX6_dry 17 = .ok (.invokevirtual 167, 3) := by decide +kernel
theorem dX6_dry_20 : decode cX6_dry 20 = .ok (.iconst 0, 1) := by decide +kernel
theorem dX6_dry_21 : decode cX6_dry 21 = .ok (.istore_n 2, 1) := by decide +kernel
theorem dX6_dry_22 : decode cX6_dry 22 = .ok (.iload_n 2, 1) := by decide +kernel
theorem dX6_dry_23 : decode cX6_dry 23 = .ok (.bipush 20, 2) := by decide +kernel
theorem dX6_dry_25 : decode cX6_dry 25 = .ok (.if_icmp .gt 33, 3) := by decide +kernel
theorem dX6_dry_28 : decode cX6_dry 28 = .ok (.aload_n 0, 1) := by decide +kernel
theorem dX6_dry_29 : decode cX6_dry 29 = .ok (.getfield 32, 3) := by decide +kernel
theorem dX6_dry_32 : decode cX6_dry 32 = .ok (.invokevirtual 91, 3) := by decide +kernel
theorem dX6_dry_35 : decode cX6_dry 35 = .ok (.iload_n 1, 1) := by decide +kernel
theorem dX6_dry_36 : decode cX6_dry 36 = .ok (.invokestatic 177, 3) := by decide +kernel
theorem dX6_dry_39 : decode cX6_dry 39 = .ok (.ifCond .ne 5, 3) := by decide +kernel
theorem dX6_dry_42 : decode cX6_dry 42 = .ok (.iload_n 2, 1) := by decide +kernel
theorem dX6_dry_43 : decode cX6_dry 43 = .ok (.ireturn, 1) := by decide +kernel
theorem dX6_dry_44 : decode cX6_dry 44 = .ok (.aload_n 0, 1) := by decide +kernel
theorem dX6_dry_45 : decode cX6_dry 45 = .ok (.getfield 32, 3) := by decide +kernel
theorem dX6_dry_48 : decode cX6_dry 48 = .ok (.invokevirtual 161, 3) := by decide +kernel
theorem dX6_dry_51 : decode cX6_dry 51 = .ok (.pop, 1) := by decide +kernel
theorem dX6_dry_52 : decode cX6_dry 52 = .ok (.iinc 2 1, 3) := by decide +kernel
theorem dX6_dry_55 : decode cX6_dry 55 = .ok (.goto (-33), 3) := by decide +kernel
theorem dX6_dry_58 : decode cX6_dry 58 = .ok (.bipush (-9), 2) := by decide +kernel
theorem dX6_dry_60 : decode cX6_dry 60 = .ok (.ireturn, 1) := by decide +kernel
theorem dX6_asked_0 : decode cX6_asked 0 = .ok (.iload_n 1, 1) := by decide +kernel
theorem dX6_asked_1 : decode cX6_asked 1 = .ok (.invokestatic 174, 3) := by decide +kernel
theorem dX6_asked_4 : decode cX6_asked 4 = .ok (.ifCond .ne 6, 3) := by decide +kernel
theorem dX6_asked_7 : decode cX6_asked 7 = .ok (.bipush (-2), 2) := by decide +kernel
theorem dX6_asked_9 : decode cX6_asked 9 = .ok (.ireturn, 1) := by decide +kernel
theorem dX6_asked_10 : decode cX6_asked 10 = .ok (.iconst 0, 1) := by decide +kernel
theorem dX6_asked_11 : decode cX6_asked 11 = .ok (.istore_n 2, 1) := by decide +kernel
theorem dX6_asked_12 : decode cX6_asked 12 = .ok (.aload_n 0, 1) := by decide +kernel
theorem dX6_asked_13 : decode cX6_asked 13 = .ok (.iload_n 2, 1) := by decide +kernel
theorem dX6_asked_14 : decode cX6_asked 14 = .ok (.invokevirtual 181, 3) := by decide +kernel
theorem dX6_asked_17 : decode cX6_asked 17 = .ok (.istore_n 3, 1) := by decide +kernel
theorem dX6_asked_18 : decode cX6_asked 18 = .ok (.iconst 1, 1) := by decide +kernel
theorem dX6_asked_19 : decode cX6_asked 19 = .ok (.istore 4, 2) := by decide +kernel
theorem dX6_asked_21 : decode cX6_asked 21 = .ok (.iload 4, 2) := by decide +kernel
theorem dX6_asked_23 : decode cX6_asked 23 = .ok (.bipush 32, 2) := by decide +kernel
theorem dX6_asked_25 : decode cX6_asked 25 = .ok (.if_icmp .ge 74, 3) := by decide +kernel
theorem dX6_asked_28 : decode cX6_asked 28 = .ok (.iload 4, 2) := by decide +kernel
theorem dX6_asked_30 : decode cX6_asked 30 = .ok (.aload_n 0, 1) := by decide +kernel
theorem dX6_asked_31 : decode cX6_asked 31 = .ok (.getfield 28, 3) := by decide +kernel
theorem dX6_asked_34 : decode cX6_asked 34 = .ok (.invokevirtual 184, 3) := by decide +kernel
theorem dX6_asked_37 : decode cX6_asked 37 = .ok (.invokestatic 187, 3) := by decide +kernel
theorem dX6_asked_40 : decode cX6_asked 40 = .ok (.ifCond .eq 53, 3) := by decide +kernel
theorem dX6_asked_43 : decode cX6_asked 43 = .ok (.aload_n 0, 1) := by decide +kernel
theorem dX6_asked_44 : decode cX6_asked 44 = .ok (.iload 4, 2) := by decide +kernel
theorem dX6_asked_46 : decode cX6_asked 46 = .ok (.invokevirtual 181, 3) := by decide +kernel
theorem dX6_asked_49 : decode cX6_asked 49 = .ok (.istore 5, 2) := by decide +kernel
theorem dX6_asked_51 : decode cX6_asked 51 = .ok (.iload 4, 2) := by decide +kernel
theorem dX6_asked_53 : decode cX6_asked 53 = .ok (.invokestatic 190, 3) := by decide +kernel
theorem dX6_asked_56 : decode cX6_asked 56 = .ok (.iload_n 2, 1) := by decide +kernel
theorem dX6_asked_57 : decode cX6_asked 57 = .ok (.invokestatic 190, 3) := by decide +kernel
theorem dX6_asked_60 : decode cX6_asked 60 = .ok (.if_icmp .ge 7, 3) := by decide +kernel
theorem dX6_asked_63 : decode cX6_asked 63 = .ok (.iconst 1, 1) := by decide +kernel
theorem dX6_asked_64 : decode cX6_asked 64 = .ok (.goto 4, 3) := by decide +kernel
theorem dX6_asked_67 : decode cX6_asked 67 = .ok (.iconst 0, 1) := by decide +kernel
theorem dX6_asked_68 : decode cX6_asked 68 = .ok (.istore 6, 2) := by decide +kernel
theorem dX6_asked_70 : decode cX6_asked 70 = .ok (.iload 5, 2) := by decide +kernel
theorem dX6_asked_72 : decode cX6_asked 72 = .ok (.iload_n 3, 1) := by decide +kernel
theorem dX6_asked_73 : decode cX6_asked 73 = .ok (.if_icmp .gt 14, 3) := by decide +kernel
theorem dX6_asked_76 : decode cX6_asked 76 = .ok (.iload 5, 2) := by decide +kernel
theorem dX6_asked_78 : decode cX6_asked 78 = .ok (.iload_n 3, 1) := by decide +kernel
theorem dX6_asked_79 : decode cX6_asked 79 = .ok (.if_icmp .ne 14, 3) := by decide +kernel
theorem dX6_asked_82 : decode cX6_asked 82 = .ok (.iload 6, 2) := by decide +kernel
theorem dX6_asked_84 : decode cX6_asked 84 = .ok (.ifCond .eq 9, 3) := by decide +kernel
theorem dX6_asked_87 : decode cX6_asked 87 = .ok (.iload 4, 2) := by decide +kernel
theorem dX6_asked_89 : decode cX6_asked 89 = .ok (.istore_n 2, 1) := by decide +kernel
theorem dX6_asked_90 : decode cX6_asked 90 = .ok (.iload 5, 2) := by decide +kernel
theorem dX6_asked_92 : decode cX6_asked 92 = .ok (.istore_n 3, 1) := by decide +kernel
theorem dX6_asked_93 : decode cX6_asked 93 = .ok (.iinc 4 1, 3) := by decide +kernel
theorem dX6_asked_96 : decode cX6_asked 96 = .ok (.goto (-75), 3) := by decide +kernel
theorem dX6_asked_99 : decode cX6_asked 99 = .ok (.iload_n 1, 1) := by decide +kernel
theorem dX6_asked_100 : decode cX6_asked 100 = .ok (.ifCond .ne 7, 3) := by decide +kernel
theorem dX6_asked_103 : decode cX6_asked 103 = .ok (.iload_n 2, 1) := by decide +kernel
theorem dX6_asked_104 : decode cX6_asked 104 = .ok (.goto 4, 3) := by decide +kernel
theorem dX6_asked_107 : decode cX6_asked 107 = .ok (.iload_n 3, 1) := by decide +kernel
theorem dX6_asked_108 : decode cX6_asked 108 = .ok (.ireturn, 1) := by decide +kernel
theorem dX6_sent_0 : decode cX6_sent 0 = .ok (.aload_n 0, 1) := by decide +kernel
theorem dX6_sent_1 : decode cX6_sent 1 = .ok (.getfield 19, 3) := by decide +kernel
theorem dX6_sent_4 : decode cX6_sent 4 = .ok (.iload_n 1, 1) := by decide +kernel
theorem dX6_sent_5 : decode cX6_sent 5 = .ok (.invokevirtual 105, 3) := by decide +kernel
theorem dX6_sent_8 : decode cX6_sent 8 = .ok (.ifCond .ne 5, 3) := by decide +kernel
theorem dX6_sent_11 : decode cX6_sent 11 = .ok (.iconst (-1), 1) := by decide +kernel
theorem dX6_sent_12 : decode cX6_sent 12 = .ok (.ireturn, 1) := by decide +kernel
theorem dX6_sent_13 : decode cX6_sent 13 = .ok (.iload_n 2, 1) := by decide +kernel
theorem dX6_sent_14 : decode cX6_sent 14 = .ok (.invokestatic 174, 3) := by decide +kernel
theorem dX6_sent_17 : decode cX6_sent 17 = .ok (.ifCond .ne 6, 3) := by decide +kernel
theorem dX6_sent_20 : decode cX6_sent 20 = .ok (.bipush (-2), 2) := by decide +kernel
theorem dX6_sent_22 : decode cX6_sent 22 = .ok (.ireturn, 1) := by decide +kernel
theorem dX6_sent_23 : decode cX6_sent 23 = .ok (.aload_n 0, 1) := by decide +kernel
theorem dX6_sent_24 : decode cX6_sent 24 = .ok (.getfield 28, 3) := by decide +kernel
theorem dX6_sent_27 : decode cX6_sent 27 = .ok (.iload_n 1, 1) := by decide +kernel
theorem dX6_sent_28 : decode cX6_sent 28 = .ok (.invokevirtual 114, 3) := by decide +kernel
theorem dX6_sent_31 : decode cX6_sent 31 = .ok (.ifCond .eq 6, 3) := by decide +kernel
theorem dX6_sent_34 : decode cX6_sent 34 = .ok (.bipush (-3), 2) := by decide +kernel
theorem dX6_sent_36 : decode cX6_sent 36 = .ok (.ireturn, 1) := by decide +kernel
theorem dX6_sent_37 : decode cX6_sent 37 = .ok (.iconst 0, 1) := by decide +kernel
theorem dX6_sent_38 : decode cX6_sent 38 = .ok (.istore_n 3, 1) := by decide +kernel
theorem dX6_sent_39 : decode cX6_sent 39 = .ok (.aload_n 0, 1) := by decide +kernel
theorem dX6_sent_40 : decode cX6_sent 40 = .ok (.iload_n 1, 1) := by decide +kernel
theorem dX6_sent_41 : decode cX6_sent 41 = .ok (.iload_n 3, 1) := by decide +kernel
theorem dX6_sent_42 : decode cX6_sent 42 = .ok (.invokevirtual 195, 3) := by decide +kernel
theorem dX6_sent_45 : decode cX6_sent 45 = .ok (.istore 4, 2) := by decide +kernel
theorem dX6_sent_47 : decode cX6_sent 47 = .ok (.iconst 1, 1) := by decide +kernel
theorem dX6_sent_48 : decode cX6_sent 48 = .ok (.istore 5, 2) := by decide +kernel
theorem dX6_sent_50 : decode cX6_sent 50 = .ok (.iload 5, 2) := by decide +kernel
theorem dX6_sent_52 : decode cX6_sent 52 = .ok (.bipush 6, 2) := by decide +kernel
theorem dX6_sent_54 : decode cX6_sent 54 = .ok (.if_icmp .ge 32, 3) := by decide +kernel
theorem dX6_sent_57 : decode cX6_sent 57 = .ok (.aload_n 0, 1) := by decide +kernel
theorem dX6_sent_58 : decode cX6_sent 58 = .ok (.iload_n 1, 1) := by decide +kernel
theorem dX6_sent_59 : decode cX6_sent 59 = .ok (.iload 5, 2) := by decide +kernel
theorem dX6_sent_61 : decode cX6_sent 61 = .ok (.invokevirtual 195, 3) := by decide +kernel
theorem dX6_sent_64 : decode cX6_sent 64 = .ok (.istore 6, 2) := by decide +kernel
theorem dX6_sent_66 : decode cX6_sent 66 = .ok (.iload 6, 2) := by decide +kernel
theorem dX6_sent_68 : decode cX6_sent 68 = .ok (.iload 4, 2) := by decide +kernel
theorem dX6_sent_70 : decode cX6_sent 70 = .ok (.if_icmp .le 10, 3) := by decide +kernel
theorem dX6_sent_73 : decode cX6_sent 73 = .ok (.iload 5, 2) := by decide +kernel
theorem dX6_sent_75 : decode cX6_sent 75 = .ok (.istore_n 3, 1) := by decide +kernel
theorem dX6_sent_76 : decode cX6_sent 76 = .ok (.iload 6, 2) := by decide +kernel
theorem dX6_sent_78 : decode cX6_sent 78 = .ok (.istore 4, 2) := by decide +kernel
theorem dX6_sent_80 : decode cX6_sent 80 = .ok (.iinc 5 1, 3) := by decide +kernel
theorem dX6_sent_83 : decode cX6_sent 83 = .ok (.goto (-33), 3) := by decide +kernel
theorem dX6_sent_86 : decode cX6_sent 86 = .ok (.iload_n 2, 1) := by decide +kernel
theorem dX6_sent_87 : decode cX6_sent 87 = .ok (.ifCond .ne 7, 3) := by decide +kernel
theorem dX6_sent_90 : decode cX6_sent 90 = .ok (.iload_n 3, 1) := by decide +kernel
theorem dX6_sent_91 : decode cX6_sent 91 = .ok (.goto 5, 3) := by decide +kernel
theorem dX6_sent_94 : decode cX6_sent 94 = .ok (.iload 4, 2) := by decide +kernel
theorem dX6_sent_96 : decode cX6_sent 96 = .ok (.ireturn, 1) := by decide +kernel
theorem dX6_judge_0 : decode cX6_judge 0 = .ok (.iload_n 1, 1) := by decide +kernel
theorem dX6_judge_1 : decode cX6_judge 1 = .ok (.iconst 1, 1) := by decide +kernel
theorem dX6_judge_2 : decode cX6_judge 2 = .ok (.if_icmp .lt 24, 3) := by decide +kernel
theorem dX6_judge_5 : decode cX6_judge 5 = .ok (.iload_n 1, 1) := by decide +kernel
theorem dX6_judge_6 : decode cX6_judge 6 = .ok (.iconst 4, 1) := by decide +kernel
theorem dX6_judge_7 : decode cX6_judge 7 = .ok (.if_icmp .gt 19, 3) := by decide +kernel
theorem dX6_judge_10 : decode cX6_judge 10 = .ok (.lload_n 2, 1) := by decide +kernel
theorem dX6_judge_11 : decode cX6_judge 11 = .ok (.lconst 0, 1) := by decide +kernel
theorem dX6_judge_12 : decode cX6_judge 12 = .ok (.lcmp, 1) := by decide +kernel
theorem dX6_judge_13 : decode cX6_judge 13 = .ok (.ifCond .lt 13, 3) := by decide +kernel
theorem dX6_judge_16 : decode cX6_judge 16 = .ok (.lload_n 2, 1) := by decide +kernel
theorem dX6_judge_17 : decode cX6_judge 17 = .ok (.iload_n 1, 1) := by decide +kernel
theorem dX6_judge_18 : decode cX6_judge 18 = .ok (.invokestatic 199, 3) := by decide +kernel
theorem dX6_judge_21 : decode cX6_judge 21 = .ok (.lconst 0, 1) := by decide +kernel
theorem dX6_judge_22 : decode cX6_judge 22 = .ok (.lcmp, 1) := by decide +kernel
theorem dX6_judge_23 : decode cX6_judge 23 = .ok (.ifCond .eq 6, 3) := by decide +kernel
theorem dX6_judge_26 : decode cX6_judge 26 = .ok (.bipush (-2), 2) := by decide +kernel
theorem dX6_judge_28 : decode cX6_judge 28 = .ok (.ireturn, 1) := by decide +kernel
theorem dX6_judge_29 : decode cX6_judge 29 = .ok (.aload_n 0, 1) := by decide +kernel
theorem dX6_judge_30 : decode cX6_judge 30 = .ok (.getfield 32, 3) := by decide +kernel
theorem dX6_judge_33 : decode cX6_judge 33 = .ok (.aload_n 0, 1) := by decide +kernel
theorem dX6_judge_34 : decode cX6_judge 34 = .ok (.getfield 28, 3) := by decide +kernel
theorem dX6_judge_37 : decode cX6_judge 37 = .ok (.invokevirtual 167, 3) := by decide +kernel
theorem dX6_judge_40 : decode cX6_judge 40 = .ok (.iconst 0, 1) := by decide +kernel
theorem dX6_judge_41 : decode cX6_judge 41 = .ok (.istore 4, 2) := by decide +kernel
theorem dX6_judge_43 : decode cX6_judge 43 = .ok (.iload 4, 2) := by decide +kernel
theorem dX6_judge_45 : decode cX6_judge 45 = .ok (.iload_n 1, 1) := by decide +kernel
theorem dX6_judge_46 : decode cX6_judge 46 = .ok (.if_icmp .ge 54, 3) := by decide +kernel
theorem dX6_judge_49 : decode cX6_judge 49 = .ok (.lload_n 2, 1) := by decide +kernel
theorem dX6_judge_50 : decode cX6_judge 50 = .ok (.iload_n 1, 1) := by decide +kernel
theorem dX6_judge_51 : decode cX6_judge 51 = .ok (.iconst 1, 1) := by decide +kernel
theorem dX6_judge_52 : decode cX6_judge 52 = .ok (.isub, 1) := by decide +kernel
theorem dX6_judge_53 : decode cX6_judge 53 = .ok (.iload 4, 2) := by decide +kernel
theorem dX6_judge_55 : decode cX6_judge 55 = .ok (.isub, 1) := by decide +kernel
theorem dX6_judge_56 : decode cX6_judge 56 = .ok (.invokestatic 199, 3) := by decide +kernel
theorem dX6_judge_59 : decode cX6_judge 59 = .ok (.ldc2_w 203, 3) := by decide +kernel
theorem dX6_judge_62 : decode cX6_judge 62 = .ok (.lrem, 1) := by decide +kernel
theorem dX6_judge_63 : decode cX6_judge 63 = .ok (.l2i, 1) := by decide +kernel
theorem dX6_judge_64 : decode cX6_judge 64 = .ok (.istore 5, 2) := by decide +kernel
theorem dX6_judge_66 : decode cX6_judge 66 = .ok (.aload_n 0, 1) := by decide +kernel
theorem dX6_judge_67 : decode cX6_judge 67 = .ok (.iload 5, 2) := by decide +kernel
theorem dX6_judge_69 : decode cX6_judge 69 = .ok (.bipush 100, 2) := by decide +kernel
theorem dX6_judge_71 : decode cX6_judge 71 = .ok (.idiv, 1) := by decide +kernel
theorem dX6_judge_72 : decode cX6_judge 72 = .ok (.iload 5, 2) := by decide +kernel
theorem dX6_judge_74 : decode cX6_judge 74 = .ok (.bipush 10, 2) := by decide +kernel
theorem dX6_judge_76 : decode cX6_judge 76 = .ok (.idiv, 1) := by decide +kernel
theorem dX6_judge_77 : decode cX6_judge 77 = .ok (.bipush 10, 2) := by decide +kernel
theorem dX6_judge_79 : decode cX6_judge 79 = .ok (.irem, 1) := by decide +kernel
theorem dX6_judge_80 : decode cX6_judge 80 = .ok (.iload 5, 2) := by decide +kernel
theorem dX6_judge_82 : decode cX6_judge 82 = .ok (.bipush 10, 2) := by decide +kernel
theorem dX6_judge_84 : decode cX6_judge 84 = .ok (.irem, 1) := by decide +kernel
theorem dX6_judge_85 : decode cX6_judge 85 = .ok (.invokevirtual 205, 3) := by decide +kernel
theorem dX6_judge_88 : decode cX6_judge 88 = .ok (.ifCond .ne 6, 3) := by decide +kernel
theorem dX6_judge_91 : decode cX6_judge 91 = .ok (.iload 4, 2) := by decide +kernel
theorem dX6_judge_93 : decode cX6_judge 93 = .ok (.ireturn, 1) := by decide +kernel
theorem dX6_judge_94 : decode cX6_judge 94 = .ok (.iinc 4 1, 3) := by decide +kernel
theorem dX6_judge_97 : decode cX6_judge 97 = .ok (.goto (-54), 3) := by decide +kernel
theorem dX6_judge_100 : decode cX6_judge 100 = .ok (.bipush (-9), 2) := by decide +kernel
theorem dX6_judge_102 : decode cX6_judge 102 = .ok (.ireturn, 1) := by decide +kernel
theorem dX6_share_0 : decode cX6_share 0 = .ok (.aload_n 0, 1) := by decide +kernel
theorem dX6_share_1 : decode cX6_share 1 = .ok (.getfield 19, 3) := by decide +kernel
theorem dX6_share_4 : decode cX6_share 4 = .ok (.iload_n 1, 1) := by decide +kernel
theorem dX6_share_5 : decode cX6_share 5 = .ok (.invokevirtual 105, 3) := by decide +kernel
theorem dX6_share_8 : decode cX6_share 8 = .ok (.ifCond .ne 5, 3) := by decide +kernel
theorem dX6_share_11 : decode cX6_share 11 = .ok (.iconst (-1), 1) := by decide +kernel
theorem dX6_share_12 : decode cX6_share 12 = .ok (.ireturn, 1) := by decide +kernel
theorem dX6_share_13 : decode cX6_share 13 = .ok (.aload_n 0, 1) := by decide +kernel
theorem dX6_share_14 : decode cX6_share 14 = .ok (.getfield 19, 3) := by decide +kernel
theorem dX6_share_17 : decode cX6_share 17 = .ok (.invokevirtual 79, 3) := by decide +kernel
theorem dX6_share_20 : decode cX6_share 20 = .ok (.istore_n 3, 1) := by decide +kernel
theorem dX6_share_21 : decode cX6_share 21 = .ok (.iconst 0, 1) := by decide +kernel
theorem dX6_share_22 : decode cX6_share 22 = .ok (.istore 4, 2) := by decide +kernel
theorem dX6_share_24 : decode cX6_share 24 = .ok (.iconst 0, 1) := by decide +kernel
theorem dX6_share_25 : decode cX6_share 25 = .ok (.istore 5, 2) := by decide +kernel
theorem dX6_share_27 : decode cX6_share 27 = .ok (.iload 5, 2) := by decide +kernel
theorem dX6_share_29 : decode cX6_share 29 = .ok (.iconst 1, 1) := by decide +kernel
theorem dX6_share_30 : decode cX6_share 30 = .ok (.iload_n 3, 1) := by decide +kernel
theorem dX6_share_31 : decode cX6_share 31 = .ok (.ishl, 1) := by decide +kernel
theorem dX6_share_32 : decode cX6_share 32 = .ok (.if_icmp .ge 67, 3) := by decide +kernel
theorem dX6_share_35 : decode cX6_share 35 = .ok (.iload 5, 2) := by decide +kernel
theorem dX6_share_37 : decode cX6_share 37 = .ok (.iload_n 1, 1) := by decide +kernel
theorem dX6_share_38 : decode cX6_share 38 = .ok (.invokestatic 177, 3) := by decide +kernel
theorem dX6_share_41 : decode cX6_share 41 = .ok (.ifCond .ne 52, 3) := by decide +kernel
theorem dX6_share_44 : decode cX6_share 44 = .ok (.iload 5, 2) := by decide +kernel
theorem dX6_share_46 : decode cX6_share 46 = .ok (.invokestatic 190, 3) := by decide +kernel
theorem dX6_share_49 : decode cX6_share 49 = .ok (.istore 6, 2) := by decide +kernel
theorem dX6_share_51 : decode cX6_share 51 = .ok (.aload_n 0, 1) := by decide +kernel
theorem dX6_share_52 : decode cX6_share 52 = .ok (.iload 5, 2) := by decide +kernel
theorem dX6_share_54 : decode cX6_share 54 = .ok (.iconst 1, 1) := by decide +kernel
theorem dX6_share_55 : decode cX6_share 55 = .ok (.iload_n 1, 1) := by decide +kernel
theorem dX6_share_56 : decode cX6_share 56 = .ok (.ishl, 1) := by decide +kernel
theorem dX6_share_57 : decode cX6_share 57 = .ok (.ior, 1) := by decide +kernel
theorem dX6_share_58 : decode cX6_share 58 = .ok (.invokevirtual 209, 3) := by decide +kernel
theorem dX6_share_61 : decode cX6_share 61 = .ok (.aload_n 0, 1) := by decide +kernel
theorem dX6_share_62 : decode cX6_share 62 = .ok (.iload 5, 2) := by decide +kernel
theorem dX6_share_64 : decode cX6_share 64 = .ok (.invokevirtual 209, 3) := by decide +kernel
theorem dX6_share_67 : decode cX6_share 67 = .ok (.isub, 1) := by decide +kernel
theorem dX6_share_68 : decode cX6_share 68 = .ok (.istore 7, 2) := by decide +kernel
theorem dX6_share_70 : decode cX6_share 70 = .ok (.iload 4, 2) := by decide +kernel
theorem dX6_share_72 : decode cX6_share 72 = .ok (.iload 7, 2) := by decide +kernel
theorem dX6_share_74 : decode cX6_share 74 = .ok (.iload 6, 2) := by decide +kernel
theorem dX6_share_76 : decode cX6_share 76 = .ok (.invokestatic 212, 3) := by decide +kernel
theorem dX6_share_79 : decode cX6_share 79 = .ok (.imul, 1) := by decide +kernel
theorem dX6_share_80 : decode cX6_share 80 = .ok (.iload_n 3, 1) := by decide +kernel
theorem dX6_share_81 : decode cX6_share 81 = .ok (.iconst 1, 1) := by decide +kernel
theorem dX6_share_82 : decode cX6_share 82 = .ok (.isub, 1) := by decide +kernel
theorem dX6_share_83 : decode cX6_share 83 = .ok (.iload 6, 2) := by decide +kernel
theorem dX6_share_85 : decode cX6_share 85 = .ok (.isub, 1) := by decide +kernel
theorem dX6_share_86 : decode cX6_share 86 = .ok (.invokestatic 212, 3) := by decide +kernel
theorem dX6_share_89 : decode cX6_share 89 = .ok (.imul, 1) := by decide +kernel
theorem dX6_share_90 : decode cX6_share 90 = .ok (.iadd, 1) := by decide +kernel
theorem dX6_share_91 : decode cX6_share 91 = .ok (.istore 4, 2) := by decide +kernel
theorem dX6_share_93 : decode cX6_share 93 = .ok (.iinc 5 1, 3) := by decide +kernel
theorem dX6_share_96 : decode cX6_share 96 = .ok (.goto (-69), 3) := by decide +kernel
theorem dX6_share_99 : decode cX6_share 99 = .ok (.iload 4, 2) := by decide +kernel
theorem dX6_share_101 : decode cX6_share 101 = .ok (.iload_n 3, 1) := by decide +kernel
theorem dX6_share_102 : decode cX6_share 102 = .ok (.invokestatic 212, 3) := by decide +kernel
theorem dX6_share_105 : decode cX6_share 105 = .ok (.iload_n 2, 1) := by decide +kernel
theorem dX6_share_106 : decode cX6_share 106 = .ok (.invokestatic 215, 3) := by decide +kernel
theorem dX6_share_109 : decode cX6_share 109 = .ok (.ireturn, 1) := by decide +kernel
theorem dX6_feel_0 : decode cX6_feel 0 = .ok (.iload_n 1, 1) := by decide +kernel
theorem dX6_feel_1 : decode cX6_feel 1 = .ok (.invokestatic 132, 3) := by decide +kernel
theorem dX6_feel_4 : decode cX6_feel 4 = .ok (.ifCond .ne 5, 3) := by decide +kernel
theorem dX6_feel_7 : decode cX6_feel 7 = .ok (.iconst (-1), 1) := by decide +kernel
theorem dX6_feel_8 : decode cX6_feel 8 = .ok (.ireturn, 1) := by decide +kernel
theorem dX6_feel_9 : decode cX6_feel 9 = .ok (.iload_n 2, 1) := by decide +kernel
theorem dX6_feel_10 : decode cX6_feel 10 = .ok (.ifCond .lt 16, 3) := by decide +kernel
theorem dX6_feel_13 : decode cX6_feel 13 = .ok (.iload_n 2, 1) := by decide +kernel
theorem dX6_feel_14 : decode cX6_feel 14 = .ok (.bipush 9, 2) := by decide +kernel
theorem dX6_feel_16 : decode cX6_feel 16 = .ok (.if_icmp .gt 10, 3) := by decide +kernel
theorem dX6_feel_19 : decode cX6_feel 19 = .ok (.iload_n 3, 1) := by decide +kernel
theorem dX6_feel_20 : decode cX6_feel 20 = .ok (.invokestatic 174, 3) := by decide +kernel
theorem dX6_feel_23 : decode cX6_feel 23 = .ok (.ifCond .ne 6, 3) := by decide +kernel
theorem dX6_feel_26 : decode cX6_feel 26 = .ok (.bipush (-2), 2) := by decide +kernel
theorem dX6_feel_28 : decode cX6_feel 28 = .ok (.ireturn, 1) := by decide +kernel
theorem dX6_feel_29 : decode cX6_feel 29 = .ok (.aload_n 0, 1) := by decide +kernel
theorem dX6_feel_30 : decode cX6_feel 30 = .ok (.getfield 52, 3) := by decide +kernel
theorem dX6_feel_33 : decode cX6_feel 33 = .ok (.iload_n 1, 1) := by decide +kernel
theorem dX6_feel_34 : decode cX6_feel 34 = .ok (.iload_n 2, 1) := by decide +kernel
theorem dX6_feel_35 : decode cX6_feel 35 = .ok (.iload_n 3, 1) := by decide +kernel
theorem dX6_feel_36 : decode cX6_feel 36 = .ok (.iconst 1, 1) := by decide +kernel
theorem dX6_feel_37 : decode cX6_feel 37 = .ok (.if_icmp .ne 7, 3) := by decide +kernel
theorem dX6_feel_40 : decode cX6_feel 40 = .ok (.iconst 1, 1) := by decide +kernel
theorem dX6_feel_41 : decode cX6_feel 41 = .ok (.goto 4, 3) := by decide +kernel
theorem dX6_feel_44 : decode cX6_feel 44 = .ok (.iconst 0, 1) := by decide +kernel
theorem dX6_feel_45 : decode cX6_feel 45 = .ok (.invokevirtual 219, 3) := by decide +kernel
theorem dX6_feel_48 : decode cX6_feel 48 = .ok (.ifCond .eq 13, 3) := by decide +kernel
theorem dX6_feel_51 : decode cX6_feel 51 = .ok (.aload_n 0, 1) := by decide +kernel
theorem dX6_feel_52 : decode cX6_feel 52 = .ok (.getfield 52, 3) := by decide +kernel
theorem dX6_feel_55 : decode cX6_feel 55 = .ok (.invokevirtual 104, 3) := by decide +kernel
theorem dX6_feel_58 : decode cX6_feel 58 = .ok (.goto 5, 3) := by decide +kernel
theorem dX6_feel_61 : decode cX6_feel 61 = .ok (.bipush (-4), 2) := by decide +kernel
theorem dX6_feel_63 : decode cX6_feel 63 = .ok (.ireturn, 1) := by decide +kernel
theorem dX6_unfeel_0 : decode cX6_unfeel 0 = .ok (.aload_n 0, 1) := by decide +kernel
theorem dX6_unfeel_1 : decode cX6_unfeel 1 = .ok (.getfield 52, 3) := by decide +kernel
theorem dX6_unfeel_4 : decode cX6_unfeel 4 = .ok (.invokevirtual 104, 3) := by decide +kernel
theorem dX6_unfeel_7 : decode cX6_unfeel 7 = .ok (.istore_n 1, 1) := by decide +kernel
theorem dX6_unfeel_8 : decode cX6_unfeel 8 = .ok (.aload_n 0, 1) := by decide +kernel
theorem dX6_unfeel_9 : decode cX6_unfeel 9 = .ok (.getfield 52, 3) := by decide +kernel
theorem dX6_unfeel_12 : decode cX6_unfeel 12 = .ok (.invokevirtual 222, 3) := by decide +kernel
theorem dX6_unfeel_15 : decode cX6_unfeel 15 = .ok (.iload_n 1, 1) := by decide +kernel
theorem dX6_unfeel_16 : decode cX6_unfeel 16 = .ok (.ireturn, 1) := by decide +kernel
theorem dX6_may_0 : decode cX6_may 0 = .ok (.iload_n 1, 1) := by decide +kernel
theorem dX6_may_1 : decode cX6_may 1 = .ok (.invokestatic 174, 3) := by decide +kernel
theorem dX6_may_4 : decode cX6_may 4 = .ok (.ifCond .ne 6, 3) := by decide +kernel
theorem dX6_may_7 : decode cX6_may 7 = .ok (.bipush (-2), 2) := by decide +kernel
theorem dX6_may_9 : decode cX6_may 9 = .ok (.ireturn, 1) := by decide +kernel
theorem dX6_may_10 : decode cX6_may 10 = .ok (.iconst 0, 1) := by decide +kernel
theorem dX6_may_11 : decode cX6_may 11 = .ok (.istore_n 2, 1) := by decide +kernel
theorem dX6_may_12 : decode cX6_may 12 = .ok (.bipush (-9), 2) := by decide +kernel
theorem dX6_may_14 : decode cX6_may 14 = .ok (.istore_n 3, 1) := by decide +kernel
theorem dX6_may_15 : decode cX6_may 15 = .ok (.iconst 0, 1) := by decide +kernel
theorem dX6_may_16 : decode cX6_may 16 = .ok (.istore 4, 2) := by decide +kernel
theorem dX6_may_18 : decode cX6_may 18 = .ok (.iload 4, 2) := by decide +kernel
theorem dX6_may_20 : decode cX6_may 20 = .ok (.iconst 4, 1) := by decide +kernel
theorem dX6_may_21 : decode cX6_may 21 = .ok (.if_icmp .ge 83, 3) := by decide +kernel
theorem dX6_may_24 : decode cX6_may 24 = .ok (.iconst 0, 1) := by decide +kernel
theorem dX6_may_25 : decode cX6_may 25 = .ok (.istore 5, 2) := by decide +kernel
theorem dX6_may_27 : decode cX6_may 27 = .ok (.iload 5, 2) := by decide +kernel
theorem dX6_may_29 : decode cX6_may 29 = .ok (.bipush 6, 2) := by decide +kernel
theorem dX6_may_31 : decode cX6_may 31 = .ok (.if_icmp .ge 67, 3) := by decide +kernel
theorem dX6_may_34 : decode cX6_may 34 = .ok (.iconst 1, 1) := by decide +kernel
theorem dX6_may_35 : decode cX6_may 35 = .ok (.istore 6, 2) := by decide +kernel
theorem dX6_may_37 : decode cX6_may 37 = .ok (.iload 6, 2) := by decide +kernel
theorem dX6_may_39 : decode cX6_may 39 = .ok (.bipush 6, 2) := by decide +kernel
theorem dX6_may_41 : decode cX6_may 41 = .ok (.if_icmp .gt 51, 3) := by decide +kernel
theorem dX6_may_44 : decode cX6_may 44 = .ok (.aload_n 0, 1) := by decide +kernel
theorem dX6_may_45 : decode cX6_may 45 = .ok (.getfield 52, 3) := by decide +kernel
theorem dX6_may_48 : decode cX6_may 48 = .ok (.iload 4, 2) := by decide +kernel
theorem dX6_may_50 : decode cX6_may 50 = .ok (.iload 5, 2) := by decide +kernel
theorem dX6_may_52 : decode cX6_may 52 = .ok (.iload 6, 2) := by decide +kernel
theorem dX6_may_54 : decode cX6_may 54 = .ok (.invokevirtual 223, 3) := by decide +kernel
theorem dX6_may_57 : decode cX6_may 57 = .ok (.ifCond .eq 29, 3) := by decide +kernel
theorem dX6_may_60 : decode cX6_may 60 = .ok (.iload_n 2, 1) := by decide +kernel
theorem dX6_may_61 : decode cX6_may 61 = .ok (.ifCond .ne 20, 3) := by decide +kernel
theorem dX6_may_64 : decode cX6_may 64 = .ok (.bipush 100, 2) := by decide +kernel
theorem dX6_may_66 : decode cX6_may 66 = .ok (.iload 4, 2) := by decide +kernel
theorem dX6_may_68 : decode cX6_may 68 = .ok (.imul, 1) := by decide +kernel
theorem dX6_may_69 : decode cX6_may 69 = .ok (.bipush 10, 2) := by decide +kernel
theorem dX6_may_71 : decode cX6_may 71 = .ok (.iload 5, 2) := by decide +kernel
theorem dX6_may_73 : decode cX6_may 73 = .ok (.imul, 1) := by decide +kernel
theorem dX6_may_74 : decode cX6_may 74 = .ok (.iadd, 1) := by decide +kernel
theorem dX6_may_75 : decode cX6_may 75 = .ok (.iload 6, 2) := by decide +kernel
theorem dX6_may_77 : decode cX6_may 77 = .ok (.iadd, 1) := by decide +kernel
theorem dX6_may_78 : decode cX6_may 78 = .ok (.goto 4, 3) := by decide +kernel
theorem dX6_may_81 : decode cX6_may 81 = .ok (.iload_n 3, 1) := by decide +kernel
theorem dX6_may_82 : decode cX6_may 82 = .ok (.istore_n 3, 1) := by decide +kernel
theorem dX6_may_83 : decode cX6_may 83 = .ok (.iinc 2 1, 3) := by decide +kernel
theorem dX6_may_86 : decode cX6_may 86 = .ok (.iinc 6 1, 3) := by decide +kernel
theorem dX6_may_89 : decode cX6_may 89 = .ok (.goto (-52), 3) := by decide +kernel
theorem dX6_may_92 : decode cX6_may 92 = .ok (.iinc 5 1, 3) := by decide +kernel
theorem dX6_may_95 : decode cX6_may 95 = .ok (.goto (-68), 3) := by decide +kernel
theorem dX6_may_98 : decode cX6_may 98 = .ok (.iinc 4 1, 3) := by decide +kernel
theorem dX6_may_101 : decode cX6_may 101 = .ok (.goto (-83), 3) := by decide +kernel
theorem dX6_may_104 : decode cX6_may 104 = .ok (.iload_n 1, 1) := by decide +kernel
theorem dX6_may_105 : decode cX6_may 105 = .ok (.ifCond .ne 7, 3) := by decide +kernel
theorem dX6_may_108 : decode cX6_may 108 = .ok (.iload_n 2, 1) := by decide +kernel
theorem dX6_may_109 : decode cX6_may 109 = .ok (.goto 4, 3) := by decide +kernel
theorem dX6_may_112 : decode cX6_may 112 = .ok (.iload_n 3, 1) := by decide +kernel
theorem dX6_may_113 : decode cX6_may 113 = .ok (.ireturn, 1) := by decide +kernel
theorem dX6_rests_0 : decode cX6_rests 0 = .ok (.aload_n 0, 1) := by decide +kernel
theorem dX6_rests_1 : decode cX6_rests 1 = .ok (.getfield 19, 3) := by decide +kernel
theorem dX6_rests_4 : decode cX6_rests 4 = .ok (.iload_n 1, 1) := by decide +kernel
theorem dX6_rests_5 : decode cX6_rests 5 = .ok (.invokevirtual 105, 3) := by decide +kernel
theorem dX6_rests_8 : decode cX6_rests 8 = .ok (.ifCond .eq 14, 3) := by decide +kernel
theorem dX6_rests_11 : decode cX6_rests 11 = .ok (.aload_n 0, 1) := by decide +kernel
theorem dX6_rests_12 : decode cX6_rests 12 = .ok (.getfield 19, 3) := by decide +kernel
theorem dX6_rests_15 : decode cX6_rests 15 = .ok (.iload_n 2, 1) := by decide +kernel
theorem dX6_rests_16 : decode cX6_rests 16 = .ok (.invokevirtual 105, 3) := by decide +kernel
theorem dX6_rests_19 : decode cX6_rests 19 = .ok (.ifCond .ne 5, 3) := by decide +kernel
theorem dX6_rests_22 : decode cX6_rests 22 = .ok (.iconst (-1), 1) := by decide +kernel
theorem dX6_rests_23 : decode cX6_rests 23 = .ok (.ireturn, 1) := by decide +kernel
theorem dX6_rests_24 : decode cX6_rests 24 = .ok (.iload_n 1, 1) := by decide +kernel
theorem dX6_rests_25 : decode cX6_rests 25 = .ok (.iload_n 2, 1) := by decide +kernel
theorem dX6_rests_26 : decode cX6_rests 26 = .ok (.if_icmp .eq 10, 3) := by decide +kernel
theorem dX6_rests_29 : decode cX6_rests 29 = .ok (.iload_n 3, 1) := by decide +kernel
theorem dX6_rests_30 : decode cX6_rests 30 = .ok (.invokestatic 174, 3) := by decide +kernel
theorem dX6_rests_33 : decode cX6_rests 33 = .ok (.ifCond .ne 6, 3) := by decide +kernel
theorem dX6_rests_36 : decode cX6_rests 36 = .ok (.bipush (-2), 2) := by decide +kernel
theorem dX6_rests_38 : decode cX6_rests 38 = .ok (.ireturn, 1) := by decide +kernel
theorem dX6_rests_39 : decode cX6_rests 39 = .ok (.aload_n 0, 1) := by decide +kernel
theorem dX6_rests_40 : decode cX6_rests 40 = .ok (.getfield 28, 3) := by decide +kernel
theorem dX6_rests_43 : decode cX6_rests 43 = .ok (.iload_n 1, 1) := by decide +kernel
theorem dX6_rests_44 : decode cX6_rests 44 = .ok (.invokevirtual 114, 3) := by decide +kernel
theorem dX6_rests_47 : decode cX6_rests 47 = .ok (.ifCond .ne 14, 3) := by decide +kernel
theorem dX6_rests_50 : decode cX6_rests 50 = .ok (.aload_n 0, 1) := by decide +kernel
theorem dX6_rests_51 : decode cX6_rests 51 = .ok (.getfield 28, 3) := by decide +kernel
theorem dX6_rests_54 : decode cX6_rests 54 = .ok (.iload_n 2, 1) := by decide +kernel
theorem dX6_rests_55 : decode cX6_rests 55 = .ok (.invokevirtual 114, 3) := by decide +kernel
theorem dX6_rests_58 : decode cX6_rests 58 = .ok (.ifCond .eq 6, 3) := by decide +kernel
theorem dX6_rests_61 : decode cX6_rests 61 = .ok (.bipush (-3), 2) := by decide +kernel
theorem dX6_rests_63 : decode cX6_rests 63 = .ok (.ireturn, 1) := by decide +kernel
theorem dX6_rests_64 : decode cX6_rests 64 = .ok (.iconst 0, 1) := by decide +kernel
theorem dX6_rests_65 : decode cX6_rests 65 = .ok (.istore 4, 2) := by decide +kernel
theorem dX6_rests_67 : decode cX6_rests 67 = .ok (.bipush (-9), 2) := by decide +kernel
theorem dX6_rests_69 : decode cX6_rests 69 = .ok (.istore 5, 2) := by decide +kernel
theorem dX6_rests_71 : decode cX6_rests 71 = .ok (.iconst 0, 1) := by decide +kernel
theorem dX6_rests_72 : decode cX6_rests 72 = .ok (.istore 6, 2) := by decide +kernel
theorem dX6_rests_74 : decode cX6_rests 74 = .ok (.iload 6, 2) := by decide +kernel
theorem dX6_rests_76 : decode cX6_rests 76 = .ok (.iconst 4, 1) := by decide +kernel
theorem dX6_rests_77 : decode cX6_rests 77 = .ok (.if_icmp .ge 90, 3) := by decide +kernel
theorem dX6_rests_80 : decode cX6_rests 80 = .ok (.iload 6, 2) := by decide +kernel
theorem dX6_rests_82 : decode cX6_rests 82 = .ok (.iconst 2, 1) := by decide +kernel
theorem dX6_rests_83 : decode cX6_rests 83 = .ok (.if_icmp .lt 7, 3) := by decide +kernel
theorem dX6_rests_86 : decode cX6_rests 86 = .ok (.iconst 1, 1) := by decide +kernel
theorem dX6_rests_87 : decode cX6_rests 87 = .ok (.goto 4, 3) := by decide +kernel
theorem dX6_rests_90 : decode cX6_rests 90 = .ok (.iconst 0, 1) := by decide +kernel
theorem dX6_rests_91 : decode cX6_rests 91 = .ok (.istore 7, 2) := by decide +kernel
theorem dX6_rests_93 : decode cX6_rests 93 = .ok (.iload 6, 2) := by decide +kernel
theorem dX6_rests_95 : decode cX6_rests 95 = .ok (.iconst 2, 1) := by decide +kernel
theorem dX6_rests_96 : decode cX6_rests 96 = .ok (.irem, 1) := by decide +kernel
theorem dX6_rests_97 : decode cX6_rests 97 = .ok (.iconst 1, 1) := by decide +kernel
theorem dX6_rests_98 : decode cX6_rests 98 = .ok (.if_icmp .ne 7, 3) := by decide +kernel
theorem dX6_rests_101 : decode cX6_rests 101 = .ok (.iconst 1, 1) := by decide +kernel
theorem dX6_rests_102 : decode cX6_rests 102 = .ok (.goto 4, 3) := by decide +kernel
theorem dX6_rests_105 : decode cX6_rests 105 = .ok (.iconst 0, 1) := by decide +kernel
theorem dX6_rests_106 : decode cX6_rests 106 = .ok (.istore 8, 2) := by decide +kernel
theorem dX6_rests_108 : decode cX6_rests 108 = .ok (.aload_n 0, 1) := by decide +kernel
theorem dX6_rests_109 : decode cX6_rests 109 = .ok (.iload_n 1, 1) := by decide +kernel
theorem dX6_rests_110 : decode cX6_rests 110 = .ok (.iload 7, 2) := by decide +kernel
theorem dX6_rests_112 : decode cX6_rests 112 = .ok (.iload_n 2, 1) := by decide +kernel
theorem dX6_rests_113 : decode cX6_rests 113 = .ok (.iload 8, 2) := by decide +kernel
theorem dX6_rests_115 : decode cX6_rests 115 = .ok (.invokevirtual 226, 3) := by decide +kernel
theorem dX6_rests_118 : decode cX6_rests 118 = .ok (.ifCond .eq 43, 3) := by decide +kernel
theorem dX6_rests_121 : decode cX6_rests 121 = .ok (.aload_n 0, 1) := by decide +kernel
theorem dX6_rests_122 : decode cX6_rests 122 = .ok (.iload_n 2, 1) := by decide +kernel
theorem dX6_rests_123 : decode cX6_rests 123 = .ok (.iload 8, 2) := by decide +kernel
theorem dX6_rests_125 : decode cX6_rests 125 = .ok (.iload_n 1, 1) := by decide +kernel
theorem dX6_rests_126 : decode cX6_rests 126 = .ok (.iload 7, 2) := by decide +kernel
theorem dX6_rests_128 : decode cX6_rests 128 = .ok (.invokevirtual 226, 3) := by decide +kernel
theorem dX6_rests_131 : decode cX6_rests 131 = .ok (.ifCond .eq 30, 3) := by decide +kernel
theorem dX6_rests_134 : decode cX6_rests 134 = .ok (.iload 4, 2) := by decide +kernel
theorem dX6_rests_136 : decode cX6_rests 136 = .ok (.ifCond .ne 18, 3) := by decide +kernel
theorem dX6_rests_139 : decode cX6_rests 139 = .ok (.bipush 10, 2) := by decide +kernel
theorem dX6_rests_141 : decode cX6_rests 141 = .ok (.iload 6, 2) := by decide +kernel
theorem dX6_rests_143 : decode cX6_rests 143 = .ok (.iconst 2, 1) := by decide +kernel
theorem dX6_rests_144 : decode cX6_rests 144 = .ok (.idiv, 1) := by decide +kernel
theorem dX6_rests_145 : decode cX6_rests 145 = .ok (.imul, 1) := by decide +kernel
theorem dX6_rests_146 : decode cX6_rests 146 = .ok (.iload 6, 2) := by decide +kernel
theorem dX6_rests_148 : decode cX6_rests 148 = .ok (.iconst 2, 1) := by decide +kernel
theorem dX6_rests_149 : decode cX6_rests 149 = .ok (.irem, 1) := by decide +kernel
theorem dX6_rests_150 : decode cX6_rests 150 = .ok (.iadd, 1) := by decide +kernel
theorem dX6_rests_151 : decode cX6_rests 151 = .ok (.goto 5, 3) := by decide +kernel
theorem dX6_rests_154 : decode cX6_rests 154 = .ok (.iload 5, 2) := by decide +kernel
theorem dX6_rests_156 : decode cX6_rests 156 = .ok (.istore 5, 2) := by decide +kernel
theorem dX6_rests_158 : decode cX6_rests 158 = .ok (.iinc 4 1, 3) := by decide +kernel
theorem dX6_rests_161 : decode cX6_rests 161 = .ok (.iinc 6 1, 3) := by decide +kernel
theorem dX6_rests_164 : decode cX6_rests 164 = .ok (.goto (-90), 3) := by decide +kernel
theorem dX6_rests_167 : decode cX6_rests 167 = .ok (.iload_n 3, 1) := by decide +kernel
theorem dX6_rests_168 : decode cX6_rests 168 = .ok (.ifCond .ne 8, 3) := by decide +kernel
theorem dX6_rests_171 : decode cX6_rests 171 = .ok (.iload 4, 2) := by decide +kernel
theorem dX6_rests_173 : decode cX6_rests 173 = .ok (.goto 5, 3) := by decide +kernel
theorem dX6_rests_176 : decode cX6_rests 176 = .ok (.iload 5, 2) := by decide +kernel
theorem dX6_rests_178 : decode cX6_rests 178 = .ok (.ireturn, 1) := by decide +kernel
theorem dX6_sudden_0 : decode cX6_sudden 0 = .ok (.iload_n 1, 1) := by decide +kernel
theorem dX6_sudden_1 : decode cX6_sudden 1 = .ok (.invokestatic 132, 3) := by decide +kernel
theorem dX6_sudden_4 : decode cX6_sudden 4 = .ok (.ifCond .ne 5, 3) := by decide +kernel
theorem dX6_sudden_7 : decode cX6_sudden 7 = .ok (.iconst (-1), 1) := by decide +kernel
theorem dX6_sudden_8 : decode cX6_sudden 8 = .ok (.ireturn, 1) := by decide +kernel
theorem dX6_sudden_9 : decode cX6_sudden 9 = .ok (.iload_n 2, 1) := by decide +kernel
theorem dX6_sudden_10 : decode cX6_sudden 10 = .ok (.invokestatic 174, 3) := by decide +kernel
theorem dX6_sudden_13 : decode cX6_sudden 13 = .ok (.ifCond .eq 13, 3) := by decide +kernel
theorem dX6_sudden_16 : decode cX6_sudden 16 = .ok (.iload_n 3, 1) := by decide +kernel
theorem dX6_sudden_17 : decode cX6_sudden 17 = .ok (.ifCond .lt 9, 3) := by decide +kernel
theorem dX6_sudden_20 : decode cX6_sudden 20 = .ok (.iload_n 3, 1) := by decide +kernel
theorem dX6_sudden_21 : decode cX6_sudden 21 = .ok (.bipush 10, 2) := by decide +kernel
theorem dX6_sudden_23 : decode cX6_sudden 23 = .ok (.if_icmp .le 6, 3) := by decide +kernel
theorem dX6_sudden_26 : decode cX6_sudden 26 = .ok (.bipush (-2), 2) := by decide +kernel
theorem dX6_sudden_28 : decode cX6_sudden 28 = .ok (.ireturn, 1) := by decide +kernel
theorem dX6_sudden_29 : decode cX6_sudden 29 = .ok (.aload_n 0, 1) := by decide +kernel
theorem dX6_sudden_30 : decode cX6_sudden 30 = .ok (.getfield 28, 3) := by decide +kernel
theorem dX6_sudden_33 : decode cX6_sudden 33 = .ok (.invokevirtual 184, 3) := by decide +kernel
theorem dX6_sudden_36 : decode cX6_sudden 36 = .ok (.istore 5, 2) := by decide +kernel
theorem dX6_sudden_38 : decode cX6_sudden 38 = .ok (.iload 5, 2) := by decide +kernel
theorem dX6_sudden_40 : decode cX6_sudden 40 = .ok (.invokestatic 190, 3) := by decide +kernel
theorem dX6_sudden_43 : decode cX6_sudden 43 = .ok (.istore 6, 2) := by decide +kernel
theorem dX6_sudden_45 : decode cX6_sudden 45 = .ok (.iconst 0, 1) := by decide +kernel
theorem dX6_sudden_46 : decode cX6_sudden 46 = .ok (.istore 7, 2) := by decide +kernel
theorem dX6_sudden_48 : decode cX6_sudden 48 = .ok (.iconst 0, 1) := by decide +kernel
theorem dX6_sudden_49 : decode cX6_sudden 49 = .ok (.istore 8, 2) := by decide +kernel
theorem dX6_sudden_51 : decode cX6_sudden 51 = .ok (.iload 8, 2) := by decide +kernel
theorem dX6_sudden_53 : decode cX6_sudden 53 = .ok (.bipush 32, 2) := by decide +kernel
theorem dX6_sudden_55 : decode cX6_sudden 55 = .ok (.if_icmp .ge 98, 3) := by decide +kernel
theorem dX6_sudden_58 : decode cX6_sudden 58 = .ok (.iload 8, 2) := by decide +kernel
theorem dX6_sudden_60 : decode cX6_sudden 60 = .ok (.iload 5, 2) := by decide +kernel
theorem dX6_sudden_62 : decode cX6_sudden 62 = .ok (.invokestatic 187, 3) := by decide +kernel
theorem dX6_sudden_65 : decode cX6_sudden 65 = .ok (.ifCond .eq 82, 3) := by decide +kernel
theorem dX6_sudden_68 : decode cX6_sudden 68 = .ok (.aload_n 0, 1) := by decide +kernel
theorem dX6_sudden_69 : decode cX6_sudden 69 = .ok (.getfield 32, 3) := by decide +kernel
theorem dX6_sudden_72 : decode cX6_sudden 72 = .ok (.aload_n 0, 1) := by decide +kernel
theorem dX6_sudden_73 : decode cX6_sudden 73 = .ok (.getfield 28, 3) := by decide +kernel
theorem dX6_sudden_76 : decode cX6_sudden 76 = .ok (.invokevirtual 167, 3) := by decide +kernel
theorem dX6_sudden_79 : decode cX6_sudden 79 = .ok (.aload_n 0, 1) := by decide +kernel
theorem dX6_sudden_80 : decode cX6_sudden 80 = .ok (.getfield 32, 3) := by decide +kernel
theorem dX6_sudden_83 : decode cX6_sudden 83 = .ok (.iload 8, 2) := by decide +kernel
theorem dX6_sudden_85 : decode cX6_sudden 85 = .ok (.invokevirtual 230, 3) := by decide +kernel
theorem dX6_sudden_88 : decode cX6_sudden 88 = .ok (.iload_n 2, 1) := by decide +kernel
theorem dX6_sudden_89 : decode cX6_sudden 89 = .ok (.ifCond .ne 13, 3) := by decide +kernel
theorem dX6_sudden_92 : decode cX6_sudden 92 = .ok (.aload_n 0, 1) := by decide +kernel
theorem dX6_sudden_93 : decode cX6_sudden 93 = .ok (.getfield 32, 3) := by decide +kernel
theorem dX6_sudden_96 : decode cX6_sudden 96 = .ok (.invokevirtual 91, 3) := by decide +kernel
theorem dX6_sudden_99 : decode cX6_sudden 99 = .ok (.goto 10, 3) := by decide +kernel
theorem dX6_sudden_102 : decode cX6_sudden 102 = .ok (.aload_n 0, 1) := by decide +kernel
theorem dX6_sudden_103 : decode cX6_sudden 103 = .ok (.getfield 32, 3) := by decide +kernel
theorem dX6_sudden_106 : decode cX6_sudden 106 = .ok (.invokevirtual 94, 3) := by decide +kernel
theorem dX6_sudden_109 : decode cX6_sudden 109 = .ok (.iload_n 1, 1) := by decide +kernel
theorem dX6_sudden_110 : decode cX6_sudden 110 = .ok (.invokestatic 177, 3) := by decide +kernel
theorem dX6_sudden_113 : decode cX6_sudden 113 = .ok (.ifCond .eq 34, 3) := by decide +kernel
theorem dX6_sudden_116 : decode cX6_sudden 116 = .ok (.iload 8, 2) := by decide +kernel
theorem dX6_sudden_118 : decode cX6_sudden 118 = .ok (.invokestatic 190, 3) := by decide +kernel
theorem dX6_sudden_121 : decode cX6_sudden 121 = .ok (.istore 9, 2) := by decide +kernel
theorem dX6_sudden_123 : decode cX6_sudden 123 = .ok (.iload 7, 2) := by decide +kernel
theorem dX6_sudden_125 : decode cX6_sudden 125 = .ok (.iload_n 3, 1) := by decide +kernel
theorem dX6_sudden_126 : decode cX6_sudden 126 = .ok (.iload 9, 2) := by decide +kernel
theorem dX6_sudden_128 : decode cX6_sudden 128 = .ok (.invokestatic 233, 3) := by decide +kernel
theorem dX6_sudden_131 : decode cX6_sudden 131 = .ok (.bipush 10, 2) := by decide +kernel
theorem dX6_sudden_133 : decode cX6_sudden 133 = .ok (.iload_n 3, 1) := by decide +kernel
theorem dX6_sudden_134 : decode cX6_sudden 134 = .ok (.isub, 1) := by decide +kernel
theorem dX6_sudden_135 : decode cX6_sudden 135 = .ok (.iload 6, 2) := by decide +kernel
theorem dX6_sudden_137 : decode cX6_sudden 137 = .ok (.iload 9, 2) := by decide +kernel
theorem dX6_sudden_139 : decode cX6_sudden 139 = .ok (.isub, 1) := by decide +kernel
theorem dX6_sudden_140 : decode cX6_sudden 140 = .ok (.invokestatic 233, 3) := by decide +kernel
theorem dX6_sudden_143 : decode cX6_sudden 143 = .ok (.imul, 1) := by decide +kernel
theorem dX6_sudden_144 : decode cX6_sudden 144 = .ok (.iadd, 1) := by decide +kernel
theorem dX6_sudden_145 : decode cX6_sudden 145 = .ok (.istore 7, 2) := by decide +kernel
theorem dX6_sudden_147 : decode cX6_sudden 147 = .ok (.iinc 8 1, 3) := by decide +kernel
theorem dX6_sudden_150 : decode cX6_sudden 150 = .ok (.goto (-99), 3) := by decide +kernel
theorem dX6_sudden_153 : decode cX6_sudden 153 = .ok (.iload 7, 2) := by decide +kernel
theorem dX6_sudden_155 : decode cX6_sudden 155 = .ok (.bipush 10, 2) := by decide +kernel
theorem dX6_sudden_157 : decode cX6_sudden 157 = .ok (.iload 6, 2) := by decide +kernel
theorem dX6_sudden_159 : decode cX6_sudden 159 = .ok (.invokestatic 233, 3) := by decide +kernel
theorem dX6_sudden_162 : decode cX6_sudden 162 = .ok (.iload 4, 2) := by decide +kernel
theorem dX6_sudden_164 : decode cX6_sudden 164 = .ok (.invokestatic 215, 3) := by decide +kernel
theorem dX6_sudden_167 : decode cX6_sudden 167 = .ok (.ireturn, 1) := by decide +kernel
theorem dX6_seed_0 : decode cX6_seed 0 = .ok (.aload_n 0, 1) := by decide +kernel
theorem dX6_seed_1 : decode cX6_seed 1 = .ok (.getfield 236, 3) := by decide +kernel
theorem dX6_seed_4 : decode cX6_seed 4 = .ok (.lstore_n 3, 1) := by decide +kernel
theorem dX6_seed_5 : decode cX6_seed 5 = .ok (.aload_n 0, 1) := by decide +kernel
theorem dX6_seed_6 : decode cX6_seed 6 = .ok (.lload_n 1, 1) := by decide +kernel
theorem dX6_seed_7 : decode cX6_seed 7 = .ok (.putfield 236, 3) := by decide +kernel
theorem dX6_seed_10 : decode cX6_seed 10 = .ok (.lload_n 3, 1) := by decide +kernel
theorem dX6_seed_11 : decode cX6_seed 11 = .ok (.lreturn, 1) := by decide +kernel
theorem dX6_weeks_0 : decode cX6_weeks 0 = .ok (.iload_n 1, 1) := by decide +kernel
theorem dX6_weeks_1 : decode cX6_weeks 1 = .ok (.iconst 1, 1) := by decide +kernel
theorem dX6_weeks_2 : decode cX6_weeks 2 = .ok (.if_icmp .lt 9, 3) := by decide +kernel
theorem dX6_weeks_5 : decode cX6_weeks 5 = .ok (.iload_n 1, 1) := by decide +kernel
theorem dX6_weeks_6 : decode cX6_weeks 6 = .ok (.bipush 30, 2) := by decide +kernel
theorem dX6_weeks_8 : decode cX6_weeks 8 = .ok (.if_icmp .le 6, 3) := by decide +kernel
theorem dX6_weeks_11 : decode cX6_weeks 11 = .ok (.bipush (-2), 2) := by decide +kernel
theorem dX6_weeks_13 : decode cX6_weeks 13 = .ok (.ireturn, 1) := by decide +kernel
theorem dX6_weeks_14 : decode cX6_weeks 14 = .ok (.aload_n 0, 1) := by decide +kernel
theorem dX6_weeks_15 : decode cX6_weeks 15 = .ok (.getfield 32, 3) := by decide +kernel
theorem dX6_weeks_18 : decode cX6_weeks 18 = .ok (.aload_n 0, 1) := by decide +kernel
theorem dX6_weeks_19 : decode cX6_weeks 19 = .ok (.getfield 28, 3) := by decide +kernel
theorem dX6_weeks_22 : decode cX6_weeks 22 = .ok (.invokevirtual 167, 3) := by decide +kernel
theorem dX6_weeks_25 : decode cX6_weeks 25 = .ok (.iconst 0, 1) := by decide +kernel
theorem dX6_weeks_26 : decode cX6_weeks 26 = .ok (.istore_n 2, 1) := by decide +kernel
theorem dX6_weeks_27 : decode cX6_weeks 27 = .ok (.iconst 0, 1) := by decide +kernel
theorem dX6_weeks_28 : decode cX6_weeks 28 = .ok (.istore_n 3, 1) := by decide +kernel
theorem dX6_weeks_29 : decode cX6_weeks 29 = .ok (.iload_n 3, 1) := by decide +kernel
theorem dX6_weeks_30 : decode cX6_weeks 30 = .ok (.iload_n 1, 1) := by decide +kernel
theorem dX6_weeks_31 : decode cX6_weeks 31 = .ok (.if_icmp .ge 54, 3) := by decide +kernel
theorem dX6_weeks_34 : decode cX6_weeks 34 = .ok (.aload_n 0, 1) := by decide +kernel
theorem dX6_weeks_35 : decode cX6_weeks 35 = .ok (.aload_n 0, 1) := by decide +kernel
theorem dX6_weeks_36 : decode cX6_weeks 36 = .ok (.getfield 236, 3) := by decide +kernel
theorem dX6_weeks_39 : decode cX6_weeks 39 = .ok (.ldc2_w 240, 3) := by decide +kernel
theorem dX6_weeks_42 : decode cX6_weeks 42 = .ok (.lmul, 1) := by decide +kernel
theorem dX6_weeks_43 : decode cX6_weeks 43 = .ok (.ldc2_w 242, 3) := by decide +kernel
theorem dX6_weeks_46 : decode cX6_weeks 46 = .ok (.ladd, 1) := by decide +kernel
theorem dX6_weeks_47 : decode cX6_weeks 47 = .ok (.putfield 236, 3) := by decide +kernel
theorem dX6_weeks_50 : decode cX6_weeks 50 = .ok (.aload_n 0, 1) := by decide +kernel
theorem dX6_weeks_51 : decode cX6_weeks 51 = .ok (.aload_n 0, 1) := by decide +kernel
theorem dX6_weeks_52 : decode cX6_weeks 52 = .ok (.getfield 236, 3) := by decide +kernel
theorem dX6_weeks_55 : decode cX6_weeks 55 = .ok (.bipush 33, 2) := by decide +kernel
theorem dX6_weeks_57 : decode cX6_weeks 57 = .ok (.lushr, 1) := by decide +kernel
theorem dX6_weeks_58 : decode cX6_weeks 58 = .ok (.ldc2_w 244, 3) := by decide +kernel
theorem dX6_weeks_61 : decode cX6_weeks 61 = .ok (.lrem, 1) := by decide +kernel
theorem dX6_weeks_62 : decode cX6_weeks 62 = .ok (.l2i, 1) := by decide +kernel
theorem dX6_weeks_63 : decode cX6_weeks 63 = .ok (.invokevirtual 246, 3) := by decide +kernel
theorem dX6_weeks_66 : decode cX6_weeks 66 = .ok (.iload_n 2, 1) := by decide +kernel
theorem dX6_weeks_67 : decode cX6_weeks 67 = .ok (.aload_n 0, 1) := by decide +kernel
theorem dX6_weeks_68 : decode cX6_weeks 68 = .ok (.getfield 32, 3) := by decide +kernel
theorem dX6_weeks_71 : decode cX6_weeks 71 = .ok (.invokevirtual 91, 3) := by decide +kernel
theorem dX6_weeks_74 : decode cX6_weeks 74 = .ok (.invokestatic 190, 3) := by decide +kernel
theorem dX6_weeks_77 : decode cX6_weeks 77 = .ok (.iadd, 1) := by decide +kernel
theorem dX6_weeks_78 : decode cX6_weeks 78 = .ok (.istore_n 2, 1) := by decide +kernel
theorem dX6_weeks_79 : decode cX6_weeks 79 = .ok (.iinc 3 1, 3) := by decide +kernel
theorem dX6_weeks_82 : decode cX6_weeks 82 = .ok (.goto (-53), 3) := by decide +kernel
theorem dX6_weeks_85 : decode cX6_weeks 85 = .ok (.iload_n 2, 1) := by decide +kernel
theorem dX6_weeks_86 : decode cX6_weeks 86 = .ok (.ireturn, 1) := by decide +kernel
theorem dX6_keep_0 : decode cX6_keep 0 = .ok (.iload_n 1, 1) := by decide +kernel
theorem dX6_keep_1 : decode cX6_keep 1 = .ok (.invokestatic 249, 3) := by decide +kernel
theorem dX6_keep_4 : decode cX6_keep 4 = .ok (.ifCond .ne 5, 3) := by decide +kernel
theorem dX6_keep_7 : decode cX6_keep 7 = .ok (.iconst (-1), 1) := by decide +kernel
theorem dX6_keep_8 : decode cX6_keep 8 = .ok (.ireturn, 1) := by decide +kernel
theorem dX6_keep_9 : decode cX6_keep 9 = .ok (.aload_n 0, 1) := by decide +kernel
theorem dX6_keep_10 : decode cX6_keep 10 = .ok (.getfield 45, 3) := by decide +kernel
theorem dX6_keep_13 : decode cX6_keep 13 = .ok (.iload_n 1, 1) := by decide +kernel
theorem dX6_keep_14 : decode cX6_keep 14 = .ok (.aload_n 0, 1) := by decide +kernel
theorem dX6_keep_15 : decode cX6_keep 15 = .ok (.getfield 28, 3) := by decide +kernel
theorem dX6_keep_18 : decode cX6_keep 18 = .ok (.invokevirtual 252, 3) := by decide +kernel
theorem dX6_keep_21 : decode cX6_keep 21 = .ok (.aload_n 0, 1) := by decide +kernel
theorem dX6_keep_22 : decode cX6_keep 22 = .ok (.getfield 28, 3) := by decide +kernel
theorem dX6_keep_25 : decode cX6_keep 25 = .ok (.invokevirtual 85, 3) := by decide +kernel
theorem dX6_keep_28 : decode cX6_keep 28 = .ok (.ireturn, 1) := by decide +kernel
theorem dX6_again_0 : decode cX6_again 0 = .ok (.iload_n 1, 1) := by decide +kernel
theorem dX6_again_1 : decode cX6_again 1 = .ok (.invokestatic 249, 3) := by decide +kernel
theorem dX6_again_4 : decode cX6_again 4 = .ok (.ifCond .ne 5, 3) := by decide +kernel
theorem dX6_again_7 : decode cX6_again 7 = .ok (.iconst (-1), 1) := by decide +kernel
theorem dX6_again_8 : decode cX6_again 8 = .ok (.ireturn, 1) := by decide +kernel
theorem dX6_again_9 : decode cX6_again 9 = .ok (.aload_n 0, 1) := by decide +kernel
theorem dX6_again_10 : decode cX6_again 10 = .ok (.getfield 45, 3) := by decide +kernel
theorem dX6_again_13 : decode cX6_again 13 = .ok (.iload_n 1, 1) := by decide +kernel
theorem dX6_again_14 : decode cX6_again 14 = .ok (.aload_n 0, 1) := by decide +kernel
theorem dX6_again_15 : decode cX6_again 15 = .ok (.getfield 28, 3) := by decide +kernel
theorem dX6_again_18 : decode cX6_again 18 = .ok (.invokevirtual 256, 3) := by decide +kernel
theorem dX6_again_21 : decode cX6_again 21 = .ok (.ifCond .ne 6, 3) := by decide +kernel
theorem dX6_again_24 : decode cX6_again 24 = .ok (.bipush (-3), 2) := by decide +kernel
theorem dX6_again_26 : decode cX6_again 26 = .ok (.ireturn, 1) := by decide +kernel
theorem dX6_again_27 : decode cX6_again 27 = .ok (.aload_n 0, 1) := by decide +kernel
theorem dX6_again_28 : decode cX6_again 28 = .ok (.getfield 38, 3) := by decide +kernel
theorem dX6_again_31 : decode cX6_again 31 = .ok (.invokevirtual 77, 3) := by decide +kernel
theorem dX6_again_34 : decode cX6_again 34 = .ok (.aload_n 0, 1) := by decide +kernel
theorem dX6_again_35 : decode cX6_again 35 = .ok (.getfield 28, 3) := by decide +kernel
theorem dX6_again_38 : decode cX6_again 38 = .ok (.invokevirtual 85, 3) := by decide +kernel
theorem dX6_again_41 : decode cX6_again 41 = .ok (.ireturn, 1) := by decide +kernel
theorem dX6_keptIfOpened_0 : decode cX6_keptIfOpened 0 = .ok (.aload_n 0, 1) := by decide +kernel
theorem dX6_keptIfOpened_1 : decode cX6_keptIfOpened 1 = .ok (.getfield 32, 3) := by decide +kernel
theorem dX6_keptIfOpened_4 : decode cX6_keptIfOpened 4 = .ok (.aload_n 0, 1) := by decide +kernel
theorem dX6_keptIfOpened_5 : decode cX6_keptIfOpened 5 = .ok (.getfield 28, 3) := by decide +kernel
theorem dX6_keptIfOpened_8 : decode cX6_keptIfOpened 8 = .ok (.invokevirtual 167, 3) := by decide +kernel
theorem dX6_keptIfOpened_11 : decode cX6_keptIfOpened 11 = .ok (.aload_n 0, 1) := by decide +kernel
theorem dX6_keptIfOpened_12 : decode cX6_keptIfOpened 12 = .ok (.getfield 32, 3) := by decide +kernel
theorem dX6_keptIfOpened_15 : decode cX6_keptIfOpened 15 = .ok (.iload_n 1, 1) := by decide +kernel
theorem dX6_keptIfOpened_16 : decode cX6_keptIfOpened 16 = .ok (.invokevirtual 230, 3) := by decide +kernel
theorem dX6_keptIfOpened_19 : decode cX6_keptIfOpened 19 = .ok (.aload_n 0, 1) := by decide +kernel
theorem dX6_keptIfOpened_20 : decode cX6_keptIfOpened 20 = .ok (.getfield 32, 3) := by decide +kernel
theorem dX6_keptIfOpened_23 : decode cX6_keptIfOpened 23 = .ok (.bipush 9, 2) := by decide +kernel
theorem dX6_keptIfOpened_25 : decode cX6_keptIfOpened 25 = .ok (.invokevirtual 170, 3) := by decide +kernel
theorem dX6_keptIfOpened_28 : decode cX6_keptIfOpened 28 = .ok (.aload_n 0, 1) := by decide +kernel
theorem dX6_keptIfOpened_29 : decode cX6_keptIfOpened 29 = .ok (.getfield 32, 3) := by decide +kernel
theorem dX6_keptIfOpened_32 : decode cX6_keptIfOpened 32 = .ok (.invokevirtual 260, 3) := by decide +kernel
theorem dX6_keptIfOpened_35 : decode cX6_keptIfOpened 35 = .ok (.ireturn, 1) := by decide +kernel
theorem dX6_keptIfSent_0 : decode cX6_keptIfSent 0 = .ok (.aload_n 0, 1) := by decide +kernel
theorem dX6_keptIfSent_1 : decode cX6_keptIfSent 1 = .ok (.getfield 32, 3) := by decide +kernel
theorem dX6_keptIfSent_4 : decode cX6_keptIfSent 4 = .ok (.aload_n 0, 1) := by decide +kernel
theorem dX6_keptIfSent_5 : decode cX6_keptIfSent 5 = .ok (.getfield 28, 3) := by decide +kernel
theorem dX6_keptIfSent_8 : decode cX6_keptIfSent 8 = .ok (.invokevirtual 167, 3) := by decide +kernel
theorem dX6_keptIfSent_11 : decode cX6_keptIfSent 11 = .ok (.aload_n 0, 1) := by decide +kernel
theorem dX6_keptIfSent_12 : decode cX6_keptIfSent 12 = .ok (.getfield 32, 3) := by decide +kernel
theorem dX6_keptIfSent_15 : decode cX6_keptIfSent 15 = .ok (.iload_n 1, 1) := by decide +kernel
theorem dX6_keptIfSent_16 : decode cX6_keptIfSent 16 = .ok (.iload_n 2, 1) := by decide +kernel
theorem dX6_keptIfSent_17 : decode cX6_keptIfSent 17 = .ok (.invokevirtual 263, 3) := by decide +kernel
theorem dX6_keptIfSent_20 : decode cX6_keptIfSent 20 = .ok (.aload_n 0, 1) := by decide +kernel
theorem dX6_keptIfSent_21 : decode cX6_keptIfSent 21 = .ok (.getfield 32, 3) := by decide +kernel
theorem dX6_keptIfSent_24 : decode cX6_keptIfSent 24 = .ok (.iload_n 1, 1) := by decide +kernel
theorem dX6_keptIfSent_25 : decode cX6_keptIfSent 25 = .ok (.invokevirtual 148, 3) := by decide +kernel
theorem dX6_keptIfSent_28 : decode cX6_keptIfSent 28 = .ok (.pop, 1) := by decide +kernel
theorem dX6_keptIfSent_29 : decode cX6_keptIfSent 29 = .ok (.aload_n 0, 1) := by decide +kernel
theorem dX6_keptIfSent_30 : decode cX6_keptIfSent 30 = .ok (.getfield 32, 3) := by decide +kernel
theorem dX6_keptIfSent_33 : decode cX6_keptIfSent 33 = .ok (.bipush 9, 2) := by decide +kernel
theorem dX6_keptIfSent_35 : decode cX6_keptIfSent 35 = .ok (.invokevirtual 170, 3) := by decide +kernel
theorem dX6_keptIfSent_38 : decode cX6_keptIfSent 38 = .ok (.aload_n 0, 1) := by decide +kernel
theorem dX6_keptIfSent_39 : decode cX6_keptIfSent 39 = .ok (.getfield 32, 3) := by decide +kernel
theorem dX6_keptIfSent_42 : decode cX6_keptIfSent 42 = .ok (.invokevirtual 260, 3) := by decide +kernel
theorem dX6_keptIfSent_45 : decode cX6_keptIfSent 45 = .ok (.ireturn, 1) := by decide +kernel
theorem dX6_keptIfCome_0 : decode cX6_keptIfCome 0 = .ok (.aload_n 0, 1) := by decide +kernel
theorem dX6_keptIfCome_1 : decode cX6_keptIfCome 1 = .ok (.getfield 32, 3) := by decide +kernel
theorem dX6_keptIfCome_4 : decode cX6_keptIfCome 4 = .ok (.aload_n 0, 1) := by decide +kernel
theorem dX6_keptIfCome_5 : decode cX6_keptIfCome 5 = .ok (.getfield 28, 3) := by decide +kernel
theorem dX6_keptIfCome_8 : decode cX6_keptIfCome 8 = .ok (.invokevirtual 167, 3) := by decide +kernel
theorem dX6_keptIfCome_11 : decode cX6_keptIfCome 11 = .ok (.aload_n 0, 1) := by decide +kernel
theorem dX6_keptIfCome_12 : decode cX6_keptIfCome 12 = .ok (.getfield 32, 3) := by decide +kernel
theorem dX6_keptIfCome_15 : decode cX6_keptIfCome 15 = .ok (.aload_n 0, 1) := by decide +kernel
theorem dX6_keptIfCome_16 : decode cX6_keptIfCome 16 = .ok (.getfield 28, 3) := by decide +kernel
theorem dX6_keptIfCome_19 : decode cX6_keptIfCome 19 = .ok (.invokevirtual 88, 3) := by decide +kernel
theorem dX6_keptIfCome_22 : decode cX6_keptIfCome 22 = .ok (.iload_n 1, 1) := by decide +kernel
theorem dX6_keptIfCome_23 : decode cX6_keptIfCome 23 = .ok (.iconst (-1), 1) := by decide +kernel
theorem dX6_keptIfCome_24 : decode cX6_keptIfCome 24 = .ok (.ixor, 1) := by decide +kernel
theorem dX6_keptIfCome_25 : decode cX6_keptIfCome 25 = .ok (.iand, 1) := by decide +kernel
theorem dX6_keptIfCome_26 : decode cX6_keptIfCome 26 = .ok (.invokevirtual 267, 3) := by decide +kernel
theorem dX6_keptIfCome_29 : decode cX6_keptIfCome 29 = .ok (.aload_n 0, 1) := by decide +kernel
theorem dX6_keptIfCome_30 : decode cX6_keptIfCome 30 = .ok (.getfield 32, 3) := by decide +kernel
theorem dX6_keptIfCome_33 : decode cX6_keptIfCome 33 = .ok (.iload_n 1, 1) := by decide +kernel
theorem dX6_keptIfCome_34 : decode cX6_keptIfCome 34 = .ok (.invokevirtual 230, 3) := by decide +kernel
theorem dX6_keptIfCome_37 : decode cX6_keptIfCome 37 = .ok (.aload_n 0, 1) := by decide +kernel
theorem dX6_keptIfCome_38 : decode cX6_keptIfCome 38 = .ok (.getfield 32, 3) := by decide +kernel
theorem dX6_keptIfCome_41 : decode cX6_keptIfCome 41 = .ok (.bipush 9, 2) := by decide +kernel
theorem dX6_keptIfCome_43 : decode cX6_keptIfCome 43 = .ok (.invokevirtual 170, 3) := by decide +kernel
theorem dX6_keptIfCome_46 : decode cX6_keptIfCome 46 = .ok (.aload_n 0, 1) := by decide +kernel
theorem dX6_keptIfCome_47 : decode cX6_keptIfCome 47 = .ok (.getfield 32, 3) := by decide +kernel
theorem dX6_keptIfCome_50 : decode cX6_keptIfCome 50 = .ok (.invokevirtual 260, 3) := by decide +kernel
theorem dX6_keptIfCome_53 : decode cX6_keptIfCome 53 = .ok (.ireturn, 1) := by decide +kernel
theorem dX6_comesTrue_0 : decode cX6_comesTrue 0 = .ok (.iload_n 1, 1) := by decide +kernel
theorem dX6_comesTrue_1 : decode cX6_comesTrue 1 = .ok (.iconst 3, 1) := by decide +kernel
theorem dX6_comesTrue_2 : decode cX6_comesTrue 2 = .ok (.if_icmp .ne 37, 3) := by decide +kernel
theorem dX6_comesTrue_5 : decode cX6_comesTrue 5 = .ok (.iload_n 3, 1) := by decide +kernel
theorem dX6_comesTrue_6 : decode cX6_comesTrue 6 = .ok (.invokestatic 174, 3) := by decide +kernel
theorem dX6_comesTrue_9 : decode cX6_comesTrue 9 = .ok (.ifCond .eq 28, 3) := by decide +kernel
theorem dX6_comesTrue_12 : decode cX6_comesTrue 12 = .ok (.aload_n 0, 1) := by decide +kernel
theorem dX6_comesTrue_13 : decode cX6_comesTrue 13 = .ok (.getfield 32, 3) := by decide +kernel
theorem dX6_comesTrue_16 : decode cX6_comesTrue 16 = .ok (.iload_n 2, 1) := by decide +kernel
theorem dX6_comesTrue_17 : decode cX6_comesTrue 17 = .ok (.iload_n 3, 1) := by decide +kernel
theorem dX6_comesTrue_18 : decode cX6_comesTrue 18 = .ok (.iconst 1, 1) := by decide +kernel
theorem dX6_comesTrue_19 : decode cX6_comesTrue 19 = .ok (.if_icmp .ne 7, 3) := by decide +kernel
theorem dX6_comesTrue_22 : decode cX6_comesTrue 22 = .ok (.iconst 1, 1) := by decide +kernel
theorem dX6_comesTrue_23 : decode cX6_comesTrue 23 = .ok (.goto 4, 3) := by decide +kernel
theorem dX6_comesTrue_26 : decode cX6_comesTrue 26 = .ok (.iconst 0, 1) := by decide +kernel
theorem dX6_comesTrue_27 : decode cX6_comesTrue 27 = .ok (.invokevirtual 158, 3) := by decide +kernel
theorem dX6_comesTrue_30 : decode cX6_comesTrue 30 = .ok (.ifCond .eq 7, 3) := by decide +kernel
theorem dX6_comesTrue_33 : decode cX6_comesTrue 33 = .ok (.iconst 1, 1) := by decide +kernel
theorem dX6_comesTrue_34 : decode cX6_comesTrue 34 = .ok (.goto 4, 3) := by decide +kernel
theorem dX6_comesTrue_37 : decode cX6_comesTrue 37 = .ok (.iconst 0, 1) := by decide +kernel
theorem dX6_comesTrue_38 : decode cX6_comesTrue 38 = .ok (.ireturn, 1) := by decide +kernel
theorem dX6_comesTrue_39 : decode cX6_comesTrue 39 = .ok (.iload_n 2, 1) := by decide +kernel
theorem dX6_comesTrue_40 : decode cX6_comesTrue 40 = .ok (.ifCond .eq 5, 3) := by decide +kernel
theorem dX6_comesTrue_43 : decode cX6_comesTrue 43 = .ok (.iconst 0, 1) := by decide +kernel
theorem dX6_comesTrue_44 : decode cX6_comesTrue 44 = .ok (.ireturn, 1) := by decide +kernel
theorem dX6_comesTrue_45 : decode cX6_comesTrue 45 = .ok (.iload_n 1, 1) := by decide +kernel
theorem dX6_comesTrue_46 : decode cX6_comesTrue 46 = .ok (.tableswitch 114 0 5 #[38, 56, 65, 114, 74, 101], 38) := by decide +kernel
theorem dX6_comesTrue_84 : decode cX6_comesTrue 84 = .ok (.aload_n 0, 1) := by decide +kernel
theorem dX6_comesTrue_85 : decode cX6_comesTrue 85 = .ok (.getfield 32, 3) := by decide +kernel
theorem dX6_comesTrue_88 : decode cX6_comesTrue 88 = .ok (.invokevirtual 161, 3) := by decide +kernel
theorem dX6_comesTrue_91 : decode cX6_comesTrue 91 = .ok (.pop, 1) := by decide +kernel
theorem dX6_comesTrue_92 : decode cX6_comesTrue 92 = .ok (.iload_n 3, 1) := by decide +kernel
theorem dX6_comesTrue_93 : decode cX6_comesTrue 93 = .ok (.ifCond .ne 7, 3) := by decide +kernel
theorem dX6_comesTrue_96 : decode cX6_comesTrue 96 = .ok (.iconst 1, 1) := by decide +kernel
theorem dX6_comesTrue_97 : decode cX6_comesTrue 97 = .ok (.goto 4, 3) := by decide +kernel
theorem dX6_comesTrue_100 : decode cX6_comesTrue 100 = .ok (.iconst 0, 1) := by decide +kernel
theorem dX6_comesTrue_101 : decode cX6_comesTrue 101 = .ok (.ireturn, 1) := by decide +kernel
theorem dX6_comesTrue_102 : decode cX6_comesTrue 102 = .ok (.aload_n 0, 1) := by decide +kernel
theorem dX6_comesTrue_103 : decode cX6_comesTrue 103 = .ok (.getfield 32, 3) := by decide +kernel
theorem dX6_comesTrue_106 : decode cX6_comesTrue 106 = .ok (.iload_n 3, 1) := by decide +kernel
theorem dX6_comesTrue_107 : decode cX6_comesTrue 107 = .ok (.invokevirtual 148, 3) := by decide +kernel
theorem dX6_comesTrue_110 : decode cX6_comesTrue 110 = .ok (.ireturn, 1) := by decide +kernel
theorem dX6_comesTrue_111 : decode cX6_comesTrue 111 = .ok (.aload_n 0, 1) := by decide +kernel
theorem dX6_comesTrue_112 : decode cX6_comesTrue 112 = .ok (.getfield 32, 3) := by decide +kernel
theorem dX6_comesTrue_115 : decode cX6_comesTrue 115 = .ok (.iload_n 3, 1) := by decide +kernel
theorem dX6_comesTrue_116 : decode cX6_comesTrue 116 = .ok (.invokevirtual 151, 3) := by decide +kernel
theorem dX6_comesTrue_119 : decode cX6_comesTrue 119 = .ok (.ireturn, 1) := by decide +kernel
theorem dX6_comesTrue_120 : decode cX6_comesTrue 120 = .ok (.iload_n 3, 1) := by decide +kernel
theorem dX6_comesTrue_121 : decode cX6_comesTrue 121 = .ok (.invokestatic 132, 3) := by decide +kernel
theorem dX6_comesTrue_124 : decode cX6_comesTrue 124 = .ok (.ifCond .eq 21, 3) := by decide +kernel
theorem dX6_comesTrue_127 : decode cX6_comesTrue 127 = .ok (.aload_n 0, 1) := by decide +kernel
theorem dX6_comesTrue_128 : decode cX6_comesTrue 128 = .ok (.getfield 32, 3) := by decide +kernel
theorem dX6_comesTrue_131 : decode cX6_comesTrue 131 = .ok (.invokevirtual 91, 3) := by decide +kernel
theorem dX6_comesTrue_134 : decode cX6_comesTrue 134 = .ok (.iload_n 3, 1) := by decide +kernel
theorem dX6_comesTrue_135 : decode cX6_comesTrue 135 = .ok (.invokestatic 177, 3) := by decide +kernel
theorem dX6_comesTrue_138 : decode cX6_comesTrue 138 = .ok (.ifCond .eq 7, 3) := by decide +kernel
theorem dX6_comesTrue_141 : decode cX6_comesTrue 141 = .ok (.iconst 1, 1) := by decide +kernel
theorem dX6_comesTrue_142 : decode cX6_comesTrue 142 = .ok (.goto 4, 3) := by decide +kernel
theorem dX6_comesTrue_145 : decode cX6_comesTrue 145 = .ok (.iconst 0, 1) := by decide +kernel
theorem dX6_comesTrue_146 : decode cX6_comesTrue 146 = .ok (.ireturn, 1) := by decide +kernel
theorem dX6_comesTrue_147 : decode cX6_comesTrue 147 = .ok (.aload_n 0, 1) := by decide +kernel
theorem dX6_comesTrue_148 : decode cX6_comesTrue 148 = .ok (.getfield 32, 3) := by decide +kernel
theorem dX6_comesTrue_151 : decode cX6_comesTrue 151 = .ok (.iconst 1, 1) := by decide +kernel
theorem dX6_comesTrue_152 : decode cX6_comesTrue 152 = .ok (.invokevirtual 97, 3) := by decide +kernel
theorem dX6_comesTrue_155 : decode cX6_comesTrue 155 = .ok (.iload_n 3, 1) := by decide +kernel
theorem dX6_comesTrue_156 : decode cX6_comesTrue 156 = .ok (.invokestatic 177, 3) := by decide +kernel
theorem dX6_comesTrue_159 : decode cX6_comesTrue 159 = .ok (.ireturn, 1) := by decide +kernel
theorem dX6_comesTrue_160 : decode cX6_comesTrue 160 = .ok (.iconst 0, 1) := by decide +kernel
theorem dX6_comesTrue_161 : decode cX6_comesTrue 161 = .ok (.ireturn, 1) := by decide +kernel
theorem dX6_doByChance_0 : decode cX6_doByChance 0 = .ok (.iload_n 1, 1) := by decide +kernel
theorem dX6_doByChance_1 : decode cX6_doByChance 1 = .ok (.iconst 5, 1) := by decide +kernel
theorem dX6_doByChance_2 : decode cX6_doByChance 2 = .ok (.if_icmp .ge 15, 3) := by decide +kernel
theorem dX6_doByChance_5 : decode cX6_doByChance 5 = .ok (.aload_n 0, 1) := by decide +kernel
theorem dX6_doByChance_6 : decode cX6_doByChance 6 = .ok (.getfield 32, 3) := by decide +kernel
theorem dX6_doByChance_9 : decode cX6_doByChance 9 = .ok (.iload_n 1, 1) := by decide +kernel
theorem dX6_doByChance_10 : decode cX6_doByChance 10 = .ok (.invokevirtual 148, 3) := by decide +kernel
theorem dX6_doByChance_13 : decode cX6_doByChance 13 = .ok (.pop, 1) := by decide +kernel
theorem dX6_doByChance_14 : decode cX6_doByChance 14 = .ok (.goto 53, 3) := by decide +kernel
theorem dX6_doByChance_17 : decode cX6_doByChance 17 = .ok (.iload_n 1, 1) := by decide +kernel
theorem dX6_doByChance_18 : decode cX6_doByChance 18 = .ok (.bipush 10, 2) := by decide +kernel
theorem dX6_doByChance_20 : decode cX6_doByChance 20 = .ok (.if_icmp .ge 17, 3) := by decide +kernel
theorem dX6_doByChance_23 : decode cX6_doByChance 23 = .ok (.aload_n 0, 1) := by decide +kernel
theorem dX6_doByChance_24 : decode cX6_doByChance 24 = .ok (.getfield 32, 3) := by decide +kernel
theorem dX6_doByChance_27 : decode cX6_doByChance 27 = .ok (.iload_n 1, 1) := by decide +kernel
theorem dX6_doByChance_28 : decode cX6_doByChance 28 = .ok (.iconst 5, 1) := by decide +kernel
theorem dX6_doByChance_29 : decode cX6_doByChance 29 = .ok (.isub, 1) := by decide +kernel
theorem dX6_doByChance_30 : decode cX6_doByChance 30 = .ok (.invokevirtual 151, 3) := by decide +kernel
theorem dX6_doByChance_33 : decode cX6_doByChance 33 = .ok (.pop, 1) := by decide +kernel
theorem dX6_doByChance_34 : decode cX6_doByChance 34 = .ok (.goto 33, 3) := by decide +kernel
theorem dX6_doByChance_37 : decode cX6_doByChance 37 = .ok (.iload_n 1, 1) := by decide +kernel
theorem dX6_doByChance_38 : decode cX6_doByChance 38 = .ok (.bipush 15, 2) := by decide +kernel
theorem dX6_doByChance_40 : decode cX6_doByChance 40 = .ok (.if_icmp .ge 19, 3) := by decide +kernel
theorem dX6_doByChance_43 : decode cX6_doByChance 43 = .ok (.aload_n 0, 1) := by decide +kernel
theorem dX6_doByChance_44 : decode cX6_doByChance 44 = .ok (.getfield 32, 3) := by decide +kernel
theorem dX6_doByChance_47 : decode cX6_doByChance 47 = .ok (.iload_n 1, 1) := by decide +kernel
theorem dX6_doByChance_48 : decode cX6_doByChance 48 = .ok (.bipush 10, 2) := by decide +kernel
theorem dX6_doByChance_50 : decode cX6_doByChance 50 = .ok (.isub, 1) := by decide +kernel
theorem dX6_doByChance_51 : decode cX6_doByChance 51 = .ok (.iconst 1, 1) := by decide +kernel
theorem dX6_doByChance_52 : decode cX6_doByChance 52 = .ok (.invokevirtual 158, 3) := by decide +kernel
theorem dX6_doByChance_55 : decode cX6_doByChance 55 = .ok (.pop, 1) := by decide +kernel
theorem dX6_doByChance_56 : decode cX6_doByChance 56 = .ok (.goto 11, 3) := by decide +kernel
theorem dX6_doByChance_59 : decode cX6_doByChance 59 = .ok (.aload_n 0, 1) := by decide +kernel
theorem dX6_doByChance_60 : decode cX6_doByChance 60 = .ok (.getfield 32, 3) := by decide +kernel
theorem dX6_doByChance_63 : decode cX6_doByChance 63 = .ok (.invokevirtual 161, 3) := by decide +kernel
theorem dX6_doByChance_66 : decode cX6_doByChance 66 = .ok (.pop, 1) := by decide +kernel
theorem dX6_doByChance_67 : decode cX6_doByChance 67 = .ok (.return_, 1) := by decide +kernel
theorem dX6_isContent_0 : decode cX6_isContent 0 = .ok (.aload_n 0, 1) := by decide +kernel
theorem dX6_isContent_1 : decode cX6_isContent 1 = .ok (.iload_n 1, 1) := by decide +kernel
theorem dX6_isContent_2 : decode cX6_isContent 2 = .ok (.iload_n 2, 1) := by decide +kernel
theorem dX6_isContent_3 : decode cX6_isContent 3 = .ok (.iload_n 3, 1) := by decide +kernel
theorem dX6_isContent_4 : decode cX6_isContent 4 = .ok (.iload 4, 2) := by decide +kernel
theorem dX6_isContent_6 : decode cX6_isContent 6 = .ok (.invokevirtual 270, 3) := by decide +kernel
theorem dX6_isContent_9 : decode cX6_isContent 9 = .ok (.aload_n 0, 1) := by decide +kernel
theorem dX6_isContent_10 : decode cX6_isContent 10 = .ok (.iload_n 1, 1) := by decide +kernel
theorem dX6_isContent_11 : decode cX6_isContent 11 = .ok (.iload_n 2, 1) := by decide +kernel
theorem dX6_isContent_12 : decode cX6_isContent 12 = .ok (.ifCond .ne 7, 3) := by decide +kernel
theorem dX6_isContent_15 : decode cX6_isContent 15 = .ok (.iconst 1, 1) := by decide +kernel
theorem dX6_isContent_16 : decode cX6_isContent 16 = .ok (.goto 4, 3) := by decide +kernel
theorem dX6_isContent_19 : decode cX6_isContent 19 = .ok (.iconst 0, 1) := by decide +kernel
theorem dX6_isContent_20 : decode cX6_isContent 20 = .ok (.iload_n 3, 1) := by decide +kernel
theorem dX6_isContent_21 : decode cX6_isContent 21 = .ok (.iload 4, 2) := by decide +kernel
theorem dX6_isContent_23 : decode cX6_isContent 23 = .ok (.invokevirtual 270, 3) := by decide +kernel
theorem dX6_isContent_26 : decode cX6_isContent 26 = .ok (.if_icmp .lt 7, 3) := by decide +kernel
theorem dX6_isContent_29 : decode cX6_isContent 29 = .ok (.iconst 1, 1) := by decide +kernel
theorem dX6_isContent_30 : decode cX6_isContent 30 = .ok (.goto 4, 3) := by decide +kernel
theorem dX6_isContent_33 : decode cX6_isContent 33 = .ok (.iconst 0, 1) := by decide +kernel
theorem dX6_isContent_34 : decode cX6_isContent 34 = .ok (.ireturn, 1) := by decide +kernel
theorem dX6_gain_0 : decode cX6_gain 0 = .ok (.aload_n 0, 1) := by decide +kernel
theorem dX6_gain_1 : decode cX6_gain 1 = .ok (.getfield 32, 3) := by decide +kernel
theorem dX6_gain_4 : decode cX6_gain 4 = .ok (.aload_n 0, 1) := by decide +kernel
theorem dX6_gain_5 : decode cX6_gain 5 = .ok (.getfield 28, 3) := by decide +kernel
theorem dX6_gain_8 : decode cX6_gain 8 = .ok (.invokevirtual 167, 3) := by decide +kernel
theorem dX6_gain_11 : decode cX6_gain 11 = .ok (.aload_n 0, 1) := by decide +kernel
theorem dX6_gain_12 : decode cX6_gain 12 = .ok (.getfield 32, 3) := by decide +kernel
theorem dX6_gain_15 : decode cX6_gain 15 = .ok (.iload_n 2, 1) := by decide +kernel
theorem dX6_gain_16 : decode cX6_gain 16 = .ok (.ifCond .eq 9, 3) := by decide +kernel
theorem dX6_gain_19 : decode cX6_gain 19 = .ok (.iconst 1, 1) := by decide +kernel
theorem dX6_gain_20 : decode cX6_gain 20 = .ok (.iload_n 1, 1) := by decide +kernel
theorem dX6_gain_21 : decode cX6_gain 21 = .ok (.ishl, 1) := by decide +kernel
theorem dX6_gain_22 : decode cX6_gain 22 = .ok (.goto 4, 3) := by decide +kernel
theorem dX6_gain_25 : decode cX6_gain 25 = .ok (.iconst 0, 1) := by decide +kernel
theorem dX6_gain_26 : decode cX6_gain 26 = .ok (.iload 4, 2) := by decide +kernel
theorem dX6_gain_28 : decode cX6_gain 28 = .ok (.ifCond .eq 9, 3) := by decide +kernel
theorem dX6_gain_31 : decode cX6_gain 31 = .ok (.iconst 1, 1) := by decide +kernel
theorem dX6_gain_32 : decode cX6_gain 32 = .ok (.iload_n 3, 1) := by decide +kernel
theorem dX6_gain_33 : decode cX6_gain 33 = .ok (.ishl, 1) := by decide +kernel
theorem dX6_gain_34 : decode cX6_gain 34 = .ok (.goto 4, 3) := by decide +kernel
theorem dX6_gain_37 : decode cX6_gain 37 = .ok (.iconst 0, 1) := by decide +kernel
theorem dX6_gain_38 : decode cX6_gain 38 = .ok (.ior, 1) := by decide +kernel
theorem dX6_gain_39 : decode cX6_gain 39 = .ok (.invokevirtual 230, 3) := by decide +kernel
theorem dX6_gain_42 : decode cX6_gain 42 = .ok (.aload_n 0, 1) := by decide +kernel
theorem dX6_gain_43 : decode cX6_gain 43 = .ok (.getfield 32, 3) := by decide +kernel
theorem dX6_gain_46 : decode cX6_gain 46 = .ok (.iload_n 1, 1) := by decide +kernel
theorem dX6_gain_47 : decode cX6_gain 47 = .ok (.invokevirtual 108, 3) := by decide +kernel
theorem dX6_gain_50 : decode cX6_gain 50 = .ok (.istore 5, 2) := by decide +kernel
theorem dX6_gain_52 : decode cX6_gain 52 = .ok (.aload_n 0, 1) := by decide +kernel
theorem dX6_gain_53 : decode cX6_gain 53 = .ok (.getfield 32, 3) := by decide +kernel
theorem dX6_gain_56 : decode cX6_gain 56 = .ok (.invokevirtual 94, 3) := by decide +kernel
theorem dX6_gain_59 : decode cX6_gain 59 = .ok (.iload 5, 2) := by decide +kernel
theorem dX6_gain_61 : decode cX6_gain 61 = .ok (.invokestatic 177, 3) := by decide +kernel
theorem dX6_gain_64 : decode cX6_gain 64 = .ok (.istore 6, 2) := by decide +kernel
theorem dX6_gain_66 : decode cX6_gain 66 = .ok (.aload_n 0, 1) := by decide +kernel
theorem dX6_gain_67 : decode cX6_gain 67 = .ok (.getfield 32, 3) := by decide +kernel
theorem dX6_gain_70 : decode cX6_gain 70 = .ok (.invokevirtual 91, 3) := by decide +kernel
theorem dX6_gain_73 : decode cX6_gain 73 = .ok (.iload 5, 2) := by decide +kernel
theorem dX6_gain_75 : decode cX6_gain 75 = .ok (.invokestatic 177, 3) := by decide +kernel
theorem dX6_gain_78 : decode cX6_gain 78 = .ok (.istore 7, 2) := by decide +kernel
theorem dX6_gain_80 : decode cX6_gain 80 = .ok (.iload 7, 2) := by decide +kernel
theorem dX6_gain_82 : decode cX6_gain 82 = .ok (.ifCond .eq 12, 3) := by decide +kernel
theorem dX6_gain_85 : decode cX6_gain 85 = .ok (.iload 6, 2) := by decide +kernel
theorem dX6_gain_87 : decode cX6_gain 87 = .ok (.ifCond .ne 7, 3) := by decide +kernel
theorem dX6_gain_90 : decode cX6_gain 90 = .ok (.iconst 2, 1) := by decide +kernel
theorem dX6_gain_91 : decode cX6_gain 91 = .ok (.goto 4, 3) := by decide +kernel
theorem dX6_gain_94 : decode cX6_gain 94 = .ok (.iconst 0, 1) := by decide +kernel
theorem dX6_gain_95 : decode cX6_gain 95 = .ok (.iload_n 2, 1) := by decide +kernel
theorem dX6_gain_96 : decode cX6_gain 96 = .ok (.ifCond .eq 7, 3) := by decide +kernel
theorem dX6_gain_99 : decode cX6_gain 99 = .ok (.iconst 1, 1) := by decide +kernel
theorem dX6_gain_100 : decode cX6_gain 100 = .ok (.goto 4, 3) := by decide +kernel
theorem dX6_gain_103 : decode cX6_gain 103 = .ok (.iconst 0, 1) := by decide +kernel
theorem dX6_gain_104 : decode cX6_gain 104 = .ok (.isub, 1) := by decide +kernel
theorem dX6_gain_105 : decode cX6_gain 105 = .ok (.iload 6, 2) := by decide +kernel
theorem dX6_gain_107 : decode cX6_gain 107 = .ok (.ifCond .eq 7, 3) := by decide +kernel
theorem dX6_gain_110 : decode cX6_gain 110 = .ok (.iconst 3, 1) := by decide +kernel
theorem dX6_gain_111 : decode cX6_gain 111 = .ok (.goto 4, 3) := by decide +kernel
theorem dX6_gain_114 : decode cX6_gain 114 = .ok (.iconst 0, 1) := by decide +kernel
theorem dX6_gain_115 : decode cX6_gain 115 = .ok (.isub, 1) := by decide +kernel
theorem dX6_gain_116 : decode cX6_gain 116 = .ok (.ireturn, 1) := by decide +kernel
theorem dX6_isStreet_0 : decode cX6_isStreet 0 = .ok (.iload_n 0, 1) := by decide +kernel
theorem dX6_isStreet_1 : decode cX6_isStreet 1 = .ok (.ifCond .lt 13, 3) := by decide +kernel
theorem dX6_isStreet_4 : decode cX6_isStreet 4 = .ok (.iload_n 0, 1) := by decide +kernel
theorem dX6_isStreet_5 : decode cX6_isStreet 5 = .ok (.bipush 6, 2) := by decide +kernel
theorem dX6_isStreet_7 : decode cX6_isStreet 7 = .ok (.if_icmp .ge 7, 3) := by decide +kernel
theorem dX6_isStreet_10 : decode cX6_isStreet 10 = .ok (.iconst 1, 1) := by decide +kernel
theorem dX6_isStreet_11 : decode cX6_isStreet 11 = .ok (.goto 4, 3) := by decide +kernel
theorem dX6_isStreet_14 : decode cX6_isStreet 14 = .ok (.iconst 0, 1) := by decide +kernel
theorem dX6_isStreet_15 : decode cX6_isStreet 15 = .ok (.ireturn, 1) := by decide +kernel
theorem dX6_isSlot_0 : decode cX6_isSlot 0 = .ok (.iload_n 0, 1) := by decide +kernel
theorem dX6_isSlot_1 : decode cX6_isSlot 1 = .ok (.ifCond .lt 12, 3) := by decide +kernel
theorem dX6_isSlot_4 : decode cX6_isSlot 4 = .ok (.iload_n 0, 1) := by decide +kernel
theorem dX6_isSlot_5 : decode cX6_isSlot 5 = .ok (.iconst 2, 1) := by decide +kernel
theorem dX6_isSlot_6 : decode cX6_isSlot 6 = .ok (.if_icmp .ge 7, 3) := by decide +kernel
theorem dX6_isSlot_9 : decode cX6_isSlot 9 = .ok (.iconst 1, 1) := by decide +kernel
theorem dX6_isSlot_10 : decode cX6_isSlot 10 = .ok (.goto 4, 3) := by decide +kernel
theorem dX6_isSlot_13 : decode cX6_isSlot 13 = .ok (.iconst 0, 1) := by decide +kernel
theorem dX6_isSlot_14 : decode cX6_isSlot 14 = .ok (.ireturn, 1) := by decide +kernel
theorem dX6_isChoice_0 : decode cX6_isChoice 0 = .ok (.iload_n 0, 1) := by decide +kernel
theorem dX6_isChoice_1 : decode cX6_isChoice 1 = .ok (.ifCond .eq 8, 3) := by decide +kernel
theorem dX6_isChoice_4 : decode cX6_isChoice 4 = .ok (.iload_n 0, 1) := by decide +kernel
theorem dX6_isChoice_5 : decode cX6_isChoice 5 = .ok (.iconst 1, 1) := by decide +kernel
theorem dX6_isChoice_6 : decode cX6_isChoice 6 = .ok (.if_icmp .ne 7, 3) := by decide +kernel
theorem dX6_isChoice_9 : decode cX6_isChoice 9 = .ok (.iconst 1, 1) := by decide +kernel
theorem dX6_isChoice_10 : decode cX6_isChoice 10 = .ok (.goto 4, 3) := by decide +kernel
theorem dX6_isChoice_13 : decode cX6_isChoice 13 = .ok (.iconst 0, 1) := by decide +kernel
theorem dX6_isChoice_14 : decode cX6_isChoice 14 = .ok (.ireturn, 1) := by decide +kernel
theorem dX6_has_0 : decode cX6_has 0 = .ok (.iload_n 1, 1) := by decide +kernel
theorem dX6_has_1 : decode cX6_has 1 = .ok (.ifCond .lt 22, 3) := by decide +kernel
theorem dX6_has_4 : decode cX6_has 4 = .ok (.iload_n 1, 1) := by decide +kernel
theorem dX6_has_5 : decode cX6_has 5 = .ok (.bipush 31, 2) := by decide +kernel
theorem dX6_has_7 : decode cX6_has 7 = .ok (.if_icmp .ge 16, 3) := by decide +kernel
theorem dX6_has_10 : decode cX6_has 10 = .ok (.iload_n 0, 1) := by decide +kernel
theorem dX6_has_11 : decode cX6_has 11 = .ok (.iload_n 1, 1) := by decide +kernel
theorem dX6_has_12 : decode cX6_has 12 = .ok (.ishr, 1) := by decide +kernel
theorem dX6_has_13 : decode cX6_has 13 = .ok (.iconst 1, 1) := by decide +kernel
theorem dX6_has_14 : decode cX6_has 14 = .ok (.iand, 1) := by decide +kernel
theorem dX6_has_15 : decode cX6_has 15 = .ok (.iconst 1, 1) := by decide +kernel
theorem dX6_has_16 : decode cX6_has 16 = .ok (.if_icmp .ne 7, 3) := by decide +kernel
theorem dX6_has_19 : decode cX6_has 19 = .ok (.iconst 1, 1) := by decide +kernel
theorem dX6_has_20 : decode cX6_has 20 = .ok (.goto 4, 3) := by decide +kernel
theorem dX6_has_23 : decode cX6_has 23 = .ok (.iconst 0, 1) := by decide +kernel
theorem dX6_has_24 : decode cX6_has 24 = .ok (.ireturn, 1) := by decide +kernel
theorem dX6_isWithin_0 : decode cX6_isWithin 0 = .ok (.iload_n 0, 1) := by decide +kernel
theorem dX6_isWithin_1 : decode cX6_isWithin 1 = .ok (.iload_n 1, 1) := by decide +kernel
theorem dX6_isWithin_2 : decode cX6_isWithin 2 = .ok (.iconst (-1), 1) := by decide +kernel
theorem dX6_isWithin_3 : decode cX6_isWithin 3 = .ok (.ixor, 1) := by decide +kernel
theorem dX6_isWithin_4 : decode cX6_isWithin 4 = .ok (.iand, 1) := by decide +kernel
theorem dX6_isWithin_5 : decode cX6_isWithin 5 = .ok (.ifCond .ne 7, 3) := by decide +kernel
theorem dX6_isWithin_8 : decode cX6_isWithin 8 = .ok (.iconst 1, 1) := by decide +kernel
theorem dX6_isWithin_9 : decode cX6_isWithin 9 = .ok (.goto 4, 3) := by decide +kernel
theorem dX6_isWithin_12 : decode cX6_isWithin 12 = .ok (.iconst 0, 1) := by decide +kernel
theorem dX6_isWithin_13 : decode cX6_isWithin 13 = .ok (.ireturn, 1) := by decide +kernel
theorem dX6_at_0 : decode cX6_at 0 = .ok (.iload_n 1, 1) := by decide +kernel
theorem dX6_at_1 : decode cX6_at 1 = .ok (.ifCond .lt 15, 3) := by decide +kernel
theorem dX6_at_4 : decode cX6_at 4 = .ok (.iload_n 1, 1) := by decide +kernel
theorem dX6_at_5 : decode cX6_at 5 = .ok (.aload_n 0, 1) := by decide +kernel
theorem dX6_at_6 : decode cX6_at 6 = .ok (.arraylength, 1) := by decide +kernel
theorem dX6_at_7 : decode cX6_at 7 = .ok (.if_icmp .ge 9, 3) := by decide +kernel
theorem dX6_at_10 : decode cX6_at 10 = .ok (.aload_n 0, 1) := by decide +kernel
theorem dX6_at_11 : decode cX6_at 11 = .ok (.iload_n 1, 1) := by decide +kernel
theorem dX6_at_12 : decode cX6_at 12 = .ok (.iaload, 1) := by decide +kernel
theorem dX6_at_13 : decode cX6_at 13 = .ok (.goto 4, 3) := by decide +kernel
theorem dX6_at_16 : decode cX6_at 16 = .ok (.iconst 0, 1) := by decide +kernel
theorem dX6_at_17 : decode cX6_at 17 = .ok (.ireturn, 1) := by decide +kernel
theorem dX6_put_0 : decode cX6_put 0 = .ok (.iload_n 1, 1) := by decide +kernel
theorem dX6_put_1 : decode cX6_put 1 = .ok (.ifCond .lt 13, 3) := by decide +kernel
theorem dX6_put_4 : decode cX6_put 4 = .ok (.iload_n 1, 1) := by decide +kernel
theorem dX6_put_5 : decode cX6_put 5 = .ok (.aload_n 0, 1) := by decide +kernel
theorem dX6_put_6 : decode cX6_put 6 = .ok (.arraylength, 1) := by decide +kernel
theorem dX6_put_7 : decode cX6_put 7 = .ok (.if_icmp .ge 7, 3) := by decide +kernel
theorem dX6_put_10 : decode cX6_put 10 = .ok (.aload_n 0, 1) := by decide +kernel
theorem dX6_put_11 : decode cX6_put 11 = .ok (.iload_n 1, 1) := by decide +kernel
theorem dX6_put_12 : decode cX6_put 12 = .ok (.iload_n 2, 1) := by decide +kernel
theorem dX6_put_13 : decode cX6_put 13 = .ok (.iastore, 1) := by decide +kernel
theorem dX6_put_14 : decode cX6_put 14 = .ok (.return_, 1) := by decide +kernel
theorem dX6_withoutLast_0 : decode cX6_withoutLast 0 = .ok (.lload_n 0, 1) := by decide +kernel
theorem dX6_withoutLast_1 : decode cX6_withoutLast 1 = .ok (.lstore_n 3, 1) := by decide +kernel
theorem dX6_withoutLast_2 : decode cX6_withoutLast 2 = .ok (.iconst 0, 1) := by decide +kernel
theorem dX6_withoutLast_3 : decode cX6_withoutLast 3 = .ok (.istore 5, 2) := by decide +kernel
theorem dX6_withoutLast_5 : decode cX6_withoutLast 5 = .ok (.iload 5, 2) := by decide +kernel
theorem dX6_withoutLast_7 : decode cX6_withoutLast 7 = .ok (.iload_n 2, 1) := by decide +kernel
theorem dX6_withoutLast_8 : decode cX6_withoutLast 8 = .ok (.if_icmp .ge 15, 3) := by decide +kernel
theorem dX6_withoutLast_11 : decode cX6_withoutLast 11 = .ok (.lload_n 3, 1) := by decide +kernel
theorem dX6_withoutLast_12 : decode cX6_withoutLast 12 = .ok (.ldc2_w 203, 3) := by decide +kernel
theorem dX6_withoutLast_15 : decode cX6_withoutLast 15 = .ok (.ldiv, 1) := by decide +kernel
theorem dX6_withoutLast_16 : decode cX6_withoutLast 16 = .ok (.lstore_n 3, 1) := by decide +kernel
theorem dX6_withoutLast_17 : decode cX6_withoutLast 17 = .ok (.iinc 5 1, 3) := by decide +kernel
theorem dX6_withoutLast_20 : decode cX6_withoutLast 20 = .ok (.goto (-15), 3) := by decide +kernel
theorem dX6_withoutLast_23 : decode cX6_withoutLast 23 = .ok (.lload_n 3, 1) := by decide +kernel
theorem dX6_withoutLast_24 : decode cX6_withoutLast 24 = .ok (.lreturn, 1) := by decide +kernel
theorem dX6_ordersOf_0 : decode cX6_ordersOf 0 = .ok (.iconst 1, 1) := by decide +kernel
theorem dX6_ordersOf_1 : decode cX6_ordersOf 1 = .ok (.istore_n 1, 1) := by decide +kernel
theorem dX6_ordersOf_2 : decode cX6_ordersOf 2 = .ok (.iconst 2, 1) := by decide +kernel
theorem dX6_ordersOf_3 : decode cX6_ordersOf 3 = .ok (.istore_n 2, 1) := by decide +kernel
theorem dX6_ordersOf_4 : decode cX6_ordersOf 4 = .ok (.iload_n 2, 1) := by decide +kernel
theorem dX6_ordersOf_5 : decode cX6_ordersOf 5 = .ok (.iload_n 0, 1) := by decide +kernel
theorem dX6_ordersOf_6 : decode cX6_ordersOf 6 = .ok (.if_icmp .gt 13, 3) := by decide +kernel
theorem dX6_ordersOf_9 : decode cX6_ordersOf 9 = .ok (.iload_n 1, 1) := by decide +kernel
theorem dX6_ordersOf_10 : decode cX6_ordersOf 10 = .ok (.iload_n 2, 1) := by decide +kernel
theorem dX6_ordersOf_11 : decode cX6_ordersOf 11 = .ok (.imul, 1) := by decide +kernel
theorem dX6_ordersOf_12 : decode cX6_ordersOf 12 = .ok (.istore_n 1, 1) := by decide +kernel
theorem dX6_ordersOf_13 : decode cX6_ordersOf 13 = .ok (.iinc 2 1, 3) := by decide +kernel
theorem dX6_ordersOf_16 : decode cX6_ordersOf 16 = .ok (.goto (-12), 3) := by decide +kernel
theorem dX6_ordersOf_19 : decode cX6_ordersOf 19 = .ok (.iload_n 1, 1) := by decide +kernel
theorem dX6_ordersOf_20 : decode cX6_ordersOf 20 = .ok (.ireturn, 1) := by decide +kernel
theorem dX6_power_0 : decode cX6_power 0 = .ok (.iconst 1, 1) := by decide +kernel
theorem dX6_power_1 : decode cX6_power 1 = .ok (.istore_n 2, 1) := by decide +kernel
theorem dX6_power_2 : decode cX6_power 2 = .ok (.iconst 0, 1) := by decide +kernel
theorem dX6_power_3 : decode cX6_power 3 = .ok (.istore_n 3, 1) := by decide +kernel
theorem dX6_power_4 : decode cX6_power 4 = .ok (.iload_n 3, 1) := by decide +kernel
theorem dX6_power_5 : decode cX6_power 5 = .ok (.iload_n 1, 1) := by decide +kernel
theorem dX6_power_6 : decode cX6_power 6 = .ok (.if_icmp .ge 13, 3) := by decide +kernel
theorem dX6_power_9 : decode cX6_power 9 = .ok (.iload_n 2, 1) := by decide +kernel
theorem dX6_power_10 : decode cX6_power 10 = .ok (.iload_n 0, 1) := by decide +kernel
theorem dX6_power_11 : decode cX6_power 11 = .ok (.imul, 1) := by decide +kernel
theorem dX6_power_12 : decode cX6_power 12 = .ok (.istore_n 2, 1) := by decide +kernel
theorem dX6_power_13 : decode cX6_power 13 = .ok (.iinc 3 1, 3) := by decide +kernel
theorem dX6_power_16 : decode cX6_power 16 = .ok (.goto (-12), 3) := by decide +kernel
theorem dX6_power_19 : decode cX6_power 19 = .ok (.iload_n 2, 1) := by decide +kernel
theorem dX6_power_20 : decode cX6_power 20 = .ok (.ireturn, 1) := by decide +kernel
theorem dX6_partOf_0 : decode cX6_partOf 0 = .ok (.iload_n 0, 1) := by decide +kernel
theorem dX6_partOf_1 : decode cX6_partOf 1 = .ok (.invokestatic 274, 3) := by decide +kernel
theorem dX6_partOf_4 : decode cX6_partOf 4 = .ok (.iload_n 1, 1) := by decide +kernel
theorem dX6_partOf_5 : decode cX6_partOf 5 = .ok (.invokestatic 279, 3) := by decide +kernel
theorem dX6_partOf_8 : decode cX6_partOf 8 = .ok (.istore_n 3, 1) := by decide +kernel
theorem dX6_partOf_9 : decode cX6_partOf 9 = .ok (.iload_n 3, 1) := by decide +kernel
theorem dX6_partOf_10 : decode cX6_partOf 10 = .ok (.ifCond .ne 5, 3) := by decide +kernel
theorem dX6_partOf_13 : decode cX6_partOf 13 = .ok (.iconst 0, 1) := by decide +kernel
theorem dX6_partOf_14 : decode cX6_partOf 14 = .ok (.ireturn, 1) := by decide +kernel
theorem dX6_partOf_15 : decode cX6_partOf 15 = .ok (.iload_n 2, 1) := by decide +kernel
theorem dX6_partOf_16 : decode cX6_partOf 16 = .ok (.ifCond .eq 9, 3) := by decide +kernel
theorem dX6_partOf_19 : decode cX6_partOf 19 = .ok (.iload_n 0, 1) := by decide +kernel
theorem dX6_partOf_20 : decode cX6_partOf 20 = .ok (.iload_n 3, 1) := by decide +kernel
theorem dX6_partOf_21 : decode cX6_partOf 21 = .ok (.idiv, 1) := by decide +kernel
theorem dX6_partOf_22 : decode cX6_partOf 22 = .ok (.goto 6, 3) := by decide +kernel
theorem dX6_partOf_25 : decode cX6_partOf 25 = .ok (.iload_n 1, 1) := by decide +kernel
theorem dX6_partOf_26 : decode cX6_partOf 26 = .ok (.iload_n 3, 1) := by decide +kernel
theorem dX6_partOf_27 : decode cX6_partOf 27 = .ok (.idiv, 1) := by decide +kernel
theorem dX6_partOf_28 : decode cX6_partOf 28 = .ok (.ireturn, 1) := by decide +kernel
theorem dX6_commonDivisor_0 : decode cX6_commonDivisor 0 = .ok (.iload_n 0, 1) := by decide +kernel
theorem dX6_commonDivisor_1 : decode cX6_commonDivisor 1 = .ok (.istore_n 2, 1) := by decide +kernel
theorem dX6_commonDivisor_2 : decode cX6_commonDivisor 2 = .ok (.iload_n 1, 1) := by decide +kernel
theorem dX6_commonDivisor_3 : decode cX6_commonDivisor 3 = .ok (.istore_n 3, 1) := by decide +kernel
theorem dX6_commonDivisor_4 : decode cX6_commonDivisor 4 = .ok (.iconst 0, 1) := by decide +kernel
theorem dX6_commonDivisor_5 : decode cX6_commonDivisor 5 = .ok (.istore 4, 2) := by decide +kernel
theorem dX6_commonDivisor_7 : decode cX6_commonDivisor 7 = .ok (.iload 4, 2) := by decide +kernel
theorem dX6_commonDivisor_9 : decode cX6_commonDivisor 9 = .ok (.bipush 100, 2) := by decide +kernel
theorem dX6_commonDivisor_11 : decode cX6_commonDivisor 11 = .ok (.if_icmp .ge 23, 3) := by decide +kernel
theorem dX6_commonDivisor_14 : decode cX6_commonDivisor 14 = .ok (.iload_n 3, 1) := by decide +kernel
theorem dX6_commonDivisor_15 : decode cX6_commonDivisor 15 = .ok (.ifCond .eq 19, 3) := by decide +kernel
theorem dX6_commonDivisor_18 : decode cX6_commonDivisor 18 = .ok (.iload_n 2, 1) := by decide +kernel
theorem dX6_commonDivisor_19 : decode cX6_commonDivisor 19 = .ok (.iload_n 3, 1) := by decide +kernel
theorem dX6_commonDivisor_20 : decode cX6_commonDivisor 20 = .ok (.irem, 1) := by decide +kernel
theorem dX6_commonDivisor_21 : decode cX6_commonDivisor 21 = .ok (.istore 5, 2) := by decide +kernel
theorem dX6_commonDivisor_23 : decode cX6_commonDivisor 23 = .ok (.iload_n 3, 1) := by decide +kernel
theorem dX6_commonDivisor_24 : decode cX6_commonDivisor 24 = .ok (.istore_n 2, 1) := by decide +kernel
theorem dX6_commonDivisor_25 : decode cX6_commonDivisor 25 = .ok (.iload 5, 2) := by decide +kernel
theorem dX6_commonDivisor_27 : decode cX6_commonDivisor 27 = .ok (.istore_n 3, 1) := by decide +kernel
theorem dX6_commonDivisor_28 : decode cX6_commonDivisor 28 = .ok (.iinc 4 1, 3) := by decide +kernel
theorem dX6_commonDivisor_31 : decode cX6_commonDivisor 31 = .ok (.goto (-24), 3) := by decide +kernel
theorem dX6_commonDivisor_34 : decode cX6_commonDivisor 34 = .ok (.iload_n 2, 1) := by decide +kernel
theorem dX6_commonDivisor_35 : decode cX6_commonDivisor 35 = .ok (.ireturn, 1) := by decide +kernel
theorem dX6_scenes_0 : decode cX6_scenes 0 = .ok (.iload_n 1, 1) := by decide +kernel
theorem dX6_scenes_1 : decode cX6_scenes 1 = .ok (.ifCond .ge 7, 3) := by decide +kernel
theorem dX6_scenes_4 : decode cX6_scenes 4 = .ok (.iconst 0, 1) := by decide +kernel
theorem dX6_scenes_5 : decode cX6_scenes 5 = .ok (.goto 4, 3) := by decide +kernel
theorem dX6_scenes_8 : decode cX6_scenes 8 = .ok (.iload_n 1, 1) := by decide +kernel
theorem dX6_scenes_9 : decode cX6_scenes 9 = .ok (.anewarray 23, 3) := by decide +kernel
theorem dX6_scenes_12 : decode cX6_scenes 12 = .ok (.astore_n 2, 1) := by decide +kernel
theorem dX6_scenes_13 : decode cX6_scenes 13 = .ok (.iconst 0, 1) := by decide +kernel
theorem dX6_scenes_14 : decode cX6_scenes 14 = .ok (.istore_n 3, 1) := by decide +kernel
theorem dX6_scenes_15 : decode cX6_scenes 15 = .ok (.iload_n 3, 1) := by decide +kernel
theorem dX6_scenes_16 : decode cX6_scenes 16 = .ok (.aload_n 2, 1) := by decide +kernel
theorem dX6_scenes_17 : decode cX6_scenes 17 = .ok (.arraylength, 1) := by decide +kernel
theorem dX6_scenes_18 : decode cX6_scenes 18 = .ok (.if_icmp .ge 20, 3) := by decide +kernel
theorem dX6_scenes_21 : decode cX6_scenes 21 = .ok (.aload_n 2, 1) := by decide +kernel
theorem dX6_scenes_22 : decode cX6_scenes 22 = .ok (.iload_n 3, 1) := by decide +kernel
theorem dX6_scenes_23 : decode cX6_scenes 23 = .ok (.new 23, 3) := by decide +kernel
theorem dX6_scenes_26 : decode cX6_scenes 26 = .ok (.dup, 1) := by decide +kernel
theorem dX6_scenes_27 : decode cX6_scenes 27 = .ok (.aload_n 0, 1) := by decide +kernel
theorem dX6_scenes_28 : decode cX6_scenes 28 = .ok (.invokespecial 25, 3) := by decide +kernel
theorem dX6_scenes_31 : decode cX6_scenes 31 = .ok (.aastore, 1) := by decide +kernel
theorem dX6_scenes_32 : decode cX6_scenes 32 = .ok (.iinc 3 1, 3) := by decide +kernel
theorem dX6_scenes_35 : decode cX6_scenes 35 = .ok (.goto (-20), 3) := by decide +kernel
theorem dX6_scenes_38 : decode cX6_scenes 38 = .ok (.aload_n 2, 1) := by decide +kernel
theorem dX6_scenes_39 : decode cX6_scenes 39 = .ok (.areturn, 1) := by decide +kernel
theorem dX6_sceneAt_0 : decode cX6_sceneAt 0 = .ok (.iload_n 1, 1) := by decide +kernel
theorem dX6_sceneAt_1 : decode cX6_sceneAt 1 = .ok (.ifCond .lt 15, 3) := by decide +kernel
theorem dX6_sceneAt_4 : decode cX6_sceneAt 4 = .ok (.iload_n 1, 1) := by decide +kernel
theorem dX6_sceneAt_5 : decode cX6_sceneAt 5 = .ok (.aload_n 0, 1) := by decide +kernel
theorem dX6_sceneAt_6 : decode cX6_sceneAt 6 = .ok (.arraylength, 1) := by decide +kernel
theorem dX6_sceneAt_7 : decode cX6_sceneAt 7 = .ok (.if_icmp .ge 9, 3) := by decide +kernel
theorem dX6_sceneAt_10 : decode cX6_sceneAt 10 = .ok (.aload_n 0, 1) := by decide +kernel
theorem dX6_sceneAt_11 : decode cX6_sceneAt 11 = .ok (.iload_n 1, 1) := by decide +kernel
theorem dX6_sceneAt_12 : decode cX6_sceneAt 12 = .ok (.aaload, 1) := by decide +kernel
theorem dX6_sceneAt_13 : decode cX6_sceneAt 13 = .ok (.goto 4, 3) := by decide +kernel
theorem dX6_sceneAt_16 : decode cX6_sceneAt 16 = .ok (.aconst_null, 1) := by decide +kernel
theorem dX6_sceneAt_17 : decode cX6_sceneAt 17 = .ok (.areturn, 1) := by decide +kernel
theorem dX7_init_0 : decode cX7_init 0 = .ok (.aload_n 0, 1) := by decide +kernel
theorem dX7_init_1 : decode cX7_init 1 = .ok (.invokespecial 1, 3) := by decide +kernel
theorem dX7_init_4 : decode cX7_init 4 = .ok (.aload_n 0, 1) := by decide +kernel
theorem dX7_init_5 : decode cX7_init 5 = .ok (.bipush 48, 2) := by decide +kernel
theorem dX7_init_7 : decode cX7_init 7 = .ok (.newarray .int, 2) := by decide +kernel
theorem dX7_init_9 : decode cX7_init 9 = .ok (.putfield 7, 3) := by decide +kernel
theorem dX7_init_12 : decode cX7_init 12 = .ok (.aload_n 0, 1) := by decide +kernel
theorem dX7_init_13 : decode cX7_init 13 = .ok (.iconst 5, 1) := by decide +kernel
theorem dX7_init_14 : decode cX7_init 14 = .ok (.newarray .int, 2) := by decide +kernel
theorem dX7_init_16 : decode cX7_init 16 = .ok (.putfield 13, 3) := by decide +kernel
theorem dX7_init_19 : decode cX7_init 19 = .ok (.aload_n 0, 1) := by decide +kernel
theorem dX7_init_20 : decode cX7_init 20 = .ok (.bipush 15, 2) := by decide +kernel
theorem dX7_init_22 : decode cX7_init 22 = .ok (.newarray .int, 2) := by decide +kernel
theorem dX7_init_24 : decode cX7_init 24 = .ok (.putfield 16, 3) := by decide +kernel
theorem dX7_init_27 : decode cX7_init 27 = .ok (.aload_n 0, 1) := by decide +kernel
theorem dX7_init_28 : decode cX7_init 28 = .ok (.bipush 10, 2) := by decide +kernel
theorem dX7_init_30 : decode cX7_init 30 = .ok (.newarray .int, 2) := by decide +kernel
theorem dX7_init_32 : decode cX7_init 32 = .ok (.putfield 19, 3) := by decide +kernel
theorem dX7_init_35 : decode cX7_init 35 = .ok (.aload_n 0, 1) := by decide +kernel
theorem dX7_init_36 : decode cX7_init 36 = .ok (.bipush 15, 2) := by decide +kernel
theorem dX7_init_38 : decode cX7_init 38 = .ok (.newarray .int, 2) := by decide +kernel
theorem dX7_init_40 : decode cX7_init 40 = .ok (.putfield 22, 3) := by decide +kernel
theorem dX7_init_43 : decode cX7_init 43 = .ok (.aload_n 0, 1) := by decide +kernel
theorem dX7_init_44 : decode cX7_init 44 = .ok (.bipush 24, 2) := by decide +kernel
theorem dX7_init_46 : decode cX7_init 46 = .ok (.newarray .int, 2) := by decide +kernel
theorem dX7_init_48 : decode cX7_init 48 = .ok (.putfield 25, 3) := by decide +kernel
theorem dX7_init_51 : decode cX7_init 51 = .ok (.aload_n 0, 1) := by decide +kernel
theorem dX7_init_52 : decode cX7_init 52 = .ok (.bipush 24, 2) := by decide +kernel
theorem dX7_init_54 : decode cX7_init 54 = .ok (.newarray .int, 2) := by decide +kernel
theorem dX7_init_56 : decode cX7_init 56 = .ok (.putfield 28, 3) := by decide +kernel
theorem dX7_init_59 : decode cX7_init 59 = .ok (.aload_n 0, 1) := by decide +kernel
theorem dX7_init_60 : decode cX7_init 60 = .ok (.sipush 336, 3) := by decide +kernel
theorem dX7_init_63 : decode cX7_init 63 = .ok (.newarray .int, 2) := by decide +kernel
theorem dX7_init_65 : decode cX7_init 65 = .ok (.putfield 31, 3) := by decide +kernel
theorem dX7_init_68 : decode cX7_init 68 = .ok (.aload_n 0, 1) := by decide +kernel
theorem dX7_init_69 : decode cX7_init 69 = .ok (.bipush 48, 2) := by decide +kernel
theorem dX7_init_71 : decode cX7_init 71 = .ok (.newarray .int, 2) := by decide +kernel
theorem dX7_init_73 : decode cX7_init 73 = .ok (.putfield 34, 3) := by decide +kernel
theorem dX7_init_76 : decode cX7_init 76 = .ok (.aload_n 0, 1) := by decide +kernel
theorem dX7_init_77 : decode cX7_init 77 = .ok (.iconst 2, 1) := by decide +kernel
theorem dX7_init_78 : decode cX7_init 78 = .ok (.newarray .boolean, 2) := by decide +kernel
theorem dX7_init_80 : decode cX7_init 80 = .ok (.putfield 37, 3) := by decide +kernel
theorem dX7_init_83 : decode cX7_init 83 = .ok (.aload_n 0, 1) := by decide +kernel
theorem dX7_init_84 : decode cX7_init 84 = .ok (.bipush 6, 2) := by decide +kernel
theorem dX7_init_86 : decode cX7_init 86 = .ok (.newarray .int, 2) := by decide +kernel
theorem dX7_init_88 : decode cX7_init 88 = .ok (.putfield 41, 3) := by decide +kernel
theorem dX7_init_91 : decode cX7_init 91 = .ok (.aload_n 0, 1) := by decide +kernel
theorem dX7_init_92 : decode cX7_init 92 = .ok (.bipush 6, 2) := by decide +kernel
theorem dX7_init_94 : decode cX7_init 94 = .ok (.newarray .int, 2) := by decide +kernel
theorem dX7_init_96 : decode cX7_init 96 = .ok (.putfield 44, 3) := by decide +kernel
theorem dX7_init_99 : decode cX7_init 99 = .ok (.aload_n 0, 1) := by decide +kernel
theorem dX7_init_100 : decode cX7_init 100 = .ok (.bipush 6, 2) := by decide +kernel
theorem dX7_init_102 : decode cX7_init 102 = .ok (.newarray .int, 2) := by decide +kernel
theorem dX7_init_104 : decode cX7_init 104 = .ok (.putfield 47, 3) := by decide +kernel
theorem dX7_init_107 : decode cX7_init 107 = .ok (.aload_n 0, 1) := by decide +kernel
theorem dX7_init_108 : decode cX7_init 108 = .ok (.bipush 8, 2) := by decide +kernel
theorem dX7_init_110 : decode cX7_init 110 = .ok (.newarray .int, 2) := by decide +kernel
theorem dX7_init_112 : decode cX7_init 112 = .ok (.putfield 50, 3) := by decide +kernel
theorem dX7_init_115 : decode cX7_init 115 = .ok (.aload_n 0, 1) := by decide +kernel
theorem dX7_init_116 : decode cX7_init 116 = .ok (.bipush 32, 2) := by decide +kernel
theorem dX7_init_118 : decode cX7_init 118 = .ok (.newarray .int, 2) := by decide +kernel
theorem dX7_init_120 : decode cX7_init 120 = .ok (.putfield 53, 3) := by decide +kernel
theorem dX7_init_123 : decode cX7_init 123 = .ok (.return_, 1) := by decide +kernel
theorem dX7_in_0 : decode cX7_in 0 = .ok (.lload_n 0, 1) := by decide +kernel
theorem dX7_in_1 : decode cX7_in 1 = .ok (.lload_n 2, 1) := by decide +kernel
theorem dX7_in_2 : decode cX7_in 2 = .ok (.lcmp, 1) := by decide +kernel
theorem dX7_in_3 : decode cX7_in 3 = .ok (.ifCond .lt 14, 3) := by decide +kernel
theorem dX7_in_6 : decode cX7_in 6 = .ok (.lload_n 0, 1) := by decide +kernel
theorem dX7_in_7 : decode cX7_in 7 = .ok (.lload 4, 2) := by decide +kernel
theorem dX7_in_9 : decode cX7_in 9 = .ok (.lcmp, 1) := by decide +kernel
theorem dX7_in_10 : decode cX7_in 10 = .ok (.ifCond .gt 7, 3) := by decide +kernel
theorem dX7_in_13 : decode cX7_in 13 = .ok (.iconst 1, 1) := by decide +kernel
theorem dX7_in_14 : decode cX7_in 14 = .ok (.goto 4, 3) := by decide +kernel
theorem dX7_in_17 : decode cX7_in 17 = .ok (.iconst 0, 1) := by decide +kernel
theorem dX7_in_18 : decode cX7_in 18 = .ok (.ireturn, 1) := by decide +kernel
theorem dX7_has_0 : decode cX7_has 0 = .ok (.iload_n 0, 1) := by decide +kernel
theorem dX7_has_1 : decode cX7_has 1 = .ok (.iload_n 1, 1) := by decide +kernel
theorem dX7_has_2 : decode cX7_has 2 = .ok (.ishr, 1) := by decide +kernel
theorem dX7_has_3 : decode cX7_has 3 = .ok (.iconst 1, 1) := by decide +kernel
theorem dX7_has_4 : decode cX7_has 4 = .ok (.iand, 1) := by decide +kernel
theorem dX7_has_5 : decode cX7_has 5 = .ok (.iconst 1, 1) := by decide +kernel
theorem dX7_has_6 : decode cX7_has 6 = .ok (.if_icmp .ne 7, 3) := by decide +kernel
theorem dX7_has_9 : decode cX7_has 9 = .ok (.iconst 1, 1) := by decide +kernel
theorem dX7_has_10 : decode cX7_has 10 = .ok (.goto 4, 3) := by decide +kernel
theorem dX7_has_13 : decode cX7_has 13 = .ok (.iconst 0, 1) := by decide +kernel
theorem dX7_has_14 : decode cX7_has 14 = .ok (.ireturn, 1) := by decide +kernel
theorem dX7_many_0 : decode cX7_many 0 = .ok (.iconst 0, 1) := by decide +kernel
theorem dX7_many_1 : decode cX7_many 1 = .ok (.istore_n 1, 1) := by decide +kernel
theorem dX7_many_2 : decode cX7_many 2 = .ok (.iconst 0, 1) := by decide +kernel
theorem dX7_many_3 : decode cX7_many 3 = .ok (.istore_n 2, 1) := by decide +kernel
theorem dX7_many_4 : decode cX7_many 4 = .ok (.iload_n 2, 1) := by decide +kernel
theorem dX7_many_5 : decode cX7_many 5 = .ok (.bipush 6, 2) := by decide +kernel
theorem dX7_many_7 : decode cX7_many 7 = .ok (.if_icmp .ge 17, 3) := by decide +kernel
theorem dX7_many_10 : decode cX7_many 10 = .ok (.iload_n 1, 1) := by decide +kernel
theorem dX7_many_11 : decode cX7_many 11 = .ok (.iload_n 0, 1) := by decide +kernel
theorem dX7_many_12 : decode cX7_many 12 = .ok (.iload_n 2, 1) := by decide +kernel
theorem dX7_many_13 : decode cX7_many 13 = .ok (.ishr, 1) := by decide +kernel
theorem dX7_many_14 : decode cX7_many 14 = .ok (.iconst 1, 1) := by decide +kernel
theorem dX7_many_15 : decode cX7_many 15 = .ok (.iand, 1) := by decide +kernel
theorem dX7_many_16 : decode cX7_many 16 = .ok (.iadd, 1) := by decide +kernel
theorem dX7_many_17 : decode cX7_many 17 = .ok (.istore_n 1, 1) := by decide +kernel
theorem dX7_many_18 : decode cX7_many 18 = .ok (.iinc 2 1, 3) := by decide +kernel
theorem dX7_many_21 : decode cX7_many 21 = .ok (.goto (-17), 3) := by decide +kernel
theorem dX7_many_24 : decode cX7_many 24 = .ok (.iload_n 1, 1) := by decide +kernel
theorem dX7_many_25 : decode cX7_many 25 = .ok (.ireturn, 1) := by decide +kernel
theorem dX7_power_0 : decode cX7_power 0 = .ok (.iconst 1, 1) := by decide +kernel
theorem dX7_power_1 : decode cX7_power 1 = .ok (.istore_n 2, 1) := by decide +kernel
theorem dX7_power_2 : decode cX7_power 2 = .ok (.iconst 0, 1) := by decide +kernel
theorem dX7_power_3 : decode cX7_power 3 = .ok (.istore_n 3, 1) := by decide +kernel
theorem dX7_power_4 : decode cX7_power 4 = .ok (.iload_n 3, 1) := by decide +kernel
theorem dX7_power_5 : decode cX7_power 5 = .ok (.iload_n 1, 1) := by decide +kernel
theorem dX7_power_6 : decode cX7_power 6 = .ok (.if_icmp .ge 13, 3) := by decide +kernel
theorem dX7_power_9 : decode cX7_power 9 = .ok (.iload_n 2, 1) := by decide +kernel
theorem dX7_power_10 : decode cX7_power 10 = .ok (.iload_n 0, 1) := by decide +kernel
theorem dX7_power_11 : decode cX7_power 11 = .ok (.imul, 1) := by decide +kernel
theorem dX7_power_12 : decode cX7_power 12 = .ok (.istore_n 2, 1) := by decide +kernel
theorem dX7_power_13 : decode cX7_power 13 = .ok (.iinc 3 1, 3) := by decide +kernel
theorem dX7_power_16 : decode cX7_power 16 = .ok (.goto (-12), 3) := by decide +kernel
theorem dX7_power_19 : decode cX7_power 19 = .ok (.iload_n 2, 1) := by decide +kernel
theorem dX7_power_20 : decode cX7_power 20 = .ok (.ireturn, 1) := by decide +kernel
theorem dX7_noWalker_0 : decode cX7_noWalker 0 = .ok (.iload_n 1, 1) := by decide +kernel
theorem dX7_noWalker_1 : decode cX7_noWalker 1 = .ok (.i2l, 1) := by decide +kernel
theorem dX7_noWalker_2 : decode cX7_noWalker 2 = .ok (.lconst 0, 1) := by decide +kernel
theorem dX7_noWalker_3 : decode cX7_noWalker 3 = .ok (.aload_n 0, 1) := by decide +kernel
theorem dX7_noWalker_4 : decode cX7_noWalker 4 = .ok (.getfield 60, 3) := by decide +kernel
theorem dX7_noWalker_7 : decode cX7_noWalker 7 = .ok (.iconst 1, 1) := by decide +kernel
theorem dX7_noWalker_8 : decode cX7_noWalker 8 = .ok (.isub, 1) := by decide +kernel
theorem dX7_noWalker_9 : decode cX7_noWalker 9 = .ok (.i2l, 1) := by decide +kernel
theorem dX7_noWalker_10 : decode cX7_noWalker 10 = .ok (.invokestatic 63, 3) := by decide +kernel
theorem dX7_noWalker_13 : decode cX7_noWalker 13 = .ok (.ifCond .ne 7, 3) := by decide +kernel
theorem dX7_noWalker_16 : decode cX7_noWalker 16 = .ok (.iconst 1, 1) := by decide +kernel
theorem dX7_noWalker_17 : decode cX7_noWalker 17 = .ok (.goto 4, 3) := by decide +kernel
theorem dX7_noWalker_20 : decode cX7_noWalker 20 = .ok (.iconst 0, 1) := by decide +kernel
theorem dX7_noWalker_21 : decode cX7_noWalker 21 = .ok (.ireturn, 1) := by decide +kernel
theorem dX7_noStreet_0 : decode cX7_noStreet 0 = .ok (.iload_n 0, 1) := by decide +kernel
theorem dX7_noStreet_1 : decode cX7_noStreet 1 = .ok (.i2l, 1) := by decide +kernel
theorem dX7_noStreet_2 : decode cX7_noStreet 2 = .ok (.lconst 0, 1) := by decide +kernel
theorem dX7_noStreet_3 : decode cX7_noStreet 3 = .ok (.ldc2_w 67, 3) := by decide +kernel
theorem dX7_noStreet_6 : decode cX7_noStreet 6 = .ok (.invokestatic 63, 3) := by decide +kernel
theorem dX7_noStreet_9 : decode cX7_noStreet 9 = .ok (.ifCond .ne 7, 3) := by decide +kernel
theorem dX7_noStreet_12 : decode cX7_noStreet 12 = .ok (.iconst 1, 1) := by decide +kernel
theorem dX7_noStreet_13 : decode cX7_noStreet 13 = .ok (.goto 4, 3) := by decide +kernel
theorem dX7_noStreet_16 : decode cX7_noStreet 16 = .ok (.iconst 0, 1) := by decide +kernel
theorem dX7_noStreet_17 : decode cX7_noStreet 17 = .ok (.ireturn, 1) := by decide +kernel
theorem dX7_write_0 : decode cX7_write 0 = .ok (.aload_n 0, 1) := by decide +kernel
theorem dX7_write_1 : decode cX7_write 1 = .ok (.iconst 0, 1) := by decide +kernel
theorem dX7_write_2 : decode cX7_write 2 = .ok (.putfield 56, 3) := by decide +kernel
theorem dX7_write_5 : decode cX7_write 5 = .ok (.iload_n 1, 1) := by decide +kernel
theorem dX7_write_6 : decode cX7_write 6 = .ok (.i2l, 1) := by decide +kernel
theorem dX7_write_7 : decode cX7_write 7 = .ok (.lconst 0, 1) := by decide +kernel
theorem dX7_write_8 : decode cX7_write 8 = .ok (.ldc2_w 69, 3) := by decide +kernel
theorem dX7_write_11 : decode cX7_write 11 = .ok (.invokestatic 63, 3) := by decide +kernel
theorem dX7_write_14 : decode cX7_write 14 = .ok (.ifCond .ne 6, 3) := by decide +kernel
theorem dX7_write_17 : decode cX7_write 17 = .ok (.bipush (-2), 2) := by decide +kernel
theorem dX7_write_19 : decode cX7_write 19 = .ok (.ireturn, 1) := by decide +kernel
theorem dX7_write_20 : decode cX7_write 20 = .ok (.aload_n 0, 1) := by decide +kernel
theorem dX7_write_21 : decode cX7_write 21 = .ok (.getfield 71, 3) := by decide +kernel
theorem dX7_write_24 : decode cX7_write 24 = .ok (.bipush 48, 2) := by decide +kernel
theorem dX7_write_26 : decode cX7_write 26 = .ok (.if_icmp .ne 6, 3) := by decide +kernel
theorem dX7_write_29 : decode cX7_write 29 = .ok (.bipush (-4), 2) := by decide +kernel
theorem dX7_write_31 : decode cX7_write 31 = .ok (.ireturn, 1) := by decide +kernel
theorem dX7_write_32 : decode cX7_write 32 = .ok (.aload_n 0, 1) := by decide +kernel
theorem dX7_write_33 : decode cX7_write 33 = .ok (.getfield 7, 3) := by decide +kernel
theorem dX7_write_36 : decode cX7_write 36 = .ok (.aload_n 0, 1) := by decide +kernel
theorem dX7_write_37 : decode cX7_write 37 = .ok (.getfield 71, 3) := by decide +kernel
theorem dX7_write_40 : decode cX7_write 40 = .ok (.iload_n 1, 1) := by decide +kernel
theorem dX7_write_41 : decode cX7_write 41 = .ok (.iastore, 1) := by decide +kernel
theorem dX7_write_42 : decode cX7_write 42 = .ok (.aload_n 0, 1) := by decide +kernel
theorem dX7_write_43 : decode cX7_write 43 = .ok (.dup, 1) := by decide +kernel
theorem dX7_write_44 : decode cX7_write 44 = .ok (.getfield 71, 3) := by decide +kernel
theorem dX7_write_47 : decode cX7_write 47 = .ok (.iconst 1, 1) := by decide +kernel
theorem dX7_write_48 : decode cX7_write 48 = .ok (.iadd, 1) := by decide +kernel
theorem dX7_write_49 : decode cX7_write 49 = .ok (.putfield 71, 3) := by decide +kernel
theorem dX7_write_52 : decode cX7_write 52 = .ok (.aload_n 0, 1) := by decide +kernel
theorem dX7_write_53 : decode cX7_write 53 = .ok (.getfield 71, 3) := by decide +kernel
theorem dX7_write_56 : decode cX7_write 56 = .ok (.ireturn, 1) := by decide +kernel
theorem dX7_wipe_0 : decode cX7_wipe 0 = .ok (.aload_n 0, 1) := by decide +kernel
theorem dX7_wipe_1 : decode cX7_wipe 1 = .ok (.iconst 0, 1) := by decide +kernel
theorem dX7_wipe_2 : decode cX7_wipe 2 = .ok (.putfield 56, 3) := by decide +kernel
theorem dX7_wipe_5 : decode cX7_wipe 5 = .ok (.aload_n 0, 1) := by decide +kernel
theorem dX7_wipe_6 : decode cX7_wipe 6 = .ok (.getfield 71, 3) := by decide +kernel
theorem dX7_wipe_9 : decode cX7_wipe 9 = .ok (.istore_n 1, 1) := by decide +kernel
theorem dX7_wipe_10 : decode cX7_wipe 10 = .ok (.aload_n 0, 1) := by decide +kernel
theorem dX7_wipe_11 : decode cX7_wipe 11 = .ok (.iconst 0, 1) := by decide +kernel
theorem dX7_wipe_12 : decode cX7_wipe 12 = .ok (.putfield 71, 3) := by decide +kernel
theorem dX7_wipe_15 : decode cX7_wipe 15 = .ok (.iload_n 1, 1) := by decide +kernel
theorem dX7_wipe_16 : decode cX7_wipe 16 = .ok (.ireturn, 1) := by decide +kernel
theorem dX7_figure_0 : decode cX7_figure 0 = .ok (.aload_n 0, 1) := by decide +kernel
theorem dX7_figure_1 : decode cX7_figure 1 = .ok (.getfield 74, 3) := by decide +kernel
theorem dX7_figure_4 : decode cX7_figure 4 = .ok (.aload_n 0, 1) := by decide +kernel
theorem dX7_figure_5 : decode cX7_figure 5 = .ok (.getfield 71, 3) := by decide +kernel
theorem dX7_figure_8 : decode cX7_figure 8 = .ok (.if_icmp .eq 26, 3) := by decide +kernel
theorem dX7_figure_11 : decode cX7_figure 11 = .ok (.aload_n 0, 1) := by decide +kernel
theorem dX7_figure_12 : decode cX7_figure 12 = .ok (.getfield 7, 3) := by decide +kernel
theorem dX7_figure_15 : decode cX7_figure 15 = .ok (.aload_n 0, 1) := by decide +kernel
theorem dX7_figure_16 : decode cX7_figure 16 = .ok (.getfield 74, 3) := by decide +kernel
theorem dX7_figure_19 : decode cX7_figure 19 = .ok (.iaload, 1) := by decide +kernel
theorem dX7_figure_20 : decode cX7_figure 20 = .ok (.bipush 48, 2) := by decide +kernel
theorem dX7_figure_22 : decode cX7_figure 22 = .ok (.isub, 1) := by decide +kernel
theorem dX7_figure_23 : decode cX7_figure 23 = .ok (.i2l, 1) := by decide +kernel
theorem dX7_figure_24 : decode cX7_figure 24 = .ok (.iload_n 1, 1) := by decide +kernel
theorem dX7_figure_25 : decode cX7_figure 25 = .ok (.i2l, 1) := by decide +kernel
theorem dX7_figure_26 : decode cX7_figure 26 = .ok (.iload_n 2, 1) := by decide +kernel
theorem dX7_figure_27 : decode cX7_figure 27 = .ok (.i2l, 1) := by decide +kernel
theorem dX7_figure_28 : decode cX7_figure 28 = .ok (.invokestatic 63, 3) := by decide +kernel
theorem dX7_figure_31 : decode cX7_figure 31 = .ok (.ifCond .ne 6, 3) := by decide +kernel
theorem dX7_figure_34 : decode cX7_figure 34 = .ok (.bipush (-9), 2) := by decide +kernel
theorem dX7_figure_36 : decode cX7_figure 36 = .ok (.ireturn, 1) := by decide +kernel
theorem dX7_figure_37 : decode cX7_figure 37 = .ok (.aload_n 0, 1) := by decide +kernel
theorem dX7_figure_38 : decode cX7_figure 38 = .ok (.dup, 1) := by decide +kernel
theorem dX7_figure_39 : decode cX7_figure 39 = .ok (.getfield 74, 3) := by decide +kernel
theorem dX7_figure_42 : decode cX7_figure 42 = .ok (.iconst 1, 1) := by decide +kernel
theorem dX7_figure_43 : decode cX7_figure 43 = .ok (.iadd, 1) := by decide +kernel
theorem dX7_figure_44 : decode cX7_figure 44 = .ok (.putfield 74, 3) := by decide +kernel
theorem dX7_figure_47 : decode cX7_figure 47 = .ok (.aload_n 0, 1) := by decide +kernel
theorem dX7_figure_48 : decode cX7_figure 48 = .ok (.getfield 7, 3) := by decide +kernel
theorem dX7_figure_51 : decode cX7_figure 51 = .ok (.aload_n 0, 1) := by decide +kernel
theorem dX7_figure_52 : decode cX7_figure 52 = .ok (.getfield 74, 3) := by decide +kernel
theorem dX7_figure_55 : decode cX7_figure 55 = .ok (.iconst 1, 1) := by decide +kernel
theorem dX7_figure_56 : decode cX7_figure 56 = .ok (.isub, 1) := by decide +kernel
theorem dX7_figure_57 : decode cX7_figure 57 = .ok (.iaload, 1) := by decide +kernel
theorem dX7_figure_58 : decode cX7_figure 58 = .ok (.bipush 48, 2) := by decide +kernel
theorem dX7_figure_60 : decode cX7_figure 60 = .ok (.isub, 1) := by decide +kernel
theorem dX7_figure_61 : decode cX7_figure 61 = .ok (.ireturn, 1) := by decide +kernel
theorem dX7_readOneWalker_0 : decode cX7_readOneWalker 0 = .ok (.aload_n 0, 1) := by decide +kernel
theorem dX7_readOneWalker_1 : decode cX7_readOneWalker 1 = .ok (.iconst 0, 1) := by decide +kernel
theorem dX7_readOneWalker_2 : decode cX7_readOneWalker 2 = .ok (.iconst 5, 1) := by decide +kernel
theorem dX7_readOneWalker_3 : decode cX7_readOneWalker 3 = .ok (.invokevirtual 77, 3) := by decide +kernel
theorem dX7_readOneWalker_6 : decode cX7_readOneWalker 6 = .ok (.istore_n 1, 1) := by decide +kernel
theorem dX7_readOneWalker_7 : decode cX7_readOneWalker 7 = .ok (.iload_n 1, 1) := by decide +kernel
theorem dX7_readOneWalker_8 : decode cX7_readOneWalker 8 = .ok (.bipush (-9), 2) := by decide +kernel
theorem dX7_readOneWalker_10 : decode cX7_readOneWalker 10 = .ok (.if_icmp .ne 8, 3) := by decide +kernel
theorem dX7_readOneWalker_13 : decode cX7_readOneWalker 13 = .ok (.bipush (-9), 2) := by decide +kernel
theorem dX7_readOneWalker_15 : decode cX7_readOneWalker 15 = .ok (.goto 9, 3) := by decide +kernel
theorem dX7_readOneWalker_18 : decode cX7_readOneWalker 18 = .ok (.aload_n 0, 1) := by decide +kernel
theorem dX7_readOneWalker_19 : decode cX7_readOneWalker 19 = .ok (.iconst 0, 1) := by decide +kernel
theorem dX7_readOneWalker_20 : decode cX7_readOneWalker 20 = .ok (.iconst 3, 1) := by decide +kernel
theorem dX7_readOneWalker_21 : decode cX7_readOneWalker 21 = .ok (.invokevirtual 77, 3) := by decide +kernel
theorem dX7_readOneWalker_24 : decode cX7_readOneWalker 24 = .ok (.istore_n 2, 1) := by decide +kernel
theorem dX7_readOneWalker_25 : decode cX7_readOneWalker 25 = .ok (.iload_n 2, 1) := by decide +kernel
theorem dX7_readOneWalker_26 : decode cX7_readOneWalker 26 = .ok (.bipush (-9), 2) := by decide +kernel
theorem dX7_readOneWalker_28 : decode cX7_readOneWalker 28 = .ok (.if_icmp .ne 5, 3) := by decide +kernel
theorem dX7_readOneWalker_31 : decode cX7_readOneWalker 31 = .ok (.iconst 0, 1) := by decide +kernel
theorem dX7_readOneWalker_32 : decode cX7_readOneWalker 32 = .ok (.ireturn, 1) := by decide +kernel
theorem dX7_readOneWalker_33 : decode cX7_readOneWalker 33 = .ok (.aload_n 0, 1) := by decide +kernel
theorem dX7_readOneWalker_34 : decode cX7_readOneWalker 34 = .ok (.getfield 19, 3) := by decide +kernel
theorem dX7_readOneWalker_37 : decode cX7_readOneWalker 37 = .ok (.iconst 2, 1) := by decide +kernel
theorem dX7_readOneWalker_38 : decode cX7_readOneWalker 38 = .ok (.aload_n 0, 1) := by decide +kernel
theorem dX7_readOneWalker_39 : decode cX7_readOneWalker 39 = .ok (.getfield 81, 3) := by decide +kernel
theorem dX7_readOneWalker_42 : decode cX7_readOneWalker 42 = .ok (.imul, 1) := by decide +kernel
theorem dX7_readOneWalker_43 : decode cX7_readOneWalker 43 = .ok (.iload_n 1, 1) := by decide +kernel
theorem dX7_readOneWalker_44 : decode cX7_readOneWalker 44 = .ok (.iastore, 1) := by decide +kernel
theorem dX7_readOneWalker_45 : decode cX7_readOneWalker 45 = .ok (.aload_n 0, 1) := by decide +kernel
theorem dX7_readOneWalker_46 : decode cX7_readOneWalker 46 = .ok (.getfield 19, 3) := by decide +kernel
theorem dX7_readOneWalker_49 : decode cX7_readOneWalker 49 = .ok (.iconst 2, 1) := by decide +kernel
theorem dX7_readOneWalker_50 : decode cX7_readOneWalker 50 = .ok (.aload_n 0, 1) := by decide +kernel
theorem dX7_readOneWalker_51 : decode cX7_readOneWalker 51 = .ok (.getfield 81, 3) := by decide +kernel
theorem dX7_readOneWalker_54 : decode cX7_readOneWalker 54 = .ok (.imul, 1) := by decide +kernel
theorem dX7_readOneWalker_55 : decode cX7_readOneWalker 55 = .ok (.iconst 1, 1) := by decide +kernel
theorem dX7_readOneWalker_56 : decode cX7_readOneWalker 56 = .ok (.iadd, 1) := by decide +kernel
theorem dX7_readOneWalker_57 : decode cX7_readOneWalker 57 = .ok (.iload_n 2, 1) := by decide +kernel
theorem dX7_readOneWalker_58 : decode cX7_readOneWalker 58 = .ok (.iastore, 1) := by decide +kernel
theorem dX7_readOneWalker_59 : decode cX7_readOneWalker 59 = .ok (.aload_n 0, 1) := by decide +kernel
theorem dX7_readOneWalker_60 : decode cX7_readOneWalker 60 = .ok (.dup, 1) := by decide +kernel
theorem dX7_readOneWalker_61 : decode cX7_readOneWalker 61 = .ok (.getfield 81, 3) := by decide +kernel
theorem dX7_readOneWalker_64 : decode cX7_readOneWalker 64 = .ok (.iconst 1, 1) := by decide +kernel
theorem dX7_readOneWalker_65 : decode cX7_readOneWalker 65 = .ok (.iadd, 1) := by decide +kernel
theorem dX7_readOneWalker_66 : decode cX7_readOneWalker 66 = .ok (.putfield 81, 3) := by decide +kernel
theorem dX7_readOneWalker_69 : decode cX7_readOneWalker 69 = .ok (.iconst 1, 1) := by decide +kernel
theorem dX7_readOneWalker_70 : decode cX7_readOneWalker 70 = .ok (.ireturn, 1) := by decide +kernel
theorem dX7_readOneNeed_0 : decode cX7_readOneNeed 0 = .ok (.aload_n 0, 1) := by decide +kernel
theorem dX7_readOneNeed_1 : decode cX7_readOneNeed 1 = .ok (.iconst 0, 1) := by decide +kernel
theorem dX7_readOneNeed_2 : decode cX7_readOneNeed 2 = .ok (.iconst 5, 1) := by decide +kernel
theorem dX7_readOneNeed_3 : decode cX7_readOneNeed 3 = .ok (.invokevirtual 77, 3) := by decide +kernel
theorem dX7_readOneNeed_6 : decode cX7_readOneNeed 6 = .ok (.istore_n 1, 1) := by decide +kernel
theorem dX7_readOneNeed_7 : decode cX7_readOneNeed 7 = .ok (.iload_n 1, 1) := by decide +kernel
theorem dX7_readOneNeed_8 : decode cX7_readOneNeed 8 = .ok (.bipush (-9), 2) := by decide +kernel
theorem dX7_readOneNeed_10 : decode cX7_readOneNeed 10 = .ok (.if_icmp .ne 8, 3) := by decide +kernel
theorem dX7_readOneNeed_13 : decode cX7_readOneNeed 13 = .ok (.bipush (-9), 2) := by decide +kernel
theorem dX7_readOneNeed_15 : decode cX7_readOneNeed 15 = .ok (.goto 9, 3) := by decide +kernel
theorem dX7_readOneNeed_18 : decode cX7_readOneNeed 18 = .ok (.aload_n 0, 1) := by decide +kernel
theorem dX7_readOneNeed_19 : decode cX7_readOneNeed 19 = .ok (.iconst 0, 1) := by decide +kernel
theorem dX7_readOneNeed_20 : decode cX7_readOneNeed 20 = .ok (.iconst 2, 1) := by decide +kernel
theorem dX7_readOneNeed_21 : decode cX7_readOneNeed 21 = .ok (.invokevirtual 77, 3) := by decide +kernel
theorem dX7_readOneNeed_24 : decode cX7_readOneNeed 24 = .ok (.istore_n 2, 1) := by decide +kernel
theorem dX7_readOneNeed_25 : decode cX7_readOneNeed 25 = .ok (.iload_n 2, 1) := by decide +kernel
theorem dX7_readOneNeed_26 : decode cX7_readOneNeed 26 = .ok (.bipush (-9), 2) := by decide +kernel
theorem dX7_readOneNeed_28 : decode cX7_readOneNeed 28 = .ok (.if_icmp .ne 8, 3) := by decide +kernel
theorem dX7_readOneNeed_31 : decode cX7_readOneNeed 31 = .ok (.bipush (-9), 2) := by decide +kernel
theorem dX7_readOneNeed_33 : decode cX7_readOneNeed 33 = .ok (.goto 19, 3) := by decide +kernel
theorem dX7_readOneNeed_36 : decode cX7_readOneNeed 36 = .ok (.aload_n 0, 1) := by decide +kernel
theorem dX7_readOneNeed_37 : decode cX7_readOneNeed 37 = .ok (.iload_n 2, 1) := by decide +kernel
theorem dX7_readOneNeed_38 : decode cX7_readOneNeed 38 = .ok (.iconst 1, 1) := by decide +kernel
theorem dX7_readOneNeed_39 : decode cX7_readOneNeed 39 = .ok (.if_icmp .ne 7, 3) := by decide +kernel
theorem dX7_readOneNeed_42 : decode cX7_readOneNeed 42 = .ok (.iconst 1, 1) := by decide +kernel
theorem dX7_readOneNeed_43 : decode cX7_readOneNeed 43 = .ok (.goto 4, 3) := by decide +kernel
theorem dX7_readOneNeed_46 : decode cX7_readOneNeed 46 = .ok (.iconst 0, 1) := by decide +kernel
theorem dX7_readOneNeed_47 : decode cX7_readOneNeed 47 = .ok (.bipush 9, 2) := by decide +kernel
theorem dX7_readOneNeed_49 : decode cX7_readOneNeed 49 = .ok (.invokevirtual 77, 3) := by decide +kernel
theorem dX7_readOneNeed_52 : decode cX7_readOneNeed 52 = .ok (.istore_n 3, 1) := by decide +kernel
theorem dX7_readOneNeed_53 : decode cX7_readOneNeed 53 = .ok (.iload_n 3, 1) := by decide +kernel
theorem dX7_readOneNeed_54 : decode cX7_readOneNeed 54 = .ok (.bipush (-9), 2) := by decide +kernel
theorem dX7_readOneNeed_56 : decode cX7_readOneNeed 56 = .ok (.if_icmp .ne 5, 3) := by decide +kernel
theorem dX7_readOneNeed_59 : decode cX7_readOneNeed 59 = .ok (.iconst 0, 1) := by decide +kernel
theorem dX7_readOneNeed_60 : decode cX7_readOneNeed 60 = .ok (.ireturn, 1) := by decide +kernel
theorem dX7_readOneNeed_61 : decode cX7_readOneNeed 61 = .ok (.aload_n 0, 1) := by decide +kernel
theorem dX7_readOneNeed_62 : decode cX7_readOneNeed 62 = .ok (.getfield 22, 3) := by decide +kernel
theorem dX7_readOneNeed_65 : decode cX7_readOneNeed 65 = .ok (.iconst 3, 1) := by decide +kernel
theorem dX7_readOneNeed_66 : decode cX7_readOneNeed 66 = .ok (.aload_n 0, 1) := by decide +kernel
theorem dX7_readOneNeed_67 : decode cX7_readOneNeed 67 = .ok (.getfield 84, 3) := by decide +kernel
theorem dX7_readOneNeed_70 : decode cX7_readOneNeed 70 = .ok (.imul, 1) := by decide +kernel
theorem dX7_readOneNeed_71 : decode cX7_readOneNeed 71 = .ok (.iload_n 1, 1) := by decide +kernel
theorem dX7_readOneNeed_72 : decode cX7_readOneNeed 72 = .ok (.iastore, 1) := by decide +kernel
theorem dX7_readOneNeed_73 : decode cX7_readOneNeed 73 = .ok (.aload_n 0, 1) := by decide +kernel
theorem dX7_readOneNeed_74 : decode cX7_readOneNeed 74 = .ok (.getfield 22, 3) := by decide +kernel
theorem dX7_readOneNeed_77 : decode cX7_readOneNeed 77 = .ok (.iconst 3, 1) := by decide +kernel
theorem dX7_readOneNeed_78 : decode cX7_readOneNeed 78 = .ok (.aload_n 0, 1) := by decide +kernel
theorem dX7_readOneNeed_79 : decode cX7_readOneNeed 79 = .ok (.getfield 84, 3) := by decide +kernel
theorem dX7_readOneNeed_82 : decode cX7_readOneNeed 82 = .ok (.imul, 1) := by decide +kernel
theorem dX7_readOneNeed_83 : decode cX7_readOneNeed 83 = .ok (.iconst 1, 1) := by decide +kernel
theorem dX7_readOneNeed_84 : decode cX7_readOneNeed 84 = .ok (.iadd, 1) := by decide +kernel
theorem dX7_readOneNeed_85 : decode cX7_readOneNeed 85 = .ok (.iload_n 2, 1) := by decide +kernel
theorem dX7_readOneNeed_86 : decode cX7_readOneNeed 86 = .ok (.iastore, 1) := by decide +kernel
theorem dX7_readOneNeed_87 : decode cX7_readOneNeed 87 = .ok (.aload_n 0, 1) := by decide +kernel
theorem dX7_readOneNeed_88 : decode cX7_readOneNeed 88 = .ok (.getfield 22, 3) := by decide +kernel
theorem dX7_readOneNeed_91 : decode cX7_readOneNeed 91 = .ok (.iconst 3, 1) := by decide +kernel
theorem dX7_readOneNeed_92 : decode cX7_readOneNeed 92 = .ok (.aload_n 0, 1) := by decide +kernel
theorem dX7_readOneNeed_93 : decode cX7_readOneNeed 93 = .ok (.getfield 84, 3) := by decide +kernel
theorem dX7_readOneNeed_96 : decode cX7_readOneNeed 96 = .ok (.imul, 1) := by decide +kernel
theorem dX7_readOneNeed_97 : decode cX7_readOneNeed 97 = .ok (.iconst 2, 1) := by decide +kernel
theorem dX7_readOneNeed_98 : decode cX7_readOneNeed 98 = .ok (.iadd, 1) := by decide +kernel
theorem dX7_readOneNeed_99 : decode cX7_readOneNeed 99 = .ok (.iload_n 3, 1) := by decide +kernel
theorem dX7_readOneNeed_100 : decode cX7_readOneNeed 100 = .ok (.iastore, 1) := by decide +kernel
theorem dX7_readOneNeed_101 : decode cX7_readOneNeed 101 = .ok (.aload_n 0, 1) := by decide +kernel
theorem dX7_readOneNeed_102 : decode cX7_readOneNeed 102 = .ok (.dup, 1) := by decide +kernel
theorem dX7_readOneNeed_103 : decode cX7_readOneNeed 103 = .ok (.getfield 84, 3) := by decide +kernel
theorem dX7_readOneNeed_106 : decode cX7_readOneNeed 106 = .ok (.iconst 1, 1) := by decide +kernel
theorem dX7_readOneNeed_107 : decode cX7_readOneNeed 107 = .ok (.iadd, 1) := by decide +kernel
theorem dX7_readOneNeed_108 : decode cX7_readOneNeed 108 = .ok (.putfield 84, 3) := by decide +kernel
theorem dX7_readOneNeed_111 : decode cX7_readOneNeed 111 = .ok (.iconst 1, 1) := by decide +kernel
theorem dX7_readOneNeed_112 : decode cX7_readOneNeed 112 = .ok (.ireturn, 1) := by decide +kernel
theorem dX7_readThing_0 : decode cX7_readThing 0 = .ok (.aload_n 0, 1) := by decide +kernel
theorem dX7_readThing_1 : decode cX7_readThing 1 = .ok (.getfield 7, 3) := by decide +kernel
theorem dX7_readThing_4 : decode cX7_readThing 4 = .ok (.aload_n 0, 1) := by decide +kernel
theorem dX7_readThing_5 : decode cX7_readThing 5 = .ok (.getfield 74, 3) := by decide +kernel
theorem dX7_readThing_8 : decode cX7_readThing 8 = .ok (.iaload, 1) := by decide +kernel
theorem dX7_readThing_9 : decode cX7_readThing 9 = .ok (.istore_n 1, 1) := by decide +kernel
theorem dX7_readThing_10 : decode cX7_readThing 10 = .ok (.aload_n 0, 1) := by decide +kernel
theorem dX7_readThing_11 : decode cX7_readThing 11 = .ok (.dup, 1) := by decide +kernel
theorem dX7_readThing_12 : decode cX7_readThing 12 = .ok (.getfield 74, 3) := by decide +kernel
theorem dX7_readThing_15 : decode cX7_readThing 15 = .ok (.iconst 1, 1) := by decide +kernel
theorem dX7_readThing_16 : decode cX7_readThing 16 = .ok (.iadd, 1) := by decide +kernel
theorem dX7_readThing_17 : decode cX7_readThing 17 = .ok (.putfield 74, 3) := by decide +kernel
theorem dX7_readThing_20 : decode cX7_readThing 20 = .ok (.iload_n 1, 1) := by decide +kernel
theorem dX7_readThing_21 : decode cX7_readThing 21 = .ok (.bipush 87, 2) := by decide +kernel
theorem dX7_readThing_23 : decode cX7_readThing 23 = .ok (.if_icmp .ne 16, 3) := by decide +kernel
theorem dX7_readThing_26 : decode cX7_readThing 26 = .ok (.aload_n 0, 1) := by decide +kernel
theorem dX7_readThing_27 : decode cX7_readThing 27 = .ok (.getfield 81, 3) := by decide +kernel
theorem dX7_readThing_30 : decode cX7_readThing 30 = .ok (.iconst 5, 1) := by decide +kernel
theorem dX7_readThing_31 : decode cX7_readThing 31 = .ok (.if_icmp .ge 8, 3) := by decide +kernel
theorem dX7_readThing_34 : decode cX7_readThing 34 = .ok (.aload_n 0, 1) := by decide +kernel
theorem dX7_readThing_35 : decode cX7_readThing 35 = .ok (.invokevirtual 87, 3) := by decide +kernel
theorem dX7_readThing_38 : decode cX7_readThing 38 = .ok (.ireturn, 1) := by decide +kernel
theorem dX7_readThing_39 : decode cX7_readThing 39 = .ok (.iload_n 1, 1) := by decide +kernel
theorem dX7_readThing_40 : decode cX7_readThing 40 = .ok (.bipush 78, 2) := by decide +kernel
theorem dX7_readThing_42 : decode cX7_readThing 42 = .ok (.if_icmp .ne 16, 3) := by decide +kernel
theorem dX7_readThing_45 : decode cX7_readThing 45 = .ok (.aload_n 0, 1) := by decide +kernel
theorem dX7_readThing_46 : decode cX7_readThing 46 = .ok (.getfield 84, 3) := by decide +kernel
theorem dX7_readThing_49 : decode cX7_readThing 49 = .ok (.iconst 5, 1) := by decide +kernel
theorem dX7_readThing_50 : decode cX7_readThing 50 = .ok (.if_icmp .ge 8, 3) := by decide +kernel
theorem dX7_readThing_53 : decode cX7_readThing 53 = .ok (.aload_n 0, 1) := by decide +kernel
theorem dX7_readThing_54 : decode cX7_readThing 54 = .ok (.invokevirtual 91, 3) := by decide +kernel
theorem dX7_readThing_57 : decode cX7_readThing 57 = .ok (.ireturn, 1) := by decide +kernel
theorem dX7_readThing_58 : decode cX7_readThing 58 = .ok (.aload_n 0, 1) := by decide +kernel
theorem dX7_readThing_59 : decode cX7_readThing 59 = .ok (.dup, 1) := by decide +kernel
theorem dX7_readThing_60 : decode cX7_readThing 60 = .ok (.getfield 74, 3) := by decide +kernel
theorem dX7_readThing_63 : decode cX7_readThing 63 = .ok (.iconst 1, 1) := by decide +kernel
theorem dX7_readThing_64 : decode cX7_readThing 64 = .ok (.isub, 1) := by decide +kernel
theorem dX7_readThing_65 : decode cX7_readThing 65 = .ok (.putfield 74, 3) := by decide +kernel
theorem dX7_readThing_68 : decode cX7_readThing 68 = .ok (.iconst 0, 1) := by decide +kernel
theorem dX7_readThing_69 : decode cX7_readThing 69 = .ok (.ireturn, 1) := by decide +kernel
theorem dX7_readTown_0 : decode cX7_readTown 0 = .ok (.aload_n 0, 1) := by decide +kernel
theorem dX7_readTown_1 : decode cX7_readTown 1 = .ok (.iconst 0, 1) := by decide +kernel
theorem dX7_readTown_2 : decode cX7_readTown 2 = .ok (.putfield 74, 3) := by decide +kernel
theorem dX7_readTown_5 : decode cX7_readTown 5 = .ok (.aload_n 0, 1) := by decide +kernel
theorem dX7_readTown_6 : decode cX7_readTown 6 = .ok (.iconst 0, 1) := by decide +kernel
theorem dX7_readTown_7 : decode cX7_readTown 7 = .ok (.putfield 81, 3) := by decide +kernel
theorem dX7_readTown_10 : decode cX7_readTown 10 = .ok (.aload_n 0, 1) := by decide +kernel
theorem dX7_readTown_11 : decode cX7_readTown 11 = .ok (.iconst 0, 1) := by decide +kernel
theorem dX7_readTown_12 : decode cX7_readTown 12 = .ok (.putfield 84, 3) := by decide +kernel
theorem dX7_readTown_15 : decode cX7_readTown 15 = .ok (.aload_n 0, 1) := by decide +kernel
theorem dX7_readTown_16 : decode cX7_readTown 16 = .ok (.getfield 71, 3) := by decide +kernel
theorem dX7_readTown_19 : decode cX7_readTown 19 = .ok (.ifCond .eq 14, 3) := by decide +kernel
theorem dX7_readTown_22 : decode cX7_readTown 22 = .ok (.aload_n 0, 1) := by decide +kernel
theorem dX7_readTown_23 : decode cX7_readTown 23 = .ok (.getfield 7, 3) := by decide +kernel
theorem dX7_readTown_26 : decode cX7_readTown 26 = .ok (.iconst 0, 1) := by decide +kernel
theorem dX7_readTown_27 : decode cX7_readTown 27 = .ok (.iaload, 1) := by decide +kernel
theorem dX7_readTown_28 : decode cX7_readTown 28 = .ok (.bipush 85, 2) := by decide +kernel
theorem dX7_readTown_30 : decode cX7_readTown 30 = .ok (.if_icmp .eq 5, 3) := by decide +kernel
theorem dX7_readTown_33 : decode cX7_readTown 33 = .ok (.iconst 0, 1) := by decide +kernel
theorem dX7_readTown_34 : decode cX7_readTown 34 = .ok (.ireturn, 1) := by decide +kernel
theorem dX7_readTown_35 : decode cX7_readTown 35 = .ok (.aload_n 0, 1) := by decide +kernel
theorem dX7_readTown_36 : decode cX7_readTown 36 = .ok (.iconst 1, 1) := by decide +kernel
theorem dX7_readTown_37 : decode cX7_readTown 37 = .ok (.putfield 74, 3) := by decide +kernel
theorem dX7_readTown_40 : decode cX7_readTown 40 = .ok (.aload_n 0, 1) := by decide +kernel
theorem dX7_readTown_41 : decode cX7_readTown 41 = .ok (.getfield 74, 3) := by decide +kernel
theorem dX7_readTown_44 : decode cX7_readTown 44 = .ok (.aload_n 0, 1) := by decide +kernel
theorem dX7_readTown_45 : decode cX7_readTown 45 = .ok (.getfield 71, 3) := by decide +kernel
theorem dX7_readTown_48 : decode cX7_readTown 48 = .ok (.if_icmp .ge 15, 3) := by decide +kernel
theorem dX7_readTown_51 : decode cX7_readTown 51 = .ok (.aload_n 0, 1) := by decide +kernel
theorem dX7_readTown_52 : decode cX7_readTown 52 = .ok (.invokevirtual 94, 3) := by decide +kernel
theorem dX7_readTown_55 : decode cX7_readTown 55 = .ok (.ifCond .ne (-15), 3) := by decide +kernel
theorem dX7_readTown_58 : decode cX7_readTown 58 = .ok (.aload_n 0, 1) := by decide +kernel
theorem dX7_readTown_59 : decode cX7_readTown 59 = .ok (.getfield 74, 3) := by decide +kernel
theorem dX7_readTown_62 : decode cX7_readTown 62 = .ok (.ireturn, 1) := by decide +kernel
theorem dX7_readTown_63 : decode cX7_readTown 63 = .ok (.bipush (-9), 2) := by decide +kernel
theorem dX7_readTown_65 : decode cX7_readTown 65 = .ok (.ireturn, 1) := by decide +kernel
theorem dX7_fault_0 : decode cX7_fault 0 = .ok (.aload_n 0, 1) := by decide +kernel
theorem dX7_fault_1 : decode cX7_fault 1 = .ok (.iconst 0, 1) := by decide +kernel
theorem dX7_fault_2 : decode cX7_fault 2 = .ok (.putfield 56, 3) := by decide +kernel
theorem dX7_fault_5 : decode cX7_fault 5 = .ok (.aload_n 0, 1) := by decide +kernel
theorem dX7_fault_6 : decode cX7_fault 6 = .ok (.invokevirtual 97, 3) := by decide +kernel
theorem dX7_fault_9 : decode cX7_fault 9 = .ok (.ireturn, 1) := by decide +kernel
theorem dX7_town_0 : decode cX7_town 0 = .ok (.aload_n 0, 1) := by decide +kernel
theorem dX7_town_1 : decode cX7_town 1 = .ok (.iconst 0, 1) := by decide +kernel
theorem dX7_town_2 : decode cX7_town 2 = .ok (.putfield 56, 3) := by decide +kernel
theorem dX7_town_5 : decode cX7_town 5 = .ok (.aload_n 0, 1) := by decide +kernel
theorem dX7_town_6 : decode cX7_town 6 = .ok (.invokevirtual 97, 3) := by decide +kernel
theorem dX7_town_9 : decode cX7_town 9 = .ok (.bipush (-9), 2) := by decide +kernel
theorem dX7_town_11 : decode cX7_town 11 = .ok (.if_icmp .eq 6, 3) := by decide +kernel
theorem dX7_town_14 : decode cX7_town 14 = .ok (.bipush (-3), 2) := by decide +kernel
theorem dX7_town_16 : decode cX7_town 16 = .ok (.ireturn, 1) := by decide +kernel
theorem dX7_town_17 : decode cX7_town 17 = .ok (.aload_n 0, 1) := by decide +kernel
theorem dX7_town_18 : decode cX7_town 18 = .ok (.aload_n 0, 1) := by decide +kernel
theorem dX7_town_19 : decode cX7_town 19 = .ok (.getfield 81, 3) := by decide +kernel
theorem dX7_town_22 : decode cX7_town 22 = .ok (.putfield 60, 3) := by decide +kernel
theorem dX7_town_25 : decode cX7_town 25 = .ok (.aload_n 0, 1) := by decide +kernel
theorem dX7_town_26 : decode cX7_town 26 = .ok (.aload_n 0, 1) := by decide +kernel
theorem dX7_town_27 : decode cX7_town 27 = .ok (.getfield 84, 3) := by decide +kernel
theorem dX7_town_30 : decode cX7_town 30 = .ok (.putfield 101, 3) := by decide +kernel
theorem dX7_town_33 : decode cX7_town 33 = .ok (.iconst 0, 1) := by decide +kernel
theorem dX7_town_34 : decode cX7_town 34 = .ok (.istore_n 1, 1) := by decide +kernel
theorem dX7_town_35 : decode cX7_town 35 = .ok (.iload_n 1, 1) := by decide +kernel
theorem dX7_town_36 : decode cX7_town 36 = .ok (.bipush 24, 2) := by decide +kernel
theorem dX7_town_38 : decode cX7_town 38 = .ok (.if_icmp .ge 16, 3) := by decide +kernel
theorem dX7_town_41 : decode cX7_town 41 = .ok (.aload_n 0, 1) := by decide +kernel
theorem dX7_town_42 : decode cX7_town 42 = .ok (.getfield 25, 3) := by decide +kernel
theorem dX7_town_45 : decode cX7_town 45 = .ok (.iload_n 1, 1) := by decide +kernel
theorem dX7_town_46 : decode cX7_town 46 = .ok (.iconst 0, 1) := by decide +kernel
theorem dX7_town_47 : decode cX7_town 47 = .ok (.iastore, 1) := by decide +kernel
theorem dX7_town_48 : decode cX7_town 48 = .ok (.iinc 1 1, 3) := by decide +kernel
theorem dX7_town_51 : decode cX7_town 51 = .ok (.goto (-16), 3) := by decide +kernel
theorem dX7_town_54 : decode cX7_town 54 = .ok (.iconst 0, 1) := by decide +kernel
theorem dX7_town_55 : decode cX7_town 55 = .ok (.istore_n 1, 1) := by decide +kernel
theorem dX7_town_56 : decode cX7_town 56 = .ok (.iload_n 1, 1) := by decide +kernel
theorem dX7_town_57 : decode cX7_town 57 = .ok (.aload_n 0, 1) := by decide +kernel
theorem dX7_town_58 : decode cX7_town 58 = .ok (.getfield 60, 3) := by decide +kernel
theorem dX7_town_61 : decode cX7_town 61 = .ok (.if_icmp .ge 39, 3) := by decide +kernel
theorem dX7_town_64 : decode cX7_town 64 = .ok (.aload_n 0, 1) := by decide +kernel
theorem dX7_town_65 : decode cX7_town 65 = .ok (.getfield 25, 3) := by decide +kernel
theorem dX7_town_68 : decode cX7_town 68 = .ok (.iload_n 1, 1) := by decide +kernel
theorem dX7_town_69 : decode cX7_town 69 = .ok (.aload_n 0, 1) := by decide +kernel
theorem dX7_town_70 : decode cX7_town 70 = .ok (.getfield 19, 3) := by decide +kernel
theorem dX7_town_73 : decode cX7_town 73 = .ok (.iconst 2, 1) := by decide +kernel
