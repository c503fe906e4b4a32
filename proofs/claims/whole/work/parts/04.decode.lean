theorem dX8_needs_0 : decode cX8_needs 0 = .ok (.aload_n 0, 1) := by decide +kernel
theorem dX8_needs_1 : decode cX8_needs 1 = .ok (.iload_n 1, 1) := by decide +kernel
theorem dX8_needs_2 : decode cX8_needs 2 = .ok (.iload_n 2, 1) := by decide +kernel
theorem dX8_needs_3 : decode cX8_needs 3 = .ok (.invokevirtual 129, 3) := by decide +kernel
theorem dX8_needs_6 : decode cX8_needs 6 = .ok (.ifCond .eq 15, 3) := by decide +kernel
theorem dX8_needs_9 : decode cX8_needs 9 = .ok (.aload_n 0, 1) := by decide +kernel
theorem dX8_needs_10 : decode cX8_needs 10 = .ok (.getfield 21, 3) := by decide +kernel
theorem dX8_needs_13 : decode cX8_needs 13 = .ok (.iload_n 1, 1) := by decide +kernel
theorem dX8_needs_14 : decode cX8_needs 14 = .ok (.iload_n 2, 1) := by decide +kernel
theorem dX8_needs_15 : decode cX8_needs 15 = .ok (.invokevirtual 176, 3) := by decide +kernel
theorem dX8_needs_18 : decode cX8_needs 18 = .ok (.goto 5, 3) := by decide +kernel
theorem dX8_needs_21 : decode cX8_needs 21 = .ok (.ldc 81, 2) := by decide +kernel
theorem dX8_needs_23 : decode cX8_needs 23 = .ok (.ireturn, 1) := by decide +kernel
theorem dX8_behind_0 : decode cX8_behind 0 = .ok (.iload_n 1, 1) := by decide +kernel
theorem dX8_behind_1 : decode cX8_behind 1 = .ok (.ifCond .lt 31, 3) := by decide +kernel
theorem dX8_behind_4 : decode cX8_behind 4 = .ok (.iload_n 1, 1) := by decide +kernel
theorem dX8_behind_5 : decode cX8_behind 5 = .ok (.bipush 100, 2) := by decide +kernel
theorem dX8_behind_7 : decode cX8_behind 7 = .ok (.if_icmp .gt 25, 3) := by decide +kernel
theorem dX8_behind_10 : decode cX8_behind 10 = .ok (.iload_n 2, 1) := by decide +kernel
theorem dX8_behind_11 : decode cX8_behind 11 = .ok (.ifCond .lt 21, 3) := by decide +kernel
theorem dX8_behind_14 : decode cX8_behind 14 = .ok (.iload_n 2, 1) := by decide +kernel
theorem dX8_behind_15 : decode cX8_behind 15 = .ok (.iconst 4, 1) := by decide +kernel
theorem dX8_behind_16 : decode cX8_behind 16 = .ok (.if_icmp .lt 19, 3) := by decide +kernel
theorem dX8_behind_19 : decode cX8_behind 19 = .ok (.aload_n 0, 1) := by decide +kernel
theorem dX8_behind_20 : decode cX8_behind 20 = .ok (.getfield 21, 3) := by decide +kernel
theorem dX8_behind_23 : decode cX8_behind 23 = .ok (.iload_n 2, 1) := by decide +kernel
theorem dX8_behind_24 : decode cX8_behind 24 = .ok (.iconst 4, 1) := by decide +kernel
theorem dX8_behind_25 : decode cX8_behind 25 = .ok (.isub, 1) := by decide +kernel
theorem dX8_behind_26 : decode cX8_behind 26 = .ok (.invokevirtual 95, 3) := by decide +kernel
theorem dX8_behind_29 : decode cX8_behind 29 = .ok (.ifCond .ne 6, 3) := by decide +kernel
theorem dX8_behind_32 : decode cX8_behind 32 = .ok (.ldc 81, 2) := by decide +kernel
theorem dX8_behind_34 : decode cX8_behind 34 = .ok (.ireturn, 1) := by decide +kernel
theorem dX8_behind_35 : decode cX8_behind 35 = .ok (.aload_n 0, 1) := by decide +kernel
theorem dX8_behind_36 : decode cX8_behind 36 = .ok (.getfield 28, 3) := by decide +kernel
theorem dX8_behind_39 : decode cX8_behind 39 = .ok (.aload_n 0, 1) := by decide +kernel
theorem dX8_behind_40 : decode cX8_behind 40 = .ok (.getfield 21, 3) := by decide +kernel
theorem dX8_behind_43 : decode cX8_behind 43 = .ok (.invokevirtual 179, 3) := by decide +kernel
theorem dX8_behind_46 : decode cX8_behind 46 = .ok (.aload_n 0, 1) := by decide +kernel
theorem dX8_behind_47 : decode cX8_behind 47 = .ok (.getfield 28, 3) := by decide +kernel
theorem dX8_behind_50 : decode cX8_behind 50 = .ok (.iload_n 1, 1) := by decide +kernel
theorem dX8_behind_51 : decode cX8_behind 51 = .ok (.invokevirtual 183, 3) := by decide +kernel
theorem dX8_behind_54 : decode cX8_behind 54 = .ok (.iload_n 2, 1) := by decide +kernel
theorem dX8_behind_55 : decode cX8_behind 55 = .ok (.tableswitch 61 0 3 #[29, 37, 45, 53], 29) := by decide +kernel
theorem dX8_behind_84 : decode cX8_behind 84 = .ok (.aload_n 0, 1) := by decide +kernel
theorem dX8_behind_85 : decode cX8_behind 85 = .ok (.getfield 28, 3) := by decide +kernel
theorem dX8_behind_88 : decode cX8_behind 88 = .ok (.getfield 155, 3) := by decide +kernel
theorem dX8_behind_91 : decode cX8_behind 91 = .ok (.ireturn, 1) := by decide +kernel
theorem dX8_behind_92 : decode cX8_behind 92 = .ok (.aload_n 0, 1) := by decide +kernel
theorem dX8_behind_93 : decode cX8_behind 93 = .ok (.getfield 28, 3) := by decide +kernel
theorem dX8_behind_96 : decode cX8_behind 96 = .ok (.getfield 146, 3) := by decide +kernel
theorem dX8_behind_99 : decode cX8_behind 99 = .ok (.ireturn, 1) := by decide +kernel
theorem dX8_behind_100 : decode cX8_behind 100 = .ok (.aload_n 0, 1) := by decide +kernel
theorem dX8_behind_101 : decode cX8_behind 101 = .ok (.getfield 28, 3) := by decide +kernel
theorem dX8_behind_104 : decode cX8_behind 104 = .ok (.getfield 158, 3) := by decide +kernel
theorem dX8_behind_107 : decode cX8_behind 107 = .ok (.ireturn, 1) := by decide +kernel
theorem dX8_behind_108 : decode cX8_behind 108 = .ok (.aload_n 0, 1) := by decide +kernel
theorem dX8_behind_109 : decode cX8_behind 109 = .ok (.getfield 28, 3) := by decide +kernel
theorem dX8_behind_112 : decode cX8_behind 112 = .ok (.invokevirtual 133, 3) := by decide +kernel
theorem dX8_behind_115 : decode cX8_behind 115 = .ok (.ireturn, 1) := by decide +kernel
theorem dX8_behind_116 : decode cX8_behind 116 = .ok (.aload_n 0, 1) := by decide +kernel
theorem dX8_behind_117 : decode cX8_behind 117 = .ok (.getfield 28, 3) := by decide +kernel
theorem dX8_behind_120 : decode cX8_behind 120 = .ok (.iload_n 2, 1) := by decide +kernel
theorem dX8_behind_121 : decode cX8_behind 121 = .ok (.iconst 4, 1) := by decide +kernel
theorem dX8_behind_122 : decode cX8_behind 122 = .ok (.isub, 1) := by decide +kernel
theorem dX8_behind_123 : decode cX8_behind 123 = .ok (.invokevirtual 110, 3) := by decide +kernel
theorem dX8_behind_126 : decode cX8_behind 126 = .ok (.ireturn, 1) := by decide +kernel
theorem dX8_gone_0 : decode cX8_gone 0 = .ok (.aload_n 0, 1) := by decide +kernel
theorem dX8_gone_1 : decode cX8_gone 1 = .ok (.iload_n 1, 1) := by decide +kernel
theorem dX8_gone_2 : decode cX8_gone 2 = .ok (.iload_n 2, 1) := by decide +kernel
theorem dX8_gone_3 : decode cX8_gone 3 = .ok (.invokevirtual 129, 3) := by decide +kernel
theorem dX8_gone_6 : decode cX8_gone 6 = .ok (.ifCond .ne 6, 3) := by decide +kernel
theorem dX8_gone_9 : decode cX8_gone 9 = .ok (.ldc 81, 2) := by decide +kernel
theorem dX8_gone_11 : decode cX8_gone 11 = .ok (.ireturn, 1) := by decide +kernel
theorem dX8_gone_12 : decode cX8_gone 12 = .ok (.aload_n 0, 1) := by decide +kernel
theorem dX8_gone_13 : decode cX8_gone 13 = .ok (.getfield 28, 3) := by decide +kernel
theorem dX8_gone_16 : decode cX8_gone 16 = .ok (.aload_n 0, 1) := by decide +kernel
theorem dX8_gone_17 : decode cX8_gone 17 = .ok (.getfield 21, 3) := by decide +kernel
theorem dX8_gone_20 : decode cX8_gone 20 = .ok (.invokevirtual 179, 3) := by decide +kernel
theorem dX8_gone_23 : decode cX8_gone 23 = .ok (.iconst 0, 1) := by decide +kernel
theorem dX8_gone_24 : decode cX8_gone 24 = .ok (.istore_n 3, 1) := by decide +kernel
theorem dX8_gone_25 : decode cX8_gone 25 = .ok (.iload_n 3, 1) := by decide +kernel
theorem dX8_gone_26 : decode cX8_gone 26 = .ok (.sipush 200, 3) := by decide +kernel
theorem dX8_gone_29 : decode cX8_gone 29 = .ok (.if_icmp .gt 33, 3) := by decide +kernel
theorem dX8_gone_32 : decode cX8_gone 32 = .ok (.aload_n 0, 1) := by decide +kernel
theorem dX8_gone_33 : decode cX8_gone 33 = .ok (.getfield 28, 3) := by decide +kernel
theorem dX8_gone_36 : decode cX8_gone 36 = .ok (.iload_n 1, 1) := by decide +kernel
theorem dX8_gone_37 : decode cX8_gone 37 = .ok (.invokevirtual 110, 3) := by decide +kernel
theorem dX8_gone_40 : decode cX8_gone 40 = .ok (.iload_n 2, 1) := by decide +kernel
theorem dX8_gone_41 : decode cX8_gone 41 = .ok (.ishr, 1) := by decide +kernel
theorem dX8_gone_42 : decode cX8_gone 42 = .ok (.iconst 1, 1) := by decide +kernel
theorem dX8_gone_43 : decode cX8_gone 43 = .ok (.iand, 1) := by decide +kernel
theorem dX8_gone_44 : decode cX8_gone 44 = .ok (.ifCond .ne 5, 3) := by decide +kernel
theorem dX8_gone_47 : decode cX8_gone 47 = .ok (.iload_n 3, 1) := by decide +kernel
theorem dX8_gone_48 : decode cX8_gone 48 = .ok (.ireturn, 1) := by decide +kernel
theorem dX8_gone_49 : decode cX8_gone 49 = .ok (.aload_n 0, 1) := by decide +kernel
theorem dX8_gone_50 : decode cX8_gone 50 = .ok (.getfield 28, 3) := by decide +kernel
theorem dX8_gone_53 : decode cX8_gone 53 = .ok (.invokevirtual 152, 3) := by decide +kernel
theorem dX8_gone_56 : decode cX8_gone 56 = .ok (.iinc 3 1, 3) := by decide +kernel
theorem dX8_gone_59 : decode cX8_gone 59 = .ok (.goto (-34), 3) := by decide +kernel
theorem dX8_gone_62 : decode cX8_gone 62 = .ok (.ldc 175, 2) := by decide +kernel
theorem dX8_gone_64 : decode cX8_gone 64 = .ok (.ireturn, 1) := by decide +kernel
theorem dX8_thick_0 : decode cX8_thick 0 = .ok (.aload_n 0, 1) := by decide +kernel
theorem dX8_thick_1 : decode cX8_thick 1 = .ok (.getfield 21, 3) := by decide +kernel
theorem dX8_thick_4 : decode cX8_thick 4 = .ok (.iload_n 1, 1) := by decide +kernel
theorem dX8_thick_5 : decode cX8_thick 5 = .ok (.invokevirtual 95, 3) := by decide +kernel
theorem dX8_thick_8 : decode cX8_thick 8 = .ok (.ifCond .eq 11, 3) := by decide +kernel
theorem dX8_thick_11 : decode cX8_thick 11 = .ok (.iload_n 2, 1) := by decide +kernel
theorem dX8_thick_12 : decode cX8_thick 12 = .ok (.iload_n 3, 1) := by decide +kernel
theorem dX8_thick_13 : decode cX8_thick 13 = .ok (.invokestatic 187, 3) := by decide +kernel
theorem dX8_thick_16 : decode cX8_thick 16 = .ok (.ifCond .ne 6, 3) := by decide +kernel
theorem dX8_thick_19 : decode cX8_thick 19 = .ok (.ldc 81, 2) := by decide +kernel
theorem dX8_thick_21 : decode cX8_thick 21 = .ok (.ireturn, 1) := by decide +kernel
theorem dX8_thick_22 : decode cX8_thick 22 = .ok (.iconst 1, 1) := by decide +kernel
theorem dX8_thick_23 : decode cX8_thick 23 = .ok (.istore 4, 2) := by decide +kernel
theorem dX8_thick_25 : decode cX8_thick 25 = .ok (.iconst (-1), 1) := by decide +kernel
theorem dX8_thick_26 : decode cX8_thick 26 = .ok (.istore 5, 2) := by decide +kernel
theorem dX8_thick_28 : decode cX8_thick 28 = .ok (.iconst 1, 1) := by decide +kernel
theorem dX8_thick_29 : decode cX8_thick 29 = .ok (.istore 6, 2) := by decide +kernel
theorem dX8_thick_31 : decode cX8_thick 31 = .ok (.iload 6, 2) := by decide +kernel
theorem dX8_thick_33 : decode cX8_thick 33 = .ok (.bipush 9, 2) := by decide +kernel
theorem dX8_thick_35 : decode cX8_thick 35 = .ok (.if_icmp .gt 63, 3) := by decide +kernel
theorem dX8_thick_38 : decode cX8_thick 38 = .ok (.aload_n 0, 1) := by decide +kernel
theorem dX8_thick_39 : decode cX8_thick 39 = .ok (.getfield 28, 3) := by decide +kernel
theorem dX8_thick_42 : decode cX8_thick 42 = .ok (.aload_n 0, 1) := by decide +kernel
theorem dX8_thick_43 : decode cX8_thick 43 = .ok (.getfield 21, 3) := by decide +kernel
theorem dX8_thick_46 : decode cX8_thick 46 = .ok (.invokevirtual 179, 3) := by decide +kernel
theorem dX8_thick_49 : decode cX8_thick 49 = .ok (.aload_n 0, 1) := by decide +kernel
theorem dX8_thick_50 : decode cX8_thick 50 = .ok (.getfield 28, 3) := by decide +kernel
theorem dX8_thick_53 : decode cX8_thick 53 = .ok (.getfield 101, 3) := by decide +kernel
theorem dX8_thick_56 : decode cX8_thick 56 = .ok (.iload_n 1, 1) := by decide +kernel
theorem dX8_thick_57 : decode cX8_thick 57 = .ok (.iload 6, 2) := by decide +kernel
theorem dX8_thick_59 : decode cX8_thick 59 = .ok (.iastore, 1) := by decide +kernel
theorem dX8_thick_60 : decode cX8_thick 60 = .ok (.aload_n 0, 1) := by decide +kernel
theorem dX8_thick_61 : decode cX8_thick 61 = .ok (.getfield 28, 3) := by decide +kernel
theorem dX8_thick_64 : decode cX8_thick 64 = .ok (.iload_n 2, 1) := by decide +kernel
theorem dX8_thick_65 : decode cX8_thick 65 = .ok (.invokevirtual 183, 3) := by decide +kernel
theorem dX8_thick_68 : decode cX8_thick 68 = .ok (.aload_n 0, 1) := by decide +kernel
theorem dX8_thick_69 : decode cX8_thick 69 = .ok (.getfield 28, 3) := by decide +kernel
theorem dX8_thick_72 : decode cX8_thick 72 = .ok (.invokevirtual 133, 3) := by decide +kernel
theorem dX8_thick_75 : decode cX8_thick 75 = .ok (.istore 7, 2) := by decide +kernel
theorem dX8_thick_77 : decode cX8_thick 77 = .ok (.iload 7, 2) := by decide +kernel
theorem dX8_thick_79 : decode cX8_thick 79 = .ok (.iload 5, 2) := by decide +kernel
theorem dX8_thick_81 : decode cX8_thick 81 = .ok (.if_icmp .le 11, 3) := by decide +kernel
theorem dX8_thick_84 : decode cX8_thick 84 = .ok (.iload 7, 2) := by decide +kernel
theorem dX8_thick_86 : decode cX8_thick 86 = .ok (.istore 5, 2) := by decide +kernel
theorem dX8_thick_88 : decode cX8_thick 88 = .ok (.iload 6, 2) := by decide +kernel
theorem dX8_thick_90 : decode cX8_thick 90 = .ok (.istore 4, 2) := by decide +kernel
theorem dX8_thick_92 : decode cX8_thick 92 = .ok (.iinc 6 1, 3) := by decide +kernel
theorem dX8_thick_95 : decode cX8_thick 95 = .ok (.goto (-64), 3) := by decide +kernel
theorem dX8_thick_98 : decode cX8_thick 98 = .ok (.iload_n 3, 1) := by decide +kernel
theorem dX8_thick_99 : decode cX8_thick 99 = .ok (.ifCond .ne 8, 3) := by decide +kernel
theorem dX8_thick_102 : decode cX8_thick 102 = .ok (.iload 4, 2) := by decide +kernel
theorem dX8_thick_104 : decode cX8_thick 104 = .ok (.goto 5, 3) := by decide +kernel
theorem dX8_thick_107 : decode cX8_thick 107 = .ok (.iload 5, 2) := by decide +kernel
theorem dX8_thick_109 : decode cX8_thick 109 = .ok (.ireturn, 1) := by decide +kernel
theorem dX8_becomes_0 : decode cX8_becomes 0 = .ok (.aload_n 0, 1) := by decide +kernel
theorem dX8_becomes_1 : decode cX8_becomes 1 = .ok (.getfield 21, 3) := by decide +kernel
theorem dX8_becomes_4 : decode cX8_becomes 4 = .ok (.iload_n 1, 1) := by decide +kernel
theorem dX8_becomes_5 : decode cX8_becomes 5 = .ok (.invokevirtual 95, 3) := by decide +kernel
theorem dX8_becomes_8 : decode cX8_becomes 8 = .ok (.ifCond .eq 11, 3) := by decide +kernel
theorem dX8_becomes_11 : decode cX8_becomes 11 = .ok (.iload_n 2, 1) := by decide +kernel
theorem dX8_becomes_12 : decode cX8_becomes 12 = .ok (.iload_n 3, 1) := by decide +kernel
theorem dX8_becomes_13 : decode cX8_becomes 13 = .ok (.invokestatic 187, 3) := by decide +kernel
theorem dX8_becomes_16 : decode cX8_becomes 16 = .ok (.ifCond .ne 6, 3) := by decide +kernel
theorem dX8_becomes_19 : decode cX8_becomes 19 = .ok (.ldc 81, 2) := by decide +kernel
theorem dX8_becomes_21 : decode cX8_becomes 21 = .ok (.ireturn, 1) := by decide +kernel
theorem dX8_becomes_22 : decode cX8_becomes 22 = .ok (.iconst 0, 1) := by decide +kernel
theorem dX8_becomes_23 : decode cX8_becomes 23 = .ok (.istore 4, 2) := by decide +kernel
theorem dX8_becomes_25 : decode cX8_becomes 25 = .ok (.iconst (-1), 1) := by decide +kernel
theorem dX8_becomes_26 : decode cX8_becomes 26 = .ok (.istore 5, 2) := by decide +kernel
theorem dX8_becomes_28 : decode cX8_becomes 28 = .ok (.iconst 0, 1) := by decide +kernel
theorem dX8_becomes_29 : decode cX8_becomes 29 = .ok (.istore 6, 2) := by decide +kernel
theorem dX8_becomes_31 : decode cX8_becomes 31 = .ok (.iload 6, 2) := by decide +kernel
theorem dX8_becomes_33 : decode cX8_becomes 33 = .ok (.bipush 6, 2) := by decide +kernel
theorem dX8_becomes_35 : decode cX8_becomes 35 = .ok (.if_icmp .ge 63, 3) := by decide +kernel
theorem dX8_becomes_38 : decode cX8_becomes 38 = .ok (.aload_n 0, 1) := by decide +kernel
theorem dX8_becomes_39 : decode cX8_becomes 39 = .ok (.getfield 28, 3) := by decide +kernel
theorem dX8_becomes_42 : decode cX8_becomes 42 = .ok (.aload_n 0, 1) := by decide +kernel
theorem dX8_becomes_43 : decode cX8_becomes 43 = .ok (.getfield 21, 3) := by decide +kernel
theorem dX8_becomes_46 : decode cX8_becomes 46 = .ok (.invokevirtual 179, 3) := by decide +kernel
theorem dX8_becomes_49 : decode cX8_becomes 49 = .ok (.aload_n 0, 1) := by decide +kernel
theorem dX8_becomes_50 : decode cX8_becomes 50 = .ok (.getfield 28, 3) := by decide +kernel
theorem dX8_becomes_53 : decode cX8_becomes 53 = .ok (.getfield 98, 3) := by decide +kernel
theorem dX8_becomes_56 : decode cX8_becomes 56 = .ok (.iload_n 1, 1) := by decide +kernel
theorem dX8_becomes_57 : decode cX8_becomes 57 = .ok (.iload 6, 2) := by decide +kernel
theorem dX8_becomes_59 : decode cX8_becomes 59 = .ok (.iastore, 1) := by decide +kernel
theorem dX8_becomes_60 : decode cX8_becomes 60 = .ok (.aload_n 0, 1) := by decide +kernel
theorem dX8_becomes_61 : decode cX8_becomes 61 = .ok (.getfield 28, 3) := by decide +kernel
theorem dX8_becomes_64 : decode cX8_becomes 64 = .ok (.iload_n 2, 1) := by decide +kernel
theorem dX8_becomes_65 : decode cX8_becomes 65 = .ok (.invokevirtual 183, 3) := by decide +kernel
theorem dX8_becomes_68 : decode cX8_becomes 68 = .ok (.aload_n 0, 1) := by decide +kernel
theorem dX8_becomes_69 : decode cX8_becomes 69 = .ok (.getfield 28, 3) := by decide +kernel
theorem dX8_becomes_72 : decode cX8_becomes 72 = .ok (.invokevirtual 133, 3) := by decide +kernel
theorem dX8_becomes_75 : decode cX8_becomes 75 = .ok (.istore 7, 2) := by decide +kernel
theorem dX8_becomes_77 : decode cX8_becomes 77 = .ok (.iload 7, 2) := by decide +kernel
theorem dX8_becomes_79 : decode cX8_becomes 79 = .ok (.iload 5, 2) := by decide +kernel
theorem dX8_becomes_81 : decode cX8_becomes 81 = .ok (.if_icmp .le 11, 3) := by decide +kernel
theorem dX8_becomes_84 : decode cX8_becomes 84 = .ok (.iload 7, 2) := by decide +kernel
theorem dX8_becomes_86 : decode cX8_becomes 86 = .ok (.istore 5, 2) := by decide +kernel
theorem dX8_becomes_88 : decode cX8_becomes 88 = .ok (.iload 6, 2) := by decide +kernel
theorem dX8_becomes_90 : decode cX8_becomes 90 = .ok (.istore 4, 2) := by decide +kernel
theorem dX8_becomes_92 : decode cX8_becomes 92 = .ok (.iinc 6 1, 3) := by decide +kernel
theorem dX8_becomes_95 : decode cX8_becomes 95 = .ok (.goto (-64), 3) := by decide +kernel
theorem dX8_becomes_98 : decode cX8_becomes 98 = .ok (.iload_n 3, 1) := by decide +kernel
theorem dX8_becomes_99 : decode cX8_becomes 99 = .ok (.ifCond .ne 8, 3) := by decide +kernel
theorem dX8_becomes_102 : decode cX8_becomes 102 = .ok (.iload 4, 2) := by decide +kernel
theorem dX8_becomes_104 : decode cX8_becomes 104 = .ok (.goto 5, 3) := by decide +kernel
theorem dX8_becomes_107 : decode cX8_becomes 107 = .ok (.iload 5, 2) := by decide +kernel
theorem dX8_becomes_109 : decode cX8_becomes 109 = .ok (.ireturn, 1) := by decide +kernel
theorem dX8_like_0 : decode cX8_like 0 = .ok (.aload_n 0, 1) := by decide +kernel
theorem dX8_like_1 : decode cX8_like 1 = .ok (.iload_n 1, 1) := by decide +kernel
theorem dX8_like_2 : decode cX8_like 2 = .ok (.invokevirtual 190, 3) := by decide +kernel
theorem dX8_like_5 : decode cX8_like 5 = .ok (.ifCond .eq 12, 3) := by decide +kernel
theorem dX8_like_8 : decode cX8_like 8 = .ok (.iload_n 2, 1) := by decide +kernel
theorem dX8_like_9 : decode cX8_like 9 = .ok (.ifCond .lt 8, 3) := by decide +kernel
theorem dX8_like_12 : decode cX8_like 12 = .ok (.iload_n 2, 1) := by decide +kernel
theorem dX8_like_13 : decode cX8_like 13 = .ok (.iconst 1, 1) := by decide +kernel
theorem dX8_like_14 : decode cX8_like 14 = .ok (.if_icmp .le 6, 3) := by decide +kernel
theorem dX8_like_17 : decode cX8_like 17 = .ok (.ldc 81, 2) := by decide +kernel
theorem dX8_like_19 : decode cX8_like 19 = .ok (.ireturn, 1) := by decide +kernel
theorem dX8_like_20 : decode cX8_like 20 = .ok (.aload_n 0, 1) := by decide +kernel
theorem dX8_like_21 : decode cX8_like 21 = .ok (.getfield 56, 3) := by decide +kernel
theorem dX8_like_24 : decode cX8_like 24 = .ok (.iload_n 1, 1) := by decide +kernel
theorem dX8_like_25 : decode cX8_like 25 = .ok (.aaload, 1) := by decide +kernel
theorem dX8_like_26 : decode cX8_like 26 = .ok (.astore_n 3, 1) := by decide +kernel
theorem dX8_like_27 : decode cX8_like 27 = .ok (.aload_n 3, 1) := by decide +kernel
theorem dX8_like_28 : decode cX8_like 28 = .ok (.invokevirtual 193, 3) := by decide +kernel
theorem dX8_like_31 : decode cX8_like 31 = .ok (.ifCond .eq 6, 3) := by decide +kernel
theorem dX8_like_34 : decode cX8_like 34 = .ok (.ldc 196, 2) := by decide +kernel
theorem dX8_like_36 : decode cX8_like 36 = .ok (.ireturn, 1) := by decide +kernel
theorem dX8_like_37 : decode cX8_like 37 = .ok (.aload_n 0, 1) := by decide +kernel
theorem dX8_like_38 : decode cX8_like 38 = .ok (.getfield 21, 3) := by decide +kernel
theorem dX8_like_41 : decode cX8_like 41 = .ok (.getfield 91, 3) := by decide +kernel
theorem dX8_like_44 : decode cX8_like 44 = .ok (.ifCond .ne 6, 3) := by decide +kernel
theorem dX8_like_47 : decode cX8_like 47 = .ok (.ldc 175, 2) := by decide +kernel
theorem dX8_like_49 : decode cX8_like 49 = .ok (.ireturn, 1) := by decide +kernel
theorem dX8_like_50 : decode cX8_like 50 = .ok (.iconst 0, 1) := by decide +kernel
theorem dX8_like_51 : decode cX8_like 51 = .ok (.istore 4, 2) := by decide +kernel
theorem dX8_like_53 : decode cX8_like 53 = .ok (.iconst (-1), 1) := by decide +kernel
theorem dX8_like_54 : decode cX8_like 54 = .ok (.istore 5, 2) := by decide +kernel
theorem dX8_like_56 : decode cX8_like 56 = .ok (.iconst 0, 1) := by decide +kernel
theorem dX8_like_57 : decode cX8_like 57 = .ok (.istore 6, 2) := by decide +kernel
theorem dX8_like_59 : decode cX8_like 59 = .ok (.iload 6, 2) := by decide +kernel
theorem dX8_like_61 : decode cX8_like 61 = .ok (.aload_n 0, 1) := by decide +kernel
theorem dX8_like_62 : decode cX8_like 62 = .ok (.getfield 21, 3) := by decide +kernel
theorem dX8_like_65 : decode cX8_like 65 = .ok (.getfield 91, 3) := by decide +kernel
theorem dX8_like_68 : decode cX8_like 68 = .ok (.if_icmp .ge 38, 3) := by decide +kernel
theorem dX8_like_71 : decode cX8_like 71 = .ok (.aload_n 0, 1) := by decide +kernel
theorem dX8_like_72 : decode cX8_like 72 = .ok (.iload 6, 2) := by decide +kernel
theorem dX8_like_74 : decode cX8_like 74 = .ok (.aload_n 3, 1) := by decide +kernel
theorem dX8_like_75 : decode cX8_like 75 = .ok (.invokevirtual 197, 3) := by decide +kernel
theorem dX8_like_78 : decode cX8_like 78 = .ok (.istore 7, 2) := by decide +kernel
theorem dX8_like_80 : decode cX8_like 80 = .ok (.iload 5, 2) := by decide +kernel
theorem dX8_like_82 : decode cX8_like 82 = .ok (.ifCond .lt 10, 3) := by decide +kernel
theorem dX8_like_85 : decode cX8_like 85 = .ok (.iload 7, 2) := by decide +kernel
theorem dX8_like_87 : decode cX8_like 87 = .ok (.iload 5, 2) := by decide +kernel
theorem dX8_like_89 : decode cX8_like 89 = .ok (.if_icmp .ge 11, 3) := by decide +kernel
theorem dX8_like_92 : decode cX8_like 92 = .ok (.iload 7, 2) := by decide +kernel
theorem dX8_like_94 : decode cX8_like 94 = .ok (.istore 5, 2) := by decide +kernel
theorem dX8_like_96 : decode cX8_like 96 = .ok (.iload 6, 2) := by decide +kernel
theorem dX8_like_98 : decode cX8_like 98 = .ok (.istore 4, 2) := by decide +kernel
theorem dX8_like_100 : decode cX8_like 100 = .ok (.iinc 6 1, 3) := by decide +kernel
theorem dX8_like_103 : decode cX8_like 103 = .ok (.goto (-44), 3) := by decide +kernel
theorem dX8_like_106 : decode cX8_like 106 = .ok (.iload_n 2, 1) := by decide +kernel
theorem dX8_like_107 : decode cX8_like 107 = .ok (.ifCond .ne 8, 3) := by decide +kernel
theorem dX8_like_110 : decode cX8_like 110 = .ok (.iload 4, 2) := by decide +kernel
theorem dX8_like_112 : decode cX8_like 112 = .ok (.goto 5, 3) := by decide +kernel
theorem dX8_like_115 : decode cX8_like 115 = .ok (.iload 5, 2) := by decide +kernel
theorem dX8_like_117 : decode cX8_like 117 = .ok (.ireturn, 1) := by decide +kernel
theorem dX8_fee_0 : decode cX8_fee 0 = .ok (.aload_n 0, 1) := by decide +kernel
theorem dX8_fee_1 : decode cX8_fee 1 = .ok (.getfield 21, 3) := by decide +kernel
theorem dX8_fee_4 : decode cX8_fee 4 = .ok (.getfield 201, 3) := by decide +kernel
theorem dX8_fee_7 : decode cX8_fee 7 = .ok (.iconst 1, 1) := by decide +kernel
theorem dX8_fee_8 : decode cX8_fee 8 = .ok (.iaload, 1) := by decide +kernel
theorem dX8_fee_9 : decode cX8_fee 9 = .ok (.istore_n 1, 1) := by decide +kernel
theorem dX8_fee_10 : decode cX8_fee 10 = .ok (.iload_n 1, 1) := by decide +kernel
theorem dX8_fee_11 : decode cX8_fee 11 = .ok (.ifCond .ge 13, 3) := by decide +kernel
theorem dX8_fee_14 : decode cX8_fee 14 = .ok (.aload_n 0, 1) := by decide +kernel
theorem dX8_fee_15 : decode cX8_fee 15 = .ok (.getfield 21, 3) := by decide +kernel
theorem dX8_fee_18 : decode cX8_fee 18 = .ok (.getfield 146, 3) := by decide +kernel
theorem dX8_fee_21 : decode cX8_fee 21 = .ok (.goto 16, 3) := by decide +kernel
theorem dX8_fee_24 : decode cX8_fee 24 = .ok (.aload_n 0, 1) := by decide +kernel
theorem dX8_fee_25 : decode cX8_fee 25 = .ok (.getfield 10, 3) := by decide +kernel
theorem dX8_fee_28 : decode cX8_fee 28 = .ok (.iload_n 1, 1) := by decide +kernel
theorem dX8_fee_29 : decode cX8_fee 29 = .ok (.aload_n 0, 1) := by decide +kernel
theorem dX8_fee_30 : decode cX8_fee 30 = .ok (.getfield 21, 3) := by decide +kernel
theorem dX8_fee_33 : decode cX8_fee 33 = .ok (.iconst 0, 1) := by decide +kernel
theorem dX8_fee_34 : decode cX8_fee 34 = .ok (.invokevirtual 204, 3) := by decide +kernel
theorem dX8_fee_37 : decode cX8_fee 37 = .ok (.ireturn, 1) := by decide +kernel
theorem dX8_fine_0 : decode cX8_fine 0 = .ok (.aload_n 0, 1) := by decide +kernel
theorem dX8_fine_1 : decode cX8_fine 1 = .ok (.getfield 21, 3) := by decide +kernel
theorem dX8_fine_4 : decode cX8_fine 4 = .ok (.iload_n 1, 1) := by decide +kernel
theorem dX8_fine_5 : decode cX8_fine 5 = .ok (.invokevirtual 95, 3) := by decide +kernel
theorem dX8_fine_8 : decode cX8_fine 8 = .ok (.ifCond .ne 6, 3) := by decide +kernel
theorem dX8_fine_11 : decode cX8_fine 11 = .ok (.ldc 81, 2) := by decide +kernel
theorem dX8_fine_13 : decode cX8_fine 13 = .ok (.ireturn, 1) := by decide +kernel
theorem dX8_fine_14 : decode cX8_fine 14 = .ok (.aload_n 0, 1) := by decide +kernel
theorem dX8_fine_15 : decode cX8_fine 15 = .ok (.getfield 21, 3) := by decide +kernel
theorem dX8_fine_18 : decode cX8_fine 18 = .ok (.getfield 201, 3) := by decide +kernel
theorem dX8_fine_21 : decode cX8_fine 21 = .ok (.iconst 2, 1) := by decide +kernel
theorem dX8_fine_22 : decode cX8_fine 22 = .ok (.iaload, 1) := by decide +kernel
theorem dX8_fine_23 : decode cX8_fine 23 = .ok (.istore_n 2, 1) := by decide +kernel
theorem dX8_fine_24 : decode cX8_fine 24 = .ok (.iload_n 2, 1) := by decide +kernel
theorem dX8_fine_25 : decode cX8_fine 25 = .ok (.ifCond .ge 15, 3) := by decide +kernel
theorem dX8_fine_28 : decode cX8_fine 28 = .ok (.aload_n 0, 1) := by decide +kernel
theorem dX8_fine_29 : decode cX8_fine 29 = .ok (.getfield 21, 3) := by decide +kernel
theorem dX8_fine_32 : decode cX8_fine 32 = .ok (.getfield 104, 3) := by decide +kernel
theorem dX8_fine_35 : decode cX8_fine 35 = .ok (.iload_n 1, 1) := by decide +kernel
theorem dX8_fine_36 : decode cX8_fine 36 = .ok (.iaload, 1) := by decide +kernel
theorem dX8_fine_37 : decode cX8_fine 37 = .ok (.goto 16, 3) := by decide +kernel
theorem dX8_fine_40 : decode cX8_fine 40 = .ok (.aload_n 0, 1) := by decide +kernel
theorem dX8_fine_41 : decode cX8_fine 41 = .ok (.getfield 10, 3) := by decide +kernel
theorem dX8_fine_44 : decode cX8_fine 44 = .ok (.iload_n 2, 1) := by decide +kernel
theorem dX8_fine_45 : decode cX8_fine 45 = .ok (.aload_n 0, 1) := by decide +kernel
theorem dX8_fine_46 : decode cX8_fine 46 = .ok (.getfield 21, 3) := by decide +kernel
theorem dX8_fine_49 : decode cX8_fine 49 = .ok (.iload_n 1, 1) := by decide +kernel
theorem dX8_fine_50 : decode cX8_fine 50 = .ok (.invokevirtual 204, 3) := by decide +kernel
theorem dX8_fine_53 : decode cX8_fine 53 = .ok (.ireturn, 1) := by decide +kernel
theorem dX8_feed_0 : decode cX8_feed 0 = .ok (.aload_n 0, 1) := by decide +kernel
theorem dX8_feed_1 : decode cX8_feed 1 = .ok (.getfield 41, 3) := by decide +kernel
theorem dX8_feed_4 : decode cX8_feed 4 = .ok (.getfield 208, 3) := by decide +kernel
theorem dX8_feed_7 : decode cX8_feed 7 = .ok (.bipush 12, 2) := by decide +kernel
theorem dX8_feed_9 : decode cX8_feed 9 = .ok (.iadd, 1) := by decide +kernel
theorem dX8_feed_10 : decode cX8_feed 10 = .ok (.bipush 96, 2) := by decide +kernel
theorem dX8_feed_12 : decode cX8_feed 12 = .ok (.if_icmp .le 6, 3) := by decide +kernel
theorem dX8_feed_15 : decode cX8_feed 15 = .ok (.ldc 86, 2) := by decide +kernel
theorem dX8_feed_17 : decode cX8_feed 17 = .ok (.ireturn, 1) := by decide +kernel
theorem dX8_feed_18 : decode cX8_feed 18 = .ok (.aload_n 0, 1) := by decide +kernel
theorem dX8_feed_19 : decode cX8_feed 19 = .ok (.getfield 41, 3) := by decide +kernel
theorem dX8_feed_22 : decode cX8_feed 22 = .ok (.iload_n 1, 1) := by decide +kernel
theorem dX8_feed_23 : decode cX8_feed 23 = .ok (.invokevirtual 211, 3) := by decide +kernel
theorem dX8_feed_26 : decode cX8_feed 26 = .ok (.aload_n 0, 1) := by decide +kernel
theorem dX8_feed_27 : decode cX8_feed 27 = .ok (.getfield 41, 3) := by decide +kernel
theorem dX8_feed_30 : decode cX8_feed 30 = .ok (.iload_n 2, 1) := by decide +kernel
theorem dX8_feed_31 : decode cX8_feed 31 = .ok (.invokevirtual 211, 3) := by decide +kernel
theorem dX8_feed_34 : decode cX8_feed 34 = .ok (.aload_n 0, 1) := by decide +kernel
theorem dX8_feed_35 : decode cX8_feed 35 = .ok (.getfield 41, 3) := by decide +kernel
theorem dX8_feed_38 : decode cX8_feed 38 = .ok (.iload_n 3, 1) := by decide +kernel
theorem dX8_feed_39 : decode cX8_feed 39 = .ok (.invokevirtual 211, 3) := by decide +kernel
theorem dX8_feed_42 : decode cX8_feed 42 = .ok (.aload_n 0, 1) := by decide +kernel
theorem dX8_feed_43 : decode cX8_feed 43 = .ok (.getfield 41, 3) := by decide +kernel
theorem dX8_feed_46 : decode cX8_feed 46 = .ok (.getfield 208, 3) := by decide +kernel
theorem dX8_feed_49 : decode cX8_feed 49 = .ok (.ireturn, 1) := by decide +kernel
theorem dX8_trim_0 : decode cX8_trim 0 = .ok (.iload_n 1, 1) := by decide +kernel
theorem dX8_trim_1 : decode cX8_trim 1 = .ok (.ifCond .lt 14, 3) := by decide +kernel
theorem dX8_trim_4 : decode cX8_trim 4 = .ok (.iload_n 1, 1) := by decide +kernel
theorem dX8_trim_5 : decode cX8_trim 5 = .ok (.aload_n 0, 1) := by decide +kernel
theorem dX8_trim_6 : decode cX8_trim 6 = .ok (.getfield 41, 3) := by decide +kernel
theorem dX8_trim_9 : decode cX8_trim 9 = .ok (.getfield 208, 3) := by decide +kernel
theorem dX8_trim_12 : decode cX8_trim 12 = .ok (.if_icmp .le 6, 3) := by decide +kernel
theorem dX8_trim_15 : decode cX8_trim 15 = .ok (.ldc 81, 2) := by decide +kernel
theorem dX8_trim_17 : decode cX8_trim 17 = .ok (.ireturn, 1) := by decide +kernel
theorem dX8_trim_18 : decode cX8_trim 18 = .ok (.aload_n 0, 1) := by decide +kernel
theorem dX8_trim_19 : decode cX8_trim 19 = .ok (.getfield 41, 3) := by decide +kernel
theorem dX8_trim_22 : decode cX8_trim 22 = .ok (.iload_n 1, 1) := by decide +kernel
theorem dX8_trim_23 : decode cX8_trim 23 = .ok (.putfield 208, 3) := by decide +kernel
theorem dX8_trim_26 : decode cX8_trim 26 = .ok (.iload_n 1, 1) := by decide +kernel
theorem dX8_trim_27 : decode cX8_trim 27 = .ok (.ireturn, 1) := by decide +kernel
theorem dX8_text_0 : decode cX8_text 0 = .ok (.aload_n 0, 1) := by decide +kernel
theorem dX8_text_1 : decode cX8_text 1 = .ok (.getfield 50, 3) := by decide +kernel
theorem dX8_text_4 : decode cX8_text 4 = .ok (.invokevirtual 213, 3) := by decide +kernel
theorem dX8_text_7 : decode cX8_text 7 = .ok (.istore_n 1, 1) := by decide +kernel
theorem dX8_text_8 : decode cX8_text 8 = .ok (.aload_n 0, 1) := by decide +kernel
theorem dX8_text_9 : decode cX8_text 9 = .ok (.getfield 41, 3) := by decide +kernel
theorem dX8_text_12 : decode cX8_text 12 = .ok (.iconst 0, 1) := by decide +kernel
theorem dX8_text_13 : decode cX8_text 13 = .ok (.putfield 208, 3) := by decide +kernel
theorem dX8_text_16 : decode cX8_text 16 = .ok (.iload_n 1, 1) := by decide +kernel
theorem dX8_text_17 : decode cX8_text 17 = .ok (.ifCond .lt 8, 3) := by decide +kernel
theorem dX8_text_20 : decode cX8_text 20 = .ok (.bipush (-100), 2) := by decide +kernel
theorem dX8_text_22 : decode cX8_text 22 = .ok (.iload_n 1, 1) := by decide +kernel
theorem dX8_text_23 : decode cX8_text 23 = .ok (.isub, 1) := by decide +kernel
theorem dX8_text_24 : decode cX8_text 24 = .ok (.ireturn, 1) := by decide +kernel
theorem dX8_text_25 : decode cX8_text 25 = .ok (.aload_n 0, 1) := by decide +kernel
theorem dX8_text_26 : decode cX8_text 26 = .ok (.getfield 21, 3) := by decide +kernel
theorem dX8_text_29 : decode cX8_text 29 = .ok (.getfield 216, 3) := by decide +kernel
theorem dX8_text_32 : decode cX8_text 32 = .ok (.bipush 14, 2) := by decide +kernel
theorem dX8_text_34 : decode cX8_text 34 = .ok (.if_icmp .lt 6, 3) := by decide +kernel
theorem dX8_text_37 : decode cX8_text 37 = .ok (.ldc 86, 2) := by decide +kernel
theorem dX8_text_39 : decode cX8_text 39 = .ok (.ireturn, 1) := by decide +kernel
theorem dX8_text_40 : decode cX8_text 40 = .ok (.aload_n 0, 1) := by decide +kernel
theorem dX8_text_41 : decode cX8_text 41 = .ok (.getfield 10, 3) := by decide +kernel
theorem dX8_text_44 : decode cX8_text 44 = .ok (.aload_n 0, 1) := by decide +kernel
theorem dX8_text_45 : decode cX8_text 45 = .ok (.getfield 21, 3) := by decide +kernel
theorem dX8_text_48 : decode cX8_text 48 = .ok (.getfield 216, 3) := by decide +kernel
theorem dX8_text_51 : decode cX8_text 51 = .ok (.aload_n 0, 1) := by decide +kernel
theorem dX8_text_52 : decode cX8_text 52 = .ok (.getfield 50, 3) := by decide +kernel
theorem dX8_text_55 : decode cX8_text 55 = .ok (.invokevirtual 218, 3) := by decide +kernel
theorem dX8_text_58 : decode cX8_text 58 = .ok (.aload_n 0, 1) := by decide +kernel
theorem dX8_text_59 : decode cX8_text 59 = .ok (.getfield 21, 3) := by decide +kernel
theorem dX8_text_62 : decode cX8_text 62 = .ok (.aload_n 0, 1) := by decide +kernel
theorem dX8_text_63 : decode cX8_text 63 = .ok (.getfield 50, 3) := by decide +kernel
theorem dX8_text_66 : decode cX8_text 66 = .ok (.getfield 222, 3) := by decide +kernel
theorem dX8_text_69 : decode cX8_text 69 = .ok (.invokevirtual 225, 3) := by decide +kernel
theorem dX8_text_72 : decode cX8_text 72 = .ok (.ireturn, 1) := by decide +kernel
theorem dX8_textTold_0 : decode cX8_textTold 0 = .ok (.iload_n 1, 1) := by decide +kernel
theorem dX8_textTold_1 : decode cX8_textTold 1 = .ok (.ifCond .lt 14, 3) := by decide +kernel
theorem dX8_textTold_4 : decode cX8_textTold 4 = .ok (.iload_n 1, 1) := by decide +kernel
theorem dX8_textTold_5 : decode cX8_textTold 5 = .ok (.aload_n 0, 1) := by decide +kernel
theorem dX8_textTold_6 : decode cX8_textTold 6 = .ok (.getfield 21, 3) := by decide +kernel
theorem dX8_textTold_9 : decode cX8_textTold 9 = .ok (.getfield 216, 3) := by decide +kernel
theorem dX8_textTold_12 : decode cX8_textTold 12 = .ok (.if_icmp .lt 6, 3) := by decide +kernel
theorem dX8_textTold_15 : decode cX8_textTold 15 = .ok (.ldc 81, 2) := by decide +kernel
theorem dX8_textTold_17 : decode cX8_textTold 17 = .ok (.ireturn, 1) := by decide +kernel
theorem dX8_textTold_18 : decode cX8_textTold 18 = .ok (.iload_n 2, 1) := by decide +kernel
theorem dX8_textTold_19 : decode cX8_textTold 19 = .ok (.lookupswitch 45 #[(0, 25), (1, 35)], 25) := by decide +kernel
theorem dX8_textTold_44 : decode cX8_textTold 44 = .ok (.aload_n 0, 1) := by decide +kernel
theorem dX8_textTold_45 : decode cX8_textTold 45 = .ok (.getfield 10, 3) := by decide +kernel
theorem dX8_textTold_48 : decode cX8_textTold 48 = .ok (.getfield 228, 3) := by decide +kernel
theorem dX8_textTold_51 : decode cX8_textTold 51 = .ok (.iload_n 1, 1) := by decide +kernel
theorem dX8_textTold_52 : decode cX8_textTold 52 = .ok (.iaload, 1) := by decide +kernel
theorem dX8_textTold_53 : decode cX8_textTold 53 = .ok (.ireturn, 1) := by decide +kernel
theorem dX8_textTold_54 : decode cX8_textTold 54 = .ok (.aload_n 0, 1) := by decide +kernel
theorem dX8_textTold_55 : decode cX8_textTold 55 = .ok (.getfield 10, 3) := by decide +kernel
theorem dX8_textTold_58 : decode cX8_textTold 58 = .ok (.getfield 230, 3) := by decide +kernel
theorem dX8_textTold_61 : decode cX8_textTold 61 = .ok (.iload_n 1, 1) := by decide +kernel
theorem dX8_textTold_62 : decode cX8_textTold 62 = .ok (.iaload, 1) := by decide +kernel
theorem dX8_textTold_63 : decode cX8_textTold 63 = .ok (.ireturn, 1) := by decide +kernel
theorem dX8_textTold_64 : decode cX8_textTold 64 = .ok (.ldc 81, 2) := by decide +kernel
theorem dX8_textTold_66 : decode cX8_textTold 66 = .ok (.ireturn, 1) := by decide +kernel
theorem dX8_why_0 : decode cX8_why 0 = .ok (.iload_n 1, 1) := by decide +kernel
theorem dX8_why_1 : decode cX8_why 1 = .ok (.ifCond .lt 8, 3) := by decide +kernel
theorem dX8_why_4 : decode cX8_why 4 = .ok (.iload_n 1, 1) := by decide +kernel
theorem dX8_why_5 : decode cX8_why 5 = .ok (.iconst 3, 1) := by decide +kernel
theorem dX8_why_6 : decode cX8_why 6 = .ok (.if_icmp .lt 6, 3) := by decide +kernel
theorem dX8_why_9 : decode cX8_why 9 = .ok (.ldc 81, 2) := by decide +kernel
theorem dX8_why_11 : decode cX8_why 11 = .ok (.ireturn, 1) := by decide +kernel
theorem dX8_why_12 : decode cX8_why 12 = .ok (.aload_n 0, 1) := by decide +kernel
theorem dX8_why_13 : decode cX8_why 13 = .ok (.getfield 21, 3) := by decide +kernel
theorem dX8_why_16 : decode cX8_why 16 = .ok (.getfield 201, 3) := by decide +kernel
theorem dX8_why_19 : decode cX8_why 19 = .ok (.iload_n 1, 1) := by decide +kernel
theorem dX8_why_20 : decode cX8_why 20 = .ok (.iaload, 1) := by decide +kernel
theorem dX8_why_21 : decode cX8_why 21 = .ok (.ifCond .ge 8, 3) := by decide +kernel
theorem dX8_why_24 : decode cX8_why 24 = .ok (.ldc 175, 2) := by decide +kernel
theorem dX8_why_26 : decode cX8_why 26 = .ok (.goto 12, 3) := by decide +kernel
theorem dX8_why_29 : decode cX8_why 29 = .ok (.aload_n 0, 1) := by decide +kernel
theorem dX8_why_30 : decode cX8_why 30 = .ok (.getfield 21, 3) := by decide +kernel
theorem dX8_why_33 : decode cX8_why 33 = .ok (.getfield 201, 3) := by decide +kernel
theorem dX8_why_36 : decode cX8_why 36 = .ok (.iload_n 1, 1) := by decide +kernel
theorem dX8_why_37 : decode cX8_why 37 = .ok (.iaload, 1) := by decide +kernel
theorem dX8_why_38 : decode cX8_why 38 = .ok (.ireturn, 1) := by decide +kernel
theorem dX8_sheet_0 : decode cX8_sheet 0 = .ok (.aload_n 0, 1) := by decide +kernel
theorem dX8_sheet_1 : decode cX8_sheet 1 = .ok (.iload_n 1, 1) := by decide +kernel
theorem dX8_sheet_2 : decode cX8_sheet 2 = .ok (.invokevirtual 190, 3) := by decide +kernel
theorem dX8_sheet_5 : decode cX8_sheet 5 = .ok (.ifCond .eq 13, 3) := by decide +kernel
theorem dX8_sheet_8 : decode cX8_sheet 8 = .ok (.iload_n 2, 1) := by decide +kernel
theorem dX8_sheet_9 : decode cX8_sheet 9 = .ok (.iconst (-1), 1) := by decide +kernel
theorem dX8_sheet_10 : decode cX8_sheet 10 = .ok (.if_icmp .lt 8, 3) := by decide +kernel
theorem dX8_sheet_13 : decode cX8_sheet 13 = .ok (.iload_n 2, 1) := by decide +kernel
theorem dX8_sheet_14 : decode cX8_sheet 14 = .ok (.iconst 1, 1) := by decide +kernel
theorem dX8_sheet_15 : decode cX8_sheet 15 = .ok (.if_icmp .le 6, 3) := by decide +kernel
theorem dX8_sheet_18 : decode cX8_sheet 18 = .ok (.ldc 81, 2) := by decide +kernel
theorem dX8_sheet_20 : decode cX8_sheet 20 = .ok (.ireturn, 1) := by decide +kernel
theorem dX8_sheet_21 : decode cX8_sheet 21 = .ok (.iload_n 2, 1) := by decide +kernel
theorem dX8_sheet_22 : decode cX8_sheet 22 = .ok (.iconst (-1), 1) := by decide +kernel
theorem dX8_sheet_23 : decode cX8_sheet 23 = .ok (.if_icmp .ne 16, 3) := by decide +kernel
theorem dX8_sheet_26 : decode cX8_sheet 26 = .ok (.aload_n 0, 1) := by decide +kernel
theorem dX8_sheet_27 : decode cX8_sheet 27 = .ok (.getfield 56, 3) := by decide +kernel
theorem dX8_sheet_30 : decode cX8_sheet 30 = .ok (.iload_n 1, 1) := by decide +kernel
theorem dX8_sheet_31 : decode cX8_sheet 31 = .ok (.aaload, 1) := by decide +kernel
theorem dX8_sheet_32 : decode cX8_sheet 32 = .ok (.iconst (-1), 1) := by decide +kernel
theorem dX8_sheet_33 : decode cX8_sheet 33 = .ok (.iconst 0, 1) := by decide +kernel
theorem dX8_sheet_34 : decode cX8_sheet 34 = .ok (.invokevirtual 233, 3) := by decide +kernel
theorem dX8_sheet_37 : decode cX8_sheet 37 = .ok (.iconst 0, 1) := by decide +kernel
theorem dX8_sheet_38 : decode cX8_sheet 38 = .ok (.ireturn, 1) := by decide +kernel
theorem dX8_sheet_39 : decode cX8_sheet 39 = .ok (.iload_n 3, 1) := by decide +kernel
theorem dX8_sheet_40 : decode cX8_sheet 40 = .ok (.bipush 24, 2) := by decide +kernel
theorem dX8_sheet_42 : decode cX8_sheet 42 = .ok (.if_icmp .le 6, 3) := by decide +kernel
theorem dX8_sheet_45 : decode cX8_sheet 45 = .ok (.ldc 81, 2) := by decide +kernel
theorem dX8_sheet_47 : decode cX8_sheet 47 = .ok (.ireturn, 1) := by decide +kernel
theorem dX8_sheet_48 : decode cX8_sheet 48 = .ok (.iload_n 3, 1) := by decide +kernel
theorem dX8_sheet_49 : decode cX8_sheet 49 = .ok (.ifCond .ge 6, 3) := by decide +kernel
theorem dX8_sheet_52 : decode cX8_sheet 52 = .ok (.ldc 237, 2) := by decide +kernel
theorem dX8_sheet_54 : decode cX8_sheet 54 = .ok (.ireturn, 1) := by decide +kernel
theorem dX8_sheet_55 : decode cX8_sheet 55 = .ok (.aload_n 0, 1) := by decide +kernel
theorem dX8_sheet_56 : decode cX8_sheet 56 = .ok (.getfield 56, 3) := by decide +kernel
theorem dX8_sheet_59 : decode cX8_sheet 59 = .ok (.iload_n 1, 1) := by decide +kernel
theorem dX8_sheet_60 : decode cX8_sheet 60 = .ok (.aaload, 1) := by decide +kernel
theorem dX8_sheet_61 : decode cX8_sheet 61 = .ok (.iload_n 2, 1) := by decide +kernel
theorem dX8_sheet_62 : decode cX8_sheet 62 = .ok (.iload_n 3, 1) := by decide +kernel
theorem dX8_sheet_63 : decode cX8_sheet 63 = .ok (.invokevirtual 233, 3) := by decide +kernel
theorem dX8_sheet_66 : decode cX8_sheet 66 = .ok (.iload_n 3, 1) := by decide +kernel
theorem dX8_sheet_67 : decode cX8_sheet 67 = .ok (.ireturn, 1) := by decide +kernel
theorem dX8_mark_0 : decode cX8_mark 0 = .ok (.aload_n 0, 1) := by decide +kernel
theorem dX8_mark_1 : decode cX8_mark 1 = .ok (.iload_n 1, 1) := by decide +kernel
theorem dX8_mark_2 : decode cX8_mark 2 = .ok (.invokevirtual 190, 3) := by decide +kernel
theorem dX8_mark_5 : decode cX8_mark 5 = .ok (.ifCond .ne 6, 3) := by decide +kernel
theorem dX8_mark_8 : decode cX8_mark 8 = .ok (.ldc 81, 2) := by decide +kernel
theorem dX8_mark_10 : decode cX8_mark 10 = .ok (.ireturn, 1) := by decide +kernel
theorem dX8_mark_11 : decode cX8_mark 11 = .ok (.aload_n 0, 1) := by decide +kernel
theorem dX8_mark_12 : decode cX8_mark 12 = .ok (.getfield 56, 3) := by decide +kernel
theorem dX8_mark_15 : decode cX8_mark 15 = .ok (.iload_n 1, 1) := by decide +kernel
theorem dX8_mark_16 : decode cX8_mark 16 = .ok (.aaload, 1) := by decide +kernel
theorem dX8_mark_17 : decode cX8_mark 17 = .ok (.astore 4, 2) := by decide +kernel
theorem dX8_mark_19 : decode cX8_mark 19 = .ok (.aload 4, 2) := by decide +kernel
theorem dX8_mark_21 : decode cX8_mark 21 = .ok (.invokevirtual 193, 3) := by decide +kernel
theorem dX8_mark_24 : decode cX8_mark 24 = .ok (.ifCond .eq 6, 3) := by decide +kernel
theorem dX8_mark_27 : decode cX8_mark 27 = .ok (.ldc 196, 2) := by decide +kernel
theorem dX8_mark_29 : decode cX8_mark 29 = .ok (.ireturn, 1) := by decide +kernel
theorem dX8_mark_30 : decode cX8_mark 30 = .ok (.aload 4, 2) := by decide +kernel
theorem dX8_mark_32 : decode cX8_mark 32 = .ok (.iload_n 2, 1) := by decide +kernel
theorem dX8_mark_33 : decode cX8_mark 33 = .ok (.invokevirtual 238, 3) := by decide +kernel
theorem dX8_mark_36 : decode cX8_mark 36 = .ok (.ifCond .ne 6, 3) := by decide +kernel
theorem dX8_mark_39 : decode cX8_mark 39 = .ok (.ldc 241, 2) := by decide +kernel
theorem dX8_mark_41 : decode cX8_mark 41 = .ok (.ireturn, 1) := by decide +kernel
theorem dX8_mark_42 : decode cX8_mark 42 = .ok (.aload 4, 2) := by decide +kernel
theorem dX8_mark_44 : decode cX8_mark 44 = .ok (.getfield 242, 3) := by decide +kernel
theorem dX8_mark_47 : decode cX8_mark 47 = .ok (.ifCond .ne 23, 3) := by decide +kernel
theorem dX8_mark_50 : decode cX8_mark 50 = .ok (.iload_n 3, 1) := by decide +kernel
theorem dX8_mark_51 : decode cX8_mark 51 = .ok (.ldc 175, 2) := by decide +kernel
theorem dX8_mark_53 : decode cX8_mark 53 = .ok (.if_icmp .ne 6, 3) := by decide +kernel
theorem dX8_mark_56 : decode cX8_mark 56 = .ok (.ldc 128, 2) := by decide +kernel
theorem dX8_mark_58 : decode cX8_mark 58 = .ok (.ireturn, 1) := by decide +kernel
theorem dX8_mark_59 : decode cX8_mark 59 = .ok (.aload 4, 2) := by decide +kernel
theorem dX8_mark_61 : decode cX8_mark 61 = .ok (.getfield 245, 3) := by decide +kernel
theorem dX8_mark_64 : decode cX8_mark 64 = .ok (.iload_n 2, 1) := by decide +kernel
theorem dX8_mark_65 : decode cX8_mark 65 = .ok (.iload_n 3, 1) := by decide +kernel
theorem dX8_mark_66 : decode cX8_mark 66 = .ok (.i2s, 1) := by decide +kernel
theorem dX8_mark_67 : decode cX8_mark 67 = .ok (.iastore, 1) := by decide +kernel
theorem dX8_mark_68 : decode cX8_mark 68 = .ok (.iconst 1, 1) := by decide +kernel
theorem dX8_mark_69 : decode cX8_mark 69 = .ok (.ireturn, 1) := by decide +kernel
theorem dX8_mark_70 : decode cX8_mark 70 = .ok (.iload_n 3, 1) := by decide +kernel
theorem dX8_mark_71 : decode cX8_mark 71 = .ok (.ldc 175, 2) := by decide +kernel
theorem dX8_mark_73 : decode cX8_mark 73 = .ok (.if_icmp .eq 18, 3) := by decide +kernel
theorem dX8_mark_76 : decode cX8_mark 76 = .ok (.iload_n 3, 1) := by decide +kernel
theorem dX8_mark_77 : decode cX8_mark 77 = .ok (.ldc 248, 2) := by decide +kernel
theorem dX8_mark_79 : decode cX8_mark 79 = .ok (.if_icmp .lt 9, 3) := by decide +kernel
theorem dX8_mark_82 : decode cX8_mark 82 = .ok (.iload_n 3, 1) := by decide +kernel
theorem dX8_mark_83 : decode cX8_mark 83 = .ok (.ldc 249, 2) := by decide +kernel
theorem dX8_mark_85 : decode cX8_mark 85 = .ok (.if_icmp .le 6, 3) := by decide +kernel
theorem dX8_mark_88 : decode cX8_mark 88 = .ok (.ldc 81, 2) := by decide +kernel
theorem dX8_mark_90 : decode cX8_mark 90 = .ok (.ireturn, 1) := by decide +kernel
theorem dX8_mark_91 : decode cX8_mark 91 = .ok (.aload 4, 2) := by decide +kernel
theorem dX8_mark_93 : decode cX8_mark 93 = .ok (.getfield 245, 3) := by decide +kernel
theorem dX8_mark_96 : decode cX8_mark 96 = .ok (.iload_n 2, 1) := by decide +kernel
theorem dX8_mark_97 : decode cX8_mark 97 = .ok (.iload_n 3, 1) := by decide +kernel
theorem dX8_mark_98 : decode cX8_mark 98 = .ok (.iastore, 1) := by decide +kernel
theorem dX8_mark_99 : decode cX8_mark 99 = .ok (.iconst 1, 1) := by decide +kernel
theorem dX8_mark_100 : decode cX8_mark 100 = .ok (.ireturn, 1) := by decide +kernel
theorem dX8_pour_0 : decode cX8_pour 0 = .ok (.aload_n 0, 1) := by decide +kernel
theorem dX8_pour_1 : decode cX8_pour 1 = .ok (.iload_n 1, 1) := by decide +kernel
theorem dX8_pour_2 : decode cX8_pour 2 = .ok (.invokevirtual 190, 3) := by decide +kernel
theorem dX8_pour_5 : decode cX8_pour 5 = .ok (.ifCond .ne 6, 3) := by decide +kernel
theorem dX8_pour_8 : decode cX8_pour 8 = .ok (.ldc 81, 2) := by decide +kernel
theorem dX8_pour_10 : decode cX8_pour 10 = .ok (.ireturn, 1) := by decide +kernel
theorem dX8_pour_11 : decode cX8_pour 11 = .ok (.aload_n 0, 1) := by decide +kernel
theorem dX8_pour_12 : decode cX8_pour 12 = .ok (.getfield 56, 3) := by decide +kernel
theorem dX8_pour_15 : decode cX8_pour 15 = .ok (.iload_n 1, 1) := by decide +kernel
theorem dX8_pour_16 : decode cX8_pour 16 = .ok (.aaload, 1) := by decide +kernel
theorem dX8_pour_17 : decode cX8_pour 17 = .ok (.astore_n 2, 1) := by decide +kernel
theorem dX8_pour_18 : decode cX8_pour 18 = .ok (.aload_n 2, 1) := by decide +kernel
theorem dX8_pour_19 : decode cX8_pour 19 = .ok (.invokevirtual 193, 3) := by decide +kernel
theorem dX8_pour_22 : decode cX8_pour 22 = .ok (.ifCond .eq 6, 3) := by decide +kernel
theorem dX8_pour_25 : decode cX8_pour 25 = .ok (.ldc 196, 2) := by decide +kernel
theorem dX8_pour_27 : decode cX8_pour 27 = .ok (.ireturn, 1) := by decide +kernel
theorem dX8_pour_28 : decode cX8_pour 28 = .ok (.iconst 0, 1) := by decide +kernel
theorem dX8_pour_29 : decode cX8_pour 29 = .ok (.istore_n 3, 1) := by decide +kernel
theorem dX8_pour_30 : decode cX8_pour 30 = .ok (.iconst 0, 1) := by decide +kernel
theorem dX8_pour_31 : decode cX8_pour 31 = .ok (.istore 4, 2) := by decide +kernel
theorem dX8_pour_33 : decode cX8_pour 33 = .ok (.iload 4, 2) := by decide +kernel
theorem dX8_pour_35 : decode cX8_pour 35 = .ok (.aload_n 0, 1) := by decide +kernel
theorem dX8_pour_36 : decode cX8_pour 36 = .ok (.getfield 21, 3) := by decide +kernel
theorem dX8_pour_39 : decode cX8_pour 39 = .ok (.getfield 91, 3) := by decide +kernel
theorem dX8_pour_42 : decode cX8_pour 42 = .ok (.if_icmp .ge 62, 3) := by decide +kernel
theorem dX8_pour_45 : decode cX8_pour 45 = .ok (.aload_n 2, 1) := by decide +kernel
theorem dX8_pour_46 : decode cX8_pour 46 = .ok (.iload 4, 2) := by decide +kernel
theorem dX8_pour_48 : decode cX8_pour 48 = .ok (.invokevirtual 250, 3) := by decide +kernel
theorem dX8_pour_51 : decode cX8_pour 51 = .ok (.ifCond .eq 47, 3) := by decide +kernel
theorem dX8_pour_54 : decode cX8_pour 54 = .ok (.aload_n 2, 1) := by decide +kernel
theorem dX8_pour_55 : decode cX8_pour 55 = .ok (.getfield 245, 3) := by decide +kernel
theorem dX8_pour_58 : decode cX8_pour 58 = .ok (.iload 4, 2) := by decide +kernel
theorem dX8_pour_60 : decode cX8_pour 60 = .ok (.iaload, 1) := by decide +kernel
theorem dX8_pour_61 : decode cX8_pour 61 = .ok (.bipush 99, 2) := by decide +kernel
theorem dX8_pour_63 : decode cX8_pour 63 = .ok (.invokestatic 253, 3) := by decide +kernel
theorem dX8_pour_66 : decode cX8_pour 66 = .ok (.istore 5, 2) := by decide +kernel
theorem dX8_pour_68 : decode cX8_pour 68 = .ok (.iload 5, 2) := by decide +kernel
theorem dX8_pour_70 : decode cX8_pour 70 = .ok (.aload_n 0, 1) := by decide +kernel
theorem dX8_pour_71 : decode cX8_pour 71 = .ok (.getfield 21, 3) := by decide +kernel
theorem dX8_pour_74 : decode cX8_pour 74 = .ok (.getfield 104, 3) := by decide +kernel
theorem dX8_pour_77 : decode cX8_pour 77 = .ok (.iload 4, 2) := by decide +kernel
theorem dX8_pour_79 : decode cX8_pour 79 = .ok (.iaload, 1) := by decide +kernel
theorem dX8_pour_80 : decode cX8_pour 80 = .ok (.if_icmp .eq 18, 3) := by decide +kernel
theorem dX8_pour_83 : decode cX8_pour 83 = .ok (.aload_n 0, 1) := by decide +kernel
theorem dX8_pour_84 : decode cX8_pour 84 = .ok (.getfield 21, 3) := by decide +kernel
theorem dX8_pour_87 : decode cX8_pour 87 = .ok (.getfield 104, 3) := by decide +kernel
theorem dX8_pour_90 : decode cX8_pour 90 = .ok (.iload 4, 2) := by decide +kernel
theorem dX8_pour_92 : decode cX8_pour 92 = .ok (.iload 5, 2) := by decide +kernel
theorem dX8_pour_94 : decode cX8_pour 94 = .ok (.iastore, 1) := by decide +kernel
theorem dX8_pour_95 : decode cX8_pour 95 = .ok (.iinc 3 1, 3) := by decide +kernel
theorem dX8_pour_98 : decode cX8_pour 98 = .ok (.iinc 4 1, 3) := by decide +kernel
theorem dX8_pour_101 : decode cX8_pour 101 = .ok (.goto (-68), 3) := by decide +kernel
theorem dX8_pour_104 : decode cX8_pour 104 = .ok (.iload_n 3, 1) := by decide +kernel
theorem dX8_pour_105 : decode cX8_pour 105 = .ok (.ireturn, 1) := by decide +kernel
theorem dX8_reads_0 : decode cX8_reads 0 = .ok (.aload_n 0, 1) := by decide +kernel
theorem dX8_reads_1 : decode cX8_reads 1 = .ok (.iload_n 1, 1) := by decide +kernel
theorem dX8_reads_2 : decode cX8_reads 2 = .ok (.invokevirtual 190, 3) := by decide +kernel
theorem dX8_reads_5 : decode cX8_reads 5 = .ok (.ifCond .ne 6, 3) := by decide +kernel
theorem dX8_reads_8 : decode cX8_reads 8 = .ok (.ldc 81, 2) := by decide +kernel
theorem dX8_reads_10 : decode cX8_reads 10 = .ok (.ireturn, 1) := by decide +kernel
theorem dX8_reads_11 : decode cX8_reads 11 = .ok (.aload_n 0, 1) := by decide +kernel
theorem dX8_reads_12 : decode cX8_reads 12 = .ok (.getfield 56, 3) := by decide +kernel
theorem dX8_reads_15 : decode cX8_reads 15 = .ok (.iload_n 1, 1) := by decide +kernel
theorem dX8_reads_16 : decode cX8_reads 16 = .ok (.aaload, 1) := by decide +kernel
theorem dX8_reads_17 : decode cX8_reads 17 = .ok (.astore_n 2, 1) := by decide +kernel
theorem dX8_reads_18 : decode cX8_reads 18 = .ok (.aload_n 2, 1) := by decide +kernel
theorem dX8_reads_19 : decode cX8_reads 19 = .ok (.invokevirtual 193, 3) := by decide +kernel
theorem dX8_reads_22 : decode cX8_reads 22 = .ok (.ifCond .eq 6, 3) := by decide +kernel
theorem dX8_reads_25 : decode cX8_reads 25 = .ok (.ldc 196, 2) := by decide +kernel
theorem dX8_reads_27 : decode cX8_reads 27 = .ok (.ireturn, 1) := by decide +kernel
theorem dX8_reads_28 : decode cX8_reads 28 = .ok (.iconst 0, 1) := by decide +kernel
theorem dX8_reads_29 : decode cX8_reads 29 = .ok (.istore_n 3, 1) := by decide +kernel
theorem dX8_reads_30 : decode cX8_reads 30 = .ok (.iload_n 3, 1) := by decide +kernel
theorem dX8_reads_31 : decode cX8_reads 31 = .ok (.aload_n 2, 1) := by decide +kernel
theorem dX8_reads_32 : decode cX8_reads 32 = .ok (.getfield 256, 3) := by decide +kernel
theorem dX8_reads_35 : decode cX8_reads 35 = .ok (.if_icmp .ge 48, 3) := by decide +kernel
theorem dX8_reads_38 : decode cX8_reads 38 = .ok (.aload_n 2, 1) := by decide +kernel
theorem dX8_reads_39 : decode cX8_reads 39 = .ok (.iload_n 3, 1) := by decide +kernel
theorem dX8_reads_40 : decode cX8_reads 40 = .ok (.invokevirtual 250, 3) := by decide +kernel
theorem dX8_reads_43 : decode cX8_reads 43 = .ok (.ifCond .eq 34, 3) := by decide +kernel
theorem dX8_reads_46 : decode cX8_reads 46 = .ok (.aload_n 0, 1) := by decide +kernel
theorem dX8_reads_47 : decode cX8_reads 47 = .ok (.getfield 21, 3) := by decide +kernel
theorem dX8_reads_50 : decode cX8_reads 50 = .ok (.iload_n 3, 1) := by decide +kernel
theorem dX8_reads_51 : decode cX8_reads 51 = .ok (.invokevirtual 95, 3) := by decide +kernel
theorem dX8_reads_54 : decode cX8_reads 54 = .ok (.ifCond .eq 21, 3) := by decide +kernel
theorem dX8_reads_57 : decode cX8_reads 57 = .ok (.aload_n 2, 1) := by decide +kernel
theorem dX8_reads_58 : decode cX8_reads 58 = .ok (.getfield 245, 3) := by decide +kernel
theorem dX8_reads_61 : decode cX8_reads 61 = .ok (.iload_n 3, 1) := by decide +kernel
theorem dX8_reads_62 : decode cX8_reads 62 = .ok (.iaload, 1) := by decide +kernel
theorem dX8_reads_63 : decode cX8_reads 63 = .ok (.aload_n 0, 1) := by decide +kernel
theorem dX8_reads_64 : decode cX8_reads 64 = .ok (.getfield 21, 3) := by decide +kernel
theorem dX8_reads_67 : decode cX8_reads 67 = .ok (.getfield 101, 3) := by decide +kernel
theorem dX8_reads_70 : decode cX8_reads 70 = .ok (.iload_n 3, 1) := by decide +kernel
theorem dX8_reads_71 : decode cX8_reads 71 = .ok (.iaload, 1) := by decide +kernel
theorem dX8_reads_72 : decode cX8_reads 72 = .ok (.if_icmp .eq 5, 3) := by decide +kernel
theorem dX8_reads_75 : decode cX8_reads 75 = .ok (.iload_n 3, 1) := by decide +kernel
theorem dX8_reads_76 : decode cX8_reads 76 = .ok (.ireturn, 1) := by decide +kernel
theorem dX8_reads_77 : decode cX8_reads 77 = .ok (.iinc 3 1, 3) := by decide +kernel
theorem dX8_reads_80 : decode cX8_reads 80 = .ok (.goto (-50), 3) := by decide +kernel
theorem dX8_reads_83 : decode cX8_reads 83 = .ok (.ldc 175, 2) := by decide +kernel
theorem dX8_reads_85 : decode cX8_reads 85 = .ok (.ireturn, 1) := by decide +kernel
theorem dX8_copy_0 : decode cX8_copy 0 = .ok (.aload_n 0, 1) := by decide +kernel
theorem dX8_copy_1 : decode cX8_copy 1 = .ok (.iload_n 1, 1) := by decide +kernel
theorem dX8_copy_2 : decode cX8_copy 2 = .ok (.invokevirtual 190, 3) := by decide +kernel
theorem dX8_copy_5 : decode cX8_copy 5 = .ok (.ifCond .eq 11, 3) := by decide +kernel
theorem dX8_copy_8 : decode cX8_copy 8 = .ok (.aload_n 0, 1) := by decide +kernel
theorem dX8_copy_9 : decode cX8_copy 9 = .ok (.iload_n 3, 1) := by decide +kernel
theorem dX8_copy_10 : decode cX8_copy 10 = .ok (.invokevirtual 190, 3) := by decide +kernel
theorem dX8_copy_13 : decode cX8_copy 13 = .ok (.ifCond .ne 6, 3) := by decide +kernel
theorem dX8_copy_16 : decode cX8_copy 16 = .ok (.ldc 81, 2) := by decide +kernel
theorem dX8_copy_18 : decode cX8_copy 18 = .ok (.ireturn, 1) := by decide +kernel
theorem dX8_copy_19 : decode cX8_copy 19 = .ok (.aload_n 0, 1) := by decide +kernel
theorem dX8_copy_20 : decode cX8_copy 20 = .ok (.getfield 56, 3) := by decide +kernel
theorem dX8_copy_23 : decode cX8_copy 23 = .ok (.iload_n 1, 1) := by decide +kernel
theorem dX8_copy_24 : decode cX8_copy 24 = .ok (.aaload, 1) := by decide +kernel
theorem dX8_copy_25 : decode cX8_copy 25 = .ok (.astore 6, 2) := by decide +kernel
theorem dX8_copy_27 : decode cX8_copy 27 = .ok (.aload_n 0, 1) := by decide +kernel
theorem dX8_copy_28 : decode cX8_copy 28 = .ok (.getfield 56, 3) := by decide +kernel
theorem dX8_copy_31 : decode cX8_copy 31 = .ok (.iload_n 3, 1) := by decide +kernel
theorem dX8_copy_32 : decode cX8_copy 32 = .ok (.aaload, 1) := by decide +kernel
theorem dX8_copy_33 : decode cX8_copy 33 = .ok (.astore 7, 2) := by decide +kernel
theorem dX8_copy_35 : decode cX8_copy 35 = .ok (.aload 6, 2) := by decide +kernel
theorem dX8_copy_37 : decode cX8_copy 37 = .ok (.invokevirtual 193, 3) := by decide +kernel
theorem dX8_copy_40 : decode cX8_copy 40 = .ok (.ifCond .ne 11, 3) := by decide +kernel
theorem dX8_copy_43 : decode cX8_copy 43 = .ok (.aload 7, 2) := by decide +kernel
theorem dX8_copy_45 : decode cX8_copy 45 = .ok (.invokevirtual 193, 3) := by decide +kernel
theorem dX8_copy_48 : decode cX8_copy 48 = .ok (.ifCond .eq 6, 3) := by decide +kernel
theorem dX8_copy_51 : decode cX8_copy 51 = .ok (.ldc 196, 2) := by decide +kernel
theorem dX8_copy_53 : decode cX8_copy 53 = .ok (.ireturn, 1) := by decide +kernel
theorem dX8_copy_54 : decode cX8_copy 54 = .ok (.aload 6, 2) := by decide +kernel
theorem dX8_copy_56 : decode cX8_copy 56 = .ok (.getfield 242, 3) := by decide +kernel
theorem dX8_copy_59 : decode cX8_copy 59 = .ok (.aload 7, 2) := by decide +kernel
theorem dX8_copy_61 : decode cX8_copy 61 = .ok (.getfield 242, 3) := by decide +kernel
theorem dX8_copy_64 : decode cX8_copy 64 = .ok (.if_icmp .eq 6, 3) := by decide +kernel
theorem dX8_copy_67 : decode cX8_copy 67 = .ok (.ldc 128, 2) := by decide +kernel
theorem dX8_copy_69 : decode cX8_copy 69 = .ok (.ireturn, 1) := by decide +kernel
theorem dX8_copy_70 : decode cX8_copy 70 = .ok (.aload 6, 2) := by decide +kernel
theorem dX8_copy_72 : decode cX8_copy 72 = .ok (.iload_n 2, 1) := by decide +kernel
theorem dX8_copy_73 : decode cX8_copy 73 = .ok (.iload 5, 2) := by decide +kernel
theorem dX8_copy_75 : decode cX8_copy 75 = .ok (.invokevirtual 259, 3) := by decide +kernel
theorem dX8_copy_78 : decode cX8_copy 78 = .ok (.ifCond .eq 15, 3) := by decide +kernel
theorem dX8_copy_81 : decode cX8_copy 81 = .ok (.aload 7, 2) := by decide +kernel
theorem dX8_copy_83 : decode cX8_copy 83 = .ok (.iload 4, 2) := by decide +kernel
theorem dX8_copy_85 : decode cX8_copy 85 = .ok (.iload 5, 2) := by decide +kernel
theorem dX8_copy_87 : decode cX8_copy 87 = .ok (.invokevirtual 259, 3) := by decide +kernel
theorem dX8_copy_90 : decode cX8_copy 90 = .ok (.ifCond .ne 6, 3) := by decide +kernel
theorem dX8_copy_93 : decode cX8_copy 93 = .ok (.ldc 241, 2) := by decide +kernel
theorem dX8_copy_95 : decode cX8_copy 95 = .ok (.ireturn, 1) := by decide +kernel
theorem dX8_copy_96 : decode cX8_copy 96 = .ok (.aload 6, 2) := by decide +kernel
theorem dX8_copy_98 : decode cX8_copy 98 = .ok (.getfield 245, 3) := by decide +kernel
theorem dX8_copy_101 : decode cX8_copy 101 = .ok (.iload_n 2, 1) := by decide +kernel
theorem dX8_copy_102 : decode cX8_copy 102 = .ok (.aload 7, 2) := by decide +kernel
theorem dX8_copy_104 : decode cX8_copy 104 = .ok (.getfield 245, 3) := by decide +kernel
theorem dX8_copy_107 : decode cX8_copy 107 = .ok (.iload 4, 2) := by decide +kernel
theorem dX8_copy_109 : decode cX8_copy 109 = .ok (.iload 5, 2) := by decide +kernel
theorem dX8_copy_111 : decode cX8_copy 111 = .ok (.invokestatic 262, 3) := by decide +kernel
theorem dX8_copy_114 : decode cX8_copy 114 = .ok (.iload 5, 2) := by decide +kernel
theorem dX8_copy_116 : decode cX8_copy 116 = .ok (.ireturn, 1) := by decide +kernel
theorem dX8_lay_0 : decode cX8_lay 0 = .ok (.aload_n 0, 1) := by decide +kernel
theorem dX8_lay_1 : decode cX8_lay 1 = .ok (.iload_n 1, 1) := by decide +kernel
theorem dX8_lay_2 : decode cX8_lay 2 = .ok (.invokevirtual 268, 3) := by decide +kernel
theorem dX8_lay_5 : decode cX8_lay 5 = .ok (.ifCond .ne 6, 3) := by decide +kernel
theorem dX8_lay_8 : decode cX8_lay 8 = .ok (.ldc 81, 2) := by decide +kernel
theorem dX8_lay_10 : decode cX8_lay 10 = .ok (.ireturn, 1) := by decide +kernel
theorem dX8_lay_11 : decode cX8_lay 11 = .ok (.aload_n 0, 1) := by decide +kernel
theorem dX8_lay_12 : decode cX8_lay 12 = .ok (.getfield 63, 3) := by decide +kernel
theorem dX8_lay_15 : decode cX8_lay 15 = .ok (.iload_n 1, 1) := by decide +kernel
theorem dX8_lay_16 : decode cX8_lay 16 = .ok (.aaload, 1) := by decide +kernel
theorem dX8_lay_17 : decode cX8_lay 17 = .ok (.astore 4, 2) := by decide +kernel
theorem dX8_lay_19 : decode cX8_lay 19 = .ok (.aload 4, 2) := by decide +kernel
theorem dX8_lay_21 : decode cX8_lay 21 = .ok (.getfield 271, 3) := by decide +kernel
theorem dX8_lay_24 : decode cX8_lay 24 = .ok (.istore 5, 2) := by decide +kernel
theorem dX8_lay_26 : decode cX8_lay 26 = .ok (.iload_n 2, 1) := by decide +kernel
theorem dX8_lay_27 : decode cX8_lay 27 = .ok (.tableswitch 127 0 3 #[29, 38, 78, 118], 29) := by decide +kernel
theorem dX8_lay_56 : decode cX8_lay 56 = .ok (.aload 4, 2) := by decide +kernel
theorem dX8_lay_58 : decode cX8_lay 58 = .ok (.iconst 0, 1) := by decide +kernel
theorem dX8_lay_59 : decode cX8_lay 59 = .ok (.putfield 271, 3) := by decide +kernel
theorem dX8_lay_62 : decode cX8_lay 62 = .ok (.iload 5, 2) := by decide +kernel
theorem dX8_lay_64 : decode cX8_lay 64 = .ok (.ireturn, 1) := by decide +kernel
theorem dX8_lay_65 : decode cX8_lay 65 = .ok (.aload_n 0, 1) := by decide +kernel
theorem dX8_lay_66 : decode cX8_lay 66 = .ok (.getfield 21, 3) := by decide +kernel
theorem dX8_lay_69 : decode cX8_lay 69 = .ok (.iload_n 3, 1) := by decide +kernel
theorem dX8_lay_70 : decode cX8_lay 70 = .ok (.invokevirtual 95, 3) := by decide +kernel
theorem dX8_lay_73 : decode cX8_lay 73 = .ok (.ifCond .ne 6, 3) := by decide +kernel
theorem dX8_lay_76 : decode cX8_lay 76 = .ok (.ldc 81, 2) := by decide +kernel
theorem dX8_lay_78 : decode cX8_lay 78 = .ok (.ireturn, 1) := by decide +kernel
theorem dX8_lay_79 : decode cX8_lay 79 = .ok (.aload 4, 2) := by decide +kernel
theorem dX8_lay_81 : decode cX8_lay 81 = .ok (.aload_n 0, 1) := by decide +kernel
theorem dX8_lay_82 : decode cX8_lay 82 = .ok (.getfield 21, 3) := by decide +kernel
theorem dX8_lay_85 : decode cX8_lay 85 = .ok (.getfield 98, 3) := by decide +kernel
theorem dX8_lay_88 : decode cX8_lay 88 = .ok (.iload_n 3, 1) := by decide +kernel
theorem dX8_lay_89 : decode cX8_lay 89 = .ok (.iaload, 1) := by decide +kernel
theorem dX8_lay_90 : decode cX8_lay 90 = .ok (.aload_n 0, 1) := by decide +kernel
theorem dX8_lay_91 : decode cX8_lay 91 = .ok (.getfield 21, 3) := by decide +kernel
theorem dX8_lay_94 : decode cX8_lay 94 = .ok (.getfield 101, 3) := by decide +kernel
theorem dX8_lay_97 : decode cX8_lay 97 = .ok (.iload_n 3, 1) := by decide +kernel
theorem dX8_lay_98 : decode cX8_lay 98 = .ok (.iaload, 1) := by decide +kernel
theorem dX8_lay_99 : decode cX8_lay 99 = .ok (.invokevirtual 274, 3) := by decide +kernel
theorem dX8_lay_102 : decode cX8_lay 102 = .ok (.iload 5, 2) := by decide +kernel
theorem dX8_lay_104 : decode cX8_lay 104 = .ok (.ireturn, 1) := by decide +kernel
theorem dX8_lay_105 : decode cX8_lay 105 = .ok (.aload_n 0, 1) := by decide +kernel
theorem dX8_lay_106 : decode cX8_lay 106 = .ok (.iload_n 3, 1) := by decide +kernel
theorem dX8_lay_107 : decode cX8_lay 107 = .ok (.invokevirtual 190, 3) := by decide +kernel
theorem dX8_lay_110 : decode cX8_lay 110 = .ok (.ifCond .ne 6, 3) := by decide +kernel
theorem dX8_lay_113 : decode cX8_lay 113 = .ok (.ldc 81, 2) := by decide +kernel
theorem dX8_lay_115 : decode cX8_lay 115 = .ok (.ireturn, 1) := by decide +kernel
theorem dX8_lay_116 : decode cX8_lay 116 = .ok (.aload_n 0, 1) := by decide +kernel
theorem dX8_lay_117 : decode cX8_lay 117 = .ok (.getfield 56, 3) := by decide +kernel
theorem dX8_lay_120 : decode cX8_lay 120 = .ok (.iload_n 3, 1) := by decide +kernel
theorem dX8_lay_121 : decode cX8_lay 121 = .ok (.aaload, 1) := by decide +kernel
theorem dX8_lay_122 : decode cX8_lay 122 = .ok (.invokevirtual 193, 3) := by decide +kernel
theorem dX8_lay_125 : decode cX8_lay 125 = .ok (.ifCond .eq 6, 3) := by decide +kernel
theorem dX8_lay_128 : decode cX8_lay 128 = .ok (.ldc 196, 2) := by decide +kernel
theorem dX8_lay_130 : decode cX8_lay 130 = .ok (.ireturn, 1) := by decide +kernel
theorem dX8_lay_131 : decode cX8_lay 131 = .ok (.aload 4, 2) := by decide +kernel
theorem dX8_lay_133 : decode cX8_lay 133 = .ok (.aload_n 0, 1) := by decide +kernel
theorem dX8_lay_134 : decode cX8_lay 134 = .ok (.getfield 56, 3) := by decide +kernel
theorem dX8_lay_137 : decode cX8_lay 137 = .ok (.iload_n 3, 1) := by decide +kernel
theorem dX8_lay_138 : decode cX8_lay 138 = .ok (.aaload, 1) := by decide +kernel
theorem dX8_lay_139 : decode cX8_lay 139 = .ok (.invokevirtual 277, 3) := by decide +kernel
theorem dX8_lay_142 : decode cX8_lay 142 = .ok (.iload 5, 2) := by decide +kernel
theorem dX8_lay_144 : decode cX8_lay 144 = .ok (.ireturn, 1) := by decide +kernel
theorem dX8_lay_145 : decode cX8_lay 145 = .ok (.aload 4, 2) := by decide +kernel
theorem dX8_lay_147 : decode cX8_lay 147 = .ok (.iload_n 3, 1) := by decide +kernel
theorem dX8_lay_148 : decode cX8_lay 148 = .ok (.invokevirtual 281, 3) := by decide +kernel
theorem dX8_lay_151 : decode cX8_lay 151 = .ok (.iload 5, 2) := by decide +kernel
theorem dX8_lay_153 : decode cX8_lay 153 = .ok (.ireturn, 1) := by decide +kernel
theorem dX8_lay_154 : decode cX8_lay 154 = .ok (.ldc 81, 2) := by decide +kernel
theorem dX8_lay_156 : decode cX8_lay 156 = .ok (.ireturn, 1) := by decide +kernel
theorem dX8_ask_0 : decode cX8_ask 0 = .ok (.aload_n 0, 1) := by decide +kernel
theorem dX8_ask_1 : decode cX8_ask 1 = .ok (.iload_n 1, 1) := by decide +kernel
theorem dX8_ask_2 : decode cX8_ask 2 = .ok (.invokevirtual 268, 3) := by decide +kernel
theorem dX8_ask_5 : decode cX8_ask 5 = .ok (.ifCond .eq 10, 3) := by decide +kernel
theorem dX8_ask_8 : decode cX8_ask 8 = .ok (.iload_n 2, 1) := by decide +kernel
theorem dX8_ask_9 : decode cX8_ask 9 = .ok (.invokestatic 72, 3) := by decide +kernel
theorem dX8_ask_12 : decode cX8_ask 12 = .ok (.ifCond .ne 6, 3) := by decide +kernel
theorem dX8_ask_15 : decode cX8_ask 15 = .ok (.ldc 81, 2) := by decide +kernel
theorem dX8_ask_17 : decode cX8_ask 17 = .ok (.ireturn, 1) := by decide +kernel
theorem dX8_ask_18 : decode cX8_ask 18 = .ok (.aload_n 0, 1) := by decide +kernel
theorem dX8_ask_19 : decode cX8_ask 19 = .ok (.getfield 63, 3) := by decide +kernel
theorem dX8_ask_22 : decode cX8_ask 22 = .ok (.iload_n 1, 1) := by decide +kernel
theorem dX8_ask_23 : decode cX8_ask 23 = .ok (.aaload, 1) := by decide +kernel
theorem dX8_ask_24 : decode cX8_ask 24 = .ok (.astore_n 3, 1) := by decide +kernel
theorem dX8_ask_25 : decode cX8_ask 25 = .ok (.aload_n 3, 1) := by decide +kernel
theorem dX8_ask_26 : decode cX8_ask 26 = .ok (.getfield 271, 3) := by decide +kernel
theorem dX8_ask_29 : decode cX8_ask 29 = .ok (.ifCond .ne 6, 3) := by decide +kernel
theorem dX8_ask_32 : decode cX8_ask 32 = .ok (.ldc 196, 2) := by decide +kernel
theorem dX8_ask_34 : decode cX8_ask 34 = .ok (.ireturn, 1) := by decide +kernel
theorem dX8_ask_35 : decode cX8_ask 35 = .ok (.aload_n 3, 1) := by decide +kernel
theorem dX8_ask_36 : decode cX8_ask 36 = .ok (.getfield 271, 3) := by decide +kernel
theorem dX8_ask_39 : decode cX8_ask 39 = .ok (.iconst 1, 1) := by decide +kernel
theorem dX8_ask_40 : decode cX8_ask 40 = .ok (.if_icmp .ne 14, 3) := by decide +kernel
theorem dX8_ask_43 : decode cX8_ask 43 = .ok (.aload_n 3, 1) := by decide +kernel
theorem dX8_ask_44 : decode cX8_ask 44 = .ok (.getfield 284, 3) := by decide +kernel
theorem dX8_ask_47 : decode cX8_ask 47 = .ok (.iload_n 2, 1) := by decide +kernel
theorem dX8_ask_48 : decode cX8_ask 48 = .ok (.invokestatic 124, 3) := by decide +kernel
theorem dX8_ask_51 : decode cX8_ask 51 = .ok (.ifCond .ne 6, 3) := by decide +kernel
theorem dX8_ask_54 : decode cX8_ask 54 = .ok (.ldc 128, 2) := by decide +kernel
theorem dX8_ask_56 : decode cX8_ask 56 = .ok (.ireturn, 1) := by decide +kernel
theorem dX8_ask_57 : decode cX8_ask 57 = .ok (.aload_n 3, 1) := by decide +kernel
theorem dX8_ask_58 : decode cX8_ask 58 = .ok (.getfield 284, 3) := by decide +kernel
theorem dX8_ask_61 : decode cX8_ask 61 = .ok (.aload_n 3, 1) := by decide +kernel
theorem dX8_ask_62 : decode cX8_ask 62 = .ok (.getfield 286, 3) := by decide +kernel
theorem dX8_ask_65 : decode cX8_ask 65 = .ok (.invokestatic 121, 3) := by decide +kernel
theorem dX8_ask_68 : decode cX8_ask 68 = .ok (.ireturn, 1) := by decide +kernel
theorem dX8_item_0 : decode cX8_item 0 = .ok (.aload_n 0, 1) := by decide +kernel
theorem dX8_item_1 : decode cX8_item 1 = .ok (.iload_n 1, 1) := by decide +kernel
theorem dX8_item_2 : decode cX8_item 2 = .ok (.invokevirtual 268, 3) := by decide +kernel
theorem dX8_item_5 : decode cX8_item 5 = .ok (.ifCond .ne 6, 3) := by decide +kernel
theorem dX8_item_8 : decode cX8_item 8 = .ok (.ldc 81, 2) := by decide +kernel
theorem dX8_item_10 : decode cX8_item 10 = .ok (.ireturn, 1) := by decide +kernel
theorem dX8_item_11 : decode cX8_item 11 = .ok (.aload_n 0, 1) := by decide +kernel
theorem dX8_item_12 : decode cX8_item 12 = .ok (.getfield 63, 3) := by decide +kernel
theorem dX8_item_15 : decode cX8_item 15 = .ok (.iload_n 1, 1) := by decide +kernel
theorem dX8_item_16 : decode cX8_item 16 = .ok (.aaload, 1) := by decide +kernel
theorem dX8_item_17 : decode cX8_item 17 = .ok (.astore_n 3, 1) := by decide +kernel
theorem dX8_item_18 : decode cX8_item 18 = .ok (.aload_n 3, 1) := by decide +kernel
theorem dX8_item_19 : decode cX8_item 19 = .ok (.getfield 271, 3) := by decide +kernel
theorem dX8_item_22 : decode cX8_item 22 = .ok (.ifCond .ne 6, 3) := by decide +kernel
theorem dX8_item_25 : decode cX8_item 25 = .ok (.ldc 196, 2) := by decide +kernel
theorem dX8_item_27 : decode cX8_item 27 = .ok (.ireturn, 1) := by decide +kernel
theorem dX8_item_28 : decode cX8_item 28 = .ok (.aload_n 3, 1) := by decide +kernel
theorem dX8_item_29 : decode cX8_item 29 = .ok (.getfield 271, 3) := by decide +kernel
theorem dX8_item_32 : decode cX8_item 32 = .ok (.iconst 2, 1) := by decide +kernel
theorem dX8_item_33 : decode cX8_item 33 = .ok (.if_icmp .eq 6, 3) := by decide +kernel
theorem dX8_item_36 : decode cX8_item 36 = .ok (.ldc 128, 2) := by decide +kernel
theorem dX8_item_38 : decode cX8_item 38 = .ok (.ireturn, 1) := by decide +kernel
theorem dX8_item_39 : decode cX8_item 39 = .ok (.aload_n 3, 1) := by decide +kernel
theorem dX8_item_40 : decode cX8_item 40 = .ok (.getfield 288, 3) := by decide +kernel
theorem dX8_item_43 : decode cX8_item 43 = .ok (.iload_n 2, 1) := by decide +kernel
theorem dX8_item_44 : decode cX8_item 44 = .ok (.invokevirtual 238, 3) := by decide +kernel
theorem dX8_item_47 : decode cX8_item 47 = .ok (.ifCond .ne 6, 3) := by decide +kernel
theorem dX8_item_50 : decode cX8_item 50 = .ok (.ldc 241, 2) := by decide +kernel
theorem dX8_item_52 : decode cX8_item 52 = .ok (.ireturn, 1) := by decide +kernel
theorem dX8_item_53 : decode cX8_item 53 = .ok (.aload_n 3, 1) := by decide +kernel
theorem dX8_item_54 : decode cX8_item 54 = .ok (.getfield 288, 3) := by decide +kernel
theorem dX8_item_57 : decode cX8_item 57 = .ok (.iload_n 2, 1) := by decide +kernel
theorem dX8_item_58 : decode cX8_item 58 = .ok (.invokevirtual 250, 3) := by decide +kernel
theorem dX8_item_61 : decode cX8_item 61 = .ok (.ifCond .eq 15, 3) := by decide +kernel
theorem dX8_item_64 : decode cX8_item 64 = .ok (.aload_n 3, 1) := by decide +kernel
theorem dX8_item_65 : decode cX8_item 65 = .ok (.getfield 288, 3) := by decide +kernel
theorem dX8_item_68 : decode cX8_item 68 = .ok (.getfield 245, 3) := by decide +kernel
theorem dX8_item_71 : decode cX8_item 71 = .ok (.iload_n 2, 1) := by decide +kernel
theorem dX8_item_72 : decode cX8_item 72 = .ok (.iaload, 1) := by decide +kernel
theorem dX8_item_73 : decode cX8_item 73 = .ok (.goto 5, 3) := by decide +kernel
theorem dX8_item_76 : decode cX8_item 76 = .ok (.ldc 128, 2) := by decide +kernel
theorem dX8_item_78 : decode cX8_item 78 = .ok (.ireturn, 1) := by decide +kernel
theorem dX8_rest_0 : decode cX8_rest 0 = .ok (.aload_n 0, 1) := by decide +kernel
theorem dX8_rest_1 : decode cX8_rest 1 = .ok (.iload_n 1, 1) := by decide +kernel
theorem dX8_rest_2 : decode cX8_rest 2 = .ok (.invokevirtual 268, 3) := by decide +kernel
theorem dX8_rest_5 : decode cX8_rest 5 = .ok (.ifCond .ne 6, 3) := by decide +kernel
theorem dX8_rest_8 : decode cX8_rest 8 = .ok (.ldc 81, 2) := by decide +kernel
theorem dX8_rest_10 : decode cX8_rest 10 = .ok (.ireturn, 1) := by decide +kernel
theorem dX8_rest_11 : decode cX8_rest 11 = .ok (.aload_n 0, 1) := by decide +kernel
theorem dX8_rest_12 : decode cX8_rest 12 = .ok (.getfield 63, 3) := by decide +kernel
theorem dX8_rest_15 : decode cX8_rest 15 = .ok (.iload_n 1, 1) := by decide +kernel
theorem dX8_rest_16 : decode cX8_rest 16 = .ok (.aaload, 1) := by decide +kernel
theorem dX8_rest_17 : decode cX8_rest 17 = .ok (.astore_n 3, 1) := by decide +kernel
theorem dX8_rest_18 : decode cX8_rest 18 = .ok (.aload_n 3, 1) := by decide +kernel
theorem dX8_rest_19 : decode cX8_rest 19 = .ok (.getfield 271, 3) := by decide +kernel
theorem dX8_rest_22 : decode cX8_rest 22 = .ok (.ifCond .ne 6, 3) := by decide +kernel
theorem dX8_rest_25 : decode cX8_rest 25 = .ok (.ldc 196, 2) := by decide +kernel
theorem dX8_rest_27 : decode cX8_rest 27 = .ok (.ireturn, 1) := by decide +kernel
theorem dX8_rest_28 : decode cX8_rest 28 = .ok (.aload_n 3, 1) := by decide +kernel
theorem dX8_rest_29 : decode cX8_rest 29 = .ok (.getfield 271, 3) := by decide +kernel
theorem dX8_rest_32 : decode cX8_rest 32 = .ok (.iconst 3, 1) := by decide +kernel
theorem dX8_rest_33 : decode cX8_rest 33 = .ok (.if_icmp .eq 6, 3) := by decide +kernel
theorem dX8_rest_36 : decode cX8_rest 36 = .ok (.ldc 128, 2) := by decide +kernel
theorem dX8_rest_38 : decode cX8_rest 38 = .ok (.ireturn, 1) := by decide +kernel
theorem dX8_rest_39 : decode cX8_rest 39 = .ok (.iload_n 2, 1) := by decide +kernel
theorem dX8_rest_40 : decode cX8_rest 40 = .ok (.ifCond .ne 6, 3) := by decide +kernel
theorem dX8_rest_43 : decode cX8_rest 43 = .ok (.ldc 132, 2) := by decide +kernel
theorem dX8_rest_45 : decode cX8_rest 45 = .ok (.ireturn, 1) := by decide +kernel
theorem dX8_rest_46 : decode cX8_rest 46 = .ok (.aload_n 3, 1) := by decide +kernel
theorem dX8_rest_47 : decode cX8_rest 47 = .ok (.getfield 292, 3) := by decide +kernel
theorem dX8_rest_50 : decode cX8_rest 50 = .ok (.iload_n 2, 1) := by decide +kernel
theorem dX8_rest_51 : decode cX8_rest 51 = .ok (.irem, 1) := by decide +kernel
theorem dX8_rest_52 : decode cX8_rest 52 = .ok (.ireturn, 1) := by decide +kernel
theorem dX8_tell_0 : decode cX8_tell 0 = .ok (.aload_n 0, 1) := by decide +kernel
theorem dX8_tell_1 : decode cX8_tell 1 = .ok (.getfield 295, 3) := by decide +kernel
theorem dX8_tell_4 : decode cX8_tell 4 = .ok (.bipush 60, 2) := by decide +kernel
theorem dX8_tell_6 : decode cX8_tell 6 = .ok (.if_icmp .lt 6, 3) := by decide +kernel
theorem dX8_tell_9 : decode cX8_tell 9 = .ok (.ldc 86, 2) := by decide +kernel
theorem dX8_tell_11 : decode cX8_tell 11 = .ok (.ireturn, 1) := by decide +kernel
theorem dX8_tell_12 : decode cX8_tell 12 = .ok (.aload_n 0, 1) := by decide +kernel
theorem dX8_tell_13 : decode cX8_tell 13 = .ok (.getfield 68, 3) := by decide +kernel
theorem dX8_tell_16 : decode cX8_tell 16 = .ok (.aload_n 0, 1) := by decide +kernel
theorem dX8_tell_17 : decode cX8_tell 17 = .ok (.getfield 295, 3) := by decide +kernel
theorem dX8_tell_20 : decode cX8_tell 20 = .ok (.iload_n 1, 1) := by decide +kernel
theorem dX8_tell_21 : decode cX8_tell 21 = .ok (.iastore, 1) := by decide +kernel
theorem dX8_tell_22 : decode cX8_tell 22 = .ok (.aload_n 0, 1) := by decide +kernel
theorem dX8_tell_23 : decode cX8_tell 23 = .ok (.dup, 1) := by decide +kernel
theorem dX8_tell_24 : decode cX8_tell 24 = .ok (.getfield 295, 3) := by decide +kernel
theorem dX8_tell_27 : decode cX8_tell 27 = .ok (.iconst 1, 1) := by decide +kernel
theorem dX8_tell_28 : decode cX8_tell 28 = .ok (.iadd, 1) := by decide +kernel
theorem dX8_tell_29 : decode cX8_tell 29 = .ok (.putfield 295, 3) := by decide +kernel
theorem dX8_tell_32 : decode cX8_tell 32 = .ok (.aload_n 0, 1) := by decide +kernel
theorem dX8_tell_33 : decode cX8_tell 33 = .ok (.getfield 295, 3) := by decide +kernel
theorem dX8_tell_36 : decode cX8_tell 36 = .ok (.ireturn, 1) := by decide +kernel
theorem dX8_check_0 : decode cX8_check 0 = .ok (.aload_n 0, 1) := by decide +kernel
theorem dX8_check_1 : decode cX8_check 1 = .ok (.getfield 295, 3) := by decide +kernel
theorem dX8_check_4 : decode cX8_check 4 = .ok (.istore_n 2, 1) := by decide +kernel
theorem dX8_check_5 : decode cX8_check 5 = .ok (.aload_n 0, 1) := by decide +kernel
theorem dX8_check_6 : decode cX8_check 6 = .ok (.iconst 0, 1) := by decide +kernel
theorem dX8_check_7 : decode cX8_check 7 = .ok (.putfield 295, 3) := by decide +kernel
theorem dX8_check_10 : decode cX8_check 10 = .ok (.iload_n 1, 1) := by decide +kernel
theorem dX8_check_11 : decode cX8_check 11 = .ok (.iconst 1, 1) := by decide +kernel
theorem dX8_check_12 : decode cX8_check 12 = .ok (.if_icmp .lt 9, 3) := by decide +kernel
theorem dX8_check_15 : decode cX8_check 15 = .ok (.iload_n 1, 1) := by decide +kernel
theorem dX8_check_16 : decode cX8_check 16 = .ok (.bipush 30, 2) := by decide +kernel
theorem dX8_check_18 : decode cX8_check 18 = .ok (.if_icmp .le 6, 3) := by decide +kernel
theorem dX8_check_21 : decode cX8_check 21 = .ok (.ldc 81, 2) := by decide +kernel
theorem dX8_check_23 : decode cX8_check 23 = .ok (.ireturn, 1) := by decide +kernel
theorem dX8_check_24 : decode cX8_check 24 = .ok (.aload_n 0, 1) := by decide +kernel
theorem dX8_check_25 : decode cX8_check 25 = .ok (.getfield 298, 3) := by decide +kernel
theorem dX8_check_28 : decode cX8_check 28 = .ok (.ifCond .ne 6, 3) := by decide +kernel
theorem dX8_check_31 : decode cX8_check 31 = .ok (.ldc 132, 2) := by decide +kernel
theorem dX8_check_33 : decode cX8_check 33 = .ok (.ireturn, 1) := by decide +kernel
theorem dX8_check_34 : decode cX8_check 34 = .ok (.aload_n 0, 1) := by decide +kernel
theorem dX8_check_35 : decode cX8_check 35 = .ok (.getfield 28, 3) := by decide +kernel
theorem dX8_check_38 : decode cX8_check 38 = .ok (.aload_n 0, 1) := by decide +kernel
theorem dX8_check_39 : decode cX8_check 39 = .ok (.getfield 25, 3) := by decide +kernel
theorem dX8_check_42 : decode cX8_check 42 = .ok (.invokevirtual 179, 3) := by decide +kernel
theorem dX8_check_45 : decode cX8_check 45 = .ok (.iconst 0, 1) := by decide +kernel
theorem dX8_check_46 : decode cX8_check 46 = .ok (.istore_n 3, 1) := by decide +kernel
theorem dX8_check_47 : decode cX8_check 47 = .ok (.iconst 0, 1) := by decide +kernel
theorem dX8_check_48 : decode cX8_check 48 = .ok (.istore 4, 2) := by decide +kernel
theorem dX8_check_50 : decode cX8_check 50 = .ok (.iload 4, 2) := by decide +kernel
theorem dX8_check_52 : decode cX8_check 52 = .ok (.iload_n 1, 1) := by decide +kernel
theorem dX8_check_53 : decode cX8_check 53 = .ok (.if_icmp .ge 75, 3) := by decide +kernel
theorem dX8_check_56 : decode cX8_check 56 = .ok (.aload_n 0, 1) := by decide +kernel
theorem dX8_check_57 : decode cX8_check 57 = .ok (.getfield 28, 3) := by decide +kernel
theorem dX8_check_60 : decode cX8_check 60 = .ok (.getfield 149, 3) := by decide +kernel
theorem dX8_check_63 : decode cX8_check 63 = .ok (.sipush 9999, 3) := by decide +kernel
theorem dX8_check_66 : decode cX8_check 66 = .ok (.if_icmp .ge 62, 3) := by decide +kernel
theorem dX8_check_69 : decode cX8_check 69 = .ok (.aload_n 0, 1) := by decide +kernel
theorem dX8_check_70 : decode cX8_check 70 = .ok (.getfield 28, 3) := by decide +kernel
theorem dX8_check_73 : decode cX8_check 73 = .ok (.invokevirtual 152, 3) := by decide +kernel
theorem dX8_check_76 : decode cX8_check 76 = .ok (.aload_n 0, 1) := by decide +kernel
theorem dX8_check_77 : decode cX8_check 77 = .ok (.iload_n 3, 1) := by decide +kernel
theorem dX8_check_78 : decode cX8_check 78 = .ok (.iload_n 2, 1) := by decide +kernel
theorem dX8_check_79 : decode cX8_check 79 = .ok (.aload_n 0, 1) := by decide +kernel
theorem dX8_check_80 : decode cX8_check 80 = .ok (.getfield 28, 3) := by decide +kernel
theorem dX8_check_83 : decode cX8_check 83 = .ok (.getfield 146, 3) := by decide +kernel
theorem dX8_check_86 : decode cX8_check 86 = .ok (.invokevirtual 302, 3) := by decide +kernel
theorem dX8_check_89 : decode cX8_check 89 = .ok (.ifCond .ne 7, 3) := by decide +kernel
theorem dX8_check_92 : decode cX8_check 92 = .ok (.iconst 1, 1) := by decide +kernel
theorem dX8_check_93 : decode cX8_check 93 = .ok (.iload_n 3, 1) := by decide +kernel
theorem dX8_check_94 : decode cX8_check 94 = .ok (.iadd, 1) := by decide +kernel
theorem dX8_check_95 : decode cX8_check 95 = .ok (.ireturn, 1) := by decide +kernel
theorem dX8_check_96 : decode cX8_check 96 = .ok (.iinc 3 1, 3) := by decide +kernel
theorem dX8_check_99 : decode cX8_check 99 = .ok (.aload_n 0, 1) := by decide +kernel
theorem dX8_check_100 : decode cX8_check 100 = .ok (.iload_n 3, 1) := by decide +kernel
theorem dX8_check_101 : decode cX8_check 101 = .ok (.iload_n 2, 1) := by decide +kernel
theorem dX8_check_102 : decode cX8_check 102 = .ok (.aload_n 0, 1) := by decide +kernel
theorem dX8_check_103 : decode cX8_check 103 = .ok (.getfield 28, 3) := by decide +kernel
theorem dX8_check_106 : decode cX8_check 106 = .ok (.invokevirtual 161, 3) := by decide +kernel
theorem dX8_check_109 : decode cX8_check 109 = .ok (.invokevirtual 302, 3) := by decide +kernel
theorem dX8_check_112 : decode cX8_check 112 = .ok (.ifCond .ne 7, 3) := by decide +kernel
theorem dX8_check_115 : decode cX8_check 115 = .ok (.iconst 1, 1) := by decide +kernel
theorem dX8_check_116 : decode cX8_check 116 = .ok (.iload_n 3, 1) := by decide +kernel
theorem dX8_check_117 : decode cX8_check 117 = .ok (.iadd, 1) := by decide +kernel
theorem dX8_check_118 : decode cX8_check 118 = .ok (.ireturn, 1) := by decide +kernel
theorem dX8_check_119 : decode cX8_check 119 = .ok (.iinc 3 1, 3) := by decide +kernel
theorem dX8_check_122 : decode cX8_check 122 = .ok (.iinc 4 1, 3) := by decide +kernel
theorem dX8_check_125 : decode cX8_check 125 = .ok (.goto (-75), 3) := by decide +kernel
theorem dX8_check_128 : decode cX8_check 128 = .ok (.iload_n 2, 1) := by decide +kernel
theorem dX8_check_129 : decode cX8_check 129 = .ok (.iload_n 3, 1) := by decide +kernel
theorem dX8_check_130 : decode cX8_check 130 = .ok (.if_icmp .ne 7, 3) := by decide +kernel
theorem dX8_check_133 : decode cX8_check 133 = .ok (.iconst 0, 1) := by decide +kernel
theorem dX8_check_134 : decode cX8_check 134 = .ok (.goto 6, 3) := by decide +kernel
theorem dX8_check_137 : decode cX8_check 137 = .ok (.iconst 1, 1) := by decide +kernel
theorem dX8_check_138 : decode cX8_check 138 = .ok (.iload_n 3, 1) := by decide +kernel
theorem dX8_check_139 : decode cX8_check 139 = .ok (.iadd, 1) := by decide +kernel
theorem dX8_check_140 : decode cX8_check 140 = .ok (.ireturn, 1) := by decide +kernel
theorem dX8_keep_0 : decode cX8_keep 0 = .ok (.aload_n 0, 1) := by decide +kernel
theorem dX8_keep_1 : decode cX8_keep 1 = .ok (.getfield 25, 3) := by decide +kernel
theorem dX8_keep_4 : decode cX8_keep 4 = .ok (.aload_n 0, 1) := by decide +kernel
theorem dX8_keep_5 : decode cX8_keep 5 = .ok (.getfield 21, 3) := by decide +kernel
theorem dX8_keep_8 : decode cX8_keep 8 = .ok (.invokevirtual 179, 3) := by decide +kernel
theorem dX8_keep_11 : decode cX8_keep 11 = .ok (.aload_n 0, 1) := by decide +kernel
theorem dX8_keep_12 : decode cX8_keep 12 = .ok (.iconst 1, 1) := by decide +kernel
theorem dX8_keep_13 : decode cX8_keep 13 = .ok (.putfield 298, 3) := by decide +kernel
theorem dX8_keep_16 : decode cX8_keep 16 = .ok (.aload_n 0, 1) := by decide +kernel
theorem dX8_keep_17 : decode cX8_keep 17 = .ok (.getfield 25, 3) := by decide +kernel
theorem dX8_keep_20 : decode cX8_keep 20 = .ok (.getfield 91, 3) := by decide +kernel
theorem dX8_keep_23 : decode cX8_keep 23 = .ok (.ireturn, 1) := by decide +kernel
theorem dX8_back_0 : decode cX8_back 0 = .ok (.aload_n 0, 1) := by decide +kernel
theorem dX8_back_1 : decode cX8_back 1 = .ok (.getfield 298, 3) := by decide +kernel
theorem dX8_back_4 : decode cX8_back 4 = .ok (.ifCond .ne 6, 3) := by decide +kernel
theorem dX8_back_7 : decode cX8_back 7 = .ok (.ldc 132, 2) := by decide +kernel
theorem dX8_back_9 : decode cX8_back 9 = .ok (.ireturn, 1) := by decide +kernel
theorem dX8_back_10 : decode cX8_back 10 = .ok (.aload_n 0, 1) := by decide +kernel
theorem dX8_back_11 : decode cX8_back 11 = .ok (.getfield 21, 3) := by decide +kernel
theorem dX8_back_14 : decode cX8_back 14 = .ok (.aload_n 0, 1) := by decide +kernel
theorem dX8_back_15 : decode cX8_back 15 = .ok (.getfield 25, 3) := by decide +kernel
theorem dX8_back_18 : decode cX8_back 18 = .ok (.invokevirtual 179, 3) := by decide +kernel
theorem dX8_back_21 : decode cX8_back 21 = .ok (.aload_n 0, 1) := by decide +kernel
theorem dX8_back_22 : decode cX8_back 22 = .ok (.getfield 21, 3) := by decide +kernel
theorem dX8_back_25 : decode cX8_back 25 = .ok (.getfield 91, 3) := by decide +kernel
theorem dX8_back_28 : decode cX8_back 28 = .ok (.ireturn, 1) := by decide +kernel
theorem dX8_count_0 : decode cX8_count 0 = .ok (.iload_n 1, 1) := by decide +kernel
theorem dX8_count_1 : decode cX8_count 1 = .ok (.tableswitch 108 0 8 #[51, 59, 67, 67, 67, 79, 87, 92, 100], 51) := by decide +kernel
theorem dX8_count_52 : decode cX8_count 52 = .ok (.aload_n 0, 1) := by decide +kernel
theorem dX8_count_53 : decode cX8_count 53 = .ok (.getfield 21, 3) := by decide +kernel
theorem dX8_count_56 : decode cX8_count 56 = .ok (.getfield 91, 3) := by decide +kernel
theorem dX8_count_59 : decode cX8_count 59 = .ok (.ireturn, 1) := by decide +kernel
theorem dX8_count_60 : decode cX8_count 60 = .ok (.aload_n 0, 1) := by decide +kernel
theorem dX8_count_61 : decode cX8_count 61 = .ok (.getfield 21, 3) := by decide +kernel
theorem dX8_count_64 : decode cX8_count 64 = .ok (.getfield 149, 3) := by decide +kernel
theorem dX8_count_67 : decode cX8_count 67 = .ok (.ireturn, 1) := by decide +kernel
theorem dX8_count_68 : decode cX8_count 68 = .ok (.aload_n 0, 1) := by decide +kernel
theorem dX8_count_69 : decode cX8_count 69 = .ok (.getfield 21, 3) := by decide +kernel
theorem dX8_count_72 : decode cX8_count 72 = .ok (.getfield 137, 3) := by decide +kernel
theorem dX8_count_75 : decode cX8_count 75 = .ok (.iload_n 1, 1) := by decide +kernel
theorem dX8_count_76 : decode cX8_count 76 = .ok (.iconst 2, 1) := by decide +kernel
theorem dX8_count_77 : decode cX8_count 77 = .ok (.isub, 1) := by decide +kernel
theorem dX8_count_78 : decode cX8_count 78 = .ok (.iaload, 1) := by decide +kernel
theorem dX8_count_79 : decode cX8_count 79 = .ok (.ireturn, 1) := by decide +kernel
theorem dX8_count_80 : decode cX8_count 80 = .ok (.aload_n 0, 1) := by decide +kernel
theorem dX8_count_81 : decode cX8_count 81 = .ok (.getfield 21, 3) := by decide +kernel
theorem dX8_count_84 : decode cX8_count 84 = .ok (.getfield 216, 3) := by decide +kernel
theorem dX8_count_87 : decode cX8_count 87 = .ok (.ireturn, 1) := by decide +kernel
theorem dX8_count_88 : decode cX8_count 88 = .ok (.aload_n 0, 1) := by decide +kernel
theorem dX8_count_89 : decode cX8_count 89 = .ok (.getfield 295, 3) := by decide +kernel
theorem dX8_count_92 : decode cX8_count 92 = .ok (.ireturn, 1) := by decide +kernel
theorem dX8_count_93 : decode cX8_count 93 = .ok (.aload_n 0, 1) := by decide +kernel
theorem dX8_count_94 : decode cX8_count 94 = .ok (.getfield 41, 3) := by decide +kernel
theorem dX8_count_97 : decode cX8_count 97 = .ok (.getfield 208, 3) := by decide +kernel
theorem dX8_count_100 : decode cX8_count 100 = .ok (.ireturn, 1) := by decide +kernel
theorem dX8_count_101 : decode cX8_count 101 = .ok (.aload_n 0, 1) := by decide +kernel
theorem dX8_count_102 : decode cX8_count 102 = .ok (.getfield 21, 3) := by decide +kernel
theorem dX8_count_105 : decode cX8_count 105 = .ok (.getfield 143, 3) := by decide +kernel
theorem dX8_count_108 : decode cX8_count 108 = .ok (.ireturn, 1) := by decide +kernel
theorem dX8_count_109 : decode cX8_count 109 = .ok (.ldc 81, 2) := by decide +kernel
theorem dX8_count_111 : decode cX8_count 111 = .ok (.ireturn, 1) := by decide +kernel
theorem dX8_isLoop_0 : decode cX8_isLoop 0 = .ok (.aload_n 0, 1) := by decide +kernel
theorem dX8_isLoop_1 : decode cX8_isLoop 1 = .ok (.getfield 21, 3) := by decide +kernel
theorem dX8_isLoop_4 : decode cX8_isLoop 4 = .ok (.iload_n 1, 1) := by decide +kernel
theorem dX8_isLoop_5 : decode cX8_isLoop 5 = .ok (.invokevirtual 95, 3) := by decide +kernel
theorem dX8_isLoop_8 : decode cX8_isLoop 8 = .ok (.ifCond .eq 17, 3) := by decide +kernel
theorem dX8_isLoop_11 : decode cX8_isLoop 11 = .ok (.iload_n 2, 1) := by decide +kernel
theorem dX8_isLoop_12 : decode cX8_isLoop 12 = .ok (.ifCond .lt 13, 3) := by decide +kernel
theorem dX8_isLoop_15 : decode cX8_isLoop 15 = .ok (.iload_n 2, 1) := by decide +kernel
theorem dX8_isLoop_16 : decode cX8_isLoop 16 = .ok (.bipush 8, 2) := by decide +kernel
theorem dX8_isLoop_18 : decode cX8_isLoop 18 = .ok (.if_icmp .ge 7, 3) := by decide +kernel
theorem dX8_isLoop_21 : decode cX8_isLoop 21 = .ok (.iconst 1, 1) := by decide +kernel
theorem dX8_isLoop_22 : decode cX8_isLoop 22 = .ok (.goto 4, 3) := by decide +kernel
theorem dX8_isLoop_25 : decode cX8_isLoop 25 = .ok (.iconst 0, 1) := by decide +kernel
theorem dX8_isLoop_26 : decode cX8_isLoop 26 = .ok (.ireturn, 1) := by decide +kernel
theorem dX8_isSheet_0 : decode cX8_isSheet 0 = .ok (.iload_n 1, 1) := by decide +kernel
theorem dX8_isSheet_1 : decode cX8_isSheet 1 = .ok (.ifCond .lt 12, 3) := by decide +kernel
theorem dX8_isSheet_4 : decode cX8_isSheet 4 = .ok (.iload_n 1, 1) := by decide +kernel
theorem dX8_isSheet_5 : decode cX8_isSheet 5 = .ok (.iconst 4, 1) := by decide +kernel
theorem dX8_isSheet_6 : decode cX8_isSheet 6 = .ok (.if_icmp .ge 7, 3) := by decide +kernel
theorem dX8_isSheet_9 : decode cX8_isSheet 9 = .ok (.iconst 1, 1) := by decide +kernel
theorem dX8_isSheet_10 : decode cX8_isSheet 10 = .ok (.goto 4, 3) := by decide +kernel
theorem dX8_isSheet_13 : decode cX8_isSheet 13 = .ok (.iconst 0, 1) := by decide +kernel
theorem dX8_isSheet_14 : decode cX8_isSheet 14 = .ok (.ireturn, 1) := by decide +kernel
theorem dX8_isSlot_0 : decode cX8_isSlot 0 = .ok (.iload_n 1, 1) := by decide +kernel
theorem dX8_isSlot_1 : decode cX8_isSlot 1 = .ok (.ifCond .lt 12, 3) := by decide +kernel
theorem dX8_isSlot_4 : decode cX8_isSlot 4 = .ok (.iload_n 1, 1) := by decide +kernel
theorem dX8_isSlot_5 : decode cX8_isSlot 5 = .ok (.iconst 5, 1) := by decide +kernel
theorem dX8_isSlot_6 : decode cX8_isSlot 6 = .ok (.if_icmp .ge 7, 3) := by decide +kernel
theorem dX8_isSlot_9 : decode cX8_isSlot 9 = .ok (.iconst 1, 1) := by decide +kernel
theorem dX8_isSlot_10 : decode cX8_isSlot 10 = .ok (.goto 4, 3) := by decide +kernel
theorem dX8_isSlot_13 : decode cX8_isSlot 13 = .ok (.iconst 0, 1) := by decide +kernel
theorem dX8_isSlot_14 : decode cX8_isSlot 14 = .ok (.ireturn, 1) := by decide +kernel
theorem dX8_isGauge_0 : decode cX8_isGauge 0 = .ok (.iload_n 0, 1) := by decide +kernel
theorem dX8_isGauge_1 : decode cX8_isGauge 1 = .ok (.iconst 1, 1) := by decide +kernel
theorem dX8_isGauge_2 : decode cX8_isGauge 2 = .ok (.if_icmp .lt 13, 3) := by decide +kernel
theorem dX8_isGauge_5 : decode cX8_isGauge 5 = .ok (.iload_n 0, 1) := by decide +kernel
theorem dX8_isGauge_6 : decode cX8_isGauge 6 = .ok (.bipush 9, 2) := by decide +kernel
theorem dX8_isGauge_8 : decode cX8_isGauge 8 = .ok (.if_icmp .gt 7, 3) := by decide +kernel
theorem dX8_isGauge_11 : decode cX8_isGauge 11 = .ok (.iconst 1, 1) := by decide +kernel
theorem dX8_isGauge_12 : decode cX8_isGauge 12 = .ok (.goto 4, 3) := by decide +kernel
theorem dX8_isGauge_15 : decode cX8_isGauge 15 = .ok (.iconst 0, 1) := by decide +kernel
theorem dX8_isGauge_16 : decode cX8_isGauge 16 = .ok (.ireturn, 1) := by decide +kernel
theorem dX8_isPlan_0 : decode cX8_isPlan 0 = .ok (.iload_n 0, 1) := by decide +kernel
theorem dX8_isPlan_1 : decode cX8_isPlan 1 = .ok (.iconst 1, 1) := by decide +kernel
theorem dX8_isPlan_2 : decode cX8_isPlan 2 = .ok (.if_icmp .lt 22, 3) := by decide +kernel
theorem dX8_isPlan_5 : decode cX8_isPlan 5 = .ok (.iload_n 0, 1) := by decide +kernel
theorem dX8_isPlan_6 : decode cX8_isPlan 6 = .ok (.bipush 60, 2) := by decide +kernel
theorem dX8_isPlan_8 : decode cX8_isPlan 8 = .ok (.if_icmp .gt 16, 3) := by decide +kernel
theorem dX8_isPlan_11 : decode cX8_isPlan 11 = .ok (.iload_n 1, 1) := by decide +kernel
theorem dX8_isPlan_12 : decode cX8_isPlan 12 = .ok (.ifCond .lt 12, 3) := by decide +kernel
theorem dX8_isPlan_15 : decode cX8_isPlan 15 = .ok (.iload_n 1, 1) := by decide +kernel
theorem dX8_isPlan_16 : decode cX8_isPlan 16 = .ok (.iconst 1, 1) := by decide +kernel
theorem dX8_isPlan_17 : decode cX8_isPlan 17 = .ok (.if_icmp .gt 7, 3) := by decide +kernel
theorem dX8_isPlan_20 : decode cX8_isPlan 20 = .ok (.iconst 1, 1) := by decide +kernel
theorem dX8_isPlan_21 : decode cX8_isPlan 21 = .ok (.goto 4, 3) := by decide +kernel
theorem dX8_isPlan_24 : decode cX8_isPlan 24 = .ok (.iconst 0, 1) := by decide +kernel
theorem dX8_isPlan_25 : decode cX8_isPlan 25 = .ok (.ireturn, 1) := by decide +kernel
theorem dX8_heldWithin_0 : decode cX8_heldWithin 0 = .ok (.iconst 0, 1) := by decide +kernel
theorem dX8_heldWithin_1 : decode cX8_heldWithin 1 = .ok (.iload_n 1, 1) := by decide +kernel
theorem dX8_heldWithin_2 : decode cX8_heldWithin 2 = .ok (.iload_n 0, 1) := by decide +kernel
theorem dX8_heldWithin_3 : decode cX8_heldWithin 3 = .ok (.invokestatic 306, 3) := by decide +kernel
theorem dX8_heldWithin_6 : decode cX8_heldWithin 6 = .ok (.invokestatic 311, 3) := by decide +kernel
theorem dX8_heldWithin_9 : decode cX8_heldWithin 9 = .ok (.ireturn, 1) := by decide +kernel
theorem dX8_difference_0 : decode cX8_difference 0 = .ok (.aload_n 0, 1) := by decide +kernel
theorem dX8_difference_1 : decode cX8_difference 1 = .ok (.getfield 28, 3) := by decide +kernel
theorem dX8_difference_4 : decode cX8_difference 4 = .ok (.aload_n 0, 1) := by decide +kernel
theorem dX8_difference_5 : decode cX8_difference 5 = .ok (.getfield 21, 3) := by decide +kernel
theorem dX8_difference_8 : decode cX8_difference 8 = .ok (.invokevirtual 179, 3) := by decide +kernel
theorem dX8_difference_11 : decode cX8_difference 11 = .ok (.iconst 0, 1) := by decide +kernel
theorem dX8_difference_12 : decode cX8_difference 12 = .ok (.istore_n 3, 1) := by decide +kernel
theorem dX8_difference_13 : decode cX8_difference 13 = .ok (.iconst 0, 1) := by decide +kernel
theorem dX8_difference_14 : decode cX8_difference 14 = .ok (.istore 4, 2) := by decide +kernel
theorem dX8_difference_16 : decode cX8_difference 16 = .ok (.iload 4, 2) := by decide +kernel
theorem dX8_difference_18 : decode cX8_difference 18 = .ok (.aload_n 2, 1) := by decide +kernel
theorem dX8_difference_19 : decode cX8_difference 19 = .ok (.getfield 256, 3) := by decide +kernel
theorem dX8_difference_22 : decode cX8_difference 22 = .ok (.if_icmp .ge 48, 3) := by decide +kernel
theorem dX8_difference_25 : decode cX8_difference 25 = .ok (.aload_n 2, 1) := by decide +kernel
theorem dX8_difference_26 : decode cX8_difference 26 = .ok (.iload 4, 2) := by decide +kernel
theorem dX8_difference_28 : decode cX8_difference 28 = .ok (.invokevirtual 250, 3) := by decide +kernel
theorem dX8_difference_31 : decode cX8_difference 31 = .ok (.ifCond .eq 26, 3) := by decide +kernel
theorem dX8_difference_34 : decode cX8_difference 34 = .ok (.iload_n 3, 1) := by decide +kernel
theorem dX8_difference_35 : decode cX8_difference 35 = .ok (.aload_n 0, 1) := by decide +kernel
theorem dX8_difference_36 : decode cX8_difference 36 = .ok (.getfield 28, 3) := by decide +kernel
theorem dX8_difference_39 : decode cX8_difference 39 = .ok (.getfield 104, 3) := by decide +kernel
theorem dX8_difference_42 : decode cX8_difference 42 = .ok (.iload_n 1, 1) := by decide +kernel
theorem dX8_difference_43 : decode cX8_difference 43 = .ok (.iaload, 1) := by decide +kernel
theorem dX8_difference_44 : decode cX8_difference 44 = .ok (.aload_n 2, 1) := by decide +kernel
theorem dX8_difference_45 : decode cX8_difference 45 = .ok (.getfield 245, 3) := by decide +kernel
theorem dX8_difference_48 : decode cX8_difference 48 = .ok (.iload 4, 2) := by decide +kernel
theorem dX8_difference_50 : decode cX8_difference 50 = .ok (.iaload, 1) := by decide +kernel
theorem dX8_difference_51 : decode cX8_difference 51 = .ok (.isub, 1) := by decide +kernel
theorem dX8_difference_52 : decode cX8_difference 52 = .ok (.invokestatic 314, 3) := by decide +kernel
theorem dX8_difference_55 : decode cX8_difference 55 = .ok (.iadd, 1) := by decide +kernel
theorem dX8_difference_56 : decode cX8_difference 56 = .ok (.istore_n 3, 1) := by decide +kernel
theorem dX8_difference_57 : decode cX8_difference 57 = .ok (.aload_n 0, 1) := by decide +kernel
theorem dX8_difference_58 : decode cX8_difference 58 = .ok (.getfield 28, 3) := by decide +kernel
theorem dX8_difference_61 : decode cX8_difference 61 = .ok (.invokevirtual 152, 3) := by decide +kernel
theorem dX8_difference_64 : decode cX8_difference 64 = .ok (.iinc 4 1, 3) := by decide +kernel
theorem dX8_difference_67 : decode cX8_difference 67 = .ok (.goto (-51), 3) := by decide +kernel
theorem dX8_difference_70 : decode cX8_difference 70 = .ok (.iload_n 3, 1) := by decide +kernel
theorem dX8_difference_71 : decode cX8_difference 71 = .ok (.ireturn, 1) := by decide +kernel
theorem dX8_isWaiting_0 : decode cX8_isWaiting 0 = .ok (.iload_n 1, 1) := by decide +kernel
theorem dX8_isWaiting_1 : decode cX8_isWaiting 1 = .ok (.iload_n 2, 1) := by decide +kernel
theorem dX8_isWaiting_2 : decode cX8_isWaiting 2 = .ok (.if_icmp .ge 26, 3) := by decide +kernel
theorem dX8_isWaiting_5 : decode cX8_isWaiting 5 = .ok (.iload_n 1, 1) := by decide +kernel
theorem dX8_isWaiting_6 : decode cX8_isWaiting 6 = .ok (.aload_n 0, 1) := by decide +kernel
theorem dX8_isWaiting_7 : decode cX8_isWaiting 7 = .ok (.getfield 68, 3) := by decide +kernel
theorem dX8_isWaiting_10 : decode cX8_isWaiting 10 = .ok (.arraylength, 1) := by decide +kernel
theorem dX8_isWaiting_11 : decode cX8_isWaiting 11 = .ok (.if_icmp .ge 17, 3) := by decide +kernel
theorem dX8_isWaiting_14 : decode cX8_isWaiting 14 = .ok (.aload_n 0, 1) := by decide +kernel
theorem dX8_isWaiting_15 : decode cX8_isWaiting 15 = .ok (.getfield 68, 3) := by decide +kernel
theorem dX8_isWaiting_18 : decode cX8_isWaiting 18 = .ok (.iload_n 1, 1) := by decide +kernel
theorem dX8_isWaiting_19 : decode cX8_isWaiting 19 = .ok (.iaload, 1) := by decide +kernel
theorem dX8_isWaiting_20 : decode cX8_isWaiting 20 = .ok (.iload_n 3, 1) := by decide +kernel
theorem dX8_isWaiting_21 : decode cX8_isWaiting 21 = .ok (.if_icmp .ne 7, 3) := by decide +kernel
theorem dX8_isWaiting_24 : decode cX8_isWaiting 24 = .ok (.iconst 1, 1) := by decide +kernel
theorem dX8_isWaiting_25 : decode cX8_isWaiting 25 = .ok (.goto 4, 3) := by decide +kernel
theorem dX8_isWaiting_28 : decode cX8_isWaiting 28 = .ok (.iconst 0, 1) := by decide +kernel
theorem dX8_isWaiting_29 : decode cX8_isWaiting 29 = .ok (.ireturn, 1) := by decide +kernel
theorem dX9_init_0 : decode cX9_init 0 = .ok (.aload_n 0, 1) := by decide +kernel
theorem dX9_init_1 : decode cX9_init 1 = .ok (.invokespecial 1, 3) := by decide +kernel
theorem dX9_init_4 : decode cX9_init 4 = .ok (.aload_n 0, 1) := by decide +kernel
theorem dX9_init_5 : decode cX9_init 5 = .ok (.sipush 3058, 3) := by decide +kernel
theorem dX9_init_8 : decode cX9_init 8 = .ok (.newarray .int, 2) := by decide +kernel
theorem dX9_init_10 : decode cX9_init 10 = .ok (.putfield 7, 3) := by decide +kernel
theorem dX9_init_13 : decode cX9_init 13 = .ok (.aload_n 0, 1) := by decide +kernel
theorem dX9_init_14 : decode cX9_init 14 = .ok (.sipush 3058, 3) := by decide +kernel
theorem dX9_init_17 : decode cX9_init 17 = .ok (.newarray .int, 2) := by decide +kernel
theorem dX9_init_19 : decode cX9_init 19 = .ok (.putfield 13, 3) := by decide +kernel
theorem dX9_init_22 : decode cX9_init 22 = .ok (.aload_n 0, 1) := by decide +kernel
theorem dX9_init_23 : decode cX9_init 23 = .ok (.sipush 3058, 3) := by decide +kernel
theorem dX9_init_26 : decode cX9_init 26 = .ok (.newarray .int, 2) := by decide +kernel
theorem dX9_init_28 : decode cX9_init 28 = .ok (.putfield 16, 3) := by decide +kernel
theorem dX9_init_31 : decode cX9_init 31 = .ok (.aload_n 0, 1) := by decide +kernel
theorem dX9_init_32 : decode cX9_init 32 = .ok (.iconst 4, 1) := by decide +kernel
theorem dX9_init_33 : decode cX9_init 33 = .ok (.newarray .int, 2) := by decide +kernel
theorem dX9_init_35 : decode cX9_init 35 = .ok (.putfield 19, 3) := by decide +kernel
theorem dX9_init_38 : decode cX9_init 38 = .ok (.aload_n 0, 1) := by decide +kernel
theorem dX9_init_39 : decode cX9_init 39 = .ok (.iconst 4, 1) := by decide +kernel
theorem dX9_init_40 : decode cX9_init 40 = .ok (.newarray .int, 2) := by decide +kernel
theorem dX9_init_42 : decode cX9_init 42 = .ok (.putfield 22, 3) := by decide +kernel
theorem dX9_init_45 : decode cX9_init 45 = .ok (.aload_n 0, 1) := by decide +kernel
theorem dX9_init_46 : decode cX9_init 46 = .ok (.bipush 96, 2) := by decide +kernel
theorem dX9_init_48 : decode cX9_init 48 = .ok (.newarray .int, 2) := by decide +kernel
theorem dX9_init_50 : decode cX9_init 50 = .ok (.putfield 25, 3) := by decide +kernel
theorem dX9_init_53 : decode cX9_init 53 = .ok (.aload_n 0, 1) := by decide +kernel
theorem dX9_init_54 : decode cX9_init 54 = .ok (.iconst 5, 1) := by decide +kernel
theorem dX9_init_55 : decode cX9_init 55 = .ok (.newarray .int, 2) := by decide +kernel
theorem dX9_init_57 : decode cX9_init 57 = .ok (.putfield 28, 3) := by decide +kernel
theorem dX9_init_60 : decode cX9_init 60 = .ok (.aload_n 0, 1) := by decide +kernel
theorem dX9_init_61 : decode cX9_init 61 = .ok (.iconst 5, 1) := by decide +kernel
theorem dX9_init_62 : decode cX9_init 62 = .ok (.newarray .int, 2) := by decide +kernel
theorem dX9_init_64 : decode cX9_init 64 = .ok (.putfield 31, 3) := by decide +kernel
theorem dX9_init_67 : decode cX9_init 67 = .ok (.aload_n 0, 1) := by decide +kernel
theorem dX9_init_68 : decode cX9_init 68 = .ok (.iconst 5, 1) := by decide +kernel
theorem dX9_init_69 : decode cX9_init 69 = .ok (.newarray .int, 2) := by decide +kernel
theorem dX9_init_71 : decode cX9_init 71 = .ok (.putfield 34, 3) := by decide +kernel
theorem dX9_init_74 : decode cX9_init 74 = .ok (.aload_n 0, 1) := by decide +kernel
theorem dX9_init_75 : decode cX9_init 75 = .ok (.iconst 5, 1) := by decide +kernel
theorem dX9_init_76 : decode cX9_init 76 = .ok (.newarray .int, 2) := by decide +kernel
theorem dX9_init_78 : decode cX9_init 78 = .ok (.putfield 37, 3) := by decide +kernel
theorem dX9_init_81 : decode cX9_init 81 = .ok (.aload_n 0, 1) := by decide +kernel
theorem dX9_init_82 : decode cX9_init 82 = .ok (.bipush 120, 2) := by decide +kernel
theorem dX9_init_84 : decode cX9_init 84 = .ok (.newarray .int, 2) := by decide +kernel
theorem dX9_init_86 : decode cX9_init 86 = .ok (.putfield 40, 3) := by decide +kernel
theorem dX9_init_89 : decode cX9_init 89 = .ok (.aload_n 0, 1) := by decide +kernel
theorem dX9_init_90 : decode cX9_init 90 = .ok (.bipush 12, 2) := by decide +kernel
theorem dX9_init_92 : decode cX9_init 92 = .ok (.newarray .int, 2) := by decide +kernel
theorem dX9_init_94 : decode cX9_init 94 = .ok (.putfield 43, 3) := by decide +kernel
theorem dX9_init_97 : decode cX9_init 97 = .ok (.aload_n 0, 1) := by decide +kernel
theorem dX9_init_98 : decode cX9_init 98 = .ok (.bipush 96, 2) := by decide +kernel
theorem dX9_init_100 : decode cX9_init 100 = .ok (.newarray .int, 2) := by decide +kernel
theorem dX9_init_102 : decode cX9_init 102 = .ok (.putfield 46, 3) := by decide +kernel
theorem dX9_init_105 : decode cX9_init 105 = .ok (.aload_n 0, 1) := by decide +kernel
theorem dX9_init_106 : decode cX9_init 106 = .ok (.bipush 58, 2) := by decide +kernel
theorem dX9_init_108 : decode cX9_init 108 = .ok (.newarray .int, 2) := by decide +kernel
theorem dX9_init_110 : decode cX9_init 110 = .ok (.putfield 49, 3) := by decide +kernel
theorem dX9_init_113 : decode cX9_init 113 = .ok (.aload_n 0, 1) := by decide +kernel
theorem dX9_init_114 : decode cX9_init 114 = .ok (.bipush 96, 2) := by decide +kernel
theorem dX9_init_116 : decode cX9_init 116 = .ok (.newarray .int, 2) := by decide +kernel
theorem dX9_init_118 : decode cX9_init 118 = .ok (.putfield 52, 3) := by decide +kernel
theorem dX9_init_121 : decode cX9_init 121 = .ok (.aload_n 0, 1) := by decide +kernel
theorem dX9_init_122 : decode cX9_init 122 = .ok (.sipush 128, 3) := by decide +kernel
theorem dX9_init_125 : decode cX9_init 125 = .ok (.newarray .int, 2) := by decide +kernel
theorem dX9_init_127 : decode cX9_init 127 = .ok (.putfield 55, 3) := by decide +kernel
theorem dX9_init_130 : decode cX9_init 130 = .ok (.aload_n 0, 1) := by decide +kernel
theorem dX9_init_131 : decode cX9_init 131 = .ok (.bipush 100, 2) := by decide +kernel
theorem dX9_init_133 : decode cX9_init 133 = .ok (.newarray .int, 2) := by decide +kernel
theorem dX9_init_135 : decode cX9_init 135 = .ok (.putfield 58, 3) := by decide +kernel
theorem dX9_init_138 : decode cX9_init 138 = .ok (.aload_n 0, 1) := by decide +kernel
theorem dX9_init_139 : decode cX9_init 139 = .ok (.bipush 24, 2) := by decide +kernel
theorem dX9_init_141 : decode cX9_init 141 = .ok (.newarray .int, 2) := by decide +kernel
theorem dX9_init_143 : decode cX9_init 143 = .ok (.putfield 61, 3) := by decide +kernel
theorem dX9_init_146 : decode cX9_init 146 = .ok (.aload_n 0, 1) := by decide +kernel
theorem dX9_init_147 : decode cX9_init 147 = .ok (.bipush 60, 2) := by decide +kernel
theorem dX9_init_149 : decode cX9_init 149 = .ok (.newarray .int, 2) := by decide +kernel
theorem dX9_init_151 : decode cX9_init 151 = .ok (.putfield 64, 3) := by decide +kernel
theorem dX9_init_154 : decode cX9_init 154 = .ok (.aload_n 0, 1) := by decide +kernel
theorem dX9_init_155 : decode cX9_init 155 = .ok (.bipush 60, 2) := by decide +kernel
theorem dX9_init_157 : decode cX9_init 157 = .ok (.newarray .int, 2) := by decide +kernel
theorem dX9_init_159 : decode cX9_init 159 = .ok (.putfield 67, 3) := by decide +kernel
theorem dX9_init_162 : decode cX9_init 162 = .ok (.aload_n 0, 1) := by decide +kernel
theorem dX9_init_163 : decode cX9_init 163 = .ok (.getfield 7, 3) := by decide +kernel
theorem dX9_init_166 : decode cX9_init 166 = .ok (.bipush 9, 2) := by decide +kernel
theorem dX9_init_168 : decode cX9_init 168 = .ok (.iconst 1, 1) := by decide +kernel
theorem dX9_init_169 : decode cX9_init 169 = .ok (.iastore, 1) := by decide +kernel
theorem dX9_init_170 : decode cX9_init 170 = .ok (.aload_n 0, 1) := by decide +kernel
theorem dX9_init_171 : decode cX9_init 171 = .ok (.getfield 7, 3) := by decide +kernel
theorem dX9_init_174 : decode cX9_init 174 = .ok (.iconst 3, 1) := by decide +kernel
theorem dX9_init_175 : decode cX9_init 175 = .ok (.bipush 30, 2) := by decide +kernel
theorem dX9_init_177 : decode cX9_init 177 = .ok (.iastore, 1) := by decide +kernel
theorem dX9_init_178 : decode cX9_init 178 = .ok (.aload_n 0, 1) := by decide +kernel
theorem dX9_init_179 : decode cX9_init 179 = .ok (.getfield 7, 3) := by decide +kernel
theorem dX9_init_182 : decode cX9_init 182 = .ok (.iconst 4, 1) := by decide +kernel
theorem dX9_init_183 : decode cX9_init 183 = .ok (.bipush 20, 2) := by decide +kernel
theorem dX9_init_185 : decode cX9_init 185 = .ok (.iastore, 1) := by decide +kernel
theorem dX9_init_186 : decode cX9_init 186 = .ok (.aload_n 0, 1) := by decide +kernel
theorem dX9_init_187 : decode cX9_init 187 = .ok (.getfield 7, 3) := by decide +kernel
theorem dX9_init_190 : decode cX9_init 190 = .ok (.iconst 5, 1) := by decide +kernel
theorem dX9_init_191 : decode cX9_init 191 = .ok (.bipush 20, 2) := by decide +kernel
theorem dX9_init_193 : decode cX9_init 193 = .ok (.iastore, 1) := by decide +kernel
theorem dX9_init_194 : decode cX9_init 194 = .ok (.iconst 0, 1) := by decide +kernel
theorem dX9_init_195 : decode cX9_init 195 = .ok (.istore_n 1, 1) := by decide +kernel
theorem dX9_init_196 : decode cX9_init 196 = .ok (.iload_n 1, 1) := by decide +kernel
theorem dX9_init_197 : decode cX9_init 197 = .ok (.iconst 4, 1) := by decide +kernel
theorem dX9_init_198 : decode cX9_init 198 = .ok (.if_icmp .ge 16, 3) := by decide +kernel
theorem dX9_init_201 : decode cX9_init 201 = .ok (.aload_n 0, 1) := by decide +kernel
theorem dX9_init_202 : decode cX9_init 202 = .ok (.getfield 19, 3) := by decide +kernel
theorem dX9_init_205 : decode cX9_init 205 = .ok (.iload_n 1, 1) := by decide +kernel
theorem dX9_init_206 : decode cX9_init 206 = .ok (.iconst (-1), 1) := by decide +kernel
theorem dX9_init_207 : decode cX9_init 207 = .ok (.iastore, 1) := by decide +kernel
theorem dX9_init_208 : decode cX9_init 208 = .ok (.iinc 1 1, 3) := by decide +kernel
theorem dX9_init_211 : decode cX9_init 211 = .ok (.goto (-15), 3) := by decide +kernel
theorem dX9_init_214 : decode cX9_init 214 = .ok (.return_, 1) := by decide +kernel
theorem dX9_isIn_0 : decode cX9_isIn 0 = .ok (.lload_n 0, 1) := by decide +kernel
theorem dX9_isIn_1 : decode cX9_isIn 1 = .ok (.lload_n 2, 1) := by decide +kernel
theorem dX9_isIn_2 : decode cX9_isIn 2 = .ok (.lcmp, 1) := by decide +kernel
theorem dX9_isIn_3 : decode cX9_isIn 3 = .ok (.ifCond .lt 14, 3) := by decide +kernel
theorem dX9_isIn_6 : decode cX9_isIn 6 = .ok (.lload_n 0, 1) := by decide +kernel
theorem dX9_isIn_7 : decode cX9_isIn 7 = .ok (.lload 4, 2) := by decide +kernel
theorem dX9_isIn_9 : decode cX9_isIn 9 = .ok (.lcmp, 1) := by decide +kernel
theorem dX9_isIn_10 : decode cX9_isIn 10 = .ok (.ifCond .gt 7, 3) := by decide +kernel
theorem dX9_isIn_13 : decode cX9_isIn 13 = .ok (.iconst 1, 1) := by decide +kernel
theorem dX9_isIn_14 : decode cX9_isIn 14 = .ok (.goto 4, 3) := by decide +kernel
theorem dX9_isIn_17 : decode cX9_isIn 17 = .ok (.iconst 0, 1) := by decide +kernel
theorem dX9_isIn_18 : decode cX9_isIn 18 = .ok (.ireturn, 1) := by decide +kernel
theorem dX9_orNone_0 : decode cX9_orNone 0 = .ok (.iload_n 0, 1) := by decide +kernel
theorem dX9_orNone_1 : decode cX9_orNone 1 = .ok (.ifCond .ge 8, 3) := by decide +kernel
theorem dX9_orNone_4 : decode cX9_orNone 4 = .ok (.ldc 70, 2) := by decide +kernel
theorem dX9_orNone_6 : decode cX9_orNone 6 = .ok (.goto 4, 3) := by decide +kernel
theorem dX9_orNone_9 : decode cX9_orNone 9 = .ok (.iload_n 0, 1) := by decide +kernel
theorem dX9_orNone_10 : decode cX9_orNone 10 = .ok (.ireturn, 1) := by decide +kernel
theorem dX9_within_0 : decode cX9_within 0 = .ok (.iload_n 0, 1) := by decide +kernel
theorem dX9_within_1 : decode cX9_within 1 = .ok (.ifCond .ge 7, 3) := by decide +kernel
theorem dX9_within_4 : decode cX9_within 4 = .ok (.iconst 0, 1) := by decide +kernel
theorem dX9_within_5 : decode cX9_within 5 = .ok (.goto 13, 3) := by decide +kernel
theorem dX9_within_8 : decode cX9_within 8 = .ok (.iload_n 0, 1) := by decide +kernel
theorem dX9_within_9 : decode cX9_within 9 = .ok (.iload_n 1, 1) := by decide +kernel
theorem dX9_within_10 : decode cX9_within 10 = .ok (.if_icmp .le 7, 3) := by decide +kernel
theorem dX9_within_13 : decode cX9_within 13 = .ok (.iload_n 1, 1) := by decide +kernel
theorem dX9_within_14 : decode cX9_within 14 = .ok (.goto 4, 3) := by decide +kernel
theorem dX9_within_17 : decode cX9_within 17 = .ok (.iload_n 0, 1) := by decide +kernel
theorem dX9_within_18 : decode cX9_within 18 = .ok (.ireturn, 1) := by decide +kernel
theorem dX9_off_0 : decode cX9_off 0 = .ok (.iload_n 0, 1) := by decide +kernel
theorem dX9_off_1 : decode cX9_off 1 = .ok (.iload_n 1, 1) := by decide +kernel
theorem dX9_off_2 : decode cX9_off 2 = .ok (.if_icmp .ge 9, 3) := by decide +kernel
theorem dX9_off_5 : decode cX9_off 5 = .ok (.iload_n 1, 1) := by decide +kernel
theorem dX9_off_6 : decode cX9_off 6 = .ok (.iload_n 0, 1) := by decide +kernel
theorem dX9_off_7 : decode cX9_off 7 = .ok (.isub, 1) := by decide +kernel
theorem dX9_off_8 : decode cX9_off 8 = .ok (.goto 6, 3) := by decide +kernel
theorem dX9_off_11 : decode cX9_off 11 = .ok (.iload_n 0, 1) := by decide +kernel
theorem dX9_off_12 : decode cX9_off 12 = .ok (.iload_n 1, 1) := by decide +kernel
theorem dX9_off_13 : decode cX9_off 13 = .ok (.isub, 1) := by decide +kernel
theorem dX9_off_14 : decode cX9_off 14 = .ok (.ireturn, 1) := by decide +kernel
theorem dX9_changes_0 : decode cX9_changes 0 = .ok (.aload_n 0, 1) := by decide +kernel
theorem dX9_changes_1 : decode cX9_changes 1 = .ok (.getfield 7, 3) := by decide +kernel
theorem dX9_changes_4 : decode cX9_changes 4 = .ok (.iload_n 1, 1) := by decide +kernel
theorem dX9_changes_5 : decode cX9_changes 5 = .ok (.iaload, 1) := by decide +kernel
theorem dX9_changes_6 : decode cX9_changes 6 = .ok (.istore_n 3, 1) := by decide +kernel
theorem dX9_changes_7 : decode cX9_changes 7 = .ok (.aload_n 0, 1) := by decide +kernel
theorem dX9_changes_8 : decode cX9_changes 8 = .ok (.getfield 7, 3) := by decide +kernel
theorem dX9_changes_11 : decode cX9_changes 11 = .ok (.iload_n 1, 1) := by decide +kernel
theorem dX9_changes_12 : decode cX9_changes 12 = .ok (.iload_n 2, 1) := by decide +kernel
theorem dX9_changes_13 : decode cX9_changes 13 = .ok (.iastore, 1) := by decide +kernel
theorem dX9_changes_14 : decode cX9_changes 14 = .ok (.iload_n 3, 1) := by decide +kernel
theorem dX9_changes_15 : decode cX9_changes 15 = .ok (.ireturn, 1) := by decide +kernel
theorem dX9_textAt_0 : decode cX9_textAt 0 = .ok (.bipush 58, 2) := by decide +kernel
theorem dX9_textAt_2 : decode cX9_textAt 2 = .ok (.sipush 200, 3) := by decide +kernel
theorem dX9_textAt_5 : decode cX9_textAt 5 = .ok (.iload_n 1, 1) := by decide +kernel
theorem dX9_textAt_6 : decode cX9_textAt 6 = .ok (.imul, 1) := by decide +kernel
theorem dX9_textAt_7 : decode cX9_textAt 7 = .ok (.iadd, 1) := by decide +kernel
theorem dX9_textAt_8 : decode cX9_textAt 8 = .ok (.ireturn, 1) := by decide +kernel
theorem dX9_of_0 : decode cX9_of 0 = .ok (.aload_n 0, 1) := by decide +kernel
theorem dX9_of_1 : decode cX9_of 1 = .ok (.getfield 7, 3) := by decide +kernel
theorem dX9_of_4 : decode cX9_of 4 = .ok (.bipush 10, 2) := by decide +kernel
theorem dX9_of_6 : decode cX9_of 6 = .ok (.iconst 4, 1) := by decide +kernel
theorem dX9_of_7 : decode cX9_of 7 = .ok (.iload_n 1, 1) := by decide +kernel
theorem dX9_of_8 : decode cX9_of 8 = .ok (.imul, 1) := by decide +kernel
theorem dX9_of_9 : decode cX9_of 9 = .ok (.iadd, 1) := by decide +kernel
theorem dX9_of_10 : decode cX9_of 10 = .ok (.iload_n 2, 1) := by decide +kernel
theorem dX9_of_11 : decode cX9_of 11 = .ok (.iadd, 1) := by decide +kernel
theorem dX9_of_12 : decode cX9_of 12 = .ok (.iaload, 1) := by decide +kernel
theorem dX9_of_13 : decode cX9_of 13 = .ok (.ireturn, 1) := by decide +kernel
theorem dX9_sets_0 : decode cX9_sets 0 = .ok (.aload_n 0, 1) := by decide +kernel
theorem dX9_sets_1 : decode cX9_sets 1 = .ok (.getfield 7, 3) := by decide +kernel
theorem dX9_sets_4 : decode cX9_sets 4 = .ok (.bipush 10, 2) := by decide +kernel
theorem dX9_sets_6 : decode cX9_sets 6 = .ok (.iconst 4, 1) := by decide +kernel
theorem dX9_sets_7 : decode cX9_sets 7 = .ok (.iload_n 1, 1) := by decide +kernel
theorem dX9_sets_8 : decode cX9_sets 8 = .ok (.imul, 1) := by decide +kernel
theorem dX9_sets_9 : decode cX9_sets 9 = .ok (.iadd, 1) := by decide +kernel
theorem dX9_sets_10 : decode cX9_sets 10 = .ok (.iload_n 2, 1) := by decide +kernel
theorem dX9_sets_11 : decode cX9_sets 11 = .ok (.iadd, 1) := by decide +kernel
theorem dX9_sets_12 : decode cX9_sets 12 = .ok (.iload_n 3, 1) := by decide +kernel
theorem dX9_sets_13 : decode cX9_sets 13 = .ok (.iastore, 1) := by decide +kernel
theorem dX9_sets_14 : decode cX9_sets 14 = .ok (.return_, 1) := by decide +kernel
theorem dX9_isCourse_0 : decode cX9_isCourse 0 = .ok (.iload_n 1, 1) := by decide +kernel
theorem dX9_isCourse_1 : decode cX9_isCourse 1 = .ok (.i2l, 1) := by decide +kernel
theorem dX9_isCourse_2 : decode cX9_isCourse 2 = .ok (.lconst 0, 1) := by decide +kernel
theorem dX9_isCourse_3 : decode cX9_isCourse 3 = .ok (.aload_n 0, 1) := by decide +kernel
theorem dX9_isCourse_4 : decode cX9_isCourse 4 = .ok (.getfield 7, 3) := by decide +kernel
theorem dX9_isCourse_7 : decode cX9_isCourse 7 = .ok (.iconst 0, 1) := by decide +kernel
theorem dX9_isCourse_8 : decode cX9_isCourse 8 = .ok (.iaload, 1) := by decide +kernel
theorem dX9_isCourse_9 : decode cX9_isCourse 9 = .ok (.iconst 1, 1) := by decide +kernel
theorem dX9_isCourse_10 : decode cX9_isCourse 10 = .ok (.isub, 1) := by decide +kernel
theorem dX9_isCourse_11 : decode cX9_isCourse 11 = .ok (.i2l, 1) := by decide +kernel
theorem dX9_isCourse_12 : decode cX9_isCourse 12 = .ok (.invokestatic 71, 3) := by decide +kernel
theorem dX9_isCourse_15 : decode cX9_isCourse 15 = .ok (.ireturn, 1) := by decide +kernel
theorem dX9_isText_0 : decode cX9_isText 0 = .ok (.iload_n 1, 1) := by decide +kernel
theorem dX9_isText_1 : decode cX9_isText 1 = .ok (.i2l, 1) := by decide +kernel
theorem dX9_isText_2 : decode cX9_isText 2 = .ok (.lconst 0, 1) := by decide +kernel
theorem dX9_isText_3 : decode cX9_isText 3 = .ok (.aload_n 0, 1) := by decide +kernel
theorem dX9_isText_4 : decode cX9_isText 4 = .ok (.getfield 7, 3) := by decide +kernel
theorem dX9_isText_7 : decode cX9_isText 7 = .ok (.iconst 1, 1) := by decide +kernel
theorem dX9_isText_8 : decode cX9_isText 8 = .ok (.iaload, 1) := by decide +kernel
theorem dX9_isText_9 : decode cX9_isText 9 = .ok (.iconst 1, 1) := by decide +kernel
theorem dX9_isText_10 : decode cX9_isText 10 = .ok (.isub, 1) := by decide +kernel
theorem dX9_isText_11 : decode cX9_isText 11 = .ok (.i2l, 1) := by decide +kernel
theorem dX9_isText_12 : decode cX9_isText 12 = .ok (.invokestatic 71, 3) := by decide +kernel
theorem dX9_isText_15 : decode cX9_isText 15 = .ok (.ireturn, 1) := by decide +kernel
theorem dX9_drawn_0 : decode cX9_drawn 0 = .ok (.aload_n 0, 1) := by decide +kernel
theorem dX9_drawn_1 : decode cX9_drawn 1 = .ok (.getfield 7, 3) := by decide +kernel
theorem dX9_drawn_4 : decode cX9_drawn 4 = .ok (.bipush 9, 2) := by decide +kernel
theorem dX9_drawn_6 : decode cX9_drawn 6 = .ok (.aload_n 0, 1) := by decide +kernel
theorem dX9_drawn_7 : decode cX9_drawn 7 = .ok (.getfield 7, 3) := by decide +kernel
theorem dX9_drawn_10 : decode cX9_drawn 10 = .ok (.bipush 9, 2) := by decide +kernel
theorem dX9_drawn_12 : decode cX9_drawn 12 = .ok (.iaload, 1) := by decide +kernel
theorem dX9_drawn_13 : decode cX9_drawn 13 = .ok (.ldc 75, 2) := by decide +kernel
theorem dX9_drawn_15 : decode cX9_drawn 15 = .ok (.imul, 1) := by decide +kernel
theorem dX9_drawn_16 : decode cX9_drawn 16 = .ok (.sipush 12345, 3) := by decide +kernel
theorem dX9_drawn_19 : decode cX9_drawn 19 = .ok (.iadd, 1) := by decide +kernel
theorem dX9_drawn_20 : decode cX9_drawn 20 = .ok (.iastore, 1) := by decide +kernel
theorem dX9_drawn_21 : decode cX9_drawn 21 = .ok (.aload_n 0, 1) := by decide +kernel
theorem dX9_drawn_22 : decode cX9_drawn 22 = .ok (.getfield 7, 3) := by decide +kernel
theorem dX9_drawn_25 : decode cX9_drawn 25 = .ok (.bipush 9, 2) := by decide +kernel
theorem dX9_drawn_27 : decode cX9_drawn 27 = .ok (.iaload, 1) := by decide +kernel
theorem dX9_drawn_28 : decode cX9_drawn 28 = .ok (.bipush 8, 2) := by decide +kernel
theorem dX9_drawn_30 : decode cX9_drawn 30 = .ok (.iushr, 1) := by decide +kernel
theorem dX9_drawn_31 : decode cX9_drawn 31 = .ok (.ireturn, 1) := by decide +kernel
theorem dX9_isOf_0 : decode cX9_isOf 0 = .ok (.iload_n 0, 1) := by decide +kernel
theorem dX9_isOf_1 : decode cX9_isOf 1 = .ok (.iload_n 1, 1) := by decide +kernel
theorem dX9_isOf_2 : decode cX9_isOf 2 = .ok (.if_icmp .eq 27, 3) := by decide +kernel
theorem dX9_isOf_5 : decode cX9_isOf 5 = .ok (.iload_n 1, 1) := by decide +kernel
theorem dX9_isOf_6 : decode cX9_isOf 6 = .ok (.ifCond .eq 23, 3) := by decide +kernel
theorem dX9_isOf_9 : decode cX9_isOf 9 = .ok (.iload_n 1, 1) := by decide +kernel
theorem dX9_isOf_10 : decode cX9_isOf 10 = .ok (.iconst 1, 1) := by decide +kernel
theorem dX9_isOf_11 : decode cX9_isOf 11 = .ok (.if_icmp .ne 8, 3) := by decide +kernel
theorem dX9_isOf_14 : decode cX9_isOf 14 = .ok (.iload_n 0, 1) := by decide +kernel
theorem dX9_isOf_15 : decode cX9_isOf 15 = .ok (.iconst 3, 1) := by decide +kernel
theorem dX9_isOf_16 : decode cX9_isOf 16 = .ok (.if_icmp .eq 13, 3) := by decide +kernel
theorem dX9_isOf_19 : decode cX9_isOf 19 = .ok (.iload_n 1, 1) := by decide +kernel
theorem dX9_isOf_20 : decode cX9_isOf 20 = .ok (.iconst 2, 1) := by decide +kernel
theorem dX9_isOf_21 : decode cX9_isOf 21 = .ok (.if_icmp .ne 12, 3) := by decide +kernel
theorem dX9_isOf_24 : decode cX9_isOf 24 = .ok (.iload_n 0, 1) := by decide +kernel
theorem dX9_isOf_25 : decode cX9_isOf 25 = .ok (.iconst 4, 1) := by decide +kernel
theorem dX9_isOf_26 : decode cX9_isOf 26 = .ok (.if_icmp .ne 7, 3) := by decide +kernel
theorem dX9_isOf_29 : decode cX9_isOf 29 = .ok (.iconst 1, 1) := by decide +kernel
theorem dX9_isOf_30 : decode cX9_isOf 30 = .ok (.goto 4, 3) := by decide +kernel
theorem dX9_isOf_33 : decode cX9_isOf 33 = .ok (.iconst 0, 1) := by decide +kernel
theorem dX9_isOf_34 : decode cX9_isOf 34 = .ok (.ireturn, 1) := by decide +kernel
theorem dX9_isLoop_0 : decode cX9_isLoop 0 = .ok (.iload_n 0, 1) := by decide +kernel
theorem dX9_isLoop_1 : decode cX9_isLoop 1 = .ok (.i2l, 1) := by decide +kernel
theorem dX9_isLoop_2 : decode cX9_isLoop 2 = .ok (.lconst 0, 1) := by decide +kernel
theorem dX9_isLoop_3 : decode cX9_isLoop 3 = .ok (.ldc2_w 76, 3) := by decide +kernel
theorem dX9_isLoop_6 : decode cX9_isLoop 6 = .ok (.invokestatic 71, 3) := by decide +kernel
theorem dX9_isLoop_9 : decode cX9_isLoop 9 = .ok (.ireturn, 1) := by decide +kernel
theorem dX9_isAmong_0 : decode cX9_isAmong 0 = .ok (.iload_n 0, 1) := by decide +kernel
theorem dX9_isAmong_1 : decode cX9_isAmong 1 = .ok (.iload_n 1, 1) := by decide +kernel
theorem dX9_isAmong_2 : decode cX9_isAmong 2 = .ok (.ishr, 1) := by decide +kernel
theorem dX9_isAmong_3 : decode cX9_isAmong 3 = .ok (.iconst 1, 1) := by decide +kernel
theorem dX9_isAmong_4 : decode cX9_isAmong 4 = .ok (.iand, 1) := by decide +kernel
theorem dX9_isAmong_5 : decode cX9_isAmong 5 = .ok (.iconst 1, 1) := by decide +kernel
theorem dX9_isAmong_6 : decode cX9_isAmong 6 = .ok (.if_icmp .ne 7, 3) := by decide +kernel
theorem dX9_isAmong_9 : decode cX9_isAmong 9 = .ok (.iconst 1, 1) := by decide +kernel
theorem dX9_isAmong_10 : decode cX9_isAmong 10 = .ok (.goto 4, 3) := by decide +kernel
theorem dX9_isAmong_13 : decode cX9_isAmong 13 = .ok (.iconst 0, 1) := by decide +kernel
theorem dX9_isAmong_14 : decode cX9_isAmong 14 = .ok (.ireturn, 1) := by decide +kernel
theorem dX9_bits_0 : decode cX9_bits 0 = .ok (.iconst 0, 1) := by decide +kernel
theorem dX9_bits_1 : decode cX9_bits 1 = .ok (.istore_n 1, 1) := by decide +kernel
theorem dX9_bits_2 : decode cX9_bits 2 = .ok (.iload_n 0, 1) := by decide +kernel
theorem dX9_bits_3 : decode cX9_bits 3 = .ok (.istore_n 2, 1) := by decide +kernel
theorem dX9_bits_4 : decode cX9_bits 4 = .ok (.iload_n 2, 1) := by decide +kernel
theorem dX9_bits_5 : decode cX9_bits 5 = .ok (.ifCond .eq 16, 3) := by decide +kernel
theorem dX9_bits_8 : decode cX9_bits 8 = .ok (.iload_n 1, 1) := by decide +kernel
theorem dX9_bits_9 : decode cX9_bits 9 = .ok (.iload_n 2, 1) := by decide +kernel
theorem dX9_bits_10 : decode cX9_bits 10 = .ok (.iconst 1, 1) := by decide +kernel
theorem dX9_bits_11 : decode cX9_bits 11 = .ok (.iand, 1) := by decide +kernel
theorem dX9_bits_12 : decode cX9_bits 12 = .ok (.iadd, 1) := by decide +kernel
theorem dX9_bits_13 : decode cX9_bits 13 = .ok (.istore_n 1, 1) := by decide +kernel
theorem dX9_bits_14 : decode cX9_bits 14 = .ok (.iload_n 2, 1) := by decide +kernel
theorem dX9_bits_15 : decode cX9_bits 15 = .ok (.iconst 1, 1) := by decide +kernel
theorem dX9_bits_16 : decode cX9_bits 16 = .ok (.ishr, 1) := by decide +kernel
theorem dX9_bits_17 : decode cX9_bits 17 = .ok (.istore_n 2, 1) := by decide +kernel
theorem dX9_bits_18 : decode cX9_bits 18 = .ok (.goto (-14), 3) := by decide +kernel
theorem dX9_bits_21 : decode cX9_bits 21 = .ok (.iload_n 1, 1) := by decide +kernel
theorem dX9_bits_22 : decode cX9_bits 22 = .ok (.ireturn, 1) := by decide +kernel
theorem dX9_comes_0 : decode cX9_comes 0 = .ok (.aload_n 0, 1) := by decide +kernel
theorem dX9_comes_1 : decode cX9_comes 1 = .ok (.getfield 7, 3) := by decide +kernel
theorem dX9_comes_4 : decode cX9_comes 4 = .ok (.iconst 0, 1) := by decide +kernel
theorem dX9_comes_5 : decode cX9_comes 5 = .ok (.iaload, 1) := by decide +kernel
theorem dX9_comes_6 : decode cX9_comes 6 = .ok (.istore 4, 2) := by decide +kernel
theorem dX9_comes_8 : decode cX9_comes 8 = .ok (.aload_n 0, 1) := by decide +kernel
theorem dX9_comes_9 : decode cX9_comes 9 = .ok (.getfield 7, 3) := by decide +kernel
theorem dX9_comes_12 : decode cX9_comes 12 = .ok (.iconst 0, 1) := by decide +kernel
theorem dX9_comes_13 : decode cX9_comes 13 = .ok (.dup2, 1) := by decide +kernel
theorem dX9_comes_14 : decode cX9_comes 14 = .ok (.iaload, 1) := by decide +kernel
theorem dX9_comes_15 : decode cX9_comes 15 = .ok (.iconst 1, 1) := by decide +kernel
theorem dX9_comes_16 : decode cX9_comes 16 = .ok (.iadd, 1) := by decide +kernel
theorem dX9_comes_17 : decode cX9_comes 17 = .ok (.iastore, 1) := by decide +kernel
theorem dX9_comes_18 : decode cX9_comes 18 = .ok (.aload_n 0, 1) := by decide +kernel
theorem dX9_comes_19 : decode cX9_comes 19 = .ok (.iload 4, 2) := by decide +kernel
theorem dX9_comes_21 : decode cX9_comes 21 = .ok (.iconst 0, 1) := by decide +kernel
theorem dX9_comes_22 : decode cX9_comes 22 = .ok (.iload_n 1, 1) := by decide +kernel
theorem dX9_comes_23 : decode cX9_comes 23 = .ok (.invokevirtual 78, 3) := by decide +kernel
theorem dX9_comes_26 : decode cX9_comes 26 = .ok (.aload_n 0, 1) := by decide +kernel
theorem dX9_comes_27 : decode cX9_comes 27 = .ok (.iload 4, 2) := by decide +kernel
theorem dX9_comes_29 : decode cX9_comes 29 = .ok (.iconst 1, 1) := by decide +kernel
theorem dX9_comes_30 : decode cX9_comes 30 = .ok (.iload_n 2, 1) := by decide +kernel
theorem dX9_comes_31 : decode cX9_comes 31 = .ok (.invokevirtual 78, 3) := by decide +kernel
theorem dX9_comes_34 : decode cX9_comes 34 = .ok (.aload_n 0, 1) := by decide +kernel
theorem dX9_comes_35 : decode cX9_comes 35 = .ok (.iload 4, 2) := by decide +kernel
theorem dX9_comes_37 : decode cX9_comes 37 = .ok (.iconst 2, 1) := by decide +kernel
theorem dX9_comes_38 : decode cX9_comes 38 = .ok (.iconst 0, 1) := by decide +kernel
theorem dX9_comes_39 : decode cX9_comes 39 = .ok (.invokevirtual 78, 3) := by decide +kernel
theorem dX9_comes_42 : decode cX9_comes 42 = .ok (.aload_n 0, 1) := by decide +kernel
theorem dX9_comes_43 : decode cX9_comes 43 = .ok (.iload 4, 2) := by decide +kernel
theorem dX9_comes_45 : decode cX9_comes 45 = .ok (.iconst 3, 1) := by decide +kernel
theorem dX9_comes_46 : decode cX9_comes 46 = .ok (.iload_n 3, 1) := by decide +kernel
theorem dX9_comes_47 : decode cX9_comes 47 = .ok (.invokevirtual 78, 3) := by decide +kernel
theorem dX9_comes_50 : decode cX9_comes 50 = .ok (.return_, 1) := by decide +kernel
theorem dX9_knit_0 : decode cX9_knit 0 = .ok (.iload_n 1, 1) := by decide +kernel
theorem dX9_knit_1 : decode cX9_knit 1 = .ok (.i2l, 1) := by decide +kernel
theorem dX9_knit_2 : decode cX9_knit 2 = .ok (.lconst 0, 1) := by decide +kernel
theorem dX9_knit_3 : decode cX9_knit 3 = .ok (.ldc2_w 82, 3) := by decide +kernel
theorem dX9_knit_6 : decode cX9_knit 6 = .ok (.invokestatic 71, 3) := by decide +kernel
theorem dX9_knit_9 : decode cX9_knit 9 = .ok (.ifCond .eq 15, 3) := by decide +kernel
theorem dX9_knit_12 : decode cX9_knit 12 = .ok (.iload_n 2, 1) := by decide +kernel
theorem dX9_knit_13 : decode cX9_knit 13 = .ok (.i2l, 1) := by decide +kernel
theorem dX9_knit_14 : decode cX9_knit 14 = .ok (.lconst 1, 1) := by decide +kernel
theorem dX9_knit_15 : decode cX9_knit 15 = .ok (.ldc2_w 84, 3) := by decide +kernel
theorem dX9_knit_18 : decode cX9_knit 18 = .ok (.invokestatic 71, 3) := by decide +kernel
theorem dX9_knit_21 : decode cX9_knit 21 = .ok (.ifCond .ne 6, 3) := by decide +kernel
theorem dX9_knit_24 : decode cX9_knit 24 = .ok (.ldc 86, 2) := by decide +kernel
theorem dX9_knit_26 : decode cX9_knit 26 = .ok (.ireturn, 1) := by decide +kernel
theorem dX9_knit_27 : decode cX9_knit 27 = .ok (.aload_n 0, 1) := by decide +kernel
theorem dX9_knit_28 : decode cX9_knit 28 = .ok (.getfield 7, 3) := by decide +kernel
theorem dX9_knit_31 : decode cX9_knit 31 = .ok (.iconst 0, 1) := by decide +kernel
theorem dX9_knit_32 : decode cX9_knit 32 = .ok (.iaload, 1) := by decide +kernel
theorem dX9_knit_33 : decode cX9_knit 33 = .ok (.bipush 12, 2) := by decide +kernel
theorem dX9_knit_35 : decode cX9_knit 35 = .ok (.if_icmp .ne 6, 3) := by decide +kernel
theorem dX9_knit_38 : decode cX9_knit 38 = .ok (.ldc 87, 2) := by decide +kernel
theorem dX9_knit_40 : decode cX9_knit 40 = .ok (.ireturn, 1) := by decide +kernel
theorem dX9_knit_41 : decode cX9_knit 41 = .ok (.aload_n 0, 1) := by decide +kernel
theorem dX9_knit_42 : decode cX9_knit 42 = .ok (.iload_n 1, 1) := by decide +kernel
theorem dX9_knit_43 : decode cX9_knit 43 = .ok (.iload_n 2, 1) := by decide +kernel
theorem dX9_knit_44 : decode cX9_knit 44 = .ok (.iconst 0, 1) := by decide +kernel
theorem dX9_knit_45 : decode cX9_knit 45 = .ok (.invokevirtual 88, 3) := by decide +kernel
theorem dX9_knit_48 : decode cX9_knit 48 = .ok (.aload_n 0, 1) := by decide +kernel
theorem dX9_knit_49 : decode cX9_knit 49 = .ok (.getfield 7, 3) := by decide +kernel
theorem dX9_knit_52 : decode cX9_knit 52 = .ok (.iconst 0, 1) := by decide +kernel
theorem dX9_knit_53 : decode cX9_knit 53 = .ok (.iaload, 1) := by decide +kernel
theorem dX9_knit_54 : decode cX9_knit 54 = .ok (.iconst 1, 1) := by decide +kernel
theorem dX9_knit_55 : decode cX9_knit 55 = .ok (.isub, 1) := by decide +kernel
theorem dX9_knit_56 : decode cX9_knit 56 = .ok (.ireturn, 1) := by decide +kernel
theorem dX9_hangs_0 : decode cX9_hangs 0 = .ok (.aload_n 0, 1) := by decide +kernel
theorem dX9_hangs_1 : decode cX9_hangs 1 = .ok (.iload_n 1, 1) := by decide +kernel
theorem dX9_hangs_2 : decode cX9_hangs 2 = .ok (.iconst 0, 1) := by decide +kernel
theorem dX9_hangs_3 : decode cX9_hangs 3 = .ok (.invokevirtual 91, 3) := by decide +kernel
theorem dX9_hangs_6 : decode cX9_hangs 6 = .ok (.tableswitch 51 2 5 #[36, 30, 36, 49], 30) := by decide +kernel
theorem dX9_hangs_36 : decode cX9_hangs 36 = .ok (.iconst 1, 1) := by decide +kernel
theorem dX9_hangs_37 : decode cX9_hangs 37 = .ok (.iload_n 2, 1) := by decide +kernel
theorem dX9_hangs_38 : decode cX9_hangs 38 = .ok (.iconst 1, 1) := by decide +kernel
theorem dX9_hangs_39 : decode cX9_hangs 39 = .ok (.ixor, 1) := by decide +kernel
theorem dX9_hangs_40 : decode cX9_hangs 40 = .ok (.ishl, 1) := by decide +kernel
theorem dX9_hangs_41 : decode cX9_hangs 41 = .ok (.ireturn, 1) := by decide +kernel
theorem dX9_hangs_42 : decode cX9_hangs 42 = .ok (.iconst 1, 1) := by decide +kernel
theorem dX9_hangs_43 : decode cX9_hangs 43 = .ok (.iload_n 2, 1) := by decide +kernel
theorem dX9_hangs_44 : decode cX9_hangs 44 = .ok (.ishl, 1) := by decide +kernel
theorem dX9_hangs_45 : decode cX9_hangs 45 = .ok (.iconst 1, 1) := by decide +kernel
theorem dX9_hangs_46 : decode cX9_hangs 46 = .ok (.iload_n 2, 1) := by decide +kernel
theorem dX9_hangs_47 : decode cX9_hangs 47 = .ok (.iconst 1, 1) := by decide +kernel
theorem dX9_hangs_48 : decode cX9_hangs 48 = .ok (.iadd, 1) := by decide +kernel
theorem dX9_hangs_49 : decode cX9_hangs 49 = .ok (.bipush 8, 2) := by decide +kernel
theorem dX9_hangs_51 : decode cX9_hangs 51 = .ok (.irem, 1) := by decide +kernel
theorem dX9_hangs_52 : decode cX9_hangs 52 = .ok (.ishl, 1) := by decide +kernel
theorem dX9_hangs_53 : decode cX9_hangs 53 = .ok (.ior, 1) := by decide +kernel
theorem dX9_hangs_54 : decode cX9_hangs 54 = .ok (.ireturn, 1) := by decide +kernel
theorem dX9_hangs_55 : decode cX9_hangs 55 = .ok (.iconst 0, 1) := by decide +kernel
theorem dX9_hangs_56 : decode cX9_hangs 56 = .ok (.ireturn, 1) := by decide +kernel
theorem dX9_hangs_57 : decode cX9_hangs 57 = .ok (.iconst 1, 1) := by decide +kernel
theorem dX9_hangs_58 : decode cX9_hangs 58 = .ok (.iload_n 2, 1) := by decide +kernel
theorem dX9_hangs_59 : decode cX9_hangs 59 = .ok (.ishl, 1) := by decide +kernel
theorem dX9_hangs_60 : decode cX9_hangs 60 = .ok (.ireturn, 1) := by decide +kernel
theorem dX9_holds_0 : decode cX9_holds 0 = .ok (.iconst 0, 1) := by decide +kernel
theorem dX9_holds_1 : decode cX9_holds 1 = .ok (.istore_n 1, 1) := by decide +kernel
theorem dX9_holds_2 : decode cX9_holds 2 = .ok (.iconst 0, 1) := by decide +kernel
theorem dX9_holds_3 : decode cX9_holds 3 = .ok (.istore_n 2, 1) := by decide +kernel
theorem dX9_holds_4 : decode cX9_holds 4 = .ok (.iload_n 2, 1) := by decide +kernel
theorem dX9_holds_5 : decode cX9_holds 5 = .ok (.aload_n 0, 1) := by decide +kernel
theorem dX9_holds_6 : decode cX9_holds 6 = .ok (.getfield 7, 3) := by decide +kernel
theorem dX9_holds_9 : decode cX9_holds 9 = .ok (.iconst 0, 1) := by decide +kernel
theorem dX9_holds_10 : decode cX9_holds 10 = .ok (.iaload, 1) := by decide +kernel
theorem dX9_holds_11 : decode cX9_holds 11 = .ok (.if_icmp .ge 121, 3) := by decide +kernel
theorem dX9_holds_14 : decode cX9_holds 14 = .ok (.iload_n 2, 1) := by decide +kernel
theorem dX9_holds_15 : decode cX9_holds 15 = .ok (.ifCond .ne 9, 3) := by decide +kernel
theorem dX9_holds_18 : decode cX9_holds 18 = .ok (.sipush 255, 3) := by decide +kernel
theorem dX9_holds_21 : decode cX9_holds 21 = .ok (.goto 11, 3) := by decide +kernel
theorem dX9_holds_24 : decode cX9_holds 24 = .ok (.aload_n 0, 1) := by decide +kernel
theorem dX9_holds_25 : decode cX9_holds 25 = .ok (.getfield 43, 3) := by decide +kernel
theorem dX9_holds_28 : decode cX9_holds 28 = .ok (.iload_n 2, 1) := by decide +kernel
theorem dX9_holds_29 : decode cX9_holds 29 = .ok (.iconst 1, 1) := by decide +kernel
theorem dX9_holds_30 : decode cX9_holds 30 = .ok (.isub, 1) := by decide +kernel
theorem dX9_holds_31 : decode cX9_holds 31 = .ok (.iaload, 1) := by decide +kernel
theorem dX9_holds_32 : decode cX9_holds 32 = .ok (.istore_n 3, 1) := by decide +kernel
theorem dX9_holds_33 : decode cX9_holds 33 = .ok (.aload_n 0, 1) := by decide +kernel
theorem dX9_holds_34 : decode cX9_holds 34 = .ok (.getfield 43, 3) := by decide +kernel
theorem dX9_holds_37 : decode cX9_holds 37 = .ok (.iload_n 2, 1) := by decide +kernel
theorem dX9_holds_38 : decode cX9_holds 38 = .ok (.iconst 0, 1) := by decide +kernel
theorem dX9_holds_39 : decode cX9_holds 39 = .ok (.iastore, 1) := by decide +kernel
theorem dX9_holds_40 : decode cX9_holds 40 = .ok (.iconst 0, 1) := by decide +kernel
theorem dX9_holds_41 : decode cX9_holds 41 = .ok (.istore 4, 2) := by decide +kernel
theorem dX9_holds_43 : decode cX9_holds 43 = .ok (.iload 4, 2) := by decide +kernel
theorem dX9_holds_45 : decode cX9_holds 45 = .ok (.bipush 8, 2) := by decide +kernel
theorem dX9_holds_47 : decode cX9_holds 47 = .ok (.if_icmp .ge 79, 3) := by decide +kernel
theorem dX9_holds_50 : decode cX9_holds 50 = .ok (.aload_n 0, 1) := by decide +kernel
theorem dX9_holds_51 : decode cX9_holds 51 = .ok (.iload_n 2, 1) := by decide +kernel
theorem dX9_holds_52 : decode cX9_holds 52 = .ok (.iconst 3, 1) := by decide +kernel
theorem dX9_holds_53 : decode cX9_holds 53 = .ok (.invokevirtual 91, 3) := by decide +kernel
theorem dX9_holds_56 : decode cX9_holds 56 = .ok (.iload 4, 2) := by decide +kernel
theorem dX9_holds_58 : decode cX9_holds 58 = .ok (.invokestatic 95, 3) := by decide +kernel
theorem dX9_holds_61 : decode cX9_holds 61 = .ok (.ifCond .ne 21, 3) := by decide +kernel
theorem dX9_holds_64 : decode cX9_holds 64 = .ok (.aload_n 0, 1) := by decide +kernel
theorem dX9_holds_65 : decode cX9_holds 65 = .ok (.iload_n 2, 1) := by decide +kernel
theorem dX9_holds_66 : decode cX9_holds 66 = .ok (.iload 4, 2) := by decide +kernel
theorem dX9_holds_68 : decode cX9_holds 68 = .ok (.invokevirtual 99, 3) := by decide +kernel
theorem dX9_holds_71 : decode cX9_holds 71 = .ok (.iload_n 3, 1) := by decide +kernel
theorem dX9_holds_72 : decode cX9_holds 72 = .ok (.iconst (-1), 1) := by decide +kernel
theorem dX9_holds_73 : decode cX9_holds 73 = .ok (.ixor, 1) := by decide +kernel
theorem dX9_holds_74 : decode cX9_holds 74 = .ok (.iand, 1) := by decide +kernel
theorem dX9_holds_75 : decode cX9_holds 75 = .ok (.ifCond .ne 7, 3) := by decide +kernel
theorem dX9_holds_78 : decode cX9_holds 78 = .ok (.iconst 1, 1) := by decide +kernel
theorem dX9_holds_79 : decode cX9_holds 79 = .ok (.goto 4, 3) := by decide +kernel
theorem dX9_holds_82 : decode cX9_holds 82 = .ok (.iconst 0, 1) := by decide +kernel
theorem dX9_holds_83 : decode cX9_holds 83 = .ok (.istore 5, 2) := by decide +kernel
theorem dX9_holds_85 : decode cX9_holds 85 = .ok (.aload_n 0, 1) := by decide +kernel
theorem dX9_holds_86 : decode cX9_holds 86 = .ok (.getfield 43, 3) := by decide +kernel
theorem dX9_holds_89 : decode cX9_holds 89 = .ok (.iload_n 2, 1) := by decide +kernel
theorem dX9_holds_90 : decode cX9_holds 90 = .ok (.dup2, 1) := by decide +kernel
theorem dX9_holds_91 : decode cX9_holds 91 = .ok (.iaload, 1) := by decide +kernel
theorem dX9_holds_92 : decode cX9_holds 92 = .ok (.iload 5, 2) := by decide +kernel
theorem dX9_holds_94 : decode cX9_holds 94 = .ok (.ifCond .eq 10, 3) := by decide +kernel
theorem dX9_holds_97 : decode cX9_holds 97 = .ok (.iconst 1, 1) := by decide +kernel
theorem dX9_holds_98 : decode cX9_holds 98 = .ok (.iload 4, 2) := by decide +kernel
theorem dX9_holds_100 : decode cX9_holds 100 = .ok (.ishl, 1) := by decide +kernel
theorem dX9_holds_101 : decode cX9_holds 101 = .ok (.goto 4, 3) := by decide +kernel
theorem dX9_holds_104 : decode cX9_holds 104 = .ok (.iconst 0, 1) := by decide +kernel
theorem dX9_holds_105 : decode cX9_holds 105 = .ok (.ior, 1) := by decide +kernel
theorem dX9_holds_106 : decode cX9_holds 106 = .ok (.iastore, 1) := by decide +kernel
theorem dX9_holds_107 : decode cX9_holds 107 = .ok (.iload_n 1, 1) := by decide +kernel
theorem dX9_holds_108 : decode cX9_holds 108 = .ok (.iload 5, 2) := by decide +kernel
theorem dX9_holds_110 : decode cX9_holds 110 = .ok (.ifCond .eq 7, 3) := by decide +kernel
theorem dX9_holds_113 : decode cX9_holds 113 = .ok (.iconst 1, 1) := by decide +kernel
theorem dX9_holds_114 : decode cX9_holds 114 = .ok (.goto 4, 3) := by decide +kernel
theorem dX9_holds_117 : decode cX9_holds 117 = .ok (.iconst 0, 1) := by decide +kernel
theorem dX9_holds_118 : decode cX9_holds 118 = .ok (.iadd, 1) := by decide +kernel
theorem dX9_holds_119 : decode cX9_holds 119 = .ok (.istore_n 1, 1) := by decide +kernel
theorem dX9_holds_120 : decode cX9_holds 120 = .ok (.iinc 4 1, 3) := by decide +kernel
theorem dX9_holds_123 : decode cX9_holds 123 = .ok (.goto (-80), 3) := by decide +kernel
theorem dX9_holds_126 : decode cX9_holds 126 = .ok (.iinc 2 1, 3) := by decide +kernel
theorem dX9_holds_129 : decode cX9_holds 129 = .ok (.goto (-125), 3) := by decide +kernel
theorem dX9_holds_132 : decode cX9_holds 132 = .ok (.iload_n 1, 1) := by decide +kernel
theorem dX9_holds_133 : decode cX9_holds 133 = .ok (.ireturn, 1) := by decide +kernel
theorem dX9_plain_0 : decode cX9_plain 0 = .ok (.aload_n 0, 1) := by decide +kernel
theorem dX9_plain_1 : decode cX9_plain 1 = .ok (.iconst 0, 1) := by decide +kernel
theorem dX9_plain_2 : decode cX9_plain 2 = .ok (.invokevirtual 102, 3) := by decide +kernel
theorem dX9_plain_5 : decode cX9_plain 5 = .ok (.istore_n 2, 1) := by decide +kernel
theorem dX9_plain_6 : decode cX9_plain 6 = .ok (.iload_n 2, 1) := by decide +kernel
theorem dX9_plain_7 : decode cX9_plain 7 = .ok (.ifCond .ge 6, 3) := by decide +kernel
theorem dX9_plain_10 : decode cX9_plain 10 = .ok (.bipush 6, 2) := by decide +kernel
theorem dX9_plain_12 : decode cX9_plain 12 = .ok (.ireturn, 1) := by decide +kernel
theorem dX9_plain_13 : decode cX9_plain 13 = .ok (.aload_n 0, 1) := by decide +kernel
theorem dX9_plain_14 : decode cX9_plain 14 = .ok (.getfield 55, 3) := by decide +kernel
theorem dX9_plain_17 : decode cX9_plain 17 = .ok (.bipush 103, 2) := by decide +kernel
theorem dX9_plain_19 : decode cX9_plain 19 = .ok (.aload_n 0, 1) := by decide +kernel
theorem dX9_plain_20 : decode cX9_plain 20 = .ok (.iload_n 1, 1) := by decide +kernel
theorem dX9_plain_21 : decode cX9_plain 21 = .ok (.iconst 1, 1) := by decide +kernel
theorem dX9_plain_22 : decode cX9_plain 22 = .ok (.invokevirtual 91, 3) := by decide +kernel
theorem dX9_plain_25 : decode cX9_plain 25 = .ok (.iastore, 1) := by decide +kernel
theorem dX9_plain_26 : decode cX9_plain 26 = .ok (.aload_n 0, 1) := by decide +kernel
theorem dX9_plain_27 : decode cX9_plain 27 = .ok (.getfield 55, 3) := by decide +kernel
theorem dX9_plain_30 : decode cX9_plain 30 = .ok (.bipush 119, 2) := by decide +kernel
theorem dX9_plain_32 : decode cX9_plain 32 = .ok (.aload_n 0, 1) := by decide +kernel
theorem dX9_plain_33 : decode cX9_plain 33 = .ok (.iload_n 1, 1) := by decide +kernel
theorem dX9_plain_34 : decode cX9_plain 34 = .ok (.iconst 2, 1) := by decide +kernel
theorem dX9_plain_35 : decode cX9_plain 35 = .ok (.invokevirtual 91, 3) := by decide +kernel
theorem dX9_plain_38 : decode cX9_plain 38 = .ok (.iastore, 1) := by decide +kernel
theorem dX9_plain_39 : decode cX9_plain 39 = .ok (.aload_n 0, 1) := by decide +kernel
theorem dX9_plain_40 : decode cX9_plain 40 = .ok (.getfield 55, 3) := by decide +kernel
theorem dX9_plain_43 : decode cX9_plain 43 = .ok (.bipush 110, 2) := by decide +kernel
theorem dX9_plain_45 : decode cX9_plain 45 = .ok (.aload_n 0, 1) := by decide +kernel
theorem dX9_plain_46 : decode cX9_plain 46 = .ok (.getfield 7, 3) := by decide +kernel
theorem dX9_plain_49 : decode cX9_plain 49 = .ok (.iconst 2, 1) := by decide +kernel
theorem dX9_plain_50 : decode cX9_plain 50 = .ok (.iaload, 1) := by decide +kernel
theorem dX9_plain_51 : decode cX9_plain 51 = .ok (.iastore, 1) := by decide +kernel
theorem dX9_plain_52 : decode cX9_plain 52 = .ok (.aload_n 0, 1) := by decide +kernel
theorem dX9_plain_53 : decode cX9_plain 53 = .ok (.iload_n 2, 1) := by decide +kernel
theorem dX9_plain_54 : decode cX9_plain 54 = .ok (.invokevirtual 106, 3) := by decide +kernel
theorem dX9_plain_57 : decode cX9_plain 57 = .ok (.bipush 99, 2) := by decide +kernel
theorem dX9_plain_59 : decode cX9_plain 59 = .ok (.invokestatic 109, 3) := by decide +kernel
theorem dX9_plain_62 : decode cX9_plain 62 = .ok (.ireturn, 1) := by decide +kernel
theorem dX9_wears_0 : decode cX9_wears 0 = .ok (.aload_n 0, 1) := by decide +kernel
theorem dX9_wears_1 : decode cX9_wears 1 = .ok (.iload_n 1, 1) := by decide +kernel
theorem dX9_wears_2 : decode cX9_wears 2 = .ok (.invokevirtual 112, 3) := by decide +kernel
theorem dX9_wears_5 : decode cX9_wears 5 = .ok (.istore_n 2, 1) := by decide +kernel
theorem dX9_wears_6 : decode cX9_wears 6 = .ok (.aload_n 0, 1) := by decide +kernel
theorem dX9_wears_7 : decode cX9_wears 7 = .ok (.iload_n 1, 1) := by decide +kernel
theorem dX9_wears_8 : decode cX9_wears 8 = .ok (.iconst 0, 1) := by decide +kernel
theorem dX9_wears_9 : decode cX9_wears 9 = .ok (.invokevirtual 91, 3) := by decide +kernel
theorem dX9_wears_12 : decode cX9_wears 12 = .ok (.tableswitch 72 1 5 #[36, 49, 36, 53, 70], 36) := by decide +kernel
theorem dX9_wears_48 : decode cX9_wears 48 = .ok (.iload_n 2, 1) := by decide +kernel
theorem dX9_wears_49 : decode cX9_wears 49 = .ok (.iconst 2, 1) := by decide +kernel
theorem dX9_wears_50 : decode cX9_wears 50 = .ok (.if_icmp .le 9, 3) := by decide +kernel
theorem dX9_wears_53 : decode cX9_wears 53 = .ok (.iload_n 2, 1) := by decide +kernel
theorem dX9_wears_54 : decode cX9_wears 54 = .ok (.iconst 2, 1) := by decide +kernel
theorem dX9_wears_55 : decode cX9_wears 55 = .ok (.isub, 1) := by decide +kernel
theorem dX9_wears_56 : decode cX9_wears 56 = .ok (.goto 4, 3) := by decide +kernel
theorem dX9_wears_59 : decode cX9_wears 59 = .ok (.iconst 0, 1) := by decide +kernel
theorem dX9_wears_60 : decode cX9_wears 60 = .ok (.ireturn, 1) := by decide +kernel
theorem dX9_wears_61 : decode cX9_wears 61 = .ok (.iconst 2, 1) := by decide +kernel
theorem dX9_wears_62 : decode cX9_wears 62 = .ok (.iload_n 2, 1) := by decide +kernel
theorem dX9_wears_63 : decode cX9_wears 63 = .ok (.imul, 1) := by decide +kernel
theorem dX9_wears_64 : decode cX9_wears 64 = .ok (.ireturn, 1) := by decide +kernel
theorem dX9_wears_65 : decode cX9_wears 65 = .ok (.iconst 2, 1) := by decide +kernel
theorem dX9_wears_66 : decode cX9_wears 66 = .ok (.iload_n 2, 1) := by decide +kernel
theorem dX9_wears_67 : decode cX9_wears 67 = .ok (.imul, 1) := by decide +kernel
theorem dX9_wears_68 : decode cX9_wears 68 = .ok (.iconst 3, 1) := by decide +kernel
theorem dX9_wears_69 : decode cX9_wears 69 = .ok (.if_icmp .le 11, 3) := by decide +kernel
theorem dX9_wears_72 : decode cX9_wears 72 = .ok (.iconst 2, 1) := by decide +kernel
theorem dX9_wears_73 : decode cX9_wears 73 = .ok (.iload_n 2, 1) := by decide +kernel
theorem dX9_wears_74 : decode cX9_wears 74 = .ok (.imul, 1) := by decide +kernel
theorem dX9_wears_75 : decode cX9_wears 75 = .ok (.iconst 3, 1) := by decide +kernel
theorem dX9_wears_76 : decode cX9_wears 76 = .ok (.isub, 1) := by decide +kernel
theorem dX9_wears_77 : decode cX9_wears 77 = .ok (.goto 4, 3) := by decide +kernel
theorem dX9_wears_80 : decode cX9_wears 80 = .ok (.iconst 0, 1) := by decide +kernel
theorem dX9_wears_81 : decode cX9_wears 81 = .ok (.ireturn, 1) := by decide +kernel
theorem dX9_wears_82 : decode cX9_wears 82 = .ok (.iconst 1, 1) := by decide +kernel
theorem dX9_wears_83 : decode cX9_wears 83 = .ok (.ireturn, 1) := by decide +kernel
theorem dX9_wears_84 : decode cX9_wears 84 = .ok (.iload_n 2, 1) := by decide +kernel
theorem dX9_wears_85 : decode cX9_wears 85 = .ok (.ireturn, 1) := by decide +kernel
theorem dX9_bears_0 : decode cX9_bears 0 = .ok (.bipush 10, 2) := by decide +kernel
theorem dX9_bears_2 : decode cX9_bears 2 = .ok (.aload_n 0, 1) := by decide +kernel
theorem dX9_bears_3 : decode cX9_bears 3 = .ok (.iload_n 1, 1) := by decide +kernel
theorem dX9_bears_4 : decode cX9_bears 4 = .ok (.iconst 1, 1) := by decide +kernel
theorem dX9_bears_5 : decode cX9_bears 5 = .ok (.invokevirtual 91, 3) := by decide +kernel
theorem dX9_bears_8 : decode cX9_bears 8 = .ok (.imul, 1) := by decide +kernel
theorem dX9_bears_9 : decode cX9_bears 9 = .ok (.istore_n 2, 1) := by decide +kernel
theorem dX9_bears_10 : decode cX9_bears 10 = .ok (.aload_n 0, 1) := by decide +kernel
theorem dX9_bears_11 : decode cX9_bears 11 = .ok (.iload_n 1, 1) := by decide +kernel
theorem dX9_bears_12 : decode cX9_bears 12 = .ok (.iconst 0, 1) := by decide +kernel
theorem dX9_bears_13 : decode cX9_bears 13 = .ok (.invokevirtual 91, 3) := by decide +kernel
theorem dX9_bears_16 : decode cX9_bears 16 = .ok (.iconst 3, 1) := by decide +kernel
theorem dX9_bears_17 : decode cX9_bears 17 = .ok (.if_icmp .ne 9, 3) := by decide +kernel
theorem dX9_bears_20 : decode cX9_bears 20 = .ok (.iload_n 2, 1) := by decide +kernel
theorem dX9_bears_21 : decode cX9_bears 21 = .ok (.iconst 5, 1) := by decide +kernel
theorem dX9_bears_22 : decode cX9_bears 22 = .ok (.iadd, 1) := by decide +kernel
theorem dX9_bears_23 : decode cX9_bears 23 = .ok (.goto 20, 3) := by decide +kernel
theorem dX9_bears_26 : decode cX9_bears 26 = .ok (.aload_n 0, 1) := by decide +kernel
theorem dX9_bears_27 : decode cX9_bears 27 = .ok (.iload_n 1, 1) := by decide +kernel
theorem dX9_bears_28 : decode cX9_bears 28 = .ok (.iconst 0, 1) := by decide +kernel
theorem dX9_bears_29 : decode cX9_bears 29 = .ok (.invokevirtual 91, 3) := by decide +kernel
theorem dX9_bears_32 : decode cX9_bears 32 = .ok (.iconst 4, 1) := by decide +kernel
theorem dX9_bears_33 : decode cX9_bears 33 = .ok (.if_icmp .ne 9, 3) := by decide +kernel
theorem dX9_bears_36 : decode cX9_bears 36 = .ok (.iconst 2, 1) := by decide +kernel
theorem dX9_bears_37 : decode cX9_bears 37 = .ok (.iload_n 2, 1) := by decide +kernel
theorem dX9_bears_38 : decode cX9_bears 38 = .ok (.imul, 1) := by decide +kernel
theorem dX9_bears_39 : decode cX9_bears 39 = .ok (.goto 4, 3) := by decide +kernel
theorem dX9_bears_42 : decode cX9_bears 42 = .ok (.iload_n 2, 1) := by decide +kernel
theorem dX9_bears_43 : decode cX9_bears 43 = .ok (.ireturn, 1) := by decide +kernel
theorem dX9_worth_0 : decode cX9_worth 0 = .ok (.aload_n 0, 1) := by decide +kernel
theorem dX9_worth_1 : decode cX9_worth 1 = .ok (.iload_n 1, 1) := by decide +kernel
theorem dX9_worth_2 : decode cX9_worth 2 = .ok (.iconst 1, 1) := by decide +kernel
theorem dX9_worth_3 : decode cX9_worth 3 = .ok (.invokevirtual 91, 3) := by decide +kernel
theorem dX9_worth_6 : decode cX9_worth 6 = .ok (.istore_n 2, 1) := by decide +kernel
theorem dX9_worth_7 : decode cX9_worth 7 = .ok (.aload_n 0, 1) := by decide +kernel
theorem dX9_worth_8 : decode cX9_worth 8 = .ok (.iload_n 1, 1) := by decide +kernel
theorem dX9_worth_9 : decode cX9_worth 9 = .ok (.iconst 0, 1) := by decide +kernel
theorem dX9_worth_10 : decode cX9_worth 10 = .ok (.invokevirtual 91, 3) := by decide +kernel
theorem dX9_worth_13 : decode cX9_worth 13 = .ok (.tableswitch 58 1 5 #[35, 39, 44, 50, 55], 35) := by decide +kernel
theorem dX9_worth_48 : decode cX9_worth 48 = .ok (.iload_n 2, 1) := by decide +kernel
theorem dX9_worth_49 : decode cX9_worth 49 = .ok (.iconst 4, 1) := by decide +kernel
theorem dX9_worth_50 : decode cX9_worth 50 = .ok (.iadd, 1) := by decide +kernel
theorem dX9_worth_51 : decode cX9_worth 51 = .ok (.ireturn, 1) := by decide +kernel
theorem dX9_worth_52 : decode cX9_worth 52 = .ok (.bipush 50, 2) := by decide +kernel
theorem dX9_worth_54 : decode cX9_worth 54 = .ok (.iload_n 2, 1) := by decide +kernel
theorem dX9_worth_55 : decode cX9_worth 55 = .ok (.isub, 1) := by decide +kernel
theorem dX9_worth_56 : decode cX9_worth 56 = .ok (.ireturn, 1) := by decide +kernel
theorem dX9_worth_57 : decode cX9_worth 57 = .ok (.iconst 2, 1) := by decide +kernel
theorem dX9_worth_58 : decode cX9_worth 58 = .ok (.iload_n 2, 1) := by decide +kernel
theorem dX9_worth_59 : decode cX9_worth 59 = .ok (.iconst 4, 1) := by decide +kernel
theorem dX9_worth_60 : decode cX9_worth 60 = .ok (.iadd, 1) := by decide +kernel
theorem dX9_worth_61 : decode cX9_worth 61 = .ok (.imul, 1) := by decide +kernel
theorem dX9_worth_62 : decode cX9_worth 62 = .ok (.ireturn, 1) := by decide +kernel
theorem dX9_worth_63 : decode cX9_worth 63 = .ok (.bipush 44, 2) := by decide +kernel
theorem dX9_worth_65 : decode cX9_worth 65 = .ok (.iload_n 2, 1) := by decide +kernel
theorem dX9_worth_66 : decode cX9_worth 66 = .ok (.isub, 1) := by decide +kernel
theorem dX9_worth_67 : decode cX9_worth 67 = .ok (.ireturn, 1) := by decide +kernel
theorem dX9_worth_68 : decode cX9_worth 68 = .ok (.bipush 7, 2) := by decide +kernel
theorem dX9_worth_70 : decode cX9_worth 70 = .ok (.ireturn, 1) := by decide +kernel
theorem dX9_worth_71 : decode cX9_worth 71 = .ok (.iload_n 2, 1) := by decide +kernel
theorem dX9_worth_72 : decode cX9_worth 72 = .ok (.ireturn, 1) := by decide +kernel
theorem dX9_holding_0 : decode cX9_holding 0 = .ok (.aload_n 0, 1) := by decide +kernel
theorem dX9_holding_1 : decode cX9_holding 1 = .ok (.invokevirtual 115, 3) := by decide +kernel
theorem dX9_holding_4 : decode cX9_holding 4 = .ok (.istore_n 2, 1) := by decide +kernel
theorem dX9_holding_5 : decode cX9_holding 5 = .ok (.iload_n 2, 1) := by decide +kernel
theorem dX9_holding_6 : decode cX9_holding 6 = .ok (.ifCond .ge 7, 3) := by decide +kernel
theorem dX9_holding_9 : decode cX9_holding 9 = .ok (.iconst 0, 1) := by decide +kernel
theorem dX9_holding_10 : decode cX9_holding 10 = .ok (.goto 9, 3) := by decide +kernel
theorem dX9_holding_13 : decode cX9_holding 13 = .ok (.aload_n 0, 1) := by decide +kernel
theorem dX9_holding_14 : decode cX9_holding 14 = .ok (.getfield 43, 3) := by decide +kernel
theorem dX9_holding_17 : decode cX9_holding 17 = .ok (.iload_n 1, 1) := by decide +kernel
theorem dX9_holding_18 : decode cX9_holding 18 = .ok (.iaload, 1) := by decide +kernel
theorem dX9_holding_19 : decode cX9_holding 19 = .ok (.ireturn, 1) := by decide +kernel
theorem dX9_told_0 : decode cX9_told 0 = .ok (.aload_n 0, 1) := by decide +kernel
theorem dX9_told_1 : decode cX9_told 1 = .ok (.iload_n 1, 1) := by decide +kernel
theorem dX9_told_2 : decode cX9_told 2 = .ok (.invokevirtual 119, 3) := by decide +kernel
theorem dX9_told_5 : decode cX9_told 5 = .ok (.ifCond .eq 15, 3) := by decide +kernel
theorem dX9_told_8 : decode cX9_told 8 = .ok (.iload_n 2, 1) := by decide +kernel
theorem dX9_told_9 : decode cX9_told 9 = .ok (.i2l, 1) := by decide +kernel
theorem dX9_told_10 : decode cX9_told 10 = .ok (.lconst 0, 1) := by decide +kernel
theorem dX9_told_11 : decode cX9_told 11 = .ok (.ldc2_w 76, 3) := by decide +kernel
theorem dX9_told_14 : decode cX9_told 14 = .ok (.invokestatic 71, 3) := by decide +kernel
theorem dX9_told_17 : decode cX9_told 17 = .ok (.ifCond .ne 6, 3) := by decide +kernel
theorem dX9_told_20 : decode cX9_told 20 = .ok (.ldc 86, 2) := by decide +kernel
theorem dX9_told_22 : decode cX9_told 22 = .ok (.ireturn, 1) := by decide +kernel
theorem dX9_told_23 : decode cX9_told 23 = .ok (.iload_n 2, 1) := by decide +kernel
theorem dX9_told_24 : decode cX9_told 24 = .ok (.tableswitch 56 4 7 #[32, 38, 44, 50], 32) := by decide +kernel
theorem dX9_told_56 : decode cX9_told 56 = .ok (.aload_n 0, 1) := by decide +kernel
theorem dX9_told_57 : decode cX9_told 57 = .ok (.iload_n 1, 1) := by decide +kernel
theorem dX9_told_58 : decode cX9_told 58 = .ok (.invokevirtual 123, 3) := by decide +kernel
theorem dX9_told_61 : decode cX9_told 61 = .ok (.ireturn, 1) := by decide +kernel
theorem dX9_told_62 : decode cX9_told 62 = .ok (.aload_n 0, 1) := by decide +kernel
theorem dX9_told_63 : decode cX9_told 63 = .ok (.iload_n 1, 1) := by decide +kernel
theorem dX9_told_64 : decode cX9_told 64 = .ok (.invokevirtual 126, 3) := by decide +kernel
theorem dX9_told_67 : decode cX9_told 67 = .ok (.ireturn, 1) := by decide +kernel
theorem dX9_told_68 : decode cX9_told 68 = .ok (.aload_n 0, 1) := by decide +kernel
theorem dX9_told_69 : decode cX9_told 69 = .ok (.iload_n 1, 1) := by decide +kernel
theorem dX9_told_70 : decode cX9_told 70 = .ok (.invokevirtual 129, 3) := by decide +kernel
theorem dX9_told_73 : decode cX9_told 73 = .ok (.ireturn, 1) := by decide +kernel
theorem dX9_told_74 : decode cX9_told 74 = .ok (.aload_n 0, 1) := by decide +kernel
theorem dX9_told_75 : decode cX9_told 75 = .ok (.iload_n 1, 1) := by decide +kernel
theorem dX9_told_76 : decode cX9_told 76 = .ok (.invokevirtual 132, 3) := by decide +kernel
theorem dX9_told_79 : decode cX9_told 79 = .ok (.ireturn, 1) := by decide +kernel
theorem dX9_told_80 : decode cX9_told 80 = .ok (.aload_n 0, 1) := by decide +kernel
theorem dX9_told_81 : decode cX9_told 81 = .ok (.iload_n 1, 1) := by decide +kernel
theorem dX9_told_82 : decode cX9_told 82 = .ok (.iload_n 2, 1) := by decide +kernel
theorem dX9_told_83 : decode cX9_told 83 = .ok (.invokevirtual 91, 3) := by decide +kernel
theorem dX9_told_86 : decode cX9_told 86 = .ok (.ireturn, 1) := by decide +kernel
theorem dX9_as_0 : decode cX9_as 0 = .ok (.aload_n 0, 1) := by decide +kernel
theorem dX9_as_1 : decode cX9_as 1 = .ok (.iload_n 1, 1) := by decide +kernel
theorem dX9_as_2 : decode cX9_as 2 = .ok (.invokevirtual 119, 3) := by decide +kernel
theorem dX9_as_5 : decode cX9_as 5 = .ok (.ifCond .eq 15, 3) := by decide +kernel
theorem dX9_as_8 : decode cX9_as 8 = .ok (.iload_n 2, 1) := by decide +kernel
theorem dX9_as_9 : decode cX9_as 9 = .ok (.i2l, 1) := by decide +kernel
theorem dX9_as_10 : decode cX9_as 10 = .ok (.lconst 0, 1) := by decide +kernel
theorem dX9_as_11 : decode cX9_as 11 = .ok (.ldc2_w 82, 3) := by decide +kernel
theorem dX9_as_14 : decode cX9_as 14 = .ok (.invokestatic 71, 3) := by decide +kernel
theorem dX9_as_17 : decode cX9_as 17 = .ok (.ifCond .ne 6, 3) := by decide +kernel
theorem dX9_as_20 : decode cX9_as 20 = .ok (.ldc 86, 2) := by decide +kernel
theorem dX9_as_22 : decode cX9_as 22 = .ok (.ireturn, 1) := by decide +kernel
theorem dX9_as_23 : decode cX9_as 23 = .ok (.aload_n 0, 1) := by decide +kernel
theorem dX9_as_24 : decode cX9_as 24 = .ok (.iload_n 1, 1) := by decide +kernel
theorem dX9_as_25 : decode cX9_as 25 = .ok (.iconst 0, 1) := by decide +kernel
theorem dX9_as_26 : decode cX9_as 26 = .ok (.invokevirtual 91, 3) := by decide +kernel
theorem dX9_as_29 : decode cX9_as 29 = .ok (.iload_n 2, 1) := by decide +kernel
theorem dX9_as_30 : decode cX9_as 30 = .ok (.invokestatic 135, 3) := by decide +kernel
theorem dX9_as_33 : decode cX9_as 33 = .ok (.ifCond .eq 12, 3) := by decide +kernel
theorem dX9_as_36 : decode cX9_as 36 = .ok (.aload_n 0, 1) := by decide +kernel
theorem dX9_as_37 : decode cX9_as 37 = .ok (.iload_n 1, 1) := by decide +kernel
theorem dX9_as_38 : decode cX9_as 38 = .ok (.iconst 2, 1) := by decide +kernel
theorem dX9_as_39 : decode cX9_as 39 = .ok (.invokevirtual 91, 3) := by decide +kernel
theorem dX9_as_42 : decode cX9_as 42 = .ok (.goto 5, 3) := by decide +kernel
theorem dX9_as_45 : decode cX9_as 45 = .ok (.ldc 138, 2) := by decide +kernel
theorem dX9_as_47 : decode cX9_as 47 = .ok (.ireturn, 1) := by decide +kernel
theorem dX9_turns_0 : decode cX9_turns 0 = .ok (.aload_n 0, 1) := by decide +kernel
theorem dX9_turns_1 : decode cX9_turns 1 = .ok (.iload_n 1, 1) := by decide +kernel
theorem dX9_turns_2 : decode cX9_turns 2 = .ok (.invokevirtual 119, 3) := by decide +kernel
theorem dX9_turns_5 : decode cX9_turns 5 = .ok (.ifCond .eq 29, 3) := by decide +kernel
theorem dX9_turns_8 : decode cX9_turns 8 = .ok (.iload_n 2, 1) := by decide +kernel
theorem dX9_turns_9 : decode cX9_turns 9 = .ok (.i2l, 1) := by decide +kernel
theorem dX9_turns_10 : decode cX9_turns 10 = .ok (.lconst 0, 1) := by decide +kernel
theorem dX9_turns_11 : decode cX9_turns 11 = .ok (.ldc2_w 82, 3) := by decide +kernel
theorem dX9_turns_14 : decode cX9_turns 14 = .ok (.invokestatic 71, 3) := by decide +kernel
theorem dX9_turns_17 : decode cX9_turns 17 = .ok (.ifCond .eq 17, 3) := by decide +kernel
theorem dX9_turns_20 : decode cX9_turns 20 = .ok (.aload_n 0, 1) := by decide +kernel
theorem dX9_turns_21 : decode cX9_turns 21 = .ok (.bipush 10, 2) := by decide +kernel
theorem dX9_turns_23 : decode cX9_turns 23 = .ok (.iconst 4, 1) := by decide +kernel
theorem dX9_turns_24 : decode cX9_turns 24 = .ok (.iload_n 1, 1) := by decide +kernel
theorem dX9_turns_25 : decode cX9_turns 25 = .ok (.imul, 1) := by decide +kernel
theorem dX9_turns_26 : decode cX9_turns 26 = .ok (.iadd, 1) := by decide +kernel
theorem dX9_turns_27 : decode cX9_turns 27 = .ok (.iload_n 2, 1) := by decide +kernel
theorem dX9_turns_28 : decode cX9_turns 28 = .ok (.invokevirtual 139, 3) := by decide +kernel
theorem dX9_turns_31 : decode cX9_turns 31 = .ok (.goto 5, 3) := by decide +kernel
theorem dX9_turns_34 : decode cX9_turns 34 = .ok (.ldc 86, 2) := by decide +kernel
theorem dX9_turns_36 : decode cX9_turns 36 = .ok (.ireturn, 1) := by decide +kernel
theorem dX9_set_0 : decode cX9_set 0 = .ok (.aload_n 0, 1) := by decide +kernel
theorem dX9_set_1 : decode cX9_set 1 = .ok (.iload_n 1, 1) := by decide +kernel
theorem dX9_set_2 : decode cX9_set 2 = .ok (.invokevirtual 119, 3) := by decide +kernel
theorem dX9_set_5 : decode cX9_set 5 = .ok (.ifCond .eq 47, 3) := by decide +kernel
theorem dX9_set_8 : decode cX9_set 8 = .ok (.iload_n 2, 1) := by decide +kernel
theorem dX9_set_9 : decode cX9_set 9 = .ok (.i2l, 1) := by decide +kernel
theorem dX9_set_10 : decode cX9_set 10 = .ok (.lconst 1, 1) := by decide +kernel
theorem dX9_set_11 : decode cX9_set 11 = .ok (.ldc2_w 142, 3) := by decide +kernel
theorem dX9_set_14 : decode cX9_set 14 = .ok (.invokestatic 71, 3) := by decide +kernel
theorem dX9_set_17 : decode cX9_set 17 = .ok (.ifCond .eq 35, 3) := by decide +kernel
theorem dX9_set_20 : decode cX9_set 20 = .ok (.iload_n 2, 1) := by decide +kernel
theorem dX9_set_21 : decode cX9_set 21 = .ok (.iconst 1, 1) := by decide +kernel
theorem dX9_set_22 : decode cX9_set 22 = .ok (.if_icmp .ne 18, 3) := by decide +kernel
theorem dX9_set_25 : decode cX9_set 25 = .ok (.iload_n 3, 1) := by decide +kernel
theorem dX9_set_26 : decode cX9_set 26 = .ok (.i2l, 1) := by decide +kernel
theorem dX9_set_27 : decode cX9_set 27 = .ok (.lconst 1, 1) := by decide +kernel
theorem dX9_set_28 : decode cX9_set 28 = .ok (.ldc2_w 84, 3) := by decide +kernel
theorem dX9_set_31 : decode cX9_set 31 = .ok (.invokestatic 71, 3) := by decide +kernel
theorem dX9_set_34 : decode cX9_set 34 = .ok (.ifCond .eq 18, 3) := by decide +kernel
theorem dX9_set_37 : decode cX9_set 37 = .ok (.goto 18, 3) := by decide +kernel
theorem dX9_set_40 : decode cX9_set 40 = .ok (.iload_n 3, 1) := by decide +kernel
theorem dX9_set_41 : decode cX9_set 41 = .ok (.i2l, 1) := by decide +kernel
theorem dX9_set_42 : decode cX9_set 42 = .ok (.lconst 0, 1) := by decide +kernel
theorem dX9_set_43 : decode cX9_set 43 = .ok (.ldc2_w 144, 3) := by decide +kernel
theorem dX9_set_46 : decode cX9_set 46 = .ok (.invokestatic 71, 3) := by decide +kernel
theorem dX9_set_49 : decode cX9_set 49 = .ok (.ifCond .ne 6, 3) := by decide +kernel
theorem dX9_set_52 : decode cX9_set 52 = .ok (.ldc 86, 2) := by decide +kernel
theorem dX9_set_54 : decode cX9_set 54 = .ok (.ireturn, 1) := by decide +kernel
theorem dX9_set_55 : decode cX9_set 55 = .ok (.aload_n 0, 1) := by decide +kernel
theorem dX9_set_56 : decode cX9_set 56 = .ok (.bipush 10, 2) := by decide +kernel
theorem dX9_set_58 : decode cX9_set 58 = .ok (.iconst 4, 1) := by decide +kernel
theorem dX9_set_59 : decode cX9_set 59 = .ok (.iload_n 1, 1) := by decide +kernel
theorem dX9_set_60 : decode cX9_set 60 = .ok (.imul, 1) := by decide +kernel
theorem dX9_set_61 : decode cX9_set 61 = .ok (.iadd, 1) := by decide +kernel
theorem dX9_set_62 : decode cX9_set 62 = .ok (.iload_n 2, 1) := by decide +kernel
theorem dX9_set_63 : decode cX9_set 63 = .ok (.iadd, 1) := by decide +kernel
theorem dX9_set_64 : decode cX9_set 64 = .ok (.iload_n 3, 1) := by decide +kernel
theorem dX9_set_65 : decode cX9_set 65 = .ok (.invokevirtual 139, 3) := by decide +kernel
theorem dX9_set_68 : decode cX9_set 68 = .ok (.ireturn, 1) := by decide +kernel
theorem dX9_isLost_0 : decode cX9_isLost 0 = .ok (.aload_n 0, 1) := by decide +kernel
theorem dX9_isLost_1 : decode cX9_isLost 1 = .ok (.iload_n 1, 1) := by decide +kernel
theorem dX9_isLost_2 : decode cX9_isLost 2 = .ok (.iconst 3, 1) := by decide +kernel
theorem dX9_isLost_3 : decode cX9_isLost 3 = .ok (.invokevirtual 91, 3) := by decide +kernel
theorem dX9_isLost_6 : decode cX9_isLost 6 = .ok (.iload_n 2, 1) := by decide +kernel
theorem dX9_isLost_7 : decode cX9_isLost 7 = .ok (.invokestatic 95, 3) := by decide +kernel
theorem dX9_isLost_10 : decode cX9_isLost 10 = .ok (.ireturn, 1) := by decide +kernel
theorem dX9_losesOrNot_0 : decode cX9_losesOrNot 0 = .ok (.aload_n 0, 1) := by decide +kernel
theorem dX9_losesOrNot_1 : decode cX9_losesOrNot 1 = .ok (.iload_n 1, 1) := by decide +kernel
theorem dX9_losesOrNot_2 : decode cX9_losesOrNot 2 = .ok (.iconst 3, 1) := by decide +kernel
theorem dX9_losesOrNot_3 : decode cX9_losesOrNot 3 = .ok (.aload_n 0, 1) := by decide +kernel
theorem dX9_losesOrNot_4 : decode cX9_losesOrNot 4 = .ok (.iload_n 1, 1) := by decide +kernel
theorem dX9_losesOrNot_5 : decode cX9_losesOrNot 5 = .ok (.iconst 3, 1) := by decide +kernel
theorem dX9_losesOrNot_6 : decode cX9_losesOrNot 6 = .ok (.invokevirtual 91, 3) := by decide +kernel
theorem dX9_losesOrNot_9 : decode cX9_losesOrNot 9 = .ok (.iconst 1, 1) := by decide +kernel
theorem dX9_losesOrNot_10 : decode cX9_losesOrNot 10 = .ok (.iload_n 2, 1) := by decide +kernel
theorem dX9_losesOrNot_11 : decode cX9_losesOrNot 11 = .ok (.ishl, 1) := by decide +kernel
theorem dX9_losesOrNot_12 : decode cX9_losesOrNot 12 = .ok (.ixor, 1) := by decide +kernel
theorem dX9_losesOrNot_13 : decode cX9_losesOrNot 13 = .ok (.invokevirtual 78, 3) := by decide +kernel
theorem dX9_losesOrNot_16 : decode cX9_losesOrNot 16 = .ok (.return_, 1) := by decide +kernel
theorem dX9_isThere_0 : decode cX9_isThere 0 = .ok (.iload_n 0, 1) := by decide +kernel
theorem dX9_isThere_1 : decode cX9_isThere 1 = .ok (.ifCond .eq 14, 3) := by decide +kernel
theorem dX9_isThere_4 : decode cX9_isThere 4 = .ok (.iload_n 1, 1) := by decide +kernel
theorem dX9_isThere_5 : decode cX9_isThere 5 = .ok (.invokestatic 146, 3) := by decide +kernel
theorem dX9_isThere_8 : decode cX9_isThere 8 = .ok (.ifCond .eq 7, 3) := by decide +kernel
theorem dX9_isThere_11 : decode cX9_isThere 11 = .ok (.iconst 1, 1) := by decide +kernel
theorem dX9_isThere_12 : decode cX9_isThere 12 = .ok (.goto 4, 3) := by decide +kernel
theorem dX9_isThere_15 : decode cX9_isThere 15 = .ok (.iconst 0, 1) := by decide +kernel
theorem dX9_isThere_16 : decode cX9_isThere 16 = .ok (.ireturn, 1) := by decide +kernel
theorem dX9_drops_0 : decode cX9_drops 0 = .ok (.aload_n 0, 1) := by decide +kernel
theorem dX9_drops_1 : decode cX9_drops 1 = .ok (.iload_n 1, 1) := by decide +kernel
theorem dX9_drops_2 : decode cX9_drops 2 = .ok (.invokevirtual 119, 3) := by decide +kernel
theorem dX9_drops_5 : decode cX9_drops 5 = .ok (.iload_n 2, 1) := by decide +kernel
theorem dX9_drops_6 : decode cX9_drops 6 = .ok (.invokestatic 149, 3) := by decide +kernel
theorem dX9_drops_9 : decode cX9_drops 9 = .ok (.ifCond .ne 6, 3) := by decide +kernel
theorem dX9_drops_12 : decode cX9_drops 12 = .ok (.ldc 86, 2) := by decide +kernel
theorem dX9_drops_14 : decode cX9_drops 14 = .ok (.ireturn, 1) := by decide +kernel
theorem dX9_drops_15 : decode cX9_drops 15 = .ok (.aload_n 0, 1) := by decide +kernel
theorem dX9_drops_16 : decode cX9_drops 16 = .ok (.iload_n 1, 1) := by decide +kernel
theorem dX9_drops_17 : decode cX9_drops 17 = .ok (.iload_n 2, 1) := by decide +kernel
theorem dX9_drops_18 : decode cX9_drops 18 = .ok (.invokevirtual 153, 3) := by decide +kernel
theorem dX9_drops_21 : decode cX9_drops 21 = .ok (.ifCond .eq 6, 3) := by decide +kernel
theorem dX9_drops_24 : decode cX9_drops 24 = .ok (.ldc 156, 2) := by decide +kernel
theorem dX9_drops_26 : decode cX9_drops 26 = .ok (.ireturn, 1) := by decide +kernel
theorem dX9_drops_27 : decode cX9_drops 27 = .ok (.aload_n 0, 1) := by decide +kernel
theorem dX9_drops_28 : decode cX9_drops 28 = .ok (.invokevirtual 115, 3) := by decide +kernel
theorem dX9_drops_31 : decode cX9_drops 31 = .ok (.istore_n 3, 1) := by decide +kernel
theorem dX9_drops_32 : decode cX9_drops 32 = .ok (.aload_n 0, 1) := by decide +kernel
theorem dX9_drops_33 : decode cX9_drops 33 = .ok (.iload_n 1, 1) := by decide +kernel
theorem dX9_drops_34 : decode cX9_drops 34 = .ok (.iload_n 2, 1) := by decide +kernel
theorem dX9_drops_35 : decode cX9_drops 35 = .ok (.invokevirtual 157, 3) := by decide +kernel
theorem dX9_drops_38 : decode cX9_drops 38 = .ok (.iload_n 3, 1) := by decide +kernel
theorem dX9_drops_39 : decode cX9_drops 39 = .ok (.aload_n 0, 1) := by decide +kernel
theorem dX9_drops_40 : decode cX9_drops 40 = .ok (.invokevirtual 115, 3) := by decide +kernel
theorem dX9_drops_43 : decode cX9_drops 43 = .ok (.isub, 1) := by decide +kernel
theorem dX9_drops_44 : decode cX9_drops 44 = .ok (.ireturn, 1) := by decide +kernel
theorem dX9_hooks_0 : decode cX9_hooks 0 = .ok (.aload_n 0, 1) := by decide +kernel
theorem dX9_hooks_1 : decode cX9_hooks 1 = .ok (.iload_n 1, 1) := by decide +kernel
theorem dX9_hooks_2 : decode cX9_hooks 2 = .ok (.invokevirtual 119, 3) := by decide +kernel
theorem dX9_hooks_5 : decode cX9_hooks 5 = .ok (.iload_n 2, 1) := by decide +kernel
theorem dX9_hooks_6 : decode cX9_hooks 6 = .ok (.invokestatic 149, 3) := by decide +kernel
theorem dX9_hooks_9 : decode cX9_hooks 9 = .ok (.ifCond .ne 6, 3) := by decide +kernel
theorem dX9_hooks_12 : decode cX9_hooks 12 = .ok (.ldc 86, 2) := by decide +kernel
theorem dX9_hooks_14 : decode cX9_hooks 14 = .ok (.ireturn, 1) := by decide +kernel
theorem dX9_hooks_15 : decode cX9_hooks 15 = .ok (.aload_n 0, 1) := by decide +kernel
theorem dX9_hooks_16 : decode cX9_hooks 16 = .ok (.iload_n 1, 1) := by decide +kernel
theorem dX9_hooks_17 : decode cX9_hooks 17 = .ok (.iload_n 2, 1) := by decide +kernel
theorem dX9_hooks_18 : decode cX9_hooks 18 = .ok (.invokevirtual 153, 3) := by decide +kernel
theorem dX9_hooks_21 : decode cX9_hooks 21 = .ok (.ifCond .ne 6, 3) := by decide +kernel
theorem dX9_hooks_24 : decode cX9_hooks 24 = .ok (.ldc 156, 2) := by decide +kernel
theorem dX9_hooks_26 : decode cX9_hooks 26 = .ok (.ireturn, 1) := by decide +kernel
theorem dX9_hooks_27 : decode cX9_hooks 27 = .ok (.aload_n 0, 1) := by decide +kernel
theorem dX9_hooks_28 : decode cX9_hooks 28 = .ok (.invokevirtual 115, 3) := by decide +kernel
theorem dX9_hooks_31 : decode cX9_hooks 31 = .ok (.istore_n 3, 1) := by decide +kernel
theorem dX9_hooks_32 : decode cX9_hooks 32 = .ok (.aload_n 0, 1) := by decide +kernel
theorem dX9_hooks_33 : decode cX9_hooks 33 = .ok (.iload_n 1, 1) := by decide +kernel
theorem dX9_hooks_34 : decode cX9_hooks 34 = .ok (.iload_n 2, 1) := by decide +kernel
theorem dX9_hooks_35 : decode cX9_hooks 35 = .ok (.invokevirtual 157, 3) := by decide +kernel
theorem dX9_hooks_38 : decode cX9_hooks 38 = .ok (.aload_n 0, 1) := by decide +kernel
theorem dX9_hooks_39 : decode cX9_hooks 39 = .ok (.invokevirtual 115, 3) := by decide +kernel
theorem dX9_hooks_42 : decode cX9_hooks 42 = .ok (.iload_n 3, 1) := by decide +kernel
theorem dX9_hooks_43 : decode cX9_hooks 43 = .ok (.isub, 1) := by decide +kernel
theorem dX9_hooks_44 : decode cX9_hooks 44 = .ok (.ireturn, 1) := by decide +kernel
theorem dX9_rule_0 : decode cX9_rule 0 = .ok (.iload_n 1, 1) := by decide +kernel
theorem dX9_rule_1 : decode cX9_rule 1 = .ok (.i2l, 1) := by decide +kernel
theorem dX9_rule_2 : decode cX9_rule 2 = .ok (.lconst 0, 1) := by decide +kernel
theorem dX9_rule_3 : decode cX9_rule 3 = .ok (.ldc2_w 142, 3) := by decide +kernel
theorem dX9_rule_6 : decode cX9_rule 6 = .ok (.invokestatic 71, 3) := by decide +kernel
theorem dX9_rule_9 : decode cX9_rule 9 = .ok (.ifCond .eq 26, 3) := by decide +kernel
theorem dX9_rule_12 : decode cX9_rule 12 = .ok (.iload_n 2, 1) := by decide +kernel
theorem dX9_rule_13 : decode cX9_rule 13 = .ok (.i2l, 1) := by decide +kernel
theorem dX9_rule_14 : decode cX9_rule 14 = .ok (.lconst 0, 1) := by decide +kernel
theorem dX9_rule_15 : decode cX9_rule 15 = .ok (.ldc2_w 161, 3) := by decide +kernel
theorem dX9_rule_18 : decode cX9_rule 18 = .ok (.invokestatic 71, 3) := by decide +kernel
theorem dX9_rule_21 : decode cX9_rule 21 = .ok (.ifCond .eq 14, 3) := by decide +kernel
theorem dX9_rule_24 : decode cX9_rule 24 = .ok (.aload_n 0, 1) := by decide +kernel
theorem dX9_rule_25 : decode cX9_rule 25 = .ok (.iconst 3, 1) := by decide +kernel
theorem dX9_rule_26 : decode cX9_rule 26 = .ok (.iload_n 1, 1) := by decide +kernel
theorem dX9_rule_27 : decode cX9_rule 27 = .ok (.iadd, 1) := by decide +kernel
theorem dX9_rule_28 : decode cX9_rule 28 = .ok (.iload_n 2, 1) := by decide +kernel
theorem dX9_rule_29 : decode cX9_rule 29 = .ok (.invokevirtual 139, 3) := by decide +kernel
theorem dX9_rule_32 : decode cX9_rule 32 = .ok (.goto 5, 3) := by decide +kernel
theorem dX9_rule_35 : decode cX9_rule 35 = .ok (.ldc 86, 2) := by decide +kernel
theorem dX9_rule_37 : decode cX9_rule 37 = .ok (.ireturn, 1) := by decide +kernel
theorem dX9_deal_0 : decode cX9_deal 0 = .ok (.iload_n 1, 1) := by decide +kernel
theorem dX9_deal_1 : decode cX9_deal 1 = .ok (.i2l, 1) := by decide +kernel
theorem dX9_deal_2 : decode cX9_deal 2 = .ok (.lconst 1, 1) := by decide +kernel
theorem dX9_deal_3 : decode cX9_deal 3 = .ok (.ldc2_w 163, 3) := by decide +kernel
theorem dX9_deal_6 : decode cX9_deal 6 = .ok (.invokestatic 71, 3) := by decide +kernel
theorem dX9_deal_9 : decode cX9_deal 9 = .ok (.ifCond .ne 6, 3) := by decide +kernel
theorem dX9_deal_12 : decode cX9_deal 12 = .ok (.ldc 86, 2) := by decide +kernel
theorem dX9_deal_14 : decode cX9_deal 14 = .ok (.ireturn, 1) := by decide +kernel
theorem dX9_deal_15 : decode cX9_deal 15 = .ok (.iconst 0, 1) := by decide +kernel
theorem dX9_deal_16 : decode cX9_deal 16 = .ok (.istore_n 2, 1) := by decide +kernel
theorem dX9_deal_17 : decode cX9_deal 17 = .ok (.iload_n 2, 1) := by decide +kernel
theorem dX9_deal_18 : decode cX9_deal 18 = .ok (.iload_n 1, 1) := by decide +kernel
theorem dX9_deal_19 : decode cX9_deal 19 = .ok (.if_icmp .ge 63, 3) := by decide +kernel
theorem dX9_deal_22 : decode cX9_deal 22 = .ok (.aload_n 0, 1) := by decide +kernel
theorem dX9_deal_23 : decode cX9_deal 23 = .ok (.getfield 7, 3) := by decide +kernel
theorem dX9_deal_26 : decode cX9_deal 26 = .ok (.iconst 0, 1) := by decide +kernel
theorem dX9_deal_27 : decode cX9_deal 27 = .ok (.iaload, 1) := by decide +kernel
theorem dX9_deal_28 : decode cX9_deal 28 = .ok (.bipush 12, 2) := by decide +kernel
theorem dX9_deal_30 : decode cX9_deal 30 = .ok (.if_icmp .ge 52, 3) := by decide +kernel
theorem dX9_deal_33 : decode cX9_deal 33 = .ok (.aload_n 0, 1) := by decide +kernel
theorem dX9_deal_34 : decode cX9_deal 34 = .ok (.invokevirtual 165, 3) := by decide +kernel
theorem dX9_deal_37 : decode cX9_deal 37 = .ok (.bipush 6, 2) := by decide +kernel
theorem dX9_deal_39 : decode cX9_deal 39 = .ok (.irem, 1) := by decide +kernel
theorem dX9_deal_40 : decode cX9_deal 40 = .ok (.istore_n 3, 1) := by decide +kernel
theorem dX9_deal_41 : decode cX9_deal 41 = .ok (.iconst 1, 1) := by decide +kernel
theorem dX9_deal_42 : decode cX9_deal 42 = .ok (.aload_n 0, 1) := by decide +kernel
theorem dX9_deal_43 : decode cX9_deal 43 = .ok (.invokevirtual 165, 3) := by decide +kernel
theorem dX9_deal_46 : decode cX9_deal 46 = .ok (.bipush 9, 2) := by decide +kernel
theorem dX9_deal_48 : decode cX9_deal 48 = .ok (.irem, 1) := by decide +kernel
theorem dX9_deal_49 : decode cX9_deal 49 = .ok (.iadd, 1) := by decide +kernel
theorem dX9_deal_50 : decode cX9_deal 50 = .ok (.istore 4, 2) := by decide +kernel
theorem dX9_deal_52 : decode cX9_deal 52 = .ok (.aload_n 0, 1) := by decide +kernel
theorem dX9_deal_53 : decode cX9_deal 53 = .ok (.invokevirtual 165, 3) := by decide +kernel
theorem dX9_deal_56 : decode cX9_deal 56 = .ok (.istore 5, 2) := by decide +kernel
theorem dX9_deal_58 : decode cX9_deal 58 = .ok (.aload_n 0, 1) := by decide +kernel
theorem dX9_deal_59 : decode cX9_deal 59 = .ok (.iload_n 3, 1) := by decide +kernel
theorem dX9_deal_60 : decode cX9_deal 60 = .ok (.iload 4, 2) := by decide +kernel
theorem dX9_deal_62 : decode cX9_deal 62 = .ok (.iload 5, 2) := by decide +kernel
theorem dX9_deal_64 : decode cX9_deal 64 = .ok (.aload_n 0, 1) := by decide +kernel
theorem dX9_deal_65 : decode cX9_deal 65 = .ok (.invokevirtual 165, 3) := by decide +kernel
theorem dX9_deal_68 : decode cX9_deal 68 = .ok (.iand, 1) := by decide +kernel
theorem dX9_deal_69 : decode cX9_deal 69 = .ok (.sipush 255, 3) := by decide +kernel
theorem dX9_deal_72 : decode cX9_deal 72 = .ok (.iand, 1) := by decide +kernel
theorem dX9_deal_73 : decode cX9_deal 73 = .ok (.invokevirtual 88, 3) := by decide +kernel
theorem dX9_deal_76 : decode cX9_deal 76 = .ok (.iinc 2 1, 3) := by decide +kernel
theorem dX9_deal_79 : decode cX9_deal 79 = .ok (.goto (-62), 3) := by decide +kernel
theorem dX9_deal_82 : decode cX9_deal 82 = .ok (.iload_n 2, 1) := by decide +kernel
theorem dX9_deal_83 : decode cX9_deal 83 = .ok (.ireturn, 1) := by decide +kernel
theorem dX9_seed_0 : decode cX9_seed 0 = .ok (.aload_n 0, 1) := by decide +kernel
theorem dX9_seed_1 : decode cX9_seed 1 = .ok (.bipush 9, 2) := by decide +kernel
theorem dX9_seed_3 : decode cX9_seed 3 = .ok (.iload_n 1, 1) := by decide +kernel
theorem dX9_seed_4 : decode cX9_seed 4 = .ok (.invokevirtual 139, 3) := by decide +kernel
theorem dX9_seed_7 : decode cX9_seed 7 = .ok (.ireturn, 1) := by decide +kernel
theorem dX9_loses_0 : decode cX9_loses 0 = .ok (.aload_n 0, 1) := by decide +kernel
theorem dX9_loses_1 : decode cX9_loses 1 = .ok (.iload_n 1, 1) := by decide +kernel
theorem dX9_loses_2 : decode cX9_loses 2 = .ok (.iload_n 2, 1) := by decide +kernel
theorem dX9_loses_3 : decode cX9_loses 3 = .ok (.invokevirtual 153, 3) := by decide +kernel
theorem dX9_loses_6 : decode cX9_loses 6 = .ok (.ifCond .ne 20, 3) := by decide +kernel
theorem dX9_loses_9 : decode cX9_loses 9 = .ok (.aload_n 0, 1) := by decide +kernel
theorem dX9_loses_10 : decode cX9_loses 10 = .ok (.iload_n 1, 1) := by decide +kernel
theorem dX9_loses_11 : decode cX9_loses 11 = .ok (.iload_n 2, 1) := by decide +kernel
theorem dX9_loses_12 : decode cX9_loses 12 = .ok (.invokevirtual 157, 3) := by decide +kernel
theorem dX9_loses_15 : decode cX9_loses 15 = .ok (.aload_n 0, 1) := by decide +kernel
theorem dX9_loses_16 : decode cX9_loses 16 = .ok (.getfield 7, 3) := by decide +kernel
theorem dX9_loses_19 : decode cX9_loses 19 = .ok (.bipush 7, 2) := by decide +kernel
theorem dX9_loses_21 : decode cX9_loses 21 = .ok (.dup2, 1) := by decide +kernel
theorem dX9_loses_22 : decode cX9_loses 22 = .ok (.iaload, 1) := by decide +kernel
theorem dX9_loses_23 : decode cX9_loses 23 = .ok (.iconst 1, 1) := by decide +kernel
theorem dX9_loses_24 : decode cX9_loses 24 = .ok (.iadd, 1) := by decide +kernel
theorem dX9_loses_25 : decode cX9_loses 25 = .ok (.iastore, 1) := by decide +kernel
theorem dX9_loses_26 : decode cX9_loses 26 = .ok (.return_, 1) := by decide +kernel
theorem dX9_isWalked_0 : decode cX9_isWalked 0 = .ok (.aload_n 0, 1) := by decide +kernel
theorem dX9_isWalked_1 : decode cX9_isWalked 1 = .ok (.invokevirtual 165, 3) := by decide +kernel
theorem dX9_isWalked_4 : decode cX9_isWalked 4 = .ok (.aload_n 0, 1) := by decide +kernel
theorem dX9_isWalked_5 : decode cX9_isWalked 5 = .ok (.getfield 7, 3) := by decide +kernel
theorem dX9_isWalked_8 : decode cX9_isWalked 8 = .ok (.iconst 0, 1) := by decide +kernel
theorem dX9_isWalked_9 : decode cX9_isWalked 9 = .ok (.iaload, 1) := by decide +kernel
theorem dX9_isWalked_10 : decode cX9_isWalked 10 = .ok (.irem, 1) := by decide +kernel
theorem dX9_isWalked_11 : decode cX9_isWalked 11 = .ok (.istore_n 1, 1) := by decide +kernel
theorem dX9_isWalked_12 : decode cX9_isWalked 12 = .ok (.aload_n 0, 1) := by decide +kernel
theorem dX9_isWalked_13 : decode cX9_isWalked 13 = .ok (.invokevirtual 165, 3) := by decide +kernel
theorem dX9_isWalked_16 : decode cX9_isWalked 16 = .ok (.bipush 8, 2) := by decide +kernel
theorem dX9_isWalked_18 : decode cX9_isWalked 18 = .ok (.irem, 1) := by decide +kernel
theorem dX9_isWalked_19 : decode cX9_isWalked 19 = .ok (.istore_n 2, 1) := by decide +kernel
theorem dX9_isWalked_20 : decode cX9_isWalked 20 = .ok (.aload_n 0, 1) := by decide +kernel
theorem dX9_isWalked_21 : decode cX9_isWalked 21 = .ok (.getfield 7, 3) := by decide +kernel
theorem dX9_isWalked_24 : decode cX9_isWalked 24 = .ok (.bipush 6, 2) := by decide +kernel
theorem dX9_isWalked_26 : decode cX9_isWalked 26 = .ok (.dup2, 1) := by decide +kernel
theorem dX9_isWalked_27 : decode cX9_isWalked 27 = .ok (.iaload, 1) := by decide +kernel
theorem dX9_isWalked_28 : decode cX9_isWalked 28 = .ok (.iconst 1, 1) := by decide +kernel
theorem dX9_isWalked_29 : decode cX9_isWalked 29 = .ok (.iadd, 1) := by decide +kernel
theorem dX9_isWalked_30 : decode cX9_isWalked 30 = .ok (.iastore, 1) := by decide +kernel
theorem dX9_isWalked_31 : decode cX9_isWalked 31 = .ok (.aload_n 0, 1) := by decide +kernel
theorem dX9_isWalked_32 : decode cX9_isWalked 32 = .ok (.iload_n 1, 1) := by decide +kernel
theorem dX9_isWalked_33 : decode cX9_isWalked 33 = .ok (.iconst 2, 1) := by decide +kernel
theorem dX9_isWalked_34 : decode cX9_isWalked 34 = .ok (.aload_n 0, 1) := by decide +kernel
theorem dX9_isWalked_35 : decode cX9_isWalked 35 = .ok (.iload_n 1, 1) := by decide +kernel
theorem dX9_isWalked_36 : decode cX9_isWalked 36 = .ok (.iconst 2, 1) := by decide +kernel
theorem dX9_isWalked_37 : decode cX9_isWalked 37 = .ok (.invokevirtual 91, 3) := by decide +kernel
theorem dX9_isWalked_40 : decode cX9_isWalked 40 = .ok (.aload_n 0, 1) := by decide +kernel
theorem dX9_isWalked_41 : decode cX9_isWalked 41 = .ok (.iload_n 1, 1) := by decide +kernel
theorem dX9_isWalked_42 : decode cX9_isWalked 42 = .ok (.invokevirtual 126, 3) := by decide +kernel
theorem dX9_isWalked_45 : decode cX9_isWalked 45 = .ok (.iadd, 1) := by decide +kernel
theorem dX9_isWalked_46 : decode cX9_isWalked 46 = .ok (.bipush 99, 2) := by decide +kernel
theorem dX9_isWalked_48 : decode cX9_isWalked 48 = .ok (.invokestatic 109, 3) := by decide +kernel
theorem dX9_isWalked_51 : decode cX9_isWalked 51 = .ok (.invokevirtual 78, 3) := by decide +kernel
theorem dX9_isWalked_54 : decode cX9_isWalked 54 = .ok (.aload_n 0, 1) := by decide +kernel
theorem dX9_isWalked_55 : decode cX9_isWalked 55 = .ok (.iload_n 1, 1) := by decide +kernel
theorem dX9_isWalked_56 : decode cX9_isWalked 56 = .ok (.iconst 2, 1) := by decide +kernel
theorem dX9_isWalked_57 : decode cX9_isWalked 57 = .ok (.invokevirtual 91, 3) := by decide +kernel
theorem dX9_isWalked_60 : decode cX9_isWalked 60 = .ok (.aload_n 0, 1) := by decide +kernel
theorem dX9_isWalked_61 : decode cX9_isWalked 61 = .ok (.iload_n 1, 1) := by decide +kernel
theorem dX9_isWalked_62 : decode cX9_isWalked 62 = .ok (.invokevirtual 129, 3) := by decide +kernel
theorem dX9_isWalked_65 : decode cX9_isWalked 65 = .ok (.if_icmp .le 16, 3) := by decide +kernel
theorem dX9_isWalked_68 : decode cX9_isWalked 68 = .ok (.aload_n 0, 1) := by decide +kernel
theorem dX9_isWalked_69 : decode cX9_isWalked 69 = .ok (.iload_n 1, 1) := by decide +kernel
theorem dX9_isWalked_70 : decode cX9_isWalked 70 = .ok (.iconst 2, 1) := by decide +kernel
theorem dX9_isWalked_71 : decode cX9_isWalked 71 = .ok (.iconst 0, 1) := by decide +kernel
theorem dX9_isWalked_72 : decode cX9_isWalked 72 = .ok (.invokevirtual 78, 3) := by decide +kernel
theorem dX9_isWalked_75 : decode cX9_isWalked 75 = .ok (.aload_n 0, 1) := by decide +kernel
theorem dX9_isWalked_76 : decode cX9_isWalked 76 = .ok (.iload_n 1, 1) := by decide +kernel
theorem dX9_isWalked_77 : decode cX9_isWalked 77 = .ok (.iload_n 2, 1) := by decide +kernel
theorem dX9_isWalked_78 : decode cX9_isWalked 78 = .ok (.invokevirtual 168, 3) := by decide +kernel
theorem dX9_isWalked_81 : decode cX9_isWalked 81 = .ok (.return_, 1) := by decide +kernel
theorem dX9_mends_0 : decode cX9_mends 0 = .ok (.iconst 0, 1) := by decide +kernel
theorem dX9_mends_1 : decode cX9_mends 1 = .ok (.istore_n 1, 1) := by decide +kernel
theorem dX9_mends_2 : decode cX9_mends 2 = .ok (.iload_n 1, 1) := by decide +kernel
theorem dX9_mends_3 : decode cX9_mends 3 = .ok (.aload_n 0, 1) := by decide +kernel
theorem dX9_mends_4 : decode cX9_mends 4 = .ok (.getfield 7, 3) := by decide +kernel
theorem dX9_mends_7 : decode cX9_mends 7 = .ok (.iconst 0, 1) := by decide +kernel
theorem dX9_mends_8 : decode cX9_mends 8 = .ok (.iaload, 1) := by decide +kernel
theorem dX9_mends_9 : decode cX9_mends 9 = .ok (.if_icmp .ge 18, 3) := by decide +kernel
theorem dX9_mends_12 : decode cX9_mends 12 = .ok (.aload_n 0, 1) := by decide +kernel
theorem dX9_mends_13 : decode cX9_mends 13 = .ok (.iload_n 1, 1) := by decide +kernel
theorem dX9_mends_14 : decode cX9_mends 14 = .ok (.iconst 3, 1) := by decide +kernel
theorem dX9_mends_15 : decode cX9_mends 15 = .ok (.invokevirtual 91, 3) := by decide +kernel
theorem dX9_mends_18 : decode cX9_mends 18 = .ok (.ifCond .ne 9, 3) := by decide +kernel
theorem dX9_mends_21 : decode cX9_mends 21 = .ok (.iinc 1 1, 3) := by decide +kernel
theorem dX9_mends_24 : decode cX9_mends 24 = .ok (.goto (-22), 3) := by decide +kernel
theorem dX9_mends_27 : decode cX9_mends 27 = .ok (.iload_n 1, 1) := by decide +kernel
theorem dX9_mends_28 : decode cX9_mends 28 = .ok (.aload_n 0, 1) := by decide +kernel
theorem dX9_mends_29 : decode cX9_mends 29 = .ok (.getfield 7, 3) := by decide +kernel
theorem dX9_mends_32 : decode cX9_mends 32 = .ok (.iconst 0, 1) := by decide +kernel
theorem dX9_mends_33 : decode cX9_mends 33 = .ok (.iaload, 1) := by decide +kernel
theorem dX9_mends_34 : decode cX9_mends 34 = .ok (.if_icmp .ge 35, 3) := by decide +kernel
theorem dX9_mends_37 : decode cX9_mends 37 = .ok (.aload_n 0, 1) := by decide +kernel
theorem dX9_mends_38 : decode cX9_mends 38 = .ok (.iload_n 1, 1) := by decide +kernel
theorem dX9_mends_39 : decode cX9_mends 39 = .ok (.iconst 3, 1) := by decide +kernel
theorem dX9_mends_40 : decode cX9_mends 40 = .ok (.aload_n 0, 1) := by decide +kernel
theorem dX9_mends_41 : decode cX9_mends 41 = .ok (.iload_n 1, 1) := by decide +kernel
theorem dX9_mends_42 : decode cX9_mends 42 = .ok (.iconst 3, 1) := by decide +kernel
theorem dX9_mends_43 : decode cX9_mends 43 = .ok (.invokevirtual 91, 3) := by decide +kernel
theorem dX9_mends_46 : decode cX9_mends 46 = .ok (.aload_n 0, 1) := by decide +kernel
theorem dX9_mends_47 : decode cX9_mends 47 = .ok (.iload_n 1, 1) := by decide +kernel
theorem dX9_mends_48 : decode cX9_mends 48 = .ok (.iconst 3, 1) := by decide +kernel
theorem dX9_mends_49 : decode cX9_mends 49 = .ok (.invokevirtual 91, 3) := by decide +kernel
theorem dX9_mends_52 : decode cX9_mends 52 = .ok (.iconst 1, 1) := by decide +kernel
theorem dX9_mends_53 : decode cX9_mends 53 = .ok (.isub, 1) := by decide +kernel
theorem dX9_mends_54 : decode cX9_mends 54 = .ok (.iand, 1) := by decide +kernel
theorem dX9_mends_55 : decode cX9_mends 55 = .ok (.invokevirtual 78, 3) := by decide +kernel
theorem dX9_mends_58 : decode cX9_mends 58 = .ok (.aload_n 0, 1) := by decide +kernel
theorem dX9_mends_59 : decode cX9_mends 59 = .ok (.getfield 7, 3) := by decide +kernel
theorem dX9_mends_62 : decode cX9_mends 62 = .ok (.bipush 8, 2) := by decide +kernel
theorem dX9_mends_64 : decode cX9_mends 64 = .ok (.dup2, 1) := by decide +kernel
theorem dX9_mends_65 : decode cX9_mends 65 = .ok (.iaload, 1) := by decide +kernel
theorem dX9_mends_66 : decode cX9_mends 66 = .ok (.iconst 1, 1) := by decide +kernel
theorem dX9_mends_67 : decode cX9_mends 67 = .ok (.iadd, 1) := by decide +kernel
theorem dX9_mends_68 : decode cX9_mends 68 = .ok (.iastore, 1) := by decide +kernel
theorem dX9_mends_69 : decode cX9_mends 69 = .ok (.return_, 1) := by decide +kernel
theorem dX9_goesOn_0 : decode cX9_goesOn 0 = .ok (.aload_n 0, 1) := by decide +kernel
theorem dX9_goesOn_1 : decode cX9_goesOn 1 = .ok (.invokevirtual 165, 3) := by decide +kernel
theorem dX9_goesOn_4 : decode cX9_goesOn 4 = .ok (.bipush 100, 2) := by decide +kernel
theorem dX9_goesOn_6 : decode cX9_goesOn 6 = .ok (.irem, 1) := by decide +kernel
theorem dX9_goesOn_7 : decode cX9_goesOn 7 = .ok (.aload_n 0, 1) := by decide +kernel
theorem dX9_goesOn_8 : decode cX9_goesOn 8 = .ok (.getfield 7, 3) := by decide +kernel
theorem dX9_goesOn_11 : decode cX9_goesOn 11 = .ok (.iconst 3, 1) := by decide +kernel
theorem dX9_goesOn_12 : decode cX9_goesOn 12 = .ok (.iaload, 1) := by decide +kernel
theorem dX9_goesOn_13 : decode cX9_goesOn 13 = .ok (.if_icmp .ge 39, 3) := by decide +kernel
theorem dX9_goesOn_16 : decode cX9_goesOn 16 = .ok (.aload_n 0, 1) := by decide +kernel
theorem dX9_goesOn_17 : decode cX9_goesOn 17 = .ok (.invokevirtual 165, 3) := by decide +kernel
theorem dX9_goesOn_20 : decode cX9_goesOn 20 = .ok (.bipush 6, 2) := by decide +kernel
theorem dX9_goesOn_22 : decode cX9_goesOn 22 = .ok (.irem, 1) := by decide +kernel
theorem dX9_goesOn_23 : decode cX9_goesOn 23 = .ok (.istore_n 1, 1) := by decide +kernel
theorem dX9_goesOn_24 : decode cX9_goesOn 24 = .ok (.iconst 1, 1) := by decide +kernel
theorem dX9_goesOn_25 : decode cX9_goesOn 25 = .ok (.aload_n 0, 1) := by decide +kernel
theorem dX9_goesOn_26 : decode cX9_goesOn 26 = .ok (.invokevirtual 165, 3) := by decide +kernel
theorem dX9_goesOn_29 : decode cX9_goesOn 29 = .ok (.bipush 9, 2) := by decide +kernel
theorem dX9_goesOn_31 : decode cX9_goesOn 31 = .ok (.irem, 1) := by decide +kernel
theorem dX9_goesOn_32 : decode cX9_goesOn 32 = .ok (.iadd, 1) := by decide +kernel
theorem dX9_goesOn_33 : decode cX9_goesOn 33 = .ok (.istore_n 2, 1) := by decide +kernel
theorem dX9_goesOn_34 : decode cX9_goesOn 34 = .ok (.aload_n 0, 1) := by decide +kernel
theorem dX9_goesOn_35 : decode cX9_goesOn 35 = .ok (.getfield 7, 3) := by decide +kernel
theorem dX9_goesOn_38 : decode cX9_goesOn 38 = .ok (.iconst 0, 1) := by decide +kernel
theorem dX9_goesOn_39 : decode cX9_goesOn 39 = .ok (.iaload, 1) := by decide +kernel
theorem dX9_goesOn_40 : decode cX9_goesOn 40 = .ok (.bipush 12, 2) := by decide +kernel
theorem dX9_goesOn_42 : decode cX9_goesOn 42 = .ok (.if_icmp .ge 10, 3) := by decide +kernel
theorem dX9_goesOn_45 : decode cX9_goesOn 45 = .ok (.aload_n 0, 1) := by decide +kernel
theorem dX9_goesOn_46 : decode cX9_goesOn 46 = .ok (.iload_n 1, 1) := by decide +kernel
theorem dX9_goesOn_47 : decode cX9_goesOn 47 = .ok (.iload_n 2, 1) := by decide +kernel
theorem dX9_goesOn_48 : decode cX9_goesOn 48 = .ok (.iconst 0, 1) := by decide +kernel
theorem dX9_goesOn_49 : decode cX9_goesOn 49 = .ok (.invokevirtual 88, 3) := by decide +kernel
theorem dX9_goesOn_52 : decode cX9_goesOn 52 = .ok (.iconst 0, 1) := by decide +kernel
theorem dX9_goesOn_53 : decode cX9_goesOn 53 = .ok (.istore_n 1, 1) := by decide +kernel
theorem dX9_goesOn_54 : decode cX9_goesOn 54 = .ok (.iload_n 1, 1) := by decide +kernel
theorem dX9_goesOn_55 : decode cX9_goesOn 55 = .ok (.iconst 3, 1) := by decide +kernel
theorem dX9_goesOn_56 : decode cX9_goesOn 56 = .ok (.if_icmp .ge 22, 3) := by decide +kernel
theorem dX9_goesOn_59 : decode cX9_goesOn 59 = .ok (.aload_n 0, 1) := by decide +kernel
theorem dX9_goesOn_60 : decode cX9_goesOn 60 = .ok (.getfield 7, 3) := by decide +kernel
theorem dX9_goesOn_63 : decode cX9_goesOn 63 = .ok (.iconst 0, 1) := by decide +kernel
theorem dX9_goesOn_64 : decode cX9_goesOn 64 = .ok (.iaload, 1) := by decide +kernel
theorem dX9_goesOn_65 : decode cX9_goesOn 65 = .ok (.ifCond .le 13, 3) := by decide +kernel
theorem dX9_goesOn_68 : decode cX9_goesOn 68 = .ok (.aload_n 0, 1) := by decide +kernel
theorem dX9_goesOn_69 : decode cX9_goesOn 69 = .ok (.invokevirtual 171, 3) := by decide +kernel
theorem dX9_goesOn_72 : decode cX9_goesOn 72 = .ok (.iinc 1 1, 3) := by decide +kernel
theorem dX9_goesOn_75 : decode cX9_goesOn 75 = .ok (.goto (-21), 3) := by decide +kernel
theorem dX9_goesOn_78 : decode cX9_goesOn 78 = .ok (.aload_n 0, 1) := by decide +kernel
theorem dX9_goesOn_79 : decode cX9_goesOn 79 = .ok (.invokevirtual 165, 3) := by decide +kernel
theorem dX9_goesOn_82 : decode cX9_goesOn 82 = .ok (.bipush 100, 2) := by decide +kernel
theorem dX9_goesOn_84 : decode cX9_goesOn 84 = .ok (.irem, 1) := by decide +kernel
theorem dX9_goesOn_85 : decode cX9_goesOn 85 = .ok (.aload_n 0, 1) := by decide +kernel
theorem dX9_goesOn_86 : decode cX9_goesOn 86 = .ok (.getfield 7, 3) := by decide +kernel
theorem dX9_goesOn_89 : decode cX9_goesOn 89 = .ok (.iconst 4, 1) := by decide +kernel
theorem dX9_goesOn_90 : decode cX9_goesOn 90 = .ok (.iaload, 1) := by decide +kernel
theorem dX9_goesOn_91 : decode cX9_goesOn 91 = .ok (.if_icmp .ge 36, 3) := by decide +kernel
theorem dX9_goesOn_94 : decode cX9_goesOn 94 = .ok (.aload_n 0, 1) := by decide +kernel
theorem dX9_goesOn_95 : decode cX9_goesOn 95 = .ok (.getfield 7, 3) := by decide +kernel
theorem dX9_goesOn_98 : decode cX9_goesOn 98 = .ok (.iconst 0, 1) := by decide +kernel
theorem dX9_goesOn_99 : decode cX9_goesOn 99 = .ok (.iaload, 1) := by decide +kernel
theorem dX9_goesOn_100 : decode cX9_goesOn 100 = .ok (.ifCond .le 27, 3) := by decide +kernel
theorem dX9_goesOn_103 : decode cX9_goesOn 103 = .ok (.aload_n 0, 1) := by decide +kernel
theorem dX9_goesOn_104 : decode cX9_goesOn 104 = .ok (.invokevirtual 165, 3) := by decide +kernel
theorem dX9_goesOn_107 : decode cX9_goesOn 107 = .ok (.aload_n 0, 1) := by decide +kernel
theorem dX9_goesOn_108 : decode cX9_goesOn 108 = .ok (.getfield 7, 3) := by decide +kernel
theorem dX9_goesOn_111 : decode cX9_goesOn 111 = .ok (.iconst 0, 1) := by decide +kernel
theorem dX9_goesOn_112 : decode cX9_goesOn 112 = .ok (.iaload, 1) := by decide +kernel
theorem dX9_goesOn_113 : decode cX9_goesOn 113 = .ok (.irem, 1) := by decide +kernel
theorem dX9_goesOn_114 : decode cX9_goesOn 114 = .ok (.istore_n 1, 1) := by decide +kernel
theorem dX9_goesOn_115 : decode cX9_goesOn 115 = .ok (.aload_n 0, 1) := by decide +kernel
theorem dX9_goesOn_116 : decode cX9_goesOn 116 = .ok (.iload_n 1, 1) := by decide +kernel
theorem dX9_goesOn_117 : decode cX9_goesOn 117 = .ok (.aload_n 0, 1) := by decide +kernel
theorem dX9_goesOn_118 : decode cX9_goesOn 118 = .ok (.invokevirtual 165, 3) := by decide +kernel
theorem dX9_goesOn_121 : decode cX9_goesOn 121 = .ok (.bipush 8, 2) := by decide +kernel
theorem dX9_goesOn_123 : decode cX9_goesOn 123 = .ok (.irem, 1) := by decide +kernel
theorem dX9_goesOn_124 : decode cX9_goesOn 124 = .ok (.invokevirtual 168, 3) := by decide +kernel
theorem dX9_goesOn_127 : decode cX9_goesOn 127 = .ok (.aload_n 0, 1) := by decide +kernel
theorem dX9_goesOn_128 : decode cX9_goesOn 128 = .ok (.invokevirtual 165, 3) := by decide +kernel
theorem dX9_goesOn_131 : decode cX9_goesOn 131 = .ok (.bipush 100, 2) := by decide +kernel
theorem dX9_goesOn_133 : decode cX9_goesOn 133 = .ok (.irem, 1) := by decide +kernel
theorem dX9_goesOn_134 : decode cX9_goesOn 134 = .ok (.aload_n 0, 1) := by decide +kernel
theorem dX9_goesOn_135 : decode cX9_goesOn 135 = .ok (.getfield 7, 3) := by decide +kernel
theorem dX9_goesOn_138 : decode cX9_goesOn 138 = .ok (.iconst 5, 1) := by decide +kernel
theorem dX9_goesOn_139 : decode cX9_goesOn 139 = .ok (.iaload, 1) := by decide +kernel
theorem dX9_goesOn_140 : decode cX9_goesOn 140 = .ok (.if_icmp .ge 7, 3) := by decide +kernel
theorem dX9_goesOn_143 : decode cX9_goesOn 143 = .ok (.aload_n 0, 1) := by decide +kernel
theorem dX9_goesOn_144 : decode cX9_goesOn 144 = .ok (.invokevirtual 174, 3) := by decide +kernel
theorem dX9_goesOn_147 : decode cX9_goesOn 147 = .ok (.aload_n 0, 1) := by decide +kernel
theorem dX9_goesOn_148 : decode cX9_goesOn 148 = .ok (.getfield 7, 3) := by decide +kernel
theorem dX9_goesOn_151 : decode cX9_goesOn 151 = .ok (.iconst 2, 1) := by decide +kernel
theorem dX9_goesOn_152 : decode cX9_goesOn 152 = .ok (.dup2, 1) := by decide +kernel
theorem dX9_goesOn_153 : decode cX9_goesOn 153 = .ok (.iaload, 1) := by decide +kernel
theorem dX9_goesOn_154 : decode cX9_goesOn 154 = .ok (.iconst 1, 1) := by decide +kernel
theorem dX9_goesOn_155 : decode cX9_goesOn 155 = .ok (.iadd, 1) := by decide +kernel
theorem dX9_goesOn_156 : decode cX9_goesOn 156 = .ok (.iastore, 1) := by decide +kernel
theorem dX9_goesOn_157 : decode cX9_goesOn 157 = .ok (.return_, 1) := by decide +kernel
theorem dX9_goesOnMany_0 : decode cX9_goesOnMany 0 = .ok (.iconst 0, 1) := by decide +kernel
theorem dX9_goesOnMany_1 : decode cX9_goesOnMany 1 = .ok (.istore_n 2, 1) := by decide +kernel
theorem dX9_goesOnMany_2 : decode cX9_goesOnMany 2 = .ok (.iload_n 2, 1) := by decide +kernel
theorem dX9_goesOnMany_3 : decode cX9_goesOnMany 3 = .ok (.iload_n 1, 1) := by decide +kernel
theorem dX9_goesOnMany_4 : decode cX9_goesOnMany 4 = .ok (.if_icmp .ge 13, 3) := by decide +kernel
theorem dX9_goesOnMany_7 : decode cX9_goesOnMany 7 = .ok (.aload_n 0, 1) := by decide +kernel
theorem dX9_goesOnMany_8 : decode cX9_goesOnMany 8 = .ok (.invokevirtual 177, 3) := by decide +kernel
theorem dX9_goesOnMany_11 : decode cX9_goesOnMany 11 = .ok (.iinc 2 1, 3) := by decide +kernel
theorem dX9_goesOnMany_14 : decode cX9_goesOnMany 14 = .ok (.goto (-12), 3) := by decide +kernel
theorem dX9_goesOnMany_17 : decode cX9_goesOnMany 17 = .ok (.return_, 1) := by decide +kernel
theorem dX9_nights_0 : decode cX9_nights 0 = .ok (.iload_n 1, 1) := by decide +kernel
theorem dX9_nights_1 : decode cX9_nights 1 = .ok (.i2l, 1) := by decide +kernel
theorem dX9_nights_2 : decode cX9_nights 2 = .ok (.lconst 1, 1) := by decide +kernel
theorem dX9_nights_3 : decode cX9_nights 3 = .ok (.ldc2_w 161, 3) := by decide +kernel
theorem dX9_nights_6 : decode cX9_nights 6 = .ok (.invokestatic 71, 3) := by decide +kernel
theorem dX9_nights_9 : decode cX9_nights 9 = .ok (.ifCond .ne 6, 3) := by decide +kernel
theorem dX9_nights_12 : decode cX9_nights 12 = .ok (.ldc 86, 2) := by decide +kernel
theorem dX9_nights_14 : decode cX9_nights 14 = .ok (.ireturn, 1) := by decide +kernel
theorem dX9_nights_15 : decode cX9_nights 15 = .ok (.aload_n 0, 1) := by decide +kernel
theorem dX9_nights_16 : decode cX9_nights 16 = .ok (.getfield 7, 3) := by decide +kernel
theorem dX9_nights_19 : decode cX9_nights 19 = .ok (.bipush 7, 2) := by decide +kernel
theorem dX9_nights_21 : decode cX9_nights 21 = .ok (.iaload, 1) := by decide +kernel
theorem dX9_nights_22 : decode cX9_nights 22 = .ok (.istore_n 2, 1) := by decide +kernel
theorem dX9_nights_23 : decode cX9_nights 23 = .ok (.sipush 9999, 3) := by decide +kernel
theorem dX9_nights_26 : decode cX9_nights 26 = .ok (.aload_n 0, 1) := by decide +kernel
theorem dX9_nights_27 : decode cX9_nights 27 = .ok (.getfield 7, 3) := by decide +kernel
theorem dX9_nights_30 : decode cX9_nights 30 = .ok (.iconst 2, 1) := by decide +kernel
theorem dX9_nights_31 : decode cX9_nights 31 = .ok (.iaload, 1) := by decide +kernel
theorem dX9_nights_32 : decode cX9_nights 32 = .ok (.isub, 1) := by decide +kernel
theorem dX9_nights_33 : decode cX9_nights 33 = .ok (.istore_n 3, 1) := by decide +kernel
theorem dX9_nights_34 : decode cX9_nights 34 = .ok (.aload_n 0, 1) := by decide +kernel
theorem dX9_nights_35 : decode cX9_nights 35 = .ok (.iload_n 1, 1) := by decide +kernel
theorem dX9_nights_36 : decode cX9_nights 36 = .ok (.iload_n 3, 1) := by decide +kernel
theorem dX9_nights_37 : decode cX9_nights 37 = .ok (.if_icmp .ge 7, 3) := by decide +kernel
theorem dX9_nights_40 : decode cX9_nights 40 = .ok (.iload_n 1, 1) := by decide +kernel
theorem dX9_nights_41 : decode cX9_nights 41 = .ok (.goto 4, 3) := by decide +kernel
theorem dX9_nights_44 : decode cX9_nights 44 = .ok (.iload_n 3, 1) := by decide +kernel
theorem dX9_nights_45 : decode cX9_nights 45 = .ok (.invokevirtual 180, 3) := by decide +kernel
theorem dX9_nights_48 : decode cX9_nights 48 = .ok (.aload_n 0, 1) := by decide +kernel
theorem dX9_nights_49 : decode cX9_nights 49 = .ok (.getfield 7, 3) := by decide +kernel
theorem dX9_nights_52 : decode cX9_nights 52 = .ok (.bipush 7, 2) := by decide +kernel
theorem dX9_nights_54 : decode cX9_nights 54 = .ok (.iaload, 1) := by decide +kernel
theorem dX9_nights_55 : decode cX9_nights 55 = .ok (.iload_n 2, 1) := by decide +kernel
theorem dX9_nights_56 : decode cX9_nights 56 = .ok (.isub, 1) := by decide +kernel
theorem dX9_nights_57 : decode cX9_nights 57 = .ok (.ireturn, 1) := by decide +kernel
theorem dX9_lostOfAll_0 : decode cX9_lostOfAll 0 = .ok (.iconst 0, 1) := by decide +kernel
theorem dX9_lostOfAll_1 : decode cX9_lostOfAll 1 = .ok (.istore_n 1, 1) := by decide +kernel
theorem dX9_lostOfAll_2 : decode cX9_lostOfAll 2 = .ok (.iconst 0, 1) := by decide +kernel
theorem dX9_lostOfAll_3 : decode cX9_lostOfAll 3 = .ok (.istore_n 2, 1) := by decide +kernel
theorem dX9_lostOfAll_4 : decode cX9_lostOfAll 4 = .ok (.iload_n 2, 1) := by decide +kernel
theorem dX9_lostOfAll_5 : decode cX9_lostOfAll 5 = .ok (.aload_n 0, 1) := by decide +kernel
theorem dX9_lostOfAll_6 : decode cX9_lostOfAll 6 = .ok (.getfield 7, 3) := by decide +kernel
theorem dX9_lostOfAll_9 : decode cX9_lostOfAll 9 = .ok (.iconst 0, 1) := by decide +kernel
theorem dX9_lostOfAll_10 : decode cX9_lostOfAll 10 = .ok (.iaload, 1) := by decide +kernel
theorem dX9_lostOfAll_11 : decode cX9_lostOfAll 11 = .ok (.if_icmp .ge 21, 3) := by decide +kernel
theorem dX9_lostOfAll_14 : decode cX9_lostOfAll 14 = .ok (.iload_n 1, 1) := by decide +kernel
theorem dX9_lostOfAll_15 : decode cX9_lostOfAll 15 = .ok (.aload_n 0, 1) := by decide +kernel
theorem dX9_lostOfAll_16 : decode cX9_lostOfAll 16 = .ok (.iload_n 2, 1) := by decide +kernel
theorem dX9_lostOfAll_17 : decode cX9_lostOfAll 17 = .ok (.iconst 3, 1) := by decide +kernel
theorem dX9_lostOfAll_18 : decode cX9_lostOfAll 18 = .ok (.invokevirtual 91, 3) := by decide +kernel
theorem dX9_lostOfAll_21 : decode cX9_lostOfAll 21 = .ok (.invokestatic 184, 3) := by decide +kernel
theorem dX9_lostOfAll_24 : decode cX9_lostOfAll 24 = .ok (.iadd, 1) := by decide +kernel
theorem dX9_lostOfAll_25 : decode cX9_lostOfAll 25 = .ok (.istore_n 1, 1) := by decide +kernel
theorem dX9_lostOfAll_26 : decode cX9_lostOfAll 26 = .ok (.iinc 2 1, 3) := by decide +kernel
theorem dX9_lostOfAll_29 : decode cX9_lostOfAll 29 = .ok (.goto (-25), 3) := by decide +kernel
theorem dX9_lostOfAll_32 : decode cX9_lostOfAll 32 = .ok (.iload_n 1, 1) := by decide +kernel
theorem dX9_lostOfAll_33 : decode cX9_lostOfAll 33 = .ok (.ireturn, 1) := by decide +kernel
theorem dX9_town_0 : decode cX9_town 0 = .ok (.iload_n 1, 1) := by decide +kernel
theorem dX9_town_1 : decode cX9_town 1 = .ok (.i2l, 1) := by decide +kernel
theorem dX9_town_2 : decode cX9_town 2 = .ok (.lconst 0, 1) := by decide +kernel
theorem dX9_town_3 : decode cX9_town 3 = .ok (.ldc2_w 187, 3) := by decide +kernel
theorem dX9_town_6 : decode cX9_town 6 = .ok (.invokestatic 71, 3) := by decide +kernel
theorem dX9_town_9 : decode cX9_town 9 = .ok (.ifCond .ne 6, 3) := by decide +kernel
theorem dX9_town_12 : decode cX9_town 12 = .ok (.ldc 86, 2) := by decide +kernel
theorem dX9_town_14 : decode cX9_town 14 = .ok (.ireturn, 1) := by decide +kernel
theorem dX9_town_15 : decode cX9_town 15 = .ok (.iload_n 1, 1) := by decide +kernel
theorem dX9_town_16 : decode cX9_town 16 = .ok (.iconst 3, 1) := by decide +kernel
theorem dX9_town_17 : decode cX9_town 17 = .ok (.if_icmp .ge 15, 3) := by decide +kernel
theorem dX9_town_20 : decode cX9_town 20 = .ok (.aload_n 0, 1) := by decide +kernel
theorem dX9_town_21 : decode cX9_town 21 = .ok (.getfield 7, 3) := by decide +kernel
theorem dX9_town_24 : decode cX9_town 24 = .ok (.bipush 6, 2) := by decide +kernel
theorem dX9_town_26 : decode cX9_town 26 = .ok (.iload_n 1, 1) := by decide +kernel
theorem dX9_town_27 : decode cX9_town 27 = .ok (.iadd, 1) := by decide +kernel
theorem dX9_town_28 : decode cX9_town 28 = .ok (.iaload, 1) := by decide +kernel
theorem dX9_town_29 : decode cX9_town 29 = .ok (.goto 19, 3) := by decide +kernel
theorem dX9_town_32 : decode cX9_town 32 = .ok (.iload_n 1, 1) := by decide +kernel
theorem dX9_town_33 : decode cX9_town 33 = .ok (.iconst 3, 1) := by decide +kernel
theorem dX9_town_34 : decode cX9_town 34 = .ok (.if_icmp .ne 10, 3) := by decide +kernel
theorem dX9_town_37 : decode cX9_town 37 = .ok (.aload_n 0, 1) := by decide +kernel
theorem dX9_town_38 : decode cX9_town 38 = .ok (.invokevirtual 115, 3) := by decide +kernel
theorem dX9_town_41 : decode cX9_town 41 = .ok (.goto 7, 3) := by decide +kernel
theorem dX9_town_44 : decode cX9_town 44 = .ok (.aload_n 0, 1) := by decide +kernel
theorem dX9_town_45 : decode cX9_town 45 = .ok (.invokevirtual 189, 3) := by decide +kernel
theorem dX9_town_48 : decode cX9_town 48 = .ok (.ireturn, 1) := by decide +kernel
theorem dX9_isHeld_0 : decode cX9_isHeld 0 = .ok (.aload_n 0, 1) := by decide +kernel
theorem dX9_isHeld_1 : decode cX9_isHeld 1 = .ok (.getfield 43, 3) := by decide +kernel
theorem dX9_isHeld_4 : decode cX9_isHeld 4 = .ok (.iload_n 1, 1) := by decide +kernel
theorem dX9_isHeld_5 : decode cX9_isHeld 5 = .ok (.iaload, 1) := by decide +kernel
theorem dX9_isHeld_6 : decode cX9_isHeld 6 = .ok (.iload_n 2, 1) := by decide +kernel
theorem dX9_isHeld_7 : decode cX9_isHeld 7 = .ok (.invokestatic 95, 3) := by decide +kernel
theorem dX9_isHeld_10 : decode cX9_isHeld 10 = .ok (.ireturn, 1) := by decide +kernel
theorem dX9_comesTo_0 : decode cX9_comesTo 0 = .ok (.aload_n 0, 1) := by decide +kernel
theorem dX9_comesTo_1 : decode cX9_comesTo 1 = .ok (.iload_n 1, 1) := by decide +kernel
theorem dX9_comesTo_2 : decode cX9_comesTo 2 = .ok (.iload_n 2, 1) := by decide +kernel
theorem dX9_comesTo_3 : decode cX9_comesTo 3 = .ok (.invokevirtual 192, 3) := by decide +kernel
theorem dX9_comesTo_6 : decode cX9_comesTo 6 = .ok (.ifCond .eq 21, 3) := by decide +kernel
theorem dX9_comesTo_9 : decode cX9_comesTo 9 = .ok (.aload_n 0, 1) := by decide +kernel
theorem dX9_comesTo_10 : decode cX9_comesTo 10 = .ok (.getfield 46, 3) := by decide +kernel
theorem dX9_comesTo_13 : decode cX9_comesTo 13 = .ok (.bipush 8, 2) := by decide +kernel
theorem dX9_comesTo_15 : decode cX9_comesTo 15 = .ok (.iload_n 1, 1) := by decide +kernel
theorem dX9_comesTo_16 : decode cX9_comesTo 16 = .ok (.imul, 1) := by decide +kernel
theorem dX9_comesTo_17 : decode cX9_comesTo 17 = .ok (.iload_n 2, 1) := by decide +kernel
theorem dX9_comesTo_18 : decode cX9_comesTo 18 = .ok (.iadd, 1) := by decide +kernel
theorem dX9_comesTo_19 : decode cX9_comesTo 19 = .ok (.iaload, 1) := by decide +kernel
theorem dX9_comesTo_20 : decode cX9_comesTo 20 = .ok (.ifCond .ge 7, 3) := by decide +kernel
theorem dX9_comesTo_23 : decode cX9_comesTo 23 = .ok (.iconst 1, 1) := by decide +kernel
theorem dX9_comesTo_24 : decode cX9_comesTo 24 = .ok (.goto 4, 3) := by decide +kernel
theorem dX9_comesTo_27 : decode cX9_comesTo 27 = .ok (.iconst 0, 1) := by decide +kernel
theorem dX9_comesTo_28 : decode cX9_comesTo 28 = .ok (.istore 4, 2) := by decide +kernel
theorem dX9_comesTo_30 : decode cX9_comesTo 30 = .ok (.iload 4, 2) := by decide +kernel
theorem dX9_comesTo_32 : decode cX9_comesTo 32 = .ok (.ifCond .eq 15, 3) := by decide +kernel
theorem dX9_comesTo_35 : decode cX9_comesTo 35 = .ok (.aload_n 0, 1) := by decide +kernel
theorem dX9_comesTo_36 : decode cX9_comesTo 36 = .ok (.getfield 46, 3) := by decide +kernel
theorem dX9_comesTo_39 : decode cX9_comesTo 39 = .ok (.bipush 8, 2) := by decide +kernel
theorem dX9_comesTo_41 : decode cX9_comesTo 41 = .ok (.iload_n 1, 1) := by decide +kernel
theorem dX9_comesTo_42 : decode cX9_comesTo 42 = .ok (.imul, 1) := by decide +kernel
theorem dX9_comesTo_43 : decode cX9_comesTo 43 = .ok (.iload_n 2, 1) := by decide +kernel
theorem dX9_comesTo_44 : decode cX9_comesTo 44 = .ok (.iadd, 1) := by decide +kernel
theorem dX9_comesTo_45 : decode cX9_comesTo 45 = .ok (.iload_n 3, 1) := by decide +kernel
theorem dX9_comesTo_46 : decode cX9_comesTo 46 = .ok (.iastore, 1) := by decide +kernel
theorem dX9_comesTo_47 : decode cX9_comesTo 47 = .ok (.iload 4, 2) := by decide +kernel
theorem dX9_comesTo_49 : decode cX9_comesTo 49 = .ok (.ireturn, 1) := by decide +kernel
theorem dX9_stepsFrom_0 : decode cX9_stepsFrom 0 = .ok (.iload_n 2, 1) := by decide +kernel
theorem dX9_stepsFrom_1 : decode cX9_stepsFrom 1 = .ok (.ifCond .le 19, 3) := by decide +kernel
theorem dX9_stepsFrom_4 : decode cX9_stepsFrom 4 = .ok (.aload_n 0, 1) := by decide +kernel
theorem dX9_stepsFrom_5 : decode cX9_stepsFrom 5 = .ok (.iload_n 1, 1) := by decide +kernel
theorem dX9_stepsFrom_6 : decode cX9_stepsFrom 6 = .ok (.iload_n 2, 1) := by decide +kernel
theorem dX9_stepsFrom_7 : decode cX9_stepsFrom 7 = .ok (.iconst 1, 1) := by decide +kernel
theorem dX9_stepsFrom_8 : decode cX9_stepsFrom 8 = .ok (.isub, 1) := by decide +kernel
theorem dX9_stepsFrom_9 : decode cX9_stepsFrom 9 = .ok (.iload_n 3, 1) := by decide +kernel
theorem dX9_stepsFrom_10 : decode cX9_stepsFrom 10 = .ok (.invokevirtual 195, 3) := by decide +kernel
theorem dX9_stepsFrom_13 : decode cX9_stepsFrom 13 = .ok (.ifCond .eq 7, 3) := by decide +kernel
theorem dX9_stepsFrom_16 : decode cX9_stepsFrom 16 = .ok (.iconst 1, 1) := by decide +kernel
theorem dX9_stepsFrom_17 : decode cX9_stepsFrom 17 = .ok (.goto 4, 3) := by decide +kernel
theorem dX9_stepsFrom_20 : decode cX9_stepsFrom 20 = .ok (.iconst 0, 1) := by decide +kernel
theorem dX9_stepsFrom_21 : decode cX9_stepsFrom 21 = .ok (.istore 4, 2) := by decide +kernel
theorem dX9_stepsFrom_23 : decode cX9_stepsFrom 23 = .ok (.iload 4, 2) := by decide +kernel
theorem dX9_stepsFrom_25 : decode cX9_stepsFrom 25 = .ok (.iload_n 2, 1) := by decide +kernel
theorem dX9_stepsFrom_26 : decode cX9_stepsFrom 26 = .ok (.bipush 7, 2) := by decide +kernel
theorem dX9_stepsFrom_28 : decode cX9_stepsFrom 28 = .ok (.if_icmp .ge 19, 3) := by decide +kernel
theorem dX9_stepsFrom_31 : decode cX9_stepsFrom 31 = .ok (.aload_n 0, 1) := by decide +kernel
theorem dX9_stepsFrom_32 : decode cX9_stepsFrom 32 = .ok (.iload_n 1, 1) := by decide +kernel
theorem dX9_stepsFrom_33 : decode cX9_stepsFrom 33 = .ok (.iload_n 2, 1) := by decide +kernel
theorem dX9_stepsFrom_34 : decode cX9_stepsFrom 34 = .ok (.iconst 1, 1) := by decide +kernel
theorem dX9_stepsFrom_35 : decode cX9_stepsFrom 35 = .ok (.iadd, 1) := by decide +kernel
theorem dX9_stepsFrom_36 : decode cX9_stepsFrom 36 = .ok (.iload_n 3, 1) := by decide +kernel
theorem dX9_stepsFrom_37 : decode cX9_stepsFrom 37 = .ok (.invokevirtual 195, 3) := by decide +kernel
theorem dX9_stepsFrom_40 : decode cX9_stepsFrom 40 = .ok (.ifCond .eq 7, 3) := by decide +kernel
theorem dX9_stepsFrom_43 : decode cX9_stepsFrom 43 = .ok (.iconst 1, 1) := by decide +kernel
theorem dX9_stepsFrom_44 : decode cX9_stepsFrom 44 = .ok (.goto 4, 3) := by decide +kernel
theorem dX9_stepsFrom_47 : decode cX9_stepsFrom 47 = .ok (.iconst 0, 1) := by decide +kernel
theorem dX9_stepsFrom_48 : decode cX9_stepsFrom 48 = .ok (.ior, 1) := by decide +kernel
theorem dX9_stepsFrom_49 : decode cX9_stepsFrom 49 = .ok (.istore 4, 2) := by decide +kernel
theorem dX9_stepsFrom_51 : decode cX9_stepsFrom 51 = .ok (.iconst 0, 1) := by decide +kernel
theorem dX9_stepsFrom_52 : decode cX9_stepsFrom 52 = .ok (.istore 5, 2) := by decide +kernel
theorem dX9_stepsFrom_54 : decode cX9_stepsFrom 54 = .ok (.iload 5, 2) := by decide +kernel
theorem dX9_stepsFrom_56 : decode cX9_stepsFrom 56 = .ok (.bipush 8, 2) := by decide +kernel
theorem dX9_stepsFrom_58 : decode cX9_stepsFrom 58 = .ok (.if_icmp .ge 85, 3) := by decide +kernel
theorem dX9_stepsFrom_61 : decode cX9_stepsFrom 61 = .ok (.iload_n 1, 1) := by decide +kernel
theorem dX9_stepsFrom_62 : decode cX9_stepsFrom 62 = .ok (.ifCond .le 32, 3) := by decide +kernel
theorem dX9_stepsFrom_65 : decode cX9_stepsFrom 65 = .ok (.aload_n 0, 1) := by decide +kernel
theorem dX9_stepsFrom_66 : decode cX9_stepsFrom 66 = .ok (.iload_n 1, 1) := by decide +kernel
theorem dX9_stepsFrom_67 : decode cX9_stepsFrom 67 = .ok (.iload_n 2, 1) := by decide +kernel
theorem dX9_stepsFrom_68 : decode cX9_stepsFrom 68 = .ok (.invokevirtual 99, 3) := by decide +kernel
theorem dX9_stepsFrom_71 : decode cX9_stepsFrom 71 = .ok (.iload 5, 2) := by decide +kernel
theorem dX9_stepsFrom_73 : decode cX9_stepsFrom 73 = .ok (.invokestatic 95, 3) := by decide +kernel
theorem dX9_stepsFrom_76 : decode cX9_stepsFrom 76 = .ok (.ifCond .eq 18, 3) := by decide +kernel
theorem dX9_stepsFrom_79 : decode cX9_stepsFrom 79 = .ok (.iload 4, 2) := by decide +kernel
theorem dX9_stepsFrom_81 : decode cX9_stepsFrom 81 = .ok (.aload_n 0, 1) := by decide +kernel
theorem dX9_stepsFrom_82 : decode cX9_stepsFrom 82 = .ok (.iload_n 1, 1) := by decide +kernel
theorem dX9_stepsFrom_83 : decode cX9_stepsFrom 83 = .ok (.iconst 1, 1) := by decide +kernel
theorem dX9_stepsFrom_84 : decode cX9_stepsFrom 84 = .ok (.isub, 1) := by decide +kernel
theorem dX9_stepsFrom_85 : decode cX9_stepsFrom 85 = .ok (.iload 5, 2) := by decide +kernel
theorem dX9_stepsFrom_87 : decode cX9_stepsFrom 87 = .ok (.iload_n 3, 1) := by decide +kernel
theorem dX9_stepsFrom_88 : decode cX9_stepsFrom 88 = .ok (.invokevirtual 195, 3) := by decide +kernel
theorem dX9_stepsFrom_91 : decode cX9_stepsFrom 91 = .ok (.ior, 1) := by decide +kernel
theorem dX9_stepsFrom_92 : decode cX9_stepsFrom 92 = .ok (.istore 4, 2) := by decide +kernel
theorem dX9_stepsFrom_94 : decode cX9_stepsFrom 94 = .ok (.iload_n 1, 1) := by decide +kernel
theorem dX9_stepsFrom_95 : decode cX9_stepsFrom 95 = .ok (.aload_n 0, 1) := by decide +kernel
theorem dX9_stepsFrom_96 : decode cX9_stepsFrom 96 = .ok (.getfield 7, 3) := by decide +kernel
theorem dX9_stepsFrom_99 : decode cX9_stepsFrom 99 = .ok (.iconst 0, 1) := by decide +kernel
theorem dX9_stepsFrom_100 : decode cX9_stepsFrom 100 = .ok (.iaload, 1) := by decide +kernel
theorem dX9_stepsFrom_101 : decode cX9_stepsFrom 101 = .ok (.iconst 1, 1) := by decide +kernel
theorem dX9_stepsFrom_102 : decode cX9_stepsFrom 102 = .ok (.isub, 1) := by decide +kernel
theorem dX9_stepsFrom_103 : decode cX9_stepsFrom 103 = .ok (.if_icmp .ge 34, 3) := by decide +kernel
theorem dX9_stepsFrom_106 : decode cX9_stepsFrom 106 = .ok (.aload_n 0, 1) := by decide +kernel
theorem dX9_stepsFrom_107 : decode cX9_stepsFrom 107 = .ok (.iload_n 1, 1) := by decide +kernel
theorem dX9_stepsFrom_108 : decode cX9_stepsFrom 108 = .ok (.iconst 1, 1) := by decide +kernel
theorem dX9_stepsFrom_109 : decode cX9_stepsFrom 109 = .ok (.iadd, 1) := by decide +kernel
theorem dX9_stepsFrom_110 : decode cX9_stepsFrom 110 = .ok (.iload 5, 2) := by decide +kernel
theorem dX9_stepsFrom_112 : decode cX9_stepsFrom 112 = .ok (.invokevirtual 99, 3) := by decide +kernel
theorem dX9_stepsFrom_115 : decode cX9_stepsFrom 115 = .ok (.iload_n 2, 1) := by decide +kernel
theorem dX9_stepsFrom_116 : decode cX9_stepsFrom 116 = .ok (.invokestatic 95, 3) := by decide +kernel
theorem dX9_stepsFrom_119 : decode cX9_stepsFrom 119 = .ok (.ifCond .eq 18, 3) := by decide +kernel
theorem dX9_stepsFrom_122 : decode cX9_stepsFrom 122 = .ok (.iload 4, 2) := by decide +kernel
theorem dX9_stepsFrom_124 : decode cX9_stepsFrom 124 = .ok (.aload_n 0, 1) := by decide +kernel
theorem dX9_stepsFrom_125 : decode cX9_stepsFrom 125 = .ok (.iload_n 1, 1) := by decide +kernel
theorem dX9_stepsFrom_126 : decode cX9_stepsFrom 126 = .ok (.iconst 1, 1) := by decide +kernel
theorem dX9_stepsFrom_127 : decode cX9_stepsFrom 127 = .ok (.iadd, 1) := by decide +kernel
theorem dX9_stepsFrom_128 : decode cX9_stepsFrom 128 = .ok (.iload 5, 2) := by decide +kernel
theorem dX9_stepsFrom_130 : decode cX9_stepsFrom 130 = .ok (.iload_n 3, 1) := by decide +kernel
theorem dX9_stepsFrom_131 : decode cX9_stepsFrom 131 = .ok (.invokevirtual 195, 3) := by decide +kernel
theorem dX9_stepsFrom_134 : decode cX9_stepsFrom 134 = .ok (.ior, 1) := by decide +kernel
theorem dX9_stepsFrom_135 : decode cX9_stepsFrom 135 = .ok (.istore 4, 2) := by decide +kernel
theorem dX9_stepsFrom_137 : decode cX9_stepsFrom 137 = .ok (.iinc 5 1, 3) := by decide +kernel
theorem dX9_stepsFrom_140 : decode cX9_stepsFrom 140 = .ok (.goto (-86), 3) := by decide +kernel
theorem dX9_stepsFrom_143 : decode cX9_stepsFrom 143 = .ok (.iload 4, 2) := by decide +kernel
theorem dX9_stepsFrom_145 : decode cX9_stepsFrom 145 = .ok (.ireturn, 1) := by decide +kernel
theorem dX9_findsWays_0 : decode cX9_findsWays 0 = .ok (.aload_n 0, 1) := by decide +kernel
theorem dX9_findsWays_1 : decode cX9_findsWays 1 = .ok (.invokevirtual 115, 3) := by decide +kernel
theorem dX9_findsWays_4 : decode cX9_findsWays 4 = .ok (.istore_n 3, 1) := by decide +kernel
theorem dX9_findsWays_5 : decode cX9_findsWays 5 = .ok (.iconst 0, 1) := by decide +kernel
theorem dX9_findsWays_6 : decode cX9_findsWays 6 = .ok (.istore 4, 2) := by decide +kernel
theorem dX9_findsWays_8 : decode cX9_findsWays 8 = .ok (.iload 4, 2) := by decide +kernel
theorem dX9_findsWays_10 : decode cX9_findsWays 10 = .ok (.bipush 96, 2) := by decide +kernel
theorem dX9_findsWays_12 : decode cX9_findsWays 12 = .ok (.if_icmp .ge 17, 3) := by decide +kernel
theorem dX9_findsWays_15 : decode cX9_findsWays 15 = .ok (.aload_n 0, 1) := by decide +kernel
theorem dX9_findsWays_16 : decode cX9_findsWays 16 = .ok (.getfield 46, 3) := by decide +kernel
theorem dX9_findsWays_19 : decode cX9_findsWays 19 = .ok (.iload 4, 2) := by decide +kernel
theorem dX9_findsWays_21 : decode cX9_findsWays 21 = .ok (.iconst (-1), 1) := by decide +kernel
theorem dX9_findsWays_22 : decode cX9_findsWays 22 = .ok (.iastore, 1) := by decide +kernel
theorem dX9_findsWays_23 : decode cX9_findsWays 23 = .ok (.iinc 4 1, 3) := by decide +kernel
theorem dX9_findsWays_26 : decode cX9_findsWays 26 = .ok (.goto (-18), 3) := by decide +kernel
theorem dX9_findsWays_29 : decode cX9_findsWays 29 = .ok (.iload_n 3, 1) := by decide +kernel
theorem dX9_findsWays_30 : decode cX9_findsWays 30 = .ok (.ifCond .le 17, 3) := by decide +kernel
theorem dX9_findsWays_33 : decode cX9_findsWays 33 = .ok (.aload_n 0, 1) := by decide +kernel
theorem dX9_findsWays_34 : decode cX9_findsWays 34 = .ok (.iload_n 1, 1) := by decide +kernel
theorem dX9_findsWays_35 : decode cX9_findsWays 35 = .ok (.iload_n 2, 1) := by decide +kernel
theorem dX9_findsWays_36 : decode cX9_findsWays 36 = .ok (.iconst 0, 1) := by decide +kernel
theorem dX9_findsWays_37 : decode cX9_findsWays 37 = .ok (.invokevirtual 195, 3) := by decide +kernel
theorem dX9_findsWays_40 : decode cX9_findsWays 40 = .ok (.ifCond .eq 7, 3) := by decide +kernel
theorem dX9_findsWays_43 : decode cX9_findsWays 43 = .ok (.iconst 1, 1) := by decide +kernel
theorem dX9_findsWays_44 : decode cX9_findsWays 44 = .ok (.goto 4, 3) := by decide +kernel
theorem dX9_findsWays_47 : decode cX9_findsWays 47 = .ok (.iconst 0, 1) := by decide +kernel
theorem dX9_findsWays_48 : decode cX9_findsWays 48 = .ok (.istore 4, 2) := by decide +kernel
theorem dX9_findsWays_50 : decode cX9_findsWays 50 = .ok (.iconst 0, 1) := by decide +kernel
theorem dX9_findsWays_51 : decode cX9_findsWays 51 = .ok (.istore 5, 2) := by decide +kernel
theorem dX9_findsWays_53 : decode cX9_findsWays 53 = .ok (.iload 4, 2) := by decide +kernel
theorem dX9_findsWays_55 : decode cX9_findsWays 55 = .ok (.ifCond .eq 70, 3) := by decide +kernel
theorem dX9_findsWays_58 : decode cX9_findsWays 58 = .ok (.iconst 0, 1) := by decide +kernel
theorem dX9_findsWays_59 : decode cX9_findsWays 59 = .ok (.istore 4, 2) := by decide +kernel
theorem dX9_findsWays_61 : decode cX9_findsWays 61 = .ok (.iconst 0, 1) := by decide +kernel
theorem dX9_findsWays_62 : decode cX9_findsWays 62 = .ok (.istore 6, 2) := by decide +kernel
theorem dX9_findsWays_64 : decode cX9_findsWays 64 = .ok (.iload 6, 2) := by decide +kernel
theorem dX9_findsWays_66 : decode cX9_findsWays 66 = .ok (.bipush 8, 2) := by decide +kernel
theorem dX9_findsWays_68 : decode cX9_findsWays 68 = .ok (.aload_n 0, 1) := by decide +kernel
theorem dX9_findsWays_69 : decode cX9_findsWays 69 = .ok (.getfield 7, 3) := by decide +kernel
theorem dX9_findsWays_72 : decode cX9_findsWays 72 = .ok (.iconst 0, 1) := by decide +kernel
theorem dX9_findsWays_73 : decode cX9_findsWays 73 = .ok (.iaload, 1) := by decide +kernel
theorem dX9_findsWays_74 : decode cX9_findsWays 74 = .ok (.imul, 1) := by decide +kernel
theorem dX9_findsWays_75 : decode cX9_findsWays 75 = .ok (.if_icmp .ge 44, 3) := by decide +kernel
theorem dX9_findsWays_78 : decode cX9_findsWays 78 = .ok (.aload_n 0, 1) := by decide +kernel
theorem dX9_findsWays_79 : decode cX9_findsWays 79 = .ok (.getfield 46, 3) := by decide +kernel
theorem dX9_findsWays_82 : decode cX9_findsWays 82 = .ok (.iload 6, 2) := by decide +kernel
theorem dX9_findsWays_84 : decode cX9_findsWays 84 = .ok (.iaload, 1) := by decide +kernel
theorem dX9_findsWays_85 : decode cX9_findsWays 85 = .ok (.iload 5, 2) := by decide +kernel
theorem dX9_findsWays_87 : decode cX9_findsWays 87 = .ok (.if_icmp .ne 26, 3) := by decide +kernel
theorem dX9_findsWays_90 : decode cX9_findsWays 90 = .ok (.iload 4, 2) := by decide +kernel
theorem dX9_findsWays_92 : decode cX9_findsWays 92 = .ok (.aload_n 0, 1) := by decide +kernel
theorem dX9_findsWays_93 : decode cX9_findsWays 93 = .ok (.iload 6, 2) := by decide +kernel
theorem dX9_findsWays_95 : decode cX9_findsWays 95 = .ok (.bipush 8, 2) := by decide +kernel
theorem dX9_findsWays_97 : decode cX9_findsWays 97 = .ok (.idiv, 1) := by decide +kernel
theorem dX9_findsWays_98 : decode cX9_findsWays 98 = .ok (.iload 6, 2) := by decide +kernel
theorem dX9_findsWays_100 : decode cX9_findsWays 100 = .ok (.bipush 8, 2) := by decide +kernel
theorem dX9_findsWays_102 : decode cX9_findsWays 102 = .ok (.irem, 1) := by decide +kernel
theorem dX9_findsWays_103 : decode cX9_findsWays 103 = .ok (.iload 5, 2) := by decide +kernel
theorem dX9_findsWays_105 : decode cX9_findsWays 105 = .ok (.iconst 1, 1) := by decide +kernel
theorem dX9_findsWays_106 : decode cX9_findsWays 106 = .ok (.iadd, 1) := by decide +kernel
theorem dX9_findsWays_107 : decode cX9_findsWays 107 = .ok (.invokevirtual 199, 3) := by decide +kernel
theorem dX9_findsWays_110 : decode cX9_findsWays 110 = .ok (.ior, 1) := by decide +kernel
theorem dX9_findsWays_111 : decode cX9_findsWays 111 = .ok (.istore 4, 2) := by decide +kernel
theorem dX9_findsWays_113 : decode cX9_findsWays 113 = .ok (.iinc 6 1, 3) := by decide +kernel
theorem dX9_findsWays_116 : decode cX9_findsWays 116 = .ok (.goto (-52), 3) := by decide +kernel
theorem dX9_findsWays_119 : decode cX9_findsWays 119 = .ok (.iinc 5 1, 3) := by decide +kernel
theorem dX9_findsWays_122 : decode cX9_findsWays 122 = .ok (.goto (-69), 3) := by decide +kernel
theorem dX9_findsWays_125 : decode cX9_findsWays 125 = .ok (.iconst 0, 1) := by decide +kernel
theorem dX9_findsWays_126 : decode cX9_findsWays 126 = .ok (.istore_n 3, 1) := by decide +kernel
theorem dX9_findsWays_127 : decode cX9_findsWays 127 = .ok (.iconst 0, 1) := by decide +kernel
theorem dX9_findsWays_128 : decode cX9_findsWays 128 = .ok (.istore 5, 2) := by decide +kernel
theorem dX9_findsWays_130 : decode cX9_findsWays 130 = .ok (.iload 5, 2) := by decide +kernel
theorem dX9_findsWays_132 : decode cX9_findsWays 132 = .ok (.bipush 96, 2) := by decide +kernel
theorem dX9_findsWays_134 : decode cX9_findsWays 134 = .ok (.if_icmp .ge 27, 3) := by decide +kernel
theorem dX9_findsWays_137 : decode cX9_findsWays 137 = .ok (.iload_n 3, 1) := by decide +kernel
theorem dX9_findsWays_138 : decode cX9_findsWays 138 = .ok (.aload_n 0, 1) := by decide +kernel
theorem dX9_findsWays_139 : decode cX9_findsWays 139 = .ok (.getfield 46, 3) := by decide +kernel
theorem dX9_findsWays_142 : decode cX9_findsWays 142 = .ok (.iload 5, 2) := by decide +kernel
theorem dX9_findsWays_144 : decode cX9_findsWays 144 = .ok (.iaload, 1) := by decide +kernel
theorem dX9_findsWays_145 : decode cX9_findsWays 145 = .ok (.ifCond .ge 7, 3) := by decide +kernel
theorem dX9_findsWays_148 : decode cX9_findsWays 148 = .ok (.iconst 0, 1) := by decide +kernel
theorem dX9_findsWays_149 : decode cX9_findsWays 149 = .ok (.goto 4, 3) := by decide +kernel
theorem dX9_findsWays_152 : decode cX9_findsWays 152 = .ok (.iconst 1, 1) := by decide +kernel
theorem dX9_findsWays_153 : decode cX9_findsWays 153 = .ok (.iadd, 1) := by decide +kernel
theorem dX9_findsWays_154 : decode cX9_findsWays 154 = .ok (.istore_n 3, 1) := by decide +kernel
theorem dX9_findsWays_155 : decode cX9_findsWays 155 = .ok (.iinc 5 1, 3) := by decide +kernel
theorem dX9_findsWays_158 : decode cX9_findsWays 158 = .ok (.goto (-28), 3) := by decide +kernel
theorem dX9_findsWays_161 : decode cX9_findsWays 161 = .ok (.iload_n 3, 1) := by decide +kernel
theorem dX9_findsWays_162 : decode cX9_findsWays 162 = .ok (.ireturn, 1) := by decide +kernel
theorem dX9_way_0 : decode cX9_way 0 = .ok (.aload_n 0, 1) := by decide +kernel
theorem dX9_way_1 : decode cX9_way 1 = .ok (.iload_n 1, 1) := by decide +kernel
theorem dX9_way_2 : decode cX9_way 2 = .ok (.invokevirtual 119, 3) := by decide +kernel
theorem dX9_way_5 : decode cX9_way 5 = .ok (.iload_n 2, 1) := by decide +kernel
theorem dX9_way_6 : decode cX9_way 6 = .ok (.invokestatic 149, 3) := by decide +kernel
theorem dX9_way_9 : decode cX9_way 9 = .ok (.ifCond .eq 16, 3) := by decide +kernel
theorem dX9_way_12 : decode cX9_way 12 = .ok (.aload_n 0, 1) := by decide +kernel
theorem dX9_way_13 : decode cX9_way 13 = .ok (.iload_n 3, 1) := by decide +kernel
theorem dX9_way_14 : decode cX9_way 14 = .ok (.invokevirtual 119, 3) := by decide +kernel
theorem dX9_way_17 : decode cX9_way 17 = .ok (.iload 4, 2) := by decide +kernel
theorem dX9_way_19 : decode cX9_way 19 = .ok (.invokestatic 149, 3) := by decide +kernel
theorem dX9_way_22 : decode cX9_way 22 = .ok (.ifCond .ne 6, 3) := by decide +kernel
theorem dX9_way_25 : decode cX9_way 25 = .ok (.ldc 86, 2) := by decide +kernel
theorem dX9_way_27 : decode cX9_way 27 = .ok (.ireturn, 1) := by decide +kernel
theorem dX9_way_28 : decode cX9_way 28 = .ok (.aload_n 0, 1) := by decide +kernel
theorem dX9_way_29 : decode cX9_way 29 = .ok (.iload_n 1, 1) := by decide +kernel
theorem dX9_way_30 : decode cX9_way 30 = .ok (.iload_n 2, 1) := by decide +kernel
theorem dX9_way_31 : decode cX9_way 31 = .ok (.invokevirtual 202, 3) := by decide +kernel
theorem dX9_way_34 : decode cX9_way 34 = .ok (.istore 5, 2) := by decide +kernel
theorem dX9_way_36 : decode cX9_way 36 = .ok (.iload 5, 2) := by decide +kernel
theorem dX9_way_38 : decode cX9_way 38 = .ok (.ifCond .ne 8, 3) := by decide +kernel
theorem dX9_way_41 : decode cX9_way 41 = .ok (.ldc 70, 2) := by decide +kernel
theorem dX9_way_43 : decode cX9_way 43 = .ok (.goto 18, 3) := by decide +kernel
theorem dX9_way_46 : decode cX9_way 46 = .ok (.aload_n 0, 1) := by decide +kernel
theorem dX9_way_47 : decode cX9_way 47 = .ok (.getfield 46, 3) := by decide +kernel
theorem dX9_way_50 : decode cX9_way 50 = .ok (.bipush 8, 2) := by decide +kernel
theorem dX9_way_52 : decode cX9_way 52 = .ok (.iload_n 3, 1) := by decide +kernel
theorem dX9_way_53 : decode cX9_way 53 = .ok (.imul, 1) := by decide +kernel
theorem dX9_way_54 : decode cX9_way 54 = .ok (.iload 4, 2) := by decide +kernel
theorem dX9_way_56 : decode cX9_way 56 = .ok (.iadd, 1) := by decide +kernel
theorem dX9_way_57 : decode cX9_way 57 = .ok (.iaload, 1) := by decide +kernel
theorem dX9_way_58 : decode cX9_way 58 = .ok (.invokestatic 205, 3) := by decide +kernel
theorem dX9_way_61 : decode cX9_way 61 = .ok (.ireturn, 1) := by decide +kernel
