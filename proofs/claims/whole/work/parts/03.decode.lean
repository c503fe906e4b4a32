theorem dX0_isKind_0 : decode cX0_isKind 0 = .ok (.iload_n 0, 1) := by decide +kernel
theorem dX0_isKind_1 : decode cX0_isKind 1 = .ok (.ifCond .lt 13, 3) := by decide +kernel
theorem dX0_isKind_4 : decode cX0_isKind 4 = .ok (.iload_n 0, 1) := by decide +kernel
theorem dX0_isKind_5 : decode cX0_isKind 5 = .ok (.bipush 6, 2) := by decide +kernel
theorem dX0_isKind_7 : decode cX0_isKind 7 = .ok (.if_icmp .ge 7, 3) := by decide +kernel
theorem dX0_isKind_10 : decode cX0_isKind 10 = .ok (.iconst 1, 1) := by decide +kernel
theorem dX0_isKind_11 : decode cX0_isKind 11 = .ok (.goto 4, 3) := by decide +kernel
theorem dX0_isKind_14 : decode cX0_isKind 14 = .ok (.iconst 0, 1) := by decide +kernel
theorem dX0_isKind_15 : decode cX0_isKind 15 = .ok (.ireturn, 1) := by decide +kernel
theorem dX0_isUnder_0 : decode cX0_isUnder 0 = .ok (.iload_n 0, 1) := by decide +kernel
theorem dX0_isUnder_1 : decode cX0_isUnder 1 = .ok (.istore_n 2, 1) := by decide +kernel
theorem dX0_isUnder_2 : decode cX0_isUnder 2 = .ok (.iconst 0, 1) := by decide +kernel
theorem dX0_isUnder_3 : decode cX0_isUnder 3 = .ok (.istore_n 3, 1) := by decide +kernel
theorem dX0_isUnder_4 : decode cX0_isUnder 4 = .ok (.iload_n 3, 1) := by decide +kernel
theorem dX0_isUnder_5 : decode cX0_isUnder 5 = .ok (.bipush 6, 2) := by decide +kernel
theorem dX0_isUnder_7 : decode cX0_isUnder 7 = .ok (.if_icmp .ge 29, 3) := by decide +kernel
theorem dX0_isUnder_10 : decode cX0_isUnder 10 = .ok (.iload_n 2, 1) := by decide +kernel
theorem dX0_isUnder_11 : decode cX0_isUnder 11 = .ok (.invokestatic 11, 3) := by decide +kernel
theorem dX0_isUnder_14 : decode cX0_isUnder 14 = .ok (.ifCond .eq 22, 3) := by decide +kernel
theorem dX0_isUnder_17 : decode cX0_isUnder 17 = .ok (.iload_n 2, 1) := by decide +kernel
theorem dX0_isUnder_18 : decode cX0_isUnder 18 = .ok (.iload_n 1, 1) := by decide +kernel
theorem dX0_isUnder_19 : decode cX0_isUnder 19 = .ok (.if_icmp .ne 5, 3) := by decide +kernel
theorem dX0_isUnder_22 : decode cX0_isUnder 22 = .ok (.iconst 1, 1) := by decide +kernel
theorem dX0_isUnder_23 : decode cX0_isUnder 23 = .ok (.ireturn, 1) := by decide +kernel
theorem dX0_isUnder_24 : decode cX0_isUnder 24 = .ok (.getstatic 15, 3) := by decide +kernel
theorem dX0_isUnder_27 : decode cX0_isUnder 27 = .ok (.iload_n 2, 1) := by decide +kernel
theorem dX0_isUnder_28 : decode cX0_isUnder 28 = .ok (.iaload, 1) := by decide +kernel
theorem dX0_isUnder_29 : decode cX0_isUnder 29 = .ok (.istore_n 2, 1) := by decide +kernel
theorem dX0_isUnder_30 : decode cX0_isUnder 30 = .ok (.iinc 3 1, 3) := by decide +kernel
theorem dX0_isUnder_33 : decode cX0_isUnder 33 = .ok (.goto (-29), 3) := by decide +kernel
theorem dX0_isUnder_36 : decode cX0_isUnder 36 = .ok (.iconst 0, 1) := by decide +kernel
theorem dX0_isUnder_37 : decode cX0_isUnder 37 = .ok (.ireturn, 1) := by decide +kernel
theorem dX0_borne_0 : decode cX0_borne 0 = .ok (.iload_n 0, 1) := by decide +kernel
theorem dX0_borne_1 : decode cX0_borne 1 = .ok (.tableswitch 47 2 5 #[36, 31, 36, 43], 31) := by decide +kernel
theorem dX0_borne_32 : decode cX0_borne 32 = .ok (.iload_n 1, 1) := by decide +kernel
theorem dX0_borne_33 : decode cX0_borne 33 = .ok (.invokestatic 19, 3) := by decide +kernel
theorem dX0_borne_36 : decode cX0_borne 36 = .ok (.ireturn, 1) := by decide +kernel
theorem dX0_borne_37 : decode cX0_borne 37 = .ok (.iload_n 1, 1) := by decide +kernel
theorem dX0_borne_38 : decode cX0_borne 38 = .ok (.iload_n 1, 1) := by decide +kernel
theorem dX0_borne_39 : decode cX0_borne 39 = .ok (.invokestatic 23, 3) := by decide +kernel
theorem dX0_borne_42 : decode cX0_borne 42 = .ok (.iand, 1) := by decide +kernel
theorem dX0_borne_43 : decode cX0_borne 43 = .ok (.ireturn, 1) := by decide +kernel
theorem dX0_borne_44 : decode cX0_borne 44 = .ok (.sipush 255, 3) := by decide +kernel
theorem dX0_borne_47 : decode cX0_borne 47 = .ok (.ireturn, 1) := by decide +kernel
theorem dX0_borne_48 : decode cX0_borne 48 = .ok (.iload_n 1, 1) := by decide +kernel
theorem dX0_borne_49 : decode cX0_borne 49 = .ok (.ireturn, 1) := by decide +kernel
theorem dX0_over_0 : decode cX0_over 0 = .ok (.iload_n 0, 1) := by decide +kernel
theorem dX0_over_1 : decode cX0_over 1 = .ok (.tableswitch 45 2 5 #[36, 31, 36, 43], 31) := by decide +kernel
theorem dX0_over_32 : decode cX0_over 32 = .ok (.iload_n 1, 1) := by decide +kernel
theorem dX0_over_33 : decode cX0_over 33 = .ok (.invokestatic 19, 3) := by decide +kernel
theorem dX0_over_36 : decode cX0_over 36 = .ok (.ireturn, 1) := by decide +kernel
theorem dX0_over_37 : decode cX0_over 37 = .ok (.iload_n 1, 1) := by decide +kernel
theorem dX0_over_38 : decode cX0_over 38 = .ok (.iload_n 1, 1) := by decide +kernel
theorem dX0_over_39 : decode cX0_over 39 = .ok (.invokestatic 23, 3) := by decide +kernel
theorem dX0_over_42 : decode cX0_over 42 = .ok (.ior, 1) := by decide +kernel
theorem dX0_over_43 : decode cX0_over 43 = .ok (.ireturn, 1) := by decide +kernel
theorem dX0_over_44 : decode cX0_over 44 = .ok (.iconst 0, 1) := by decide +kernel
theorem dX0_over_45 : decode cX0_over 45 = .ok (.ireturn, 1) := by decide +kernel
theorem dX0_over_46 : decode cX0_over 46 = .ok (.iload_n 1, 1) := by decide +kernel
theorem dX0_over_47 : decode cX0_over 47 = .ok (.ireturn, 1) := by decide +kernel
theorem dX0_under_0 : decode cX0_under 0 = .ok (.iload_n 0, 1) := by decide +kernel
theorem dX0_under_1 : decode cX0_under 1 = .ok (.tableswitch 45 2 5 #[36, 31, 36, 43], 31) := by decide +kernel
theorem dX0_under_32 : decode cX0_under 32 = .ok (.iload_n 1, 1) := by decide +kernel
theorem dX0_under_33 : decode cX0_under 33 = .ok (.invokestatic 19, 3) := by decide +kernel
theorem dX0_under_36 : decode cX0_under 36 = .ok (.ireturn, 1) := by decide +kernel
theorem dX0_under_37 : decode cX0_under 37 = .ok (.iload_n 1, 1) := by decide +kernel
theorem dX0_under_38 : decode cX0_under 38 = .ok (.iload_n 1, 1) := by decide +kernel
theorem dX0_under_39 : decode cX0_under 39 = .ok (.invokestatic 26, 3) := by decide +kernel
theorem dX0_under_42 : decode cX0_under 42 = .ok (.ior, 1) := by decide +kernel
theorem dX0_under_43 : decode cX0_under 43 = .ok (.ireturn, 1) := by decide +kernel
theorem dX0_under_44 : decode cX0_under 44 = .ok (.iconst 0, 1) := by decide +kernel
theorem dX0_under_45 : decode cX0_under 45 = .ok (.ireturn, 1) := by decide +kernel
theorem dX0_under_46 : decode cX0_under 46 = .ok (.iload_n 1, 1) := by decide +kernel
theorem dX0_under_47 : decode cX0_under 47 = .ok (.ireturn, 1) := by decide +kernel
theorem dX0_wears_0 : decode cX0_wears 0 = .ok (.iload_n 0, 1) := by decide +kernel
theorem dX0_wears_1 : decode cX0_wears 1 = .ok (.tableswitch 59 1 5 #[35, 43, 35, 47, 57], 35) := by decide +kernel
theorem dX0_wears_36 : decode cX0_wears 36 = .ok (.iconst 0, 1) := by decide +kernel
theorem dX0_wears_37 : decode cX0_wears 37 = .ok (.iload_n 1, 1) := by decide +kernel
theorem dX0_wears_38 : decode cX0_wears 38 = .ok (.iconst 2, 1) := by decide +kernel
theorem dX0_wears_39 : decode cX0_wears 39 = .ok (.isub, 1) := by decide +kernel
theorem dX0_wears_40 : decode cX0_wears 40 = .ok (.invokestatic 29, 3) := by decide +kernel
theorem dX0_wears_43 : decode cX0_wears 43 = .ok (.ireturn, 1) := by decide +kernel
theorem dX0_wears_44 : decode cX0_wears 44 = .ok (.iconst 2, 1) := by decide +kernel
theorem dX0_wears_45 : decode cX0_wears 45 = .ok (.iload_n 1, 1) := by decide +kernel
theorem dX0_wears_46 : decode cX0_wears 46 = .ok (.imul, 1) := by decide +kernel
theorem dX0_wears_47 : decode cX0_wears 47 = .ok (.ireturn, 1) := by decide +kernel
theorem dX0_wears_48 : decode cX0_wears 48 = .ok (.iconst 0, 1) := by decide +kernel
theorem dX0_wears_49 : decode cX0_wears 49 = .ok (.iconst 2, 1) := by decide +kernel
theorem dX0_wears_50 : decode cX0_wears 50 = .ok (.iload_n 1, 1) := by decide +kernel
theorem dX0_wears_51 : decode cX0_wears 51 = .ok (.imul, 1) := by decide +kernel
theorem dX0_wears_52 : decode cX0_wears 52 = .ok (.iconst 3, 1) := by decide +kernel
theorem dX0_wears_53 : decode cX0_wears 53 = .ok (.isub, 1) := by decide +kernel
theorem dX0_wears_54 : decode cX0_wears 54 = .ok (.invokestatic 29, 3) := by decide +kernel
theorem dX0_wears_57 : decode cX0_wears 57 = .ok (.ireturn, 1) := by decide +kernel
theorem dX0_wears_58 : decode cX0_wears 58 = .ok (.iconst 1, 1) := by decide +kernel
theorem dX0_wears_59 : decode cX0_wears 59 = .ok (.ireturn, 1) := by decide +kernel
theorem dX0_wears_60 : decode cX0_wears 60 = .ok (.iload_n 1, 1) := by decide +kernel
theorem dX0_wears_61 : decode cX0_wears 61 = .ok (.ireturn, 1) := by decide +kernel
theorem dX0_bears_0 : decode cX0_bears 0 = .ok (.bipush 10, 2) := by decide +kernel
theorem dX0_bears_2 : decode cX0_bears 2 = .ok (.iload_n 1, 1) := by decide +kernel
theorem dX0_bears_3 : decode cX0_bears 3 = .ok (.imul, 1) := by decide +kernel
theorem dX0_bears_4 : decode cX0_bears 4 = .ok (.istore_n 2, 1) := by decide +kernel
theorem dX0_bears_5 : decode cX0_bears 5 = .ok (.iload_n 0, 1) := by decide +kernel
theorem dX0_bears_6 : decode cX0_bears 6 = .ok (.lookupswitch 34 #[(3, 26), (4, 30)], 26) := by decide +kernel
theorem dX0_bears_32 : decode cX0_bears 32 = .ok (.iload_n 2, 1) := by decide +kernel
theorem dX0_bears_33 : decode cX0_bears 33 = .ok (.iconst 5, 1) := by decide +kernel
theorem dX0_bears_34 : decode cX0_bears 34 = .ok (.iadd, 1) := by decide +kernel
theorem dX0_bears_35 : decode cX0_bears 35 = .ok (.ireturn, 1) := by decide +kernel
theorem dX0_bears_36 : decode cX0_bears 36 = .ok (.iconst 2, 1) := by decide +kernel
theorem dX0_bears_37 : decode cX0_bears 37 = .ok (.iload_n 2, 1) := by decide +kernel
theorem dX0_bears_38 : decode cX0_bears 38 = .ok (.imul, 1) := by decide +kernel
theorem dX0_bears_39 : decode cX0_bears 39 = .ok (.ireturn, 1) := by decide +kernel
theorem dX0_bears_40 : decode cX0_bears 40 = .ok (.iload_n 2, 1) := by decide +kernel
theorem dX0_bears_41 : decode cX0_bears 41 = .ok (.ireturn, 1) := by decide +kernel
theorem dX0_worth_0 : decode cX0_worth 0 = .ok (.iload_n 1, 1) := by decide +kernel
theorem dX0_worth_1 : decode cX0_worth 1 = .ok (.iconst 4, 1) := by decide +kernel
theorem dX0_worth_2 : decode cX0_worth 2 = .ok (.iadd, 1) := by decide +kernel
theorem dX0_worth_3 : decode cX0_worth 3 = .ok (.istore_n 2, 1) := by decide +kernel
theorem dX0_worth_4 : decode cX0_worth 4 = .ok (.bipush 50, 2) := by decide +kernel
theorem dX0_worth_6 : decode cX0_worth 6 = .ok (.iload_n 1, 1) := by decide +kernel
theorem dX0_worth_7 : decode cX0_worth 7 = .ok (.isub, 1) := by decide +kernel
theorem dX0_worth_8 : decode cX0_worth 8 = .ok (.istore_n 3, 1) := by decide +kernel
theorem dX0_worth_9 : decode cX0_worth 9 = .ok (.iload_n 0, 1) := by decide +kernel
theorem dX0_worth_10 : decode cX0_worth 10 = .ok (.tableswitch 50 1 5 #[34, 40, 36, 42, 47], 34) := by decide +kernel
theorem dX0_worth_44 : decode cX0_worth 44 = .ok (.iload_n 2, 1) := by decide +kernel
theorem dX0_worth_45 : decode cX0_worth 45 = .ok (.ireturn, 1) := by decide +kernel
theorem dX0_worth_46 : decode cX0_worth 46 = .ok (.iconst 2, 1) := by decide +kernel
theorem dX0_worth_47 : decode cX0_worth 47 = .ok (.iload_n 2, 1) := by decide +kernel
theorem dX0_worth_48 : decode cX0_worth 48 = .ok (.imul, 1) := by decide +kernel
theorem dX0_worth_49 : decode cX0_worth 49 = .ok (.ireturn, 1) := by decide +kernel
theorem dX0_worth_50 : decode cX0_worth 50 = .ok (.iload_n 3, 1) := by decide +kernel
theorem dX0_worth_51 : decode cX0_worth 51 = .ok (.ireturn, 1) := by decide +kernel
theorem dX0_worth_52 : decode cX0_worth 52 = .ok (.iload_n 3, 1) := by decide +kernel
theorem dX0_worth_53 : decode cX0_worth 53 = .ok (.bipush 6, 2) := by decide +kernel
theorem dX0_worth_55 : decode cX0_worth 55 = .ok (.isub, 1) := by decide +kernel
theorem dX0_worth_56 : decode cX0_worth 56 = .ok (.ireturn, 1) := by decide +kernel
theorem dX0_worth_57 : decode cX0_worth 57 = .ok (.bipush 7, 2) := by decide +kernel
theorem dX0_worth_59 : decode cX0_worth 59 = .ok (.ireturn, 1) := by decide +kernel
theorem dX0_worth_60 : decode cX0_worth 60 = .ok (.iload_n 1, 1) := by decide +kernel
theorem dX0_worth_61 : decode cX0_worth 61 = .ok (.ireturn, 1) := by decide +kernel
theorem dX0_crossed_0 : decode cX0_crossed 0 = .ok (.iload_n 0, 1) := by decide +kernel
theorem dX0_crossed_1 : decode cX0_crossed 1 = .ok (.bipush 85, 2) := by decide +kernel
theorem dX0_crossed_3 : decode cX0_crossed 3 = .ok (.iand, 1) := by decide +kernel
theorem dX0_crossed_4 : decode cX0_crossed 4 = .ok (.iconst 1, 1) := by decide +kernel
theorem dX0_crossed_5 : decode cX0_crossed 5 = .ok (.ishl, 1) := by decide +kernel
theorem dX0_crossed_6 : decode cX0_crossed 6 = .ok (.iload_n 0, 1) := by decide +kernel
theorem dX0_crossed_7 : decode cX0_crossed 7 = .ok (.sipush 170, 3) := by decide +kernel
theorem dX0_crossed_10 : decode cX0_crossed 10 = .ok (.iand, 1) := by decide +kernel
theorem dX0_crossed_11 : decode cX0_crossed 11 = .ok (.iconst 1, 1) := by decide +kernel
theorem dX0_crossed_12 : decode cX0_crossed 12 = .ok (.ishr, 1) := by decide +kernel
theorem dX0_crossed_13 : decode cX0_crossed 13 = .ok (.ior, 1) := by decide +kernel
theorem dX0_crossed_14 : decode cX0_crossed 14 = .ok (.ireturn, 1) := by decide +kernel
theorem dX0_oneBack_0 : decode cX0_oneBack 0 = .ok (.iload_n 0, 1) := by decide +kernel
theorem dX0_oneBack_1 : decode cX0_oneBack 1 = .ok (.iconst 1, 1) := by decide +kernel
theorem dX0_oneBack_2 : decode cX0_oneBack 2 = .ok (.ishr, 1) := by decide +kernel
theorem dX0_oneBack_3 : decode cX0_oneBack 3 = .ok (.iload_n 0, 1) := by decide +kernel
theorem dX0_oneBack_4 : decode cX0_oneBack 4 = .ok (.iconst 1, 1) := by decide +kernel
theorem dX0_oneBack_5 : decode cX0_oneBack 5 = .ok (.iand, 1) := by decide +kernel
theorem dX0_oneBack_6 : decode cX0_oneBack 6 = .ok (.bipush 7, 2) := by decide +kernel
theorem dX0_oneBack_8 : decode cX0_oneBack 8 = .ok (.ishl, 1) := by decide +kernel
theorem dX0_oneBack_9 : decode cX0_oneBack 9 = .ok (.ior, 1) := by decide +kernel
theorem dX0_oneBack_10 : decode cX0_oneBack 10 = .ok (.ireturn, 1) := by decide +kernel
theorem dX0_oneOn_0 : decode cX0_oneOn 0 = .ok (.iload_n 0, 1) := by decide +kernel
theorem dX0_oneOn_1 : decode cX0_oneOn 1 = .ok (.iconst 1, 1) := by decide +kernel
theorem dX0_oneOn_2 : decode cX0_oneOn 2 = .ok (.ishl, 1) := by decide +kernel
theorem dX0_oneOn_3 : decode cX0_oneOn 3 = .ok (.iload_n 0, 1) := by decide +kernel
theorem dX0_oneOn_4 : decode cX0_oneOn 4 = .ok (.bipush 7, 2) := by decide +kernel
theorem dX0_oneOn_6 : decode cX0_oneOn 6 = .ok (.ishr, 1) := by decide +kernel
theorem dX0_oneOn_7 : decode cX0_oneOn 7 = .ok (.ior, 1) := by decide +kernel
theorem dX0_oneOn_8 : decode cX0_oneOn 8 = .ok (.sipush 255, 3) := by decide +kernel
theorem dX0_oneOn_11 : decode cX0_oneOn 11 = .ok (.iand, 1) := by decide +kernel
theorem dX0_oneOn_12 : decode cX0_oneOn 12 = .ok (.ireturn, 1) := by decide +kernel
theorem dX1_init_0 : decode cX1_init 0 = .ok (.aload_n 0, 1) := by decide +kernel
theorem dX1_init_1 : decode cX1_init 1 = .ok (.invokespecial 3, 3) := by decide +kernel
theorem dX1_init_4 : decode cX1_init 4 = .ok (.aload_n 0, 1) := by decide +kernel
theorem dX1_init_5 : decode cX1_init 5 = .ok (.bipush 96, 2) := by decide +kernel
theorem dX1_init_7 : decode cX1_init 7 = .ok (.newarray .int, 2) := by decide +kernel
theorem dX1_init_9 : decode cX1_init 9 = .ok (.putfield 9, 3) := by decide +kernel
theorem dX1_init_12 : decode cX1_init 12 = .ok (.aload_n 0, 1) := by decide +kernel
theorem dX1_init_13 : decode cX1_init 13 = .ok (.aload_n 1, 1) := by decide +kernel
theorem dX1_init_14 : decode cX1_init 14 = .ok (.putfield 15, 3) := by decide +kernel
theorem dX1_init_17 : decode cX1_init 17 = .ok (.return_, 1) := by decide +kernel
theorem dX1_faultOfTape_0 : decode cX1_faultOfTape 0 = .ok (.aload_n 0, 1) := by decide +kernel
theorem dX1_faultOfTape_1 : decode cX1_faultOfTape 1 = .ok (.iconst 0, 1) := by decide +kernel
theorem dX1_faultOfTape_2 : decode cX1_faultOfTape 2 = .ok (.putfield 19, 3) := by decide +kernel
theorem dX1_faultOfTape_5 : decode cX1_faultOfTape 5 = .ok (.aload_n 0, 1) := by decide +kernel
theorem dX1_faultOfTape_6 : decode cX1_faultOfTape 6 = .ok (.iconst 0, 1) := by decide +kernel
theorem dX1_faultOfTape_7 : decode cX1_faultOfTape 7 = .ok (.putfield 23, 3) := by decide +kernel
theorem dX1_faultOfTape_10 : decode cX1_faultOfTape 10 = .ok (.aload_n 0, 1) := by decide +kernel
theorem dX1_faultOfTape_11 : decode cX1_faultOfTape 11 = .ok (.iconst 0, 1) := by decide +kernel
theorem dX1_faultOfTape_12 : decode cX1_faultOfTape 12 = .ok (.putfield 26, 3) := by decide +kernel
theorem dX1_faultOfTape_15 : decode cX1_faultOfTape 15 = .ok (.aload_n 0, 1) := by decide +kernel
theorem dX1_faultOfTape_16 : decode cX1_faultOfTape 16 = .ok (.iconst 0, 1) := by decide +kernel
theorem dX1_faultOfTape_17 : decode cX1_faultOfTape 17 = .ok (.putfield 29, 3) := by decide +kernel
theorem dX1_faultOfTape_20 : decode cX1_faultOfTape 20 = .ok (.aload_n 0, 1) := by decide +kernel
theorem dX1_faultOfTape_21 : decode cX1_faultOfTape 21 = .ok (.invokevirtual 32, 3) := by decide +kernel
theorem dX1_faultOfTape_24 : decode cX1_faultOfTape 24 = .ok (.aload_n 0, 1) := by decide +kernel
theorem dX1_faultOfTape_25 : decode cX1_faultOfTape 25 = .ok (.aload_n 0, 1) := by decide +kernel
theorem dX1_faultOfTape_26 : decode cX1_faultOfTape 26 = .ok (.invokevirtual 35, 3) := by decide +kernel
theorem dX1_faultOfTape_29 : decode cX1_faultOfTape 29 = .ok (.putfield 39, 3) := by decide +kernel
theorem dX1_faultOfTape_32 : decode cX1_faultOfTape 32 = .ok (.aload_n 0, 1) := by decide +kernel
theorem dX1_faultOfTape_33 : decode cX1_faultOfTape 33 = .ok (.getfield 39, 3) := by decide +kernel
theorem dX1_faultOfTape_36 : decode cX1_faultOfTape 36 = .ok (.ifCond .ge 8, 3) := by decide +kernel
theorem dX1_faultOfTape_39 : decode cX1_faultOfTape 39 = .ok (.aload_n 0, 1) := by decide +kernel
theorem dX1_faultOfTape_40 : decode cX1_faultOfTape 40 = .ok (.getfield 42, 3) := by decide +kernel
theorem dX1_faultOfTape_43 : decode cX1_faultOfTape 43 = .ok (.ireturn, 1) := by decide +kernel
theorem dX1_faultOfTape_44 : decode cX1_faultOfTape 44 = .ok (.aload_n 0, 1) := by decide +kernel
theorem dX1_faultOfTape_45 : decode cX1_faultOfTape 45 = .ok (.invokevirtual 32, 3) := by decide +kernel
theorem dX1_faultOfTape_48 : decode cX1_faultOfTape 48 = .ok (.aload_n 0, 1) := by decide +kernel
theorem dX1_faultOfTape_49 : decode cX1_faultOfTape 49 = .ok (.iconst 0, 1) := by decide +kernel
theorem dX1_faultOfTape_50 : decode cX1_faultOfTape 50 = .ok (.iconst 0, 1) := by decide +kernel
theorem dX1_faultOfTape_51 : decode cX1_faultOfTape 51 = .ok (.iconst 0, 1) := by decide +kernel
theorem dX1_faultOfTape_52 : decode cX1_faultOfTape 52 = .ok (.invokevirtual 45, 3) := by decide +kernel
theorem dX1_faultOfTape_55 : decode cX1_faultOfTape 55 = .ok (.ifCond .eq 14, 3) := by decide +kernel
theorem dX1_faultOfTape_58 : decode cX1_faultOfTape 58 = .ok (.aload_n 0, 1) := by decide +kernel
theorem dX1_faultOfTape_59 : decode cX1_faultOfTape 59 = .ok (.getfield 26, 3) := by decide +kernel
theorem dX1_faultOfTape_62 : decode cX1_faultOfTape 62 = .ok (.ifCond .ne 7, 3) := by decide +kernel
theorem dX1_faultOfTape_65 : decode cX1_faultOfTape 65 = .ok (.iconst (-1), 1) := by decide +kernel
theorem dX1_faultOfTape_66 : decode cX1_faultOfTape 66 = .ok (.goto 7, 3) := by decide +kernel
theorem dX1_faultOfTape_69 : decode cX1_faultOfTape 69 = .ok (.aload_n 0, 1) := by decide +kernel
theorem dX1_faultOfTape_70 : decode cX1_faultOfTape 70 = .ok (.getfield 42, 3) := by decide +kernel
theorem dX1_faultOfTape_73 : decode cX1_faultOfTape 73 = .ok (.ireturn, 1) := by decide +kernel
theorem dX1_moveOn_0 : decode cX1_moveOn 0 = .ok (.aload_n 0, 1) := by decide +kernel
theorem dX1_moveOn_1 : decode cX1_moveOn 1 = .ok (.getfield 26, 3) := by decide +kernel
theorem dX1_moveOn_4 : decode cX1_moveOn 4 = .ok (.iconst 1, 1) := by decide +kernel
theorem dX1_moveOn_5 : decode cX1_moveOn 5 = .ok (.if_icmp .eq 11, 3) := by decide +kernel
theorem dX1_moveOn_8 : decode cX1_moveOn 8 = .ok (.aload_n 0, 1) := by decide +kernel
theorem dX1_moveOn_9 : decode cX1_moveOn 9 = .ok (.getfield 26, 3) := by decide +kernel
theorem dX1_moveOn_12 : decode cX1_moveOn 12 = .ok (.iconst 2, 1) := by decide +kernel
theorem dX1_moveOn_13 : decode cX1_moveOn 13 = .ok (.if_icmp .ne 7, 3) := by decide +kernel
theorem dX1_moveOn_16 : decode cX1_moveOn 16 = .ok (.iconst 1, 1) := by decide +kernel
theorem dX1_moveOn_17 : decode cX1_moveOn 17 = .ok (.goto 4, 3) := by decide +kernel
theorem dX1_moveOn_20 : decode cX1_moveOn 20 = .ok (.iconst 0, 1) := by decide +kernel
theorem dX1_moveOn_21 : decode cX1_moveOn 21 = .ok (.istore_n 1, 1) := by decide +kernel
theorem dX1_moveOn_22 : decode cX1_moveOn 22 = .ok (.aload_n 0, 1) := by decide +kernel
theorem dX1_moveOn_23 : decode cX1_moveOn 23 = .ok (.getfield 29, 3) := by decide +kernel
theorem dX1_moveOn_26 : decode cX1_moveOn 26 = .ok (.istore_n 2, 1) := by decide +kernel
theorem dX1_moveOn_27 : decode cX1_moveOn 27 = .ok (.aload_n 0, 1) := by decide +kernel
theorem dX1_moveOn_28 : decode cX1_moveOn 28 = .ok (.aload_n 0, 1) := by decide +kernel
theorem dX1_moveOn_29 : decode cX1_moveOn 29 = .ok (.getfield 29, 3) := by decide +kernel
theorem dX1_moveOn_32 : decode cX1_moveOn 32 = .ok (.putfield 42, 3) := by decide +kernel
theorem dX1_moveOn_35 : decode cX1_moveOn 35 = .ok (.aload_n 0, 1) := by decide +kernel
theorem dX1_moveOn_36 : decode cX1_moveOn 36 = .ok (.getfield 42, 3) := by decide +kernel
theorem dX1_moveOn_39 : decode cX1_moveOn 39 = .ok (.aload_n 0, 1) := by decide +kernel
theorem dX1_moveOn_40 : decode cX1_moveOn 40 = .ok (.getfield 15, 3) := by decide +kernel
theorem dX1_moveOn_43 : decode cX1_moveOn 43 = .ok (.getfield 49, 3) := by decide +kernel
theorem dX1_moveOn_46 : decode cX1_moveOn 46 = .ok (.if_icmp .ge 29, 3) := by decide +kernel
theorem dX1_moveOn_49 : decode cX1_moveOn 49 = .ok (.aload_n 0, 1) := by decide +kernel
theorem dX1_moveOn_50 : decode cX1_moveOn 50 = .ok (.aload_n 0, 1) := by decide +kernel
theorem dX1_moveOn_51 : decode cX1_moveOn 51 = .ok (.getfield 42, 3) := by decide +kernel
theorem dX1_moveOn_54 : decode cX1_moveOn 54 = .ok (.invokevirtual 54, 3) := by decide +kernel
theorem dX1_moveOn_57 : decode cX1_moveOn 57 = .ok (.bipush 32, 2) := by decide +kernel
theorem dX1_moveOn_59 : decode cX1_moveOn 59 = .ok (.if_icmp .ne 16, 3) := by decide +kernel
theorem dX1_moveOn_62 : decode cX1_moveOn 62 = .ok (.aload_n 0, 1) := by decide +kernel
theorem dX1_moveOn_63 : decode cX1_moveOn 63 = .ok (.dup, 1) := by decide +kernel
theorem dX1_moveOn_64 : decode cX1_moveOn 64 = .ok (.getfield 42, 3) := by decide +kernel
theorem dX1_moveOn_67 : decode cX1_moveOn 67 = .ok (.iconst 1, 1) := by decide +kernel
theorem dX1_moveOn_68 : decode cX1_moveOn 68 = .ok (.iadd, 1) := by decide +kernel
theorem dX1_moveOn_69 : decode cX1_moveOn 69 = .ok (.putfield 42, 3) := by decide +kernel
theorem dX1_moveOn_72 : decode cX1_moveOn 72 = .ok (.goto (-37), 3) := by decide +kernel
theorem dX1_moveOn_75 : decode cX1_moveOn 75 = .ok (.aload_n 0, 1) := by decide +kernel
theorem dX1_moveOn_76 : decode cX1_moveOn 76 = .ok (.aload_n 0, 1) := by decide +kernel
theorem dX1_moveOn_77 : decode cX1_moveOn 77 = .ok (.getfield 42, 3) := by decide +kernel
theorem dX1_moveOn_80 : decode cX1_moveOn 80 = .ok (.putfield 29, 3) := by decide +kernel
theorem dX1_moveOn_83 : decode cX1_moveOn 83 = .ok (.aload_n 0, 1) := by decide +kernel
theorem dX1_moveOn_84 : decode cX1_moveOn 84 = .ok (.getfield 42, 3) := by decide +kernel
theorem dX1_moveOn_87 : decode cX1_moveOn 87 = .ok (.aload_n 0, 1) := by decide +kernel
theorem dX1_moveOn_88 : decode cX1_moveOn 88 = .ok (.getfield 15, 3) := by decide +kernel
theorem dX1_moveOn_91 : decode cX1_moveOn 91 = .ok (.getfield 49, 3) := by decide +kernel
theorem dX1_moveOn_94 : decode cX1_moveOn 94 = .ok (.if_icmp .lt 9, 3) := by decide +kernel
theorem dX1_moveOn_97 : decode cX1_moveOn 97 = .ok (.aload_n 0, 1) := by decide +kernel
theorem dX1_moveOn_98 : decode cX1_moveOn 98 = .ok (.iconst 0, 1) := by decide +kernel
theorem dX1_moveOn_99 : decode cX1_moveOn 99 = .ok (.putfield 26, 3) := by decide +kernel
theorem dX1_moveOn_102 : decode cX1_moveOn 102 = .ok (.return_, 1) := by decide +kernel
theorem dX1_moveOn_103 : decode cX1_moveOn 103 = .ok (.aload_n 0, 1) := by decide +kernel
theorem dX1_moveOn_104 : decode cX1_moveOn 104 = .ok (.aload_n 0, 1) := by decide +kernel
theorem dX1_moveOn_105 : decode cX1_moveOn 105 = .ok (.aload_n 0, 1) := by decide +kernel
theorem dX1_moveOn_106 : decode cX1_moveOn 106 = .ok (.getfield 42, 3) := by decide +kernel
theorem dX1_moveOn_109 : decode cX1_moveOn 109 = .ok (.invokevirtual 54, 3) := by decide +kernel
theorem dX1_moveOn_112 : decode cX1_moveOn 112 = .ok (.invokestatic 58, 3) := by decide +kernel
theorem dX1_moveOn_115 : decode cX1_moveOn 115 = .ok (.putfield 26, 3) := by decide +kernel
theorem dX1_moveOn_118 : decode cX1_moveOn 118 = .ok (.aload_n 0, 1) := by decide +kernel
theorem dX1_moveOn_119 : decode cX1_moveOn 119 = .ok (.dup, 1) := by decide +kernel
theorem dX1_moveOn_120 : decode cX1_moveOn 120 = .ok (.getfield 29, 3) := by decide +kernel
theorem dX1_moveOn_123 : decode cX1_moveOn 123 = .ok (.iconst 1, 1) := by decide +kernel
theorem dX1_moveOn_124 : decode cX1_moveOn 124 = .ok (.iadd, 1) := by decide +kernel
theorem dX1_moveOn_125 : decode cX1_moveOn 125 = .ok (.putfield 29, 3) := by decide +kernel
theorem dX1_moveOn_128 : decode cX1_moveOn 128 = .ok (.aload_n 0, 1) := by decide +kernel
theorem dX1_moveOn_129 : decode cX1_moveOn 129 = .ok (.getfield 26, 3) := by decide +kernel
theorem dX1_moveOn_132 : decode cX1_moveOn 132 = .ok (.iconst 3, 1) := by decide +kernel
theorem dX1_moveOn_133 : decode cX1_moveOn 133 = .ok (.if_icmp .ne 4, 3) := by decide +kernel
theorem dX1_moveOn_136 : decode cX1_moveOn 136 = .ok (.return_, 1) := by decide +kernel
theorem dX1_moveOn_137 : decode cX1_moveOn 137 = .ok (.aload_n 0, 1) := by decide +kernel
theorem dX1_moveOn_138 : decode cX1_moveOn 138 = .ok (.getfield 29, 3) := by decide +kernel
theorem dX1_moveOn_141 : decode cX1_moveOn 141 = .ok (.aload_n 0, 1) := by decide +kernel
theorem dX1_moveOn_142 : decode cX1_moveOn 142 = .ok (.getfield 15, 3) := by decide +kernel
theorem dX1_moveOn_145 : decode cX1_moveOn 145 = .ok (.getfield 49, 3) := by decide +kernel
theorem dX1_moveOn_148 : decode cX1_moveOn 148 = .ok (.if_icmp .ge 34, 3) := by decide +kernel
theorem dX1_moveOn_151 : decode cX1_moveOn 151 = .ok (.aload_n 0, 1) := by decide +kernel
theorem dX1_moveOn_152 : decode cX1_moveOn 152 = .ok (.aload_n 0, 1) := by decide +kernel
theorem dX1_moveOn_153 : decode cX1_moveOn 153 = .ok (.getfield 29, 3) := by decide +kernel
theorem dX1_moveOn_156 : decode cX1_moveOn 156 = .ok (.invokevirtual 54, 3) := by decide +kernel
theorem dX1_moveOn_159 : decode cX1_moveOn 159 = .ok (.invokestatic 58, 3) := by decide +kernel
theorem dX1_moveOn_162 : decode cX1_moveOn 162 = .ok (.aload_n 0, 1) := by decide +kernel
theorem dX1_moveOn_163 : decode cX1_moveOn 163 = .ok (.getfield 26, 3) := by decide +kernel
theorem dX1_moveOn_166 : decode cX1_moveOn 166 = .ok (.if_icmp .ne 16, 3) := by decide +kernel
theorem dX1_moveOn_169 : decode cX1_moveOn 169 = .ok (.aload_n 0, 1) := by decide +kernel
theorem dX1_moveOn_170 : decode cX1_moveOn 170 = .ok (.dup, 1) := by decide +kernel
theorem dX1_moveOn_171 : decode cX1_moveOn 171 = .ok (.getfield 29, 3) := by decide +kernel
theorem dX1_moveOn_174 : decode cX1_moveOn 174 = .ok (.iconst 1, 1) := by decide +kernel
theorem dX1_moveOn_175 : decode cX1_moveOn 175 = .ok (.iadd, 1) := by decide +kernel
theorem dX1_moveOn_176 : decode cX1_moveOn 176 = .ok (.putfield 29, 3) := by decide +kernel
theorem dX1_moveOn_179 : decode cX1_moveOn 179 = .ok (.goto (-42), 3) := by decide +kernel
theorem dX1_moveOn_182 : decode cX1_moveOn 182 = .ok (.iload_n 1, 1) := by decide +kernel
theorem dX1_moveOn_183 : decode cX1_moveOn 183 = .ok (.ifCond .eq 16, 3) := by decide +kernel
theorem dX1_moveOn_186 : decode cX1_moveOn 186 = .ok (.aload_n 0, 1) := by decide +kernel
theorem dX1_moveOn_187 : decode cX1_moveOn 187 = .ok (.getfield 42, 3) := by decide +kernel
theorem dX1_moveOn_190 : decode cX1_moveOn 190 = .ok (.iload_n 2, 1) := by decide +kernel
theorem dX1_moveOn_191 : decode cX1_moveOn 191 = .ok (.if_icmp .ne 8, 3) := by decide +kernel
theorem dX1_moveOn_194 : decode cX1_moveOn 194 = .ok (.aload_n 0, 1) := by decide +kernel
theorem dX1_moveOn_195 : decode cX1_moveOn 195 = .ok (.iconst 4, 1) := by decide +kernel
theorem dX1_moveOn_196 : decode cX1_moveOn 196 = .ok (.putfield 26, 3) := by decide +kernel
theorem dX1_moveOn_199 : decode cX1_moveOn 199 = .ok (.return_, 1) := by decide +kernel
theorem dX1_byteAt_0 : decode cX1_byteAt 0 = .ok (.iload_n 1, 1) := by decide +kernel
theorem dX1_byteAt_1 : decode cX1_byteAt 1 = .ok (.ifCond .lt 27, 3) := by decide +kernel
theorem dX1_byteAt_4 : decode cX1_byteAt 4 = .ok (.iload_n 1, 1) := by decide +kernel
theorem dX1_byteAt_5 : decode cX1_byteAt 5 = .ok (.aload_n 0, 1) := by decide +kernel
theorem dX1_byteAt_6 : decode cX1_byteAt 6 = .ok (.getfield 15, 3) := by decide +kernel
theorem dX1_byteAt_9 : decode cX1_byteAt 9 = .ok (.getfield 61, 3) := by decide +kernel
theorem dX1_byteAt_12 : decode cX1_byteAt 12 = .ok (.arraylength, 1) := by decide +kernel
theorem dX1_byteAt_13 : decode cX1_byteAt 13 = .ok (.if_icmp .ge 15, 3) := by decide +kernel
theorem dX1_byteAt_16 : decode cX1_byteAt 16 = .ok (.aload_n 0, 1) := by decide +kernel
theorem dX1_byteAt_17 : decode cX1_byteAt 17 = .ok (.getfield 15, 3) := by decide +kernel
theorem dX1_byteAt_20 : decode cX1_byteAt 20 = .ok (.getfield 61, 3) := by decide +kernel
theorem dX1_byteAt_23 : decode cX1_byteAt 23 = .ok (.iload_n 1, 1) := by decide +kernel
theorem dX1_byteAt_24 : decode cX1_byteAt 24 = .ok (.iaload, 1) := by decide +kernel
theorem dX1_byteAt_25 : decode cX1_byteAt 25 = .ok (.goto 4, 3) := by decide +kernel
theorem dX1_byteAt_28 : decode cX1_byteAt 28 = .ok (.iconst 0, 1) := by decide +kernel
theorem dX1_byteAt_29 : decode cX1_byteAt 29 = .ok (.ireturn, 1) := by decide +kernel
theorem dX1_sortOf_0 : decode cX1_sortOf 0 = .ok (.iload_n 0, 1) := by decide +kernel
theorem dX1_sortOf_1 : decode cX1_sortOf 1 = .ok (.bipush 97, 2) := by decide +kernel
theorem dX1_sortOf_3 : decode cX1_sortOf 3 = .ok (.if_icmp .lt 11, 3) := by decide +kernel
theorem dX1_sortOf_6 : decode cX1_sortOf 6 = .ok (.iload_n 0, 1) := by decide +kernel
theorem dX1_sortOf_7 : decode cX1_sortOf 7 = .ok (.bipush 122, 2) := by decide +kernel
theorem dX1_sortOf_9 : decode cX1_sortOf 9 = .ok (.if_icmp .gt 5, 3) := by decide +kernel
theorem dX1_sortOf_12 : decode cX1_sortOf 12 = .ok (.iconst 1, 1) := by decide +kernel
theorem dX1_sortOf_13 : decode cX1_sortOf 13 = .ok (.ireturn, 1) := by decide +kernel
theorem dX1_sortOf_14 : decode cX1_sortOf 14 = .ok (.iload_n 0, 1) := by decide +kernel
theorem dX1_sortOf_15 : decode cX1_sortOf 15 = .ok (.bipush 48, 2) := by decide +kernel
theorem dX1_sortOf_17 : decode cX1_sortOf 17 = .ok (.if_icmp .lt 13, 3) := by decide +kernel
theorem dX1_sortOf_20 : decode cX1_sortOf 20 = .ok (.iload_n 0, 1) := by decide +kernel
theorem dX1_sortOf_21 : decode cX1_sortOf 21 = .ok (.bipush 57, 2) := by decide +kernel
theorem dX1_sortOf_23 : decode cX1_sortOf 23 = .ok (.if_icmp .gt 7, 3) := by decide +kernel
theorem dX1_sortOf_26 : decode cX1_sortOf 26 = .ok (.iconst 2, 1) := by decide +kernel
theorem dX1_sortOf_27 : decode cX1_sortOf 27 = .ok (.goto 4, 3) := by decide +kernel
theorem dX1_sortOf_30 : decode cX1_sortOf 30 = .ok (.iconst 3, 1) := by decide +kernel
theorem dX1_sortOf_31 : decode cX1_sortOf 31 = .ok (.ireturn, 1) := by decide +kernel
theorem dX1_keyHere_0 : decode cX1_keyHere 0 = .ok (.aload_n 0, 1) := by decide +kernel
theorem dX1_keyHere_1 : decode cX1_keyHere 1 = .ok (.ldc 64, 2) := by decide +kernel
theorem dX1_keyHere_3 : decode cX1_keyHere 3 = .ok (.invokevirtual 66, 3) := by decide +kernel
theorem dX1_keyHere_6 : decode cX1_keyHere 6 = .ok (.ifCond .eq 5, 3) := by decide +kernel
theorem dX1_keyHere_9 : decode cX1_keyHere 9 = .ok (.iconst 0, 1) := by decide +kernel
theorem dX1_keyHere_10 : decode cX1_keyHere 10 = .ok (.ireturn, 1) := by decide +kernel
theorem dX1_keyHere_11 : decode cX1_keyHere 11 = .ok (.aload_n 0, 1) := by decide +kernel
theorem dX1_keyHere_12 : decode cX1_keyHere 12 = .ok (.ldc 72, 2) := by decide +kernel
theorem dX1_keyHere_14 : decode cX1_keyHere 14 = .ok (.invokevirtual 66, 3) := by decide +kernel
theorem dX1_keyHere_17 : decode cX1_keyHere 17 = .ok (.ifCond .eq 5, 3) := by decide +kernel
theorem dX1_keyHere_20 : decode cX1_keyHere 20 = .ok (.iconst 1, 1) := by decide +kernel
theorem dX1_keyHere_21 : decode cX1_keyHere 21 = .ok (.ireturn, 1) := by decide +kernel
theorem dX1_keyHere_22 : decode cX1_keyHere 22 = .ok (.aload_n 0, 1) := by decide +kernel
theorem dX1_keyHere_23 : decode cX1_keyHere 23 = .ok (.ldc 74, 2) := by decide +kernel
theorem dX1_keyHere_25 : decode cX1_keyHere 25 = .ok (.invokevirtual 66, 3) := by decide +kernel
theorem dX1_keyHere_28 : decode cX1_keyHere 28 = .ok (.ifCond .eq 7, 3) := by decide +kernel
theorem dX1_keyHere_31 : decode cX1_keyHere 31 = .ok (.iconst 2, 1) := by decide +kernel
theorem dX1_keyHere_32 : decode cX1_keyHere 32 = .ok (.goto 4, 3) := by decide +kernel
theorem dX1_keyHere_35 : decode cX1_keyHere 35 = .ok (.iconst (-1), 1) := by decide +kernel
theorem dX1_keyHere_36 : decode cX1_keyHere 36 = .ok (.ireturn, 1) := by decide +kernel
theorem dX1_isWord_0 : decode cX1_isWord 0 = .ok (.aload_n 0, 1) := by decide +kernel
theorem dX1_isWord_1 : decode cX1_isWord 1 = .ok (.getfield 26, 3) := by decide +kernel
theorem dX1_isWord_4 : decode cX1_isWord 4 = .ok (.iconst 1, 1) := by decide +kernel
theorem dX1_isWord_5 : decode cX1_isWord 5 = .ok (.if_icmp .ne 19, 3) := by decide +kernel
theorem dX1_isWord_8 : decode cX1_isWord 8 = .ok (.aload_n 0, 1) := by decide +kernel
theorem dX1_isWord_9 : decode cX1_isWord 9 = .ok (.getfield 29, 3) := by decide +kernel
theorem dX1_isWord_12 : decode cX1_isWord 12 = .ok (.aload_n 0, 1) := by decide +kernel
theorem dX1_isWord_13 : decode cX1_isWord 13 = .ok (.getfield 42, 3) := by decide +kernel
theorem dX1_isWord_16 : decode cX1_isWord 16 = .ok (.isub, 1) := by decide +kernel
theorem dX1_isWord_17 : decode cX1_isWord 17 = .ok (.aload_n 1, 1) := by decide +kernel
theorem dX1_isWord_18 : decode cX1_isWord 18 = .ok (.invokevirtual 76, 3) := by decide +kernel
theorem dX1_isWord_21 : decode cX1_isWord 21 = .ok (.if_icmp .eq 5, 3) := by decide +kernel
theorem dX1_isWord_24 : decode cX1_isWord 24 = .ok (.iconst 0, 1) := by decide +kernel
theorem dX1_isWord_25 : decode cX1_isWord 25 = .ok (.ireturn, 1) := by decide +kernel
theorem dX1_isWord_26 : decode cX1_isWord 26 = .ok (.iconst 0, 1) := by decide +kernel
theorem dX1_isWord_27 : decode cX1_isWord 27 = .ok (.istore_n 2, 1) := by decide +kernel
theorem dX1_isWord_28 : decode cX1_isWord 28 = .ok (.iload_n 2, 1) := by decide +kernel
theorem dX1_isWord_29 : decode cX1_isWord 29 = .ok (.aload_n 1, 1) := by decide +kernel
theorem dX1_isWord_30 : decode cX1_isWord 30 = .ok (.invokevirtual 76, 3) := by decide +kernel
theorem dX1_isWord_33 : decode cX1_isWord 33 = .ok (.if_icmp .ge 29, 3) := by decide +kernel
theorem dX1_isWord_36 : decode cX1_isWord 36 = .ok (.aload_n 0, 1) := by decide +kernel
theorem dX1_isWord_37 : decode cX1_isWord 37 = .ok (.aload_n 0, 1) := by decide +kernel
theorem dX1_isWord_38 : decode cX1_isWord 38 = .ok (.getfield 42, 3) := by decide +kernel
theorem dX1_isWord_41 : decode cX1_isWord 41 = .ok (.iload_n 2, 1) := by decide +kernel
theorem dX1_isWord_42 : decode cX1_isWord 42 = .ok (.iadd, 1) := by decide +kernel
theorem dX1_isWord_43 : decode cX1_isWord 43 = .ok (.invokevirtual 54, 3) := by decide +kernel
theorem dX1_isWord_46 : decode cX1_isWord 46 = .ok (.aload_n 1, 1) := by decide +kernel
theorem dX1_isWord_47 : decode cX1_isWord 47 = .ok (.iload_n 2, 1) := by decide +kernel
theorem dX1_isWord_48 : decode cX1_isWord 48 = .ok (.invokevirtual 80, 3) := by decide +kernel
theorem dX1_isWord_51 : decode cX1_isWord 51 = .ok (.if_icmp .eq 5, 3) := by decide +kernel
theorem dX1_isWord_54 : decode cX1_isWord 54 = .ok (.iconst 0, 1) := by decide +kernel
theorem dX1_isWord_55 : decode cX1_isWord 55 = .ok (.ireturn, 1) := by decide +kernel
theorem dX1_isWord_56 : decode cX1_isWord 56 = .ok (.iinc 2 1, 3) := by decide +kernel
theorem dX1_isWord_59 : decode cX1_isWord 59 = .ok (.goto (-31), 3) := by decide +kernel
theorem dX1_isWord_62 : decode cX1_isWord 62 = .ok (.iconst 1, 1) := by decide +kernel
theorem dX1_isWord_63 : decode cX1_isWord 63 = .ok (.ireturn, 1) := by decide +kernel
theorem dX1_level_0 : decode cX1_level 0 = .ok (.iload_n 1, 1) := by decide +kernel
theorem dX1_level_1 : decode cX1_level 1 = .ok (.iconst 5, 1) := by decide +kernel
theorem dX1_level_2 : decode cX1_level 2 = .ok (.if_icmp .lt 10, 3) := by decide +kernel
theorem dX1_level_5 : decode cX1_level 5 = .ok (.aload_n 0, 1) := by decide +kernel
theorem dX1_level_6 : decode cX1_level 6 = .ok (.iload_n 2, 1) := by decide +kernel
theorem dX1_level_7 : decode cX1_level 7 = .ok (.iload_n 3, 1) := by decide +kernel
theorem dX1_level_8 : decode cX1_level 8 = .ok (.invokevirtual 84, 3) := by decide +kernel
theorem dX1_level_11 : decode cX1_level 11 = .ok (.ireturn, 1) := by decide +kernel
theorem dX1_level_12 : decode cX1_level 12 = .ok (.aload_n 0, 1) := by decide +kernel
theorem dX1_level_13 : decode cX1_level 13 = .ok (.iload_n 1, 1) := by decide +kernel
theorem dX1_level_14 : decode cX1_level 14 = .ok (.iconst 1, 1) := by decide +kernel
theorem dX1_level_15 : decode cX1_level 15 = .ok (.iadd, 1) := by decide +kernel
theorem dX1_level_16 : decode cX1_level 16 = .ok (.iload_n 2, 1) := by decide +kernel
theorem dX1_level_17 : decode cX1_level 17 = .ok (.iload_n 3, 1) := by decide +kernel
theorem dX1_level_18 : decode cX1_level 18 = .ok (.invokevirtual 45, 3) := by decide +kernel
theorem dX1_level_21 : decode cX1_level 21 = .ok (.ifCond .ne 5, 3) := by decide +kernel
theorem dX1_level_24 : decode cX1_level 24 = .ok (.iconst 0, 1) := by decide +kernel
theorem dX1_level_25 : decode cX1_level 25 = .ok (.ireturn, 1) := by decide +kernel
theorem dX1_level_26 : decode cX1_level 26 = .ok (.iload_n 1, 1) := by decide +kernel
theorem dX1_level_27 : decode cX1_level 27 = .ok (.iconst 2, 1) := by decide +kernel
theorem dX1_level_28 : decode cX1_level 28 = .ok (.if_icmp .ne 7, 3) := by decide +kernel
theorem dX1_level_31 : decode cX1_level 31 = .ok (.iconst 1, 1) := by decide +kernel
theorem dX1_level_32 : decode cX1_level 32 = .ok (.goto 5, 3) := by decide +kernel
theorem dX1_level_35 : decode cX1_level 35 = .ok (.bipush 96, 2) := by decide +kernel
theorem dX1_level_37 : decode cX1_level 37 = .ok (.istore 4, 2) := by decide +kernel
theorem dX1_level_39 : decode cX1_level 39 = .ok (.iconst 0, 1) := by decide +kernel
theorem dX1_level_40 : decode cX1_level 40 = .ok (.istore 5, 2) := by decide +kernel
theorem dX1_level_42 : decode cX1_level 42 = .ok (.iload 5, 2) := by decide +kernel
theorem dX1_level_44 : decode cX1_level 44 = .ok (.iload 4, 2) := by decide +kernel
theorem dX1_level_46 : decode cX1_level 46 = .ok (.if_icmp .ge 67, 3) := by decide +kernel
theorem dX1_level_49 : decode cX1_level 49 = .ok (.aload_n 0, 1) := by decide +kernel
theorem dX1_level_50 : decode cX1_level 50 = .ok (.getfield 26, 3) := by decide +kernel
theorem dX1_level_53 : decode cX1_level 53 = .ok (.iconst 3, 1) := by decide +kernel
theorem dX1_level_54 : decode cX1_level 54 = .ok (.if_icmp .ne 59, 3) := by decide +kernel
theorem dX1_level_57 : decode cX1_level 57 = .ok (.aload_n 0, 1) := by decide +kernel
theorem dX1_level_58 : decode cX1_level 58 = .ok (.aload_n 0, 1) := by decide +kernel
theorem dX1_level_59 : decode cX1_level 59 = .ok (.getfield 42, 3) := by decide +kernel
theorem dX1_level_62 : decode cX1_level 62 = .ok (.invokevirtual 54, 3) := by decide +kernel
theorem dX1_level_65 : decode cX1_level 65 = .ok (.invokestatic 88, 3) := by decide +kernel
theorem dX1_level_68 : decode cX1_level 68 = .ok (.iload_n 1, 1) := by decide +kernel
theorem dX1_level_69 : decode cX1_level 69 = .ok (.if_icmp .ne 44, 3) := by decide +kernel
theorem dX1_level_72 : decode cX1_level 72 = .ok (.aload_n 0, 1) := by decide +kernel
theorem dX1_level_73 : decode cX1_level 73 = .ok (.aload_n 0, 1) := by decide +kernel
theorem dX1_level_74 : decode cX1_level 74 = .ok (.getfield 42, 3) := by decide +kernel
theorem dX1_level_77 : decode cX1_level 77 = .ok (.invokevirtual 54, 3) := by decide +kernel
theorem dX1_level_80 : decode cX1_level 80 = .ok (.istore 6, 2) := by decide +kernel
theorem dX1_level_82 : decode cX1_level 82 = .ok (.aload_n 0, 1) := by decide +kernel
theorem dX1_level_83 : decode cX1_level 83 = .ok (.invokevirtual 32, 3) := by decide +kernel
theorem dX1_level_86 : decode cX1_level 86 = .ok (.aload_n 0, 1) := by decide +kernel
theorem dX1_level_87 : decode cX1_level 87 = .ok (.iload_n 1, 1) := by decide +kernel
theorem dX1_level_88 : decode cX1_level 88 = .ok (.iconst 1, 1) := by decide +kernel
theorem dX1_level_89 : decode cX1_level 89 = .ok (.iadd, 1) := by decide +kernel
theorem dX1_level_90 : decode cX1_level 90 = .ok (.iload_n 2, 1) := by decide +kernel
theorem dX1_level_91 : decode cX1_level 91 = .ok (.iload_n 3, 1) := by decide +kernel
theorem dX1_level_92 : decode cX1_level 92 = .ok (.invokevirtual 45, 3) := by decide +kernel
theorem dX1_level_95 : decode cX1_level 95 = .ok (.ifCond .ne 5, 3) := by decide +kernel
theorem dX1_level_98 : decode cX1_level 98 = .ok (.iconst 0, 1) := by decide +kernel
theorem dX1_level_99 : decode cX1_level 99 = .ok (.ireturn, 1) := by decide +kernel
theorem dX1_level_100 : decode cX1_level 100 = .ok (.aload_n 0, 1) := by decide +kernel
theorem dX1_level_101 : decode cX1_level 101 = .ok (.iload 6, 2) := by decide +kernel
theorem dX1_level_103 : decode cX1_level 103 = .ok (.ineg, 1) := by decide +kernel
theorem dX1_level_104 : decode cX1_level 104 = .ok (.invokevirtual 91, 3) := by decide +kernel
theorem dX1_level_107 : decode cX1_level 107 = .ok (.iinc 5 1, 3) := by decide +kernel
theorem dX1_level_110 : decode cX1_level 110 = .ok (.goto (-68), 3) := by decide +kernel
theorem dX1_level_113 : decode cX1_level 113 = .ok (.iconst 1, 1) := by decide +kernel
theorem dX1_level_114 : decode cX1_level 114 = .ok (.ireturn, 1) := by decide +kernel
theorem dX1_levelOf_0 : decode cX1_levelOf 0 = .ok (.iload_n 0, 1) := by decide +kernel
theorem dX1_levelOf_1 : decode cX1_levelOf 1 = .ok (.lookupswitch 93 #[(38, 85), (42, 91), (43, 89), (45, 89), (47, 91), (60, 87), (61, 87), (62, 87), (124, 83)], 83) := by decide +kernel
theorem dX1_levelOf_84 : decode cX1_levelOf 84 = .ok (.iconst 0, 1) := by decide +kernel
theorem dX1_levelOf_85 : decode cX1_levelOf 85 = .ok (.ireturn, 1) := by decide +kernel
theorem dX1_levelOf_86 : decode cX1_levelOf 86 = .ok (.iconst 1, 1) := by decide +kernel
theorem dX1_levelOf_87 : decode cX1_levelOf 87 = .ok (.ireturn, 1) := by decide +kernel
theorem dX1_levelOf_88 : decode cX1_levelOf 88 = .ok (.iconst 2, 1) := by decide +kernel
theorem dX1_levelOf_89 : decode cX1_levelOf 89 = .ok (.ireturn, 1) := by decide +kernel
theorem dX1_levelOf_90 : decode cX1_levelOf 90 = .ok (.iconst 3, 1) := by decide +kernel
theorem dX1_levelOf_91 : decode cX1_levelOf 91 = .ok (.ireturn, 1) := by decide +kernel
theorem dX1_levelOf_92 : decode cX1_levelOf 92 = .ok (.iconst 4, 1) := by decide +kernel
theorem dX1_levelOf_93 : decode cX1_levelOf 93 = .ok (.ireturn, 1) := by decide +kernel
theorem dX1_levelOf_94 : decode cX1_levelOf 94 = .ok (.iconst (-1), 1) := by decide +kernel
theorem dX1_levelOf_95 : decode cX1_levelOf 95 = .ok (.ireturn, 1) := by decide +kernel
theorem dX1_piece_0 : decode cX1_piece 0 = .ok (.aload_n 0, 1) := by decide +kernel
theorem dX1_piece_1 : decode cX1_piece 1 = .ok (.getfield 26, 3) := by decide +kernel
theorem dX1_piece_4 : decode cX1_piece 4 = .ok (.iconst 2, 1) := by decide +kernel
theorem dX1_piece_5 : decode cX1_piece 5 = .ok (.if_icmp .ne 8, 3) := by decide +kernel
theorem dX1_piece_8 : decode cX1_piece 8 = .ok (.aload_n 0, 1) := by decide +kernel
theorem dX1_piece_9 : decode cX1_piece 9 = .ok (.invokevirtual 95, 3) := by decide +kernel
theorem dX1_piece_12 : decode cX1_piece 12 = .ok (.ireturn, 1) := by decide +kernel
theorem dX1_piece_13 : decode cX1_piece 13 = .ok (.aload_n 0, 1) := by decide +kernel
theorem dX1_piece_14 : decode cX1_piece 14 = .ok (.getfield 26, 3) := by decide +kernel
theorem dX1_piece_17 : decode cX1_piece 17 = .ok (.iconst 1, 1) := by decide +kernel
theorem dX1_piece_18 : decode cX1_piece 18 = .ok (.if_icmp .ne 8, 3) := by decide +kernel
theorem dX1_piece_21 : decode cX1_piece 21 = .ok (.aload_n 0, 1) := by decide +kernel
theorem dX1_piece_22 : decode cX1_piece 22 = .ok (.invokevirtual 99, 3) := by decide +kernel
theorem dX1_piece_25 : decode cX1_piece 25 = .ok (.ireturn, 1) := by decide +kernel
theorem dX1_piece_26 : decode cX1_piece 26 = .ok (.aload_n 0, 1) := by decide +kernel
theorem dX1_piece_27 : decode cX1_piece 27 = .ok (.bipush 33, 2) := by decide +kernel
theorem dX1_piece_29 : decode cX1_piece 29 = .ok (.invokevirtual 102, 3) := by decide +kernel
theorem dX1_piece_32 : decode cX1_piece 32 = .ok (.ifCond .eq 34, 3) := by decide +kernel
theorem dX1_piece_35 : decode cX1_piece 35 = .ok (.iload_n 2, 1) := by decide +kernel
theorem dX1_piece_36 : decode cX1_piece 36 = .ok (.bipush 8, 2) := by decide +kernel
theorem dX1_piece_38 : decode cX1_piece 38 = .ok (.if_icmp .ge 28, 3) := by decide +kernel
theorem dX1_piece_41 : decode cX1_piece 41 = .ok (.aload_n 0, 1) := by decide +kernel
theorem dX1_piece_42 : decode cX1_piece 42 = .ok (.invokevirtual 32, 3) := by decide +kernel
theorem dX1_piece_45 : decode cX1_piece 45 = .ok (.aload_n 0, 1) := by decide +kernel
theorem dX1_piece_46 : decode cX1_piece 46 = .ok (.iload_n 1, 1) := by decide +kernel
theorem dX1_piece_47 : decode cX1_piece 47 = .ok (.iload_n 2, 1) := by decide +kernel
theorem dX1_piece_48 : decode cX1_piece 48 = .ok (.iconst 1, 1) := by decide +kernel
theorem dX1_piece_49 : decode cX1_piece 49 = .ok (.iadd, 1) := by decide +kernel
theorem dX1_piece_50 : decode cX1_piece 50 = .ok (.invokevirtual 84, 3) := by decide +kernel
theorem dX1_piece_53 : decode cX1_piece 53 = .ok (.ifCond .ne 5, 3) := by decide +kernel
theorem dX1_piece_56 : decode cX1_piece 56 = .ok (.iconst 0, 1) := by decide +kernel
theorem dX1_piece_57 : decode cX1_piece 57 = .ok (.ireturn, 1) := by decide +kernel
theorem dX1_piece_58 : decode cX1_piece 58 = .ok (.aload_n 0, 1) := by decide +kernel
theorem dX1_piece_59 : decode cX1_piece 59 = .ok (.bipush (-33), 2) := by decide +kernel
theorem dX1_piece_61 : decode cX1_piece 61 = .ok (.invokevirtual 91, 3) := by decide +kernel
theorem dX1_piece_64 : decode cX1_piece 64 = .ok (.iconst 1, 1) := by decide +kernel
theorem dX1_piece_65 : decode cX1_piece 65 = .ok (.ireturn, 1) := by decide +kernel
theorem dX1_piece_66 : decode cX1_piece 66 = .ok (.aload_n 0, 1) := by decide +kernel
theorem dX1_piece_67 : decode cX1_piece 67 = .ok (.bipush 40, 2) := by decide +kernel
theorem dX1_piece_69 : decode cX1_piece 69 = .ok (.invokevirtual 102, 3) := by decide +kernel
theorem dX1_piece_72 : decode cX1_piece 72 = .ok (.ifCond .eq 42, 3) := by decide +kernel
theorem dX1_piece_75 : decode cX1_piece 75 = .ok (.iload_n 1, 1) := by decide +kernel
theorem dX1_piece_76 : decode cX1_piece 76 = .ok (.bipush 8, 2) := by decide +kernel
theorem dX1_piece_78 : decode cX1_piece 78 = .ok (.if_icmp .ge 36, 3) := by decide +kernel
theorem dX1_piece_81 : decode cX1_piece 81 = .ok (.aload_n 0, 1) := by decide +kernel
theorem dX1_piece_82 : decode cX1_piece 82 = .ok (.invokevirtual 32, 3) := by decide +kernel
theorem dX1_piece_85 : decode cX1_piece 85 = .ok (.aload_n 0, 1) := by decide +kernel
theorem dX1_piece_86 : decode cX1_piece 86 = .ok (.iconst 0, 1) := by decide +kernel
theorem dX1_piece_87 : decode cX1_piece 87 = .ok (.iload_n 1, 1) := by decide +kernel
theorem dX1_piece_88 : decode cX1_piece 88 = .ok (.iconst 1, 1) := by decide +kernel
theorem dX1_piece_89 : decode cX1_piece 89 = .ok (.iadd, 1) := by decide +kernel
theorem dX1_piece_90 : decode cX1_piece 90 = .ok (.iload_n 2, 1) := by decide +kernel
theorem dX1_piece_91 : decode cX1_piece 91 = .ok (.invokevirtual 45, 3) := by decide +kernel
theorem dX1_piece_94 : decode cX1_piece 94 = .ok (.ifCond .eq 12, 3) := by decide +kernel
theorem dX1_piece_97 : decode cX1_piece 97 = .ok (.aload_n 0, 1) := by decide +kernel
theorem dX1_piece_98 : decode cX1_piece 98 = .ok (.bipush 41, 2) := by decide +kernel
theorem dX1_piece_100 : decode cX1_piece 100 = .ok (.invokevirtual 102, 3) := by decide +kernel
theorem dX1_piece_103 : decode cX1_piece 103 = .ok (.ifCond .ne 5, 3) := by decide +kernel
theorem dX1_piece_106 : decode cX1_piece 106 = .ok (.iconst 0, 1) := by decide +kernel
theorem dX1_piece_107 : decode cX1_piece 107 = .ok (.ireturn, 1) := by decide +kernel
theorem dX1_piece_108 : decode cX1_piece 108 = .ok (.aload_n 0, 1) := by decide +kernel
theorem dX1_piece_109 : decode cX1_piece 109 = .ok (.invokevirtual 32, 3) := by decide +kernel
theorem dX1_piece_112 : decode cX1_piece 112 = .ok (.iconst 1, 1) := by decide +kernel
theorem dX1_piece_113 : decode cX1_piece 113 = .ok (.ireturn, 1) := by decide +kernel
theorem dX1_piece_114 : decode cX1_piece 114 = .ok (.iconst 0, 1) := by decide +kernel
theorem dX1_piece_115 : decode cX1_piece 115 = .ok (.ireturn, 1) := by decide +kernel
theorem dX1_isSign_0 : decode cX1_isSign 0 = .ok (.aload_n 0, 1) := by decide +kernel
theorem dX1_isSign_1 : decode cX1_isSign 1 = .ok (.getfield 26, 3) := by decide +kernel
theorem dX1_isSign_4 : decode cX1_isSign 4 = .ok (.iconst 3, 1) := by decide +kernel
theorem dX1_isSign_5 : decode cX1_isSign 5 = .ok (.if_icmp .ne 19, 3) := by decide +kernel
theorem dX1_isSign_8 : decode cX1_isSign 8 = .ok (.aload_n 0, 1) := by decide +kernel
theorem dX1_isSign_9 : decode cX1_isSign 9 = .ok (.aload_n 0, 1) := by decide +kernel
theorem dX1_isSign_10 : decode cX1_isSign 10 = .ok (.getfield 42, 3) := by decide +kernel
theorem dX1_isSign_13 : decode cX1_isSign 13 = .ok (.invokevirtual 54, 3) := by decide +kernel
theorem dX1_isSign_16 : decode cX1_isSign 16 = .ok (.iload_n 1, 1) := by decide +kernel
theorem dX1_isSign_17 : decode cX1_isSign 17 = .ok (.if_icmp .ne 7, 3) := by decide +kernel
theorem dX1_isSign_20 : decode cX1_isSign 20 = .ok (.iconst 1, 1) := by decide +kernel
theorem dX1_isSign_21 : decode cX1_isSign 21 = .ok (.goto 4, 3) := by decide +kernel
theorem dX1_isSign_24 : decode cX1_isSign 24 = .ok (.iconst 0, 1) := by decide +kernel
theorem dX1_isSign_25 : decode cX1_isSign 25 = .ok (.ireturn, 1) := by decide +kernel
theorem dX1_number_0 : decode cX1_number 0 = .ok (.aload_n 0, 1) := by decide +kernel
theorem dX1_number_1 : decode cX1_number 1 = .ok (.getfield 29, 3) := by decide +kernel
theorem dX1_number_4 : decode cX1_number 4 = .ok (.aload_n 0, 1) := by decide +kernel
theorem dX1_number_5 : decode cX1_number 5 = .ok (.getfield 42, 3) := by decide +kernel
theorem dX1_number_8 : decode cX1_number 8 = .ok (.isub, 1) := by decide +kernel
theorem dX1_number_9 : decode cX1_number 9 = .ok (.iconst 4, 1) := by decide +kernel
theorem dX1_number_10 : decode cX1_number 10 = .ok (.if_icmp .le 5, 3) := by decide +kernel
theorem dX1_number_13 : decode cX1_number 13 = .ok (.iconst 0, 1) := by decide +kernel
theorem dX1_number_14 : decode cX1_number 14 = .ok (.ireturn, 1) := by decide +kernel
theorem dX1_number_15 : decode cX1_number 15 = .ok (.iconst 0, 1) := by decide +kernel
theorem dX1_number_16 : decode cX1_number 16 = .ok (.istore_n 1, 1) := by decide +kernel
theorem dX1_number_17 : decode cX1_number 17 = .ok (.aload_n 0, 1) := by decide +kernel
theorem dX1_number_18 : decode cX1_number 18 = .ok (.getfield 42, 3) := by decide +kernel
theorem dX1_number_21 : decode cX1_number 21 = .ok (.istore_n 2, 1) := by decide +kernel
theorem dX1_number_22 : decode cX1_number 22 = .ok (.iload_n 2, 1) := by decide +kernel
theorem dX1_number_23 : decode cX1_number 23 = .ok (.aload_n 0, 1) := by decide +kernel
theorem dX1_number_24 : decode cX1_number 24 = .ok (.getfield 29, 3) := by decide +kernel
theorem dX1_number_27 : decode cX1_number 27 = .ok (.if_icmp .ge 23, 3) := by decide +kernel
theorem dX1_number_30 : decode cX1_number 30 = .ok (.bipush 10, 2) := by decide +kernel
theorem dX1_number_32 : decode cX1_number 32 = .ok (.iload_n 1, 1) := by decide +kernel
theorem dX1_number_33 : decode cX1_number 33 = .ok (.imul, 1) := by decide +kernel
theorem dX1_number_34 : decode cX1_number 34 = .ok (.aload_n 0, 1) := by decide +kernel
theorem dX1_number_35 : decode cX1_number 35 = .ok (.iload_n 2, 1) := by decide +kernel
theorem dX1_number_36 : decode cX1_number 36 = .ok (.invokevirtual 54, 3) := by decide +kernel
theorem dX1_number_39 : decode cX1_number 39 = .ok (.iadd, 1) := by decide +kernel
theorem dX1_number_40 : decode cX1_number 40 = .ok (.bipush 48, 2) := by decide +kernel
theorem dX1_number_42 : decode cX1_number 42 = .ok (.isub, 1) := by decide +kernel
theorem dX1_number_43 : decode cX1_number 43 = .ok (.istore_n 1, 1) := by decide +kernel
theorem dX1_number_44 : decode cX1_number 44 = .ok (.iinc 2 1, 3) := by decide +kernel
theorem dX1_number_47 : decode cX1_number 47 = .ok (.goto (-25), 3) := by decide +kernel
theorem dX1_number_50 : decode cX1_number 50 = .ok (.aload_n 0, 1) := by decide +kernel
theorem dX1_number_51 : decode cX1_number 51 = .ok (.iload_n 1, 1) := by decide +kernel
theorem dX1_number_52 : decode cX1_number 52 = .ok (.invokevirtual 106, 3) := by decide +kernel
theorem dX1_number_55 : decode cX1_number 55 = .ok (.ireturn, 1) := by decide +kernel
theorem dX1_name_0 : decode cX1_name 0 = .ok (.aload_n 0, 1) := by decide +kernel
theorem dX1_name_1 : decode cX1_name 1 = .ok (.aload_n 0, 1) := by decide +kernel
theorem dX1_name_2 : decode cX1_name 2 = .ok (.getfield 42, 3) := by decide +kernel
theorem dX1_name_5 : decode cX1_name 5 = .ok (.invokevirtual 54, 3) := by decide +kernel
theorem dX1_name_8 : decode cX1_name 8 = .ok (.istore_n 1, 1) := by decide +kernel
theorem dX1_name_9 : decode cX1_name 9 = .ok (.aload_n 0, 1) := by decide +kernel
theorem dX1_name_10 : decode cX1_name 10 = .ok (.getfield 29, 3) := by decide +kernel
theorem dX1_name_13 : decode cX1_name 13 = .ok (.aload_n 0, 1) := by decide +kernel
theorem dX1_name_14 : decode cX1_name 14 = .ok (.getfield 42, 3) := by decide +kernel
theorem dX1_name_17 : decode cX1_name 17 = .ok (.isub, 1) := by decide +kernel
theorem dX1_name_18 : decode cX1_name 18 = .ok (.iconst 1, 1) := by decide +kernel
theorem dX1_name_19 : decode cX1_name 19 = .ok (.if_icmp .ne 27, 3) := by decide +kernel
theorem dX1_name_22 : decode cX1_name 22 = .ok (.aload_n 0, 1) := by decide +kernel
theorem dX1_name_23 : decode cX1_name 23 = .ok (.getfield 39, 3) := by decide +kernel
theorem dX1_name_26 : decode cX1_name 26 = .ok (.iload_n 1, 1) := by decide +kernel
theorem dX1_name_27 : decode cX1_name 27 = .ok (.invokestatic 109, 3) := by decide +kernel
theorem dX1_name_30 : decode cX1_name 30 = .ok (.ifCond .eq 16, 3) := by decide +kernel
theorem dX1_name_33 : decode cX1_name 33 = .ok (.aload_n 0, 1) := by decide +kernel
theorem dX1_name_34 : decode cX1_name 34 = .ok (.iload_n 1, 1) := by decide +kernel
theorem dX1_name_35 : decode cX1_name 35 = .ok (.ineg, 1) := by decide +kernel
theorem dX1_name_36 : decode cX1_name 36 = .ok (.invokevirtual 106, 3) := by decide +kernel
theorem dX1_name_39 : decode cX1_name 39 = .ok (.ifCond .eq 7, 3) := by decide +kernel
theorem dX1_name_42 : decode cX1_name 42 = .ok (.iconst 1, 1) := by decide +kernel
theorem dX1_name_43 : decode cX1_name 43 = .ok (.goto 4, 3) := by decide +kernel
theorem dX1_name_46 : decode cX1_name 46 = .ok (.iconst 0, 1) := by decide +kernel
theorem dX1_name_47 : decode cX1_name 47 = .ok (.ireturn, 1) := by decide +kernel
theorem dX1_leaf_0 : decode cX1_leaf 0 = .ok (.aload_n 0, 1) := by decide +kernel
theorem dX1_leaf_1 : decode cX1_leaf 1 = .ok (.iload_n 1, 1) := by decide +kernel
theorem dX1_leaf_2 : decode cX1_leaf 2 = .ok (.invokevirtual 91, 3) := by decide +kernel
theorem dX1_leaf_5 : decode cX1_leaf 5 = .ok (.aload_n 0, 1) := by decide +kernel
theorem dX1_leaf_6 : decode cX1_leaf 6 = .ok (.dup, 1) := by decide +kernel
theorem dX1_leaf_7 : decode cX1_leaf 7 = .ok (.getfield 23, 3) := by decide +kernel
theorem dX1_leaf_10 : decode cX1_leaf 10 = .ok (.iconst 1, 1) := by decide +kernel
theorem dX1_leaf_11 : decode cX1_leaf 11 = .ok (.iadd, 1) := by decide +kernel
theorem dX1_leaf_12 : decode cX1_leaf 12 = .ok (.putfield 23, 3) := by decide +kernel
theorem dX1_leaf_15 : decode cX1_leaf 15 = .ok (.aload_n 0, 1) := by decide +kernel
theorem dX1_leaf_16 : decode cX1_leaf 16 = .ok (.invokevirtual 32, 3) := by decide +kernel
theorem dX1_leaf_19 : decode cX1_leaf 19 = .ok (.iconst 1, 1) := by decide +kernel
theorem dX1_leaf_20 : decode cX1_leaf 20 = .ok (.ireturn, 1) := by decide +kernel
theorem dX1_write_0 : decode cX1_write 0 = .ok (.aload_n 0, 1) := by decide +kernel
theorem dX1_write_1 : decode cX1_write 1 = .ok (.getfield 19, 3) := by decide +kernel
theorem dX1_write_4 : decode cX1_write 4 = .ok (.aload_n 0, 1) := by decide +kernel
theorem dX1_write_5 : decode cX1_write 5 = .ok (.getfield 9, 3) := by decide +kernel
theorem dX1_write_8 : decode cX1_write 8 = .ok (.arraylength, 1) := by decide +kernel
theorem dX1_write_9 : decode cX1_write 9 = .ok (.if_icmp .ge 23, 3) := by decide +kernel
theorem dX1_write_12 : decode cX1_write 12 = .ok (.aload_n 0, 1) := by decide +kernel
theorem dX1_write_13 : decode cX1_write 13 = .ok (.getfield 9, 3) := by decide +kernel
theorem dX1_write_16 : decode cX1_write 16 = .ok (.aload_n 0, 1) := by decide +kernel
theorem dX1_write_17 : decode cX1_write 17 = .ok (.getfield 19, 3) := by decide +kernel
theorem dX1_write_20 : decode cX1_write 20 = .ok (.iload_n 1, 1) := by decide +kernel
theorem dX1_write_21 : decode cX1_write 21 = .ok (.iastore, 1) := by decide +kernel
theorem dX1_write_22 : decode cX1_write 22 = .ok (.aload_n 0, 1) := by decide +kernel
theorem dX1_write_23 : decode cX1_write 23 = .ok (.dup, 1) := by decide +kernel
theorem dX1_write_24 : decode cX1_write 24 = .ok (.getfield 19, 3) := by decide +kernel
theorem dX1_write_27 : decode cX1_write 27 = .ok (.iconst 1, 1) := by decide +kernel
theorem dX1_write_28 : decode cX1_write 28 = .ok (.iadd, 1) := by decide +kernel
theorem dX1_write_29 : decode cX1_write 29 = .ok (.putfield 19, 3) := by decide +kernel
theorem dX1_write_32 : decode cX1_write 32 = .ok (.return_, 1) := by decide +kernel
theorem dX2_init_0 : decode cX2_init 0 = .ok (.aload_n 0, 1) := by decide +kernel
theorem dX2_init_1 : decode cX2_init 1 = .ok (.invokespecial 3, 3) := by decide +kernel
theorem dX2_init_4 : decode cX2_init 4 = .ok (.aload_n 0, 1) := by decide +kernel
theorem dX2_init_5 : decode cX2_init 5 = .ok (.bipush 24, 2) := by decide +kernel
theorem dX2_init_7 : decode cX2_init 7 = .ok (.newarray .int, 2) := by decide +kernel
theorem dX2_init_9 : decode cX2_init 9 = .ok (.putfield 11, 3) := by decide +kernel
theorem dX2_init_12 : decode cX2_init 12 = .ok (.aload_n 0, 1) := by decide +kernel
theorem dX2_init_13 : decode cX2_init 13 = .ok (.iconst (-1), 1) := by decide +kernel
theorem dX2_init_14 : decode cX2_init 14 = .ok (.putfield 15, 3) := by decide +kernel
theorem dX2_init_17 : decode cX2_init 17 = .ok (.return_, 1) := by decide +kernel
theorem dX2_begin_0 : decode cX2_begin 0 = .ok (.aload_n 0, 1) := by decide +kernel
theorem dX2_begin_1 : decode cX2_begin 1 = .ok (.iload_n 1, 1) := by decide +kernel
theorem dX2_begin_2 : decode cX2_begin 2 = .ok (.putfield 15, 3) := by decide +kernel
theorem dX2_begin_5 : decode cX2_begin 5 = .ok (.aload_n 0, 1) := by decide +kernel
theorem dX2_begin_6 : decode cX2_begin 6 = .ok (.iload_n 2, 1) := by decide +kernel
theorem dX2_begin_7 : decode cX2_begin 7 = .ok (.putfield 19, 3) := by decide +kernel
theorem dX2_begin_10 : decode cX2_begin 10 = .ok (.iconst 0, 1) := by decide +kernel
theorem dX2_begin_11 : decode cX2_begin 11 = .ok (.istore_n 3, 1) := by decide +kernel
theorem dX2_begin_12 : decode cX2_begin 12 = .ok (.iload_n 3, 1) := by decide +kernel
theorem dX2_begin_13 : decode cX2_begin 13 = .ok (.bipush 24, 2) := by decide +kernel
theorem dX2_begin_15 : decode cX2_begin 15 = .ok (.if_icmp .ge 16, 3) := by decide +kernel
theorem dX2_begin_18 : decode cX2_begin 18 = .ok (.aload_n 0, 1) := by decide +kernel
theorem dX2_begin_19 : decode cX2_begin 19 = .ok (.getfield 11, 3) := by decide +kernel
theorem dX2_begin_22 : decode cX2_begin 22 = .ok (.iload_n 3, 1) := by decide +kernel
theorem dX2_begin_23 : decode cX2_begin 23 = .ok (.iconst 0, 1) := by decide +kernel
theorem dX2_begin_24 : decode cX2_begin 24 = .ok (.iastore, 1) := by decide +kernel
theorem dX2_begin_25 : decode cX2_begin 25 = .ok (.iinc 3 1, 3) := by decide +kernel
theorem dX2_begin_28 : decode cX2_begin 28 = .ok (.goto (-16), 3) := by decide +kernel
theorem dX2_begin_31 : decode cX2_begin 31 = .ok (.return_, 1) := by decide +kernel
theorem dX2_become_0 : decode cX2_become 0 = .ok (.aload_n 0, 1) := by decide +kernel
theorem dX2_become_1 : decode cX2_become 1 = .ok (.aload_n 1, 1) := by decide +kernel
theorem dX2_become_2 : decode cX2_become 2 = .ok (.getfield 15, 3) := by decide +kernel
theorem dX2_become_5 : decode cX2_become 5 = .ok (.putfield 15, 3) := by decide +kernel
theorem dX2_become_8 : decode cX2_become 8 = .ok (.aload_n 0, 1) := by decide +kernel
theorem dX2_become_9 : decode cX2_become 9 = .ok (.aload_n 1, 1) := by decide +kernel
theorem dX2_become_10 : decode cX2_become 10 = .ok (.getfield 19, 3) := by decide +kernel
theorem dX2_become_13 : decode cX2_become 13 = .ok (.putfield 19, 3) := by decide +kernel
theorem dX2_become_16 : decode cX2_become 16 = .ok (.aload_n 1, 1) := by decide +kernel
theorem dX2_become_17 : decode cX2_become 17 = .ok (.getfield 11, 3) := by decide +kernel
theorem dX2_become_20 : decode cX2_become 20 = .ok (.iconst 0, 1) := by decide +kernel
theorem dX2_become_21 : decode cX2_become 21 = .ok (.aload_n 0, 1) := by decide +kernel
theorem dX2_become_22 : decode cX2_become 22 = .ok (.getfield 11, 3) := by decide +kernel
theorem dX2_become_25 : decode cX2_become 25 = .ok (.iconst 0, 1) := by decide +kernel
theorem dX2_become_26 : decode cX2_become 26 = .ok (.bipush 24, 2) := by decide +kernel
theorem dX2_become_28 : decode cX2_become 28 = .ok (.invokestatic 22, 3) := by decide +kernel
theorem dX2_become_31 : decode cX2_become 31 = .ok (.return_, 1) := by decide +kernel
theorem dX2_isMissing_0 : decode cX2_isMissing 0 = .ok (.aload_n 0, 1) := by decide +kernel
theorem dX2_isMissing_1 : decode cX2_isMissing 1 = .ok (.getfield 15, 3) := by decide +kernel
theorem dX2_isMissing_4 : decode cX2_isMissing 4 = .ok (.iconst (-1), 1) := by decide +kernel
theorem dX2_isMissing_5 : decode cX2_isMissing 5 = .ok (.if_icmp .ne 7, 3) := by decide +kernel
theorem dX2_isMissing_8 : decode cX2_isMissing 8 = .ok (.iconst 1, 1) := by decide +kernel
theorem dX2_isMissing_9 : decode cX2_isMissing 9 = .ok (.goto 4, 3) := by decide +kernel
theorem dX2_isMissing_12 : decode cX2_isMissing 12 = .ok (.iconst 0, 1) := by decide +kernel
theorem dX2_isMissing_13 : decode cX2_isMissing 13 = .ok (.ireturn, 1) := by decide +kernel
theorem dX2_hasPlace_0 : decode cX2_hasPlace 0 = .ok (.iload_n 1, 1) := by decide +kernel
theorem dX2_hasPlace_1 : decode cX2_hasPlace 1 = .ok (.ifCond .lt 15, 3) := by decide +kernel
theorem dX2_hasPlace_4 : decode cX2_hasPlace 4 = .ok (.iload_n 1, 1) := by decide +kernel
theorem dX2_hasPlace_5 : decode cX2_hasPlace 5 = .ok (.aload_n 0, 1) := by decide +kernel
theorem dX2_hasPlace_6 : decode cX2_hasPlace 6 = .ok (.getfield 19, 3) := by decide +kernel
theorem dX2_hasPlace_9 : decode cX2_hasPlace 9 = .ok (.if_icmp .ge 7, 3) := by decide +kernel
theorem dX2_hasPlace_12 : decode cX2_hasPlace 12 = .ok (.iconst 1, 1) := by decide +kernel
theorem dX2_hasPlace_13 : decode cX2_hasPlace 13 = .ok (.goto 4, 3) := by decide +kernel
theorem dX2_hasPlace_16 : decode cX2_hasPlace 16 = .ok (.iconst 0, 1) := by decide +kernel
theorem dX2_hasPlace_17 : decode cX2_hasPlace 17 = .ok (.ireturn, 1) := by decide +kernel
theorem dX2_hasNumber_0 : decode cX2_hasNumber 0 = .ok (.aload_n 0, 1) := by decide +kernel
theorem dX2_hasNumber_1 : decode cX2_hasNumber 1 = .ok (.iload_n 1, 1) := by decide +kernel
theorem dX2_hasNumber_2 : decode cX2_hasNumber 2 = .ok (.invokevirtual 28, 3) := by decide +kernel
theorem dX2_hasNumber_5 : decode cX2_hasNumber 5 = .ok (.ifCond .eq 18, 3) := by decide +kernel
theorem dX2_hasNumber_8 : decode cX2_hasNumber 8 = .ok (.aload_n 0, 1) := by decide +kernel
theorem dX2_hasNumber_9 : decode cX2_hasNumber 9 = .ok (.getfield 11, 3) := by decide +kernel
theorem dX2_hasNumber_12 : decode cX2_hasNumber 12 = .ok (.iload_n 1, 1) := by decide +kernel
theorem dX2_hasNumber_13 : decode cX2_hasNumber 13 = .ok (.iaload, 1) := by decide +kernel
theorem dX2_hasNumber_14 : decode cX2_hasNumber 14 = .ok (.ldc 32, 2) := by decide +kernel
theorem dX2_hasNumber_16 : decode cX2_hasNumber 16 = .ok (.if_icmp .eq 7, 3) := by decide +kernel
theorem dX2_hasNumber_19 : decode cX2_hasNumber 19 = .ok (.iconst 1, 1) := by decide +kernel
theorem dX2_hasNumber_20 : decode cX2_hasNumber 20 = .ok (.goto 4, 3) := by decide +kernel
theorem dX2_hasNumber_23 : decode cX2_hasNumber 23 = .ok (.iconst 0, 1) := by decide +kernel
theorem dX2_hasNumber_24 : decode cX2_hasNumber 24 = .ok (.ireturn, 1) := by decide +kernel
theorem dX2_hasPlaces_0 : decode cX2_hasPlaces 0 = .ok (.iload_n 1, 1) := by decide +kernel
theorem dX2_hasPlaces_1 : decode cX2_hasPlaces 1 = .ok (.ifCond .lt 29, 3) := by decide +kernel
theorem dX2_hasPlaces_4 : decode cX2_hasPlaces 4 = .ok (.iload_n 2, 1) := by decide +kernel
theorem dX2_hasPlaces_5 : decode cX2_hasPlaces 5 = .ok (.ifCond .lt 25, 3) := by decide +kernel
theorem dX2_hasPlaces_8 : decode cX2_hasPlaces 8 = .ok (.iload_n 1, 1) := by decide +kernel
theorem dX2_hasPlaces_9 : decode cX2_hasPlaces 9 = .ok (.aload_n 0, 1) := by decide +kernel
theorem dX2_hasPlaces_10 : decode cX2_hasPlaces 10 = .ok (.getfield 19, 3) := by decide +kernel
theorem dX2_hasPlaces_13 : decode cX2_hasPlaces 13 = .ok (.if_icmp .gt 17, 3) := by decide +kernel
theorem dX2_hasPlaces_16 : decode cX2_hasPlaces 16 = .ok (.iload_n 2, 1) := by decide +kernel
theorem dX2_hasPlaces_17 : decode cX2_hasPlaces 17 = .ok (.aload_n 0, 1) := by decide +kernel
theorem dX2_hasPlaces_18 : decode cX2_hasPlaces 18 = .ok (.getfield 19, 3) := by decide +kernel
theorem dX2_hasPlaces_21 : decode cX2_hasPlaces 21 = .ok (.iload_n 1, 1) := by decide +kernel
theorem dX2_hasPlaces_22 : decode cX2_hasPlaces 22 = .ok (.isub, 1) := by decide +kernel
theorem dX2_hasPlaces_23 : decode cX2_hasPlaces 23 = .ok (.if_icmp .gt 7, 3) := by decide +kernel
theorem dX2_hasPlaces_26 : decode cX2_hasPlaces 26 = .ok (.iconst 1, 1) := by decide +kernel
theorem dX2_hasPlaces_27 : decode cX2_hasPlaces 27 = .ok (.goto 4, 3) := by decide +kernel
theorem dX2_hasPlaces_30 : decode cX2_hasPlaces 30 = .ok (.iconst 0, 1) := by decide +kernel
theorem dX2_hasPlaces_31 : decode cX2_hasPlaces 31 = .ok (.ireturn, 1) := by decide +kernel
theorem dX3_init_0 : decode cX3_init 0 = .ok (.aload_n 0, 1) := by decide +kernel
theorem dX3_init_1 : decode cX3_init 1 = .ok (.invokespecial 1, 3) := by decide +kernel
theorem dX3_init_4 : decode cX3_init 4 = .ok (.aload_n 0, 1) := by decide +kernel
theorem dX3_init_5 : decode cX3_init 5 = .ok (.new 7, 3) := by decide +kernel
theorem dX3_init_8 : decode cX3_init 8 = .ok (.dup, 1) := by decide +kernel
theorem dX3_init_9 : decode cX3_init 9 = .ok (.invokespecial 9, 3) := by decide +kernel
theorem dX3_init_12 : decode cX3_init 12 = .ok (.putfield 10, 3) := by decide +kernel
theorem dX3_init_15 : decode cX3_init 15 = .ok (.aload_n 0, 1) := by decide +kernel
theorem dX3_init_16 : decode cX3_init 16 = .ok (.iconst 0, 1) := by decide +kernel
theorem dX3_init_17 : decode cX3_init 17 = .ok (.putfield 16, 3) := by decide +kernel
theorem dX3_init_20 : decode cX3_init 20 = .ok (.return_, 1) := by decide +kernel
theorem dX3_takeCourse_0 : decode cX3_takeCourse 0 = .ok (.aload_n 0, 1) := by decide +kernel
theorem dX3_takeCourse_1 : decode cX3_takeCourse 1 = .ok (.iconst 1, 1) := by decide +kernel
theorem dX3_takeCourse_2 : decode cX3_takeCourse 2 = .ok (.putfield 16, 3) := by decide +kernel
theorem dX3_takeCourse_5 : decode cX3_takeCourse 5 = .ok (.aload_n 0, 1) := by decide +kernel
theorem dX3_takeCourse_6 : decode cX3_takeCourse 6 = .ok (.iload_n 1, 1) := by decide +kernel
theorem dX3_takeCourse_7 : decode cX3_takeCourse 7 = .ok (.putfield 20, 3) := by decide +kernel
theorem dX3_takeCourse_10 : decode cX3_takeCourse 10 = .ok (.aload_n 0, 1) := by decide +kernel
theorem dX3_takeCourse_11 : decode cX3_takeCourse 11 = .ok (.iload_n 2, 1) := by decide +kernel
theorem dX3_takeCourse_12 : decode cX3_takeCourse 12 = .ok (.putfield 23, 3) := by decide +kernel
theorem dX3_takeCourse_15 : decode cX3_takeCourse 15 = .ok (.return_, 1) := by decide +kernel
theorem dX3_takeSheet_0 : decode cX3_takeSheet 0 = .ok (.aload_n 0, 1) := by decide +kernel
theorem dX3_takeSheet_1 : decode cX3_takeSheet 1 = .ok (.iconst 2, 1) := by decide +kernel
theorem dX3_takeSheet_2 : decode cX3_takeSheet 2 = .ok (.putfield 16, 3) := by decide +kernel
theorem dX3_takeSheet_5 : decode cX3_takeSheet 5 = .ok (.aload_n 0, 1) := by decide +kernel
theorem dX3_takeSheet_6 : decode cX3_takeSheet 6 = .ok (.getfield 10, 3) := by decide +kernel
theorem dX3_takeSheet_9 : decode cX3_takeSheet 9 = .ok (.aload_n 1, 1) := by decide +kernel
theorem dX3_takeSheet_10 : decode cX3_takeSheet 10 = .ok (.invokevirtual 26, 3) := by decide +kernel
theorem dX3_takeSheet_13 : decode cX3_takeSheet 13 = .ok (.return_, 1) := by decide +kernel
theorem dX3_takeNumber_0 : decode cX3_takeNumber 0 = .ok (.aload_n 0, 1) := by decide +kernel
theorem dX3_takeNumber_1 : decode cX3_takeNumber 1 = .ok (.iconst 3, 1) := by decide +kernel
theorem dX3_takeNumber_2 : decode cX3_takeNumber 2 = .ok (.putfield 16, 3) := by decide +kernel
theorem dX3_takeNumber_5 : decode cX3_takeNumber 5 = .ok (.aload_n 0, 1) := by decide +kernel
theorem dX3_takeNumber_6 : decode cX3_takeNumber 6 = .ok (.iload_n 1, 1) := by decide +kernel
theorem dX3_takeNumber_7 : decode cX3_takeNumber 7 = .ok (.putfield 30, 3) := by decide +kernel
theorem dX3_takeNumber_10 : decode cX3_takeNumber 10 = .ok (.return_, 1) := by decide +kernel
theorem dX4_init_0 : decode cX4_init 0 = .ok (.aload_n 0, 1) := by decide +kernel
theorem dX4_init_1 : decode cX4_init 1 = .ok (.invokespecial 3, 3) := by decide +kernel
theorem dX4_init_4 : decode cX4_init 4 = .ok (.aload_n 0, 1) := by decide +kernel
theorem dX4_init_5 : decode cX4_init 5 = .ok (.bipush 96, 2) := by decide +kernel
theorem dX4_init_7 : decode cX4_init 7 = .ok (.newarray .int, 2) := by decide +kernel
theorem dX4_init_9 : decode cX4_init 9 = .ok (.putfield 9, 3) := by decide +kernel
theorem dX4_init_12 : decode cX4_init 12 = .ok (.return_, 1) := by decide +kernel
theorem dX4_add_0 : decode cX4_add 0 = .ok (.bipush 24, 2) := by decide +kernel
theorem dX4_add_2 : decode cX4_add 2 = .ok (.istore_n 2, 1) := by decide +kernel
theorem dX4_add_3 : decode cX4_add 3 = .ok (.iload_n 2, 1) := by decide +kernel
theorem dX4_add_4 : decode cX4_add 4 = .ok (.ifCond .lt 47, 3) := by decide +kernel
theorem dX4_add_7 : decode cX4_add 7 = .ok (.aload_n 0, 1) := by decide +kernel
theorem dX4_add_8 : decode cX4_add 8 = .ok (.getfield 15, 3) := by decide +kernel
theorem dX4_add_11 : decode cX4_add 11 = .ok (.aload_n 0, 1) := by decide +kernel
theorem dX4_add_12 : decode cX4_add 12 = .ok (.getfield 9, 3) := by decide +kernel
theorem dX4_add_15 : decode cX4_add 15 = .ok (.arraylength, 1) := by decide +kernel
theorem dX4_add_16 : decode cX4_add 16 = .ok (.if_icmp .ge 35, 3) := by decide +kernel
theorem dX4_add_19 : decode cX4_add 19 = .ok (.aload_n 0, 1) := by decide +kernel
theorem dX4_add_20 : decode cX4_add 20 = .ok (.getfield 9, 3) := by decide +kernel
theorem dX4_add_23 : decode cX4_add 23 = .ok (.aload_n 0, 1) := by decide +kernel
theorem dX4_add_24 : decode cX4_add 24 = .ok (.getfield 15, 3) := by decide +kernel
theorem dX4_add_27 : decode cX4_add 27 = .ok (.iload_n 1, 1) := by decide +kernel
theorem dX4_add_28 : decode cX4_add 28 = .ok (.iload_n 2, 1) := by decide +kernel
theorem dX4_add_29 : decode cX4_add 29 = .ok (.iushr, 1) := by decide +kernel
theorem dX4_add_30 : decode cX4_add 30 = .ok (.sipush 255, 3) := by decide +kernel
theorem dX4_add_33 : decode cX4_add 33 = .ok (.iand, 1) := by decide +kernel
theorem dX4_add_34 : decode cX4_add 34 = .ok (.iastore, 1) := by decide +kernel
theorem dX4_add_35 : decode cX4_add 35 = .ok (.aload_n 0, 1) := by decide +kernel
theorem dX4_add_36 : decode cX4_add 36 = .ok (.dup, 1) := by decide +kernel
theorem dX4_add_37 : decode cX4_add 37 = .ok (.getfield 15, 3) := by decide +kernel
theorem dX4_add_40 : decode cX4_add 40 = .ok (.iconst 1, 1) := by decide +kernel
theorem dX4_add_41 : decode cX4_add 41 = .ok (.iadd, 1) := by decide +kernel
theorem dX4_add_42 : decode cX4_add 42 = .ok (.putfield 15, 3) := by decide +kernel
theorem dX4_add_45 : decode cX4_add 45 = .ok (.iinc 2 (-8), 3) := by decide +kernel
theorem dX4_add_48 : decode cX4_add 48 = .ok (.goto (-45), 3) := by decide +kernel
theorem dX4_add_51 : decode cX4_add 51 = .ok (.return_, 1) := by decide +kernel
theorem dX5_init_0 : decode cX5_init 0 = .ok (.aload_n 0, 1) := by decide +kernel
theorem dX5_init_1 : decode cX5_init 1 = .ok (.invokespecial 3, 3) := by decide +kernel
theorem dX5_init_4 : decode cX5_init 4 = .ok (.aload_n 0, 1) := by decide +kernel
theorem dX5_init_5 : decode cX5_init 5 = .ok (.bipush 14, 2) := by decide +kernel
theorem dX5_init_7 : decode cX5_init 7 = .ok (.bipush 96, 2) := by decide +kernel
theorem dX5_init_9 : decode cX5_init 9 = .ok (.multianewarray 9 2, 4) := by decide +kernel
theorem dX5_init_13 : decode cX5_init 13 = .ok (.putfield 11, 3) := by decide +kernel
theorem dX5_init_16 : decode cX5_init 16 = .ok (.aload_n 0, 1) := by decide +kernel
theorem dX5_init_17 : decode cX5_init 17 = .ok (.bipush 14, 2) := by decide +kernel
theorem dX5_init_19 : decode cX5_init 19 = .ok (.newarray .int, 2) := by decide +kernel
theorem dX5_init_21 : decode cX5_init 21 = .ok (.putfield 16, 3) := by decide +kernel
theorem dX5_init_24 : decode cX5_init 24 = .ok (.aload_n 0, 1) := by decide +kernel
theorem dX5_init_25 : decode cX5_init 25 = .ok (.bipush 14, 2) := by decide +kernel
theorem dX5_init_27 : decode cX5_init 27 = .ok (.newarray .int, 2) := by decide +kernel
theorem dX5_init_29 : decode cX5_init 29 = .ok (.putfield 20, 3) := by decide +kernel
theorem dX5_init_32 : decode cX5_init 32 = .ok (.aload_n 0, 1) := by decide +kernel
theorem dX5_init_33 : decode cX5_init 33 = .ok (.bipush 14, 2) := by decide +kernel
theorem dX5_init_35 : decode cX5_init 35 = .ok (.newarray .int, 2) := by decide +kernel
theorem dX5_init_37 : decode cX5_init 37 = .ok (.putfield 23, 3) := by decide +kernel
theorem dX5_init_40 : decode cX5_init 40 = .ok (.aload_n 0, 1) := by decide +kernel
theorem dX5_init_41 : decode cX5_init 41 = .ok (.bipush 96, 2) := by decide +kernel
theorem dX5_init_43 : decode cX5_init 43 = .ok (.newarray .int, 2) := by decide +kernel
theorem dX5_init_45 : decode cX5_init 45 = .ok (.putfield 26, 3) := by decide +kernel
theorem dX5_init_48 : decode cX5_init 48 = .ok (.return_, 1) := by decide +kernel
theorem dX5_isName_0 : decode cX5_isName 0 = .ok (.iload_n 1, 1) := by decide +kernel
theorem dX5_isName_1 : decode cX5_isName 1 = .ok (.lookupswitch 87 #[(103, 51), (109, 76), (110, 66), (114, 76), (119, 51)], 51) := by decide +kernel
theorem dX5_isName_52 : decode cX5_isName 52 = .ok (.iload_n 0, 1) := by decide +kernel
theorem dX5_isName_53 : decode cX5_isName 53 = .ok (.ifCond .eq 8, 3) := by decide +kernel
theorem dX5_isName_56 : decode cX5_isName 56 = .ok (.iload_n 0, 1) := by decide +kernel
theorem dX5_isName_57 : decode cX5_isName 57 = .ok (.iconst 2, 1) := by decide +kernel
theorem dX5_isName_58 : decode cX5_isName 58 = .ok (.if_icmp .ne 7, 3) := by decide +kernel
theorem dX5_isName_61 : decode cX5_isName 61 = .ok (.iconst 1, 1) := by decide +kernel
theorem dX5_isName_62 : decode cX5_isName 62 = .ok (.goto 4, 3) := by decide +kernel
theorem dX5_isName_65 : decode cX5_isName 65 = .ok (.iconst 0, 1) := by decide +kernel
theorem dX5_isName_66 : decode cX5_isName 66 = .ok (.ireturn, 1) := by decide +kernel
theorem dX5_isName_67 : decode cX5_isName 67 = .ok (.iload_n 0, 1) := by decide +kernel
theorem dX5_isName_68 : decode cX5_isName 68 = .ok (.ifCond .ne 7, 3) := by decide +kernel
theorem dX5_isName_71 : decode cX5_isName 71 = .ok (.iconst 1, 1) := by decide +kernel
theorem dX5_isName_72 : decode cX5_isName 72 = .ok (.goto 4, 3) := by decide +kernel
theorem dX5_isName_75 : decode cX5_isName 75 = .ok (.iconst 0, 1) := by decide +kernel
theorem dX5_isName_76 : decode cX5_isName 76 = .ok (.ireturn, 1) := by decide +kernel
theorem dX5_isName_77 : decode cX5_isName 77 = .ok (.iload_n 0, 1) := by decide +kernel
theorem dX5_isName_78 : decode cX5_isName 78 = .ok (.iconst 1, 1) := by decide +kernel
theorem dX5_isName_79 : decode cX5_isName 79 = .ok (.if_icmp .ne 7, 3) := by decide +kernel
theorem dX5_isName_82 : decode cX5_isName 82 = .ok (.iconst 1, 1) := by decide +kernel
theorem dX5_isName_83 : decode cX5_isName 83 = .ok (.goto 4, 3) := by decide +kernel
theorem dX5_isName_86 : decode cX5_isName 86 = .ok (.iconst 0, 1) := by decide +kernel
theorem dX5_isName_87 : decode cX5_isName 87 = .ok (.ireturn, 1) := by decide +kernel
theorem dX5_isName_88 : decode cX5_isName 88 = .ok (.iconst 0, 1) := by decide +kernel
theorem dX5_isName_89 : decode cX5_isName 89 = .ok (.ireturn, 1) := by decide +kernel
theorem dX5_store_0 : decode cX5_store 0 = .ok (.iload_n 1, 1) := by decide +kernel
theorem dX5_store_1 : decode cX5_store 1 = .ok (.ifCond .lt 9, 3) := by decide +kernel
theorem dX5_store_4 : decode cX5_store 4 = .ok (.iload_n 1, 1) := by decide +kernel
theorem dX5_store_5 : decode cX5_store 5 = .ok (.bipush 14, 2) := by decide +kernel
theorem dX5_store_7 : decode cX5_store 7 = .ok (.if_icmp .lt 4, 3) := by decide +kernel
theorem dX5_store_10 : decode cX5_store 10 = .ok (.return_, 1) := by decide +kernel
theorem dX5_store_11 : decode cX5_store 11 = .ok (.aload_n 2, 1) := by decide +kernel
theorem dX5_store_12 : decode cX5_store 12 = .ok (.getfield 29, 3) := by decide +kernel
theorem dX5_store_15 : decode cX5_store 15 = .ok (.iconst 0, 1) := by decide +kernel
theorem dX5_store_16 : decode cX5_store 16 = .ok (.aload_n 0, 1) := by decide +kernel
theorem dX5_store_17 : decode cX5_store 17 = .ok (.getfield 11, 3) := by decide +kernel
theorem dX5_store_20 : decode cX5_store 20 = .ok (.iload_n 1, 1) := by decide +kernel
theorem dX5_store_21 : decode cX5_store 21 = .ok (.aaload, 1) := by decide +kernel
theorem dX5_store_22 : decode cX5_store 22 = .ok (.iconst 0, 1) := by decide +kernel
theorem dX5_store_23 : decode cX5_store 23 = .ok (.aload_n 2, 1) := by decide +kernel
theorem dX5_store_24 : decode cX5_store 24 = .ok (.getfield 34, 3) := by decide +kernel
theorem dX5_store_27 : decode cX5_store 27 = .ok (.invokestatic 38, 3) := by decide +kernel
theorem dX5_store_30 : decode cX5_store 30 = .ok (.aload_n 0, 1) := by decide +kernel
theorem dX5_store_31 : decode cX5_store 31 = .ok (.getfield 16, 3) := by decide +kernel
theorem dX5_store_34 : decode cX5_store 34 = .ok (.iload_n 1, 1) := by decide +kernel
theorem dX5_store_35 : decode cX5_store 35 = .ok (.aload_n 2, 1) := by decide +kernel
theorem dX5_store_36 : decode cX5_store 36 = .ok (.getfield 34, 3) := by decide +kernel
theorem dX5_store_39 : decode cX5_store 39 = .ok (.iastore, 1) := by decide +kernel
theorem dX5_store_40 : decode cX5_store 40 = .ok (.aload_n 0, 1) := by decide +kernel
theorem dX5_store_41 : decode cX5_store 41 = .ok (.getfield 20, 3) := by decide +kernel
theorem dX5_store_44 : decode cX5_store 44 = .ok (.iload_n 1, 1) := by decide +kernel
theorem dX5_store_45 : decode cX5_store 45 = .ok (.aload_n 2, 1) := by decide +kernel
theorem dX5_store_46 : decode cX5_store 46 = .ok (.getfield 44, 3) := by decide +kernel
theorem dX5_store_49 : decode cX5_store 49 = .ok (.iastore, 1) := by decide +kernel
theorem dX5_store_50 : decode cX5_store 50 = .ok (.aload_n 0, 1) := by decide +kernel
theorem dX5_store_51 : decode cX5_store 51 = .ok (.getfield 23, 3) := by decide +kernel
theorem dX5_store_54 : decode cX5_store 54 = .ok (.iload_n 1, 1) := by decide +kernel
theorem dX5_store_55 : decode cX5_store 55 = .ok (.aload_n 2, 1) := by decide +kernel
theorem dX5_store_56 : decode cX5_store 56 = .ok (.getfield 46, 3) := by decide +kernel
theorem dX5_store_59 : decode cX5_store 59 = .ok (.iastore, 1) := by decide +kernel
theorem dX5_store_60 : decode cX5_store 60 = .ok (.return_, 1) := by decide +kernel
theorem dX5_gives_0 : decode cX5_gives 0 = .ok (.iload_n 1, 1) := by decide +kernel
theorem dX5_gives_1 : decode cX5_gives 1 = .ok (.ifCond .lt 9, 3) := by decide +kernel
theorem dX5_gives_4 : decode cX5_gives 4 = .ok (.iload_n 1, 1) := by decide +kernel
theorem dX5_gives_5 : decode cX5_gives 5 = .ok (.bipush 14, 2) := by decide +kernel
theorem dX5_gives_7 : decode cX5_gives 7 = .ok (.if_icmp .lt 5, 3) := by decide +kernel
theorem dX5_gives_10 : decode cX5_gives 10 = .ok (.iconst 0, 1) := by decide +kernel
theorem dX5_gives_11 : decode cX5_gives 11 = .ok (.ireturn, 1) := by decide +kernel
theorem dX5_gives_12 : decode cX5_gives 12 = .ok (.aload_n 0, 1) := by decide +kernel
theorem dX5_gives_13 : decode cX5_gives 13 = .ok (.getfield 11, 3) := by decide +kernel
theorem dX5_gives_16 : decode cX5_gives 16 = .ok (.iload_n 1, 1) := by decide +kernel
theorem dX5_gives_17 : decode cX5_gives 17 = .ok (.aaload, 1) := by decide +kernel
theorem dX5_gives_18 : decode cX5_gives 18 = .ok (.astore 4, 2) := by decide +kernel
theorem dX5_gives_20 : decode cX5_gives 20 = .ok (.aload_n 0, 1) := by decide +kernel
theorem dX5_gives_21 : decode cX5_gives 21 = .ok (.iconst 0, 1) := by decide +kernel
theorem dX5_gives_22 : decode cX5_gives 22 = .ok (.putfield 48, 3) := by decide +kernel
theorem dX5_gives_25 : decode cX5_gives 25 = .ok (.iconst 0, 1) := by decide +kernel
theorem dX5_gives_26 : decode cX5_gives 26 = .ok (.istore 5, 2) := by decide +kernel
theorem dX5_gives_28 : decode cX5_gives 28 = .ok (.iload 5, 2) := by decide +kernel
theorem dX5_gives_30 : decode cX5_gives 30 = .ok (.aload_n 0, 1) := by decide +kernel
theorem dX5_gives_31 : decode cX5_gives 31 = .ok (.getfield 16, 3) := by decide +kernel
theorem dX5_gives_34 : decode cX5_gives 34 = .ok (.iload_n 1, 1) := by decide +kernel
theorem dX5_gives_35 : decode cX5_gives 35 = .ok (.iaload, 1) := by decide +kernel
theorem dX5_gives_36 : decode cX5_gives 36 = .ok (.if_icmp .ge 118, 3) := by decide +kernel
theorem dX5_gives_39 : decode cX5_gives 39 = .ok (.iload 5, 2) := by decide +kernel
theorem dX5_gives_41 : decode cX5_gives 41 = .ok (.aload 4, 2) := by decide +kernel
theorem dX5_gives_43 : decode cX5_gives 43 = .ok (.arraylength, 1) := by decide +kernel
theorem dX5_gives_44 : decode cX5_gives 44 = .ok (.if_icmp .ge 110, 3) := by decide +kernel
theorem dX5_gives_47 : decode cX5_gives 47 = .ok (.aload 4, 2) := by decide +kernel
theorem dX5_gives_49 : decode cX5_gives 49 = .ok (.iload 5, 2) := by decide +kernel
theorem dX5_gives_51 : decode cX5_gives 51 = .ok (.iaload, 1) := by decide +kernel
theorem dX5_gives_52 : decode cX5_gives 52 = .ok (.istore 6, 2) := by decide +kernel
theorem dX5_gives_54 : decode cX5_gives 54 = .ok (.iload 6, 2) := by decide +kernel
theorem dX5_gives_56 : decode cX5_gives 56 = .ok (.ifCond .lt 12, 3) := by decide +kernel
theorem dX5_gives_59 : decode cX5_gives 59 = .ok (.aload_n 0, 1) := by decide +kernel
theorem dX5_gives_60 : decode cX5_gives 60 = .ok (.iload 6, 2) := by decide +kernel
theorem dX5_gives_62 : decode cX5_gives 62 = .ok (.invokevirtual 51, 3) := by decide +kernel
theorem dX5_gives_65 : decode cX5_gives 65 = .ok (.goto 83, 3) := by decide +kernel
theorem dX5_gives_68 : decode cX5_gives 68 = .ok (.iload 6, 2) := by decide +kernel
theorem dX5_gives_70 : decode cX5_gives 70 = .ok (.ineg, 1) := by decide +kernel
theorem dX5_gives_71 : decode cX5_gives 71 = .ok (.invokestatic 55, 3) := by decide +kernel
theorem dX5_gives_74 : decode cX5_gives 74 = .ok (.ifCond .eq 18, 3) := by decide +kernel
theorem dX5_gives_77 : decode cX5_gives 77 = .ok (.aload_n 0, 1) := by decide +kernel
theorem dX5_gives_78 : decode cX5_gives 78 = .ok (.iload 6, 2) := by decide +kernel
theorem dX5_gives_80 : decode cX5_gives 80 = .ok (.ineg, 1) := by decide +kernel
theorem dX5_gives_81 : decode cX5_gives 81 = .ok (.aload_n 2, 1) := by decide +kernel
theorem dX5_gives_82 : decode cX5_gives 82 = .ok (.iload_n 3, 1) := by decide +kernel
theorem dX5_gives_83 : decode cX5_gives 83 = .ok (.invokestatic 59, 3) := by decide +kernel
theorem dX5_gives_86 : decode cX5_gives 86 = .ok (.invokevirtual 51, 3) := by decide +kernel
theorem dX5_gives_89 : decode cX5_gives 89 = .ok (.goto 59, 3) := by decide +kernel
theorem dX5_gives_92 : decode cX5_gives 92 = .ok (.iload 6, 2) := by decide +kernel
theorem dX5_gives_94 : decode cX5_gives 94 = .ok (.ineg, 1) := by decide +kernel
theorem dX5_gives_95 : decode cX5_gives 95 = .ok (.bipush 33, 2) := by decide +kernel
theorem dX5_gives_97 : decode cX5_gives 97 = .ok (.if_icmp .ne 25, 3) := by decide +kernel
theorem dX5_gives_100 : decode cX5_gives 100 = .ok (.aload_n 0, 1) := by decide +kernel
theorem dX5_gives_101 : decode cX5_gives 101 = .ok (.aload_n 0, 1) := by decide +kernel
theorem dX5_gives_102 : decode cX5_gives 102 = .ok (.invokevirtual 63, 3) := by decide +kernel
theorem dX5_gives_105 : decode cX5_gives 105 = .ok (.ifCond .ne 7, 3) := by decide +kernel
theorem dX5_gives_108 : decode cX5_gives 108 = .ok (.iconst 1, 1) := by decide +kernel
theorem dX5_gives_109 : decode cX5_gives 109 = .ok (.goto 4, 3) := by decide +kernel
theorem dX5_gives_112 : decode cX5_gives 112 = .ok (.iconst 0, 1) := by decide +kernel
theorem dX5_gives_113 : decode cX5_gives 113 = .ok (.invokestatic 67, 3) := by decide +kernel
theorem dX5_gives_116 : decode cX5_gives 116 = .ok (.invokevirtual 51, 3) := by decide +kernel
theorem dX5_gives_119 : decode cX5_gives 119 = .ok (.goto 29, 3) := by decide +kernel
theorem dX5_gives_122 : decode cX5_gives 122 = .ok (.aload_n 0, 1) := by decide +kernel
theorem dX5_gives_123 : decode cX5_gives 123 = .ok (.invokevirtual 63, 3) := by decide +kernel
theorem dX5_gives_126 : decode cX5_gives 126 = .ok (.istore 7, 2) := by decide +kernel
theorem dX5_gives_128 : decode cX5_gives 128 = .ok (.aload_n 0, 1) := by decide +kernel
theorem dX5_gives_129 : decode cX5_gives 129 = .ok (.invokevirtual 63, 3) := by decide +kernel
theorem dX5_gives_132 : decode cX5_gives 132 = .ok (.istore 8, 2) := by decide +kernel
theorem dX5_gives_134 : decode cX5_gives 134 = .ok (.aload_n 0, 1) := by decide +kernel
theorem dX5_gives_135 : decode cX5_gives 135 = .ok (.iload 6, 2) := by decide +kernel
theorem dX5_gives_137 : decode cX5_gives 137 = .ok (.ineg, 1) := by decide +kernel
theorem dX5_gives_138 : decode cX5_gives 138 = .ok (.iload 8, 2) := by decide +kernel
theorem dX5_gives_140 : decode cX5_gives 140 = .ok (.iload 7, 2) := by decide +kernel
theorem dX5_gives_142 : decode cX5_gives 142 = .ok (.invokestatic 71, 3) := by decide +kernel
theorem dX5_gives_145 : decode cX5_gives 145 = .ok (.invokevirtual 51, 3) := by decide +kernel
theorem dX5_gives_148 : decode cX5_gives 148 = .ok (.iinc 5 1, 3) := by decide +kernel
theorem dX5_gives_151 : decode cX5_gives 151 = .ok (.goto (-123), 3) := by decide +kernel
theorem dX5_gives_154 : decode cX5_gives 154 = .ok (.aload_n 0, 1) := by decide +kernel
theorem dX5_gives_155 : decode cX5_gives 155 = .ok (.invokevirtual 63, 3) := by decide +kernel
theorem dX5_gives_158 : decode cX5_gives 158 = .ok (.ireturn, 1) := by decide +kernel
theorem dX5_isLetter_0 : decode cX5_isLetter 0 = .ok (.iload_n 0, 1) := by decide +kernel
theorem dX5_isLetter_1 : decode cX5_isLetter 1 = .ok (.bipush 97, 2) := by decide +kernel
theorem dX5_isLetter_3 : decode cX5_isLetter 3 = .ok (.if_icmp .lt 13, 3) := by decide +kernel
theorem dX5_isLetter_6 : decode cX5_isLetter 6 = .ok (.iload_n 0, 1) := by decide +kernel
theorem dX5_isLetter_7 : decode cX5_isLetter 7 = .ok (.bipush 122, 2) := by decide +kernel
theorem dX5_isLetter_9 : decode cX5_isLetter 9 = .ok (.if_icmp .gt 7, 3) := by decide +kernel
theorem dX5_isLetter_12 : decode cX5_isLetter 12 = .ok (.iconst 1, 1) := by decide +kernel
theorem dX5_isLetter_13 : decode cX5_isLetter 13 = .ok (.goto 4, 3) := by decide +kernel
theorem dX5_isLetter_16 : decode cX5_isLetter 16 = .ok (.iconst 0, 1) := by decide +kernel
theorem dX5_isLetter_17 : decode cX5_isLetter 17 = .ok (.ireturn, 1) := by decide +kernel
theorem dX5_named_0 : decode cX5_named 0 = .ok (.iload_n 2, 1) := by decide +kernel
theorem dX5_named_1 : decode cX5_named 1 = .ok (.ifCond .lt 13, 3) := by decide +kernel
theorem dX5_named_4 : decode cX5_named 4 = .ok (.iload_n 2, 1) := by decide +kernel
theorem dX5_named_5 : decode cX5_named 5 = .ok (.bipush 12, 2) := by decide +kernel
theorem dX5_named_7 : decode cX5_named 7 = .ok (.if_icmp .ge 7, 3) := by decide +kernel
theorem dX5_named_10 : decode cX5_named 10 = .ok (.iconst 1, 1) := by decide +kernel
theorem dX5_named_11 : decode cX5_named 11 = .ok (.goto 4, 3) := by decide +kernel
theorem dX5_named_14 : decode cX5_named 14 = .ok (.iconst 0, 1) := by decide +kernel
theorem dX5_named_15 : decode cX5_named 15 = .ok (.istore_n 3, 1) := by decide +kernel
theorem dX5_named_16 : decode cX5_named 16 = .ok (.iload_n 0, 1) := by decide +kernel
theorem dX5_named_17 : decode cX5_named 17 = .ok (.lookupswitch 96 #[(103, 51), (109, 91), (110, 81), (114, 86), (119, 66)], 51) := by decide +kernel
theorem dX5_named_68 : decode cX5_named 68 = .ok (.iload_n 3, 1) := by decide +kernel
theorem dX5_named_69 : decode cX5_named 69 = .ok (.ifCond .eq 12, 3) := by decide +kernel
theorem dX5_named_72 : decode cX5_named 72 = .ok (.aload_n 1, 1) := by decide +kernel
theorem dX5_named_73 : decode cX5_named 73 = .ok (.getfield 75, 3) := by decide +kernel
theorem dX5_named_76 : decode cX5_named 76 = .ok (.iload_n 2, 1) := by decide +kernel
theorem dX5_named_77 : decode cX5_named 77 = .ok (.iaload, 1) := by decide +kernel
theorem dX5_named_78 : decode cX5_named 78 = .ok (.goto 4, 3) := by decide +kernel
theorem dX5_named_81 : decode cX5_named 81 = .ok (.iconst 0, 1) := by decide +kernel
theorem dX5_named_82 : decode cX5_named 82 = .ok (.ireturn, 1) := by decide +kernel
theorem dX5_named_83 : decode cX5_named 83 = .ok (.iload_n 3, 1) := by decide +kernel
theorem dX5_named_84 : decode cX5_named 84 = .ok (.ifCond .eq 12, 3) := by decide +kernel
theorem dX5_named_87 : decode cX5_named 87 = .ok (.aload_n 1, 1) := by decide +kernel
theorem dX5_named_88 : decode cX5_named 88 = .ok (.getfield 80, 3) := by decide +kernel
theorem dX5_named_91 : decode cX5_named 91 = .ok (.iload_n 2, 1) := by decide +kernel
theorem dX5_named_92 : decode cX5_named 92 = .ok (.iaload, 1) := by decide +kernel
theorem dX5_named_93 : decode cX5_named 93 = .ok (.goto 4, 3) := by decide +kernel
theorem dX5_named_96 : decode cX5_named 96 = .ok (.iconst 0, 1) := by decide +kernel
theorem dX5_named_97 : decode cX5_named 97 = .ok (.ireturn, 1) := by decide +kernel
theorem dX5_named_98 : decode cX5_named 98 = .ok (.aload_n 1, 1) := by decide +kernel
theorem dX5_named_99 : decode cX5_named 99 = .ok (.getfield 83, 3) := by decide +kernel
theorem dX5_named_102 : decode cX5_named 102 = .ok (.ireturn, 1) := by decide +kernel
theorem dX5_named_103 : decode cX5_named 103 = .ok (.aload_n 1, 1) := by decide +kernel
theorem dX5_named_104 : decode cX5_named 104 = .ok (.getfield 86, 3) := by decide +kernel
theorem dX5_named_107 : decode cX5_named 107 = .ok (.ireturn, 1) := by decide +kernel
theorem dX5_named_108 : decode cX5_named 108 = .ok (.aload_n 1, 1) := by decide +kernel
theorem dX5_named_109 : decode cX5_named 109 = .ok (.getfield 89, 3) := by decide +kernel
theorem dX5_named_112 : decode cX5_named 112 = .ok (.ireturn, 1) := by decide +kernel
theorem dX5_named_113 : decode cX5_named 113 = .ok (.iconst 0, 1) := by decide +kernel
theorem dX5_named_114 : decode cX5_named 114 = .ok (.ireturn, 1) := by decide +kernel
theorem dX5_joined_0 : decode cX5_joined 0 = .ok (.iload_n 0, 1) := by decide +kernel
theorem dX5_joined_1 : decode cX5_joined 1 = .ok (.lookupswitch 183 #[(38, 100), (42, 167), (43, 159), (45, 163), (47, 171), (60, 117), (61, 131), (62, 145), (124, 83)], 83) := by decide +kernel
theorem dX5_joined_84 : decode cX5_joined 84 = .ok (.iload_n 1, 1) := by decide +kernel
theorem dX5_joined_85 : decode cX5_joined 85 = .ok (.ifCond .ne 7, 3) := by decide +kernel
theorem dX5_joined_88 : decode cX5_joined 88 = .ok (.iload_n 2, 1) := by decide +kernel
theorem dX5_joined_89 : decode cX5_joined 89 = .ok (.ifCond .eq 7, 3) := by decide +kernel
theorem dX5_joined_92 : decode cX5_joined 92 = .ok (.iconst 1, 1) := by decide +kernel
theorem dX5_joined_93 : decode cX5_joined 93 = .ok (.goto 4, 3) := by decide +kernel
theorem dX5_joined_96 : decode cX5_joined 96 = .ok (.iconst 0, 1) := by decide +kernel
theorem dX5_joined_97 : decode cX5_joined 97 = .ok (.invokestatic 67, 3) := by decide +kernel
theorem dX5_joined_100 : decode cX5_joined 100 = .ok (.ireturn, 1) := by decide +kernel
theorem dX5_joined_101 : decode cX5_joined 101 = .ok (.iload_n 1, 1) := by decide +kernel
theorem dX5_joined_102 : decode cX5_joined 102 = .ok (.ifCond .eq 11, 3) := by decide +kernel
theorem dX5_joined_105 : decode cX5_joined 105 = .ok (.iload_n 2, 1) := by decide +kernel
theorem dX5_joined_106 : decode cX5_joined 106 = .ok (.ifCond .eq 7, 3) := by decide +kernel
theorem dX5_joined_109 : decode cX5_joined 109 = .ok (.iconst 1, 1) := by decide +kernel
theorem dX5_joined_110 : decode cX5_joined 110 = .ok (.goto 4, 3) := by decide +kernel
theorem dX5_joined_113 : decode cX5_joined 113 = .ok (.iconst 0, 1) := by decide +kernel
theorem dX5_joined_114 : decode cX5_joined 114 = .ok (.invokestatic 67, 3) := by decide +kernel
theorem dX5_joined_117 : decode cX5_joined 117 = .ok (.ireturn, 1) := by decide +kernel
theorem dX5_joined_118 : decode cX5_joined 118 = .ok (.iload_n 1, 1) := by decide +kernel
theorem dX5_joined_119 : decode cX5_joined 119 = .ok (.iload_n 2, 1) := by decide +kernel
theorem dX5_joined_120 : decode cX5_joined 120 = .ok (.if_icmp .ge 7, 3) := by decide +kernel
theorem dX5_joined_123 : decode cX5_joined 123 = .ok (.iconst 1, 1) := by decide +kernel
theorem dX5_joined_124 : decode cX5_joined 124 = .ok (.goto 4, 3) := by decide +kernel
theorem dX5_joined_127 : decode cX5_joined 127 = .ok (.iconst 0, 1) := by decide +kernel
theorem dX5_joined_128 : decode cX5_joined 128 = .ok (.invokestatic 67, 3) := by decide +kernel
theorem dX5_joined_131 : decode cX5_joined 131 = .ok (.ireturn, 1) := by decide +kernel
theorem dX5_joined_132 : decode cX5_joined 132 = .ok (.iload_n 1, 1) := by decide +kernel
theorem dX5_joined_133 : decode cX5_joined 133 = .ok (.iload_n 2, 1) := by decide +kernel
theorem dX5_joined_134 : decode cX5_joined 134 = .ok (.if_icmp .ne 7, 3) := by decide +kernel
theorem dX5_joined_137 : decode cX5_joined 137 = .ok (.iconst 1, 1) := by decide +kernel
theorem dX5_joined_138 : decode cX5_joined 138 = .ok (.goto 4, 3) := by decide +kernel
theorem dX5_joined_141 : decode cX5_joined 141 = .ok (.iconst 0, 1) := by decide +kernel
theorem dX5_joined_142 : decode cX5_joined 142 = .ok (.invokestatic 67, 3) := by decide +kernel
theorem dX5_joined_145 : decode cX5_joined 145 = .ok (.ireturn, 1) := by decide +kernel
theorem dX5_joined_146 : decode cX5_joined 146 = .ok (.iload_n 1, 1) := by decide +kernel
theorem dX5_joined_147 : decode cX5_joined 147 = .ok (.iload_n 2, 1) := by decide +kernel
theorem dX5_joined_148 : decode cX5_joined 148 = .ok (.if_icmp .le 7, 3) := by decide +kernel
theorem dX5_joined_151 : decode cX5_joined 151 = .ok (.iconst 1, 1) := by decide +kernel
theorem dX5_joined_152 : decode cX5_joined 152 = .ok (.goto 4, 3) := by decide +kernel
theorem dX5_joined_155 : decode cX5_joined 155 = .ok (.iconst 0, 1) := by decide +kernel
theorem dX5_joined_156 : decode cX5_joined 156 = .ok (.invokestatic 67, 3) := by decide +kernel
theorem dX5_joined_159 : decode cX5_joined 159 = .ok (.ireturn, 1) := by decide +kernel
theorem dX5_joined_160 : decode cX5_joined 160 = .ok (.iload_n 1, 1) := by decide +kernel
theorem dX5_joined_161 : decode cX5_joined 161 = .ok (.iload_n 2, 1) := by decide +kernel
theorem dX5_joined_162 : decode cX5_joined 162 = .ok (.iadd, 1) := by decide +kernel
theorem dX5_joined_163 : decode cX5_joined 163 = .ok (.ireturn, 1) := by decide +kernel
theorem dX5_joined_164 : decode cX5_joined 164 = .ok (.iload_n 1, 1) := by decide +kernel
theorem dX5_joined_165 : decode cX5_joined 165 = .ok (.iload_n 2, 1) := by decide +kernel
theorem dX5_joined_166 : decode cX5_joined 166 = .ok (.isub, 1) := by decide +kernel
theorem dX5_joined_167 : decode cX5_joined 167 = .ok (.ireturn, 1) := by decide +kernel
theorem dX5_joined_168 : decode cX5_joined 168 = .ok (.iload_n 1, 1) := by decide +kernel
theorem dX5_joined_169 : decode cX5_joined 169 = .ok (.iload_n 2, 1) := by decide +kernel
theorem dX5_joined_170 : decode cX5_joined 170 = .ok (.imul, 1) := by decide +kernel
theorem dX5_joined_171 : decode cX5_joined 171 = .ok (.ireturn, 1) := by decide +kernel
theorem dX5_joined_172 : decode cX5_joined 172 = .ok (.iload_n 2, 1) := by decide +kernel
theorem dX5_joined_173 : decode cX5_joined 173 = .ok (.ifCond .ne 7, 3) := by decide +kernel
theorem dX5_joined_176 : decode cX5_joined 176 = .ok (.iconst 0, 1) := by decide +kernel
theorem dX5_joined_177 : decode cX5_joined 177 = .ok (.goto 6, 3) := by decide +kernel
theorem dX5_joined_180 : decode cX5_joined 180 = .ok (.iload_n 1, 1) := by decide +kernel
theorem dX5_joined_181 : decode cX5_joined 181 = .ok (.iload_n 2, 1) := by decide +kernel
theorem dX5_joined_182 : decode cX5_joined 182 = .ok (.idiv, 1) := by decide +kernel
theorem dX5_joined_183 : decode cX5_joined 183 = .ok (.ireturn, 1) := by decide +kernel
theorem dX5_joined_184 : decode cX5_joined 184 = .ok (.iconst 0, 1) := by decide +kernel
theorem dX5_joined_185 : decode cX5_joined 185 = .ok (.ireturn, 1) := by decide +kernel
theorem dX5_truth_0 : decode cX5_truth 0 = .ok (.iload_n 0, 1) := by decide +kernel
theorem dX5_truth_1 : decode cX5_truth 1 = .ok (.ifCond .eq 7, 3) := by decide +kernel
theorem dX5_truth_4 : decode cX5_truth 4 = .ok (.iconst 1, 1) := by decide +kernel
theorem dX5_truth_5 : decode cX5_truth 5 = .ok (.goto 4, 3) := by decide +kernel
theorem dX5_truth_8 : decode cX5_truth 8 = .ok (.iconst 0, 1) := by decide +kernel
theorem dX5_truth_9 : decode cX5_truth 9 = .ok (.ireturn, 1) := by decide +kernel
theorem dX5_push_0 : decode cX5_push 0 = .ok (.aload_n 0, 1) := by decide +kernel
theorem dX5_push_1 : decode cX5_push 1 = .ok (.getfield 48, 3) := by decide +kernel
theorem dX5_push_4 : decode cX5_push 4 = .ok (.ifCond .lt 35, 3) := by decide +kernel
theorem dX5_push_7 : decode cX5_push 7 = .ok (.aload_n 0, 1) := by decide +kernel
theorem dX5_push_8 : decode cX5_push 8 = .ok (.getfield 48, 3) := by decide +kernel
theorem dX5_push_11 : decode cX5_push 11 = .ok (.aload_n 0, 1) := by decide +kernel
theorem dX5_push_12 : decode cX5_push 12 = .ok (.getfield 26, 3) := by decide +kernel
theorem dX5_push_15 : decode cX5_push 15 = .ok (.arraylength, 1) := by decide +kernel
theorem dX5_push_16 : decode cX5_push 16 = .ok (.if_icmp .ge 23, 3) := by decide +kernel
theorem dX5_push_19 : decode cX5_push 19 = .ok (.aload_n 0, 1) := by decide +kernel
theorem dX5_push_20 : decode cX5_push 20 = .ok (.getfield 26, 3) := by decide +kernel
theorem dX5_push_23 : decode cX5_push 23 = .ok (.aload_n 0, 1) := by decide +kernel
theorem dX5_push_24 : decode cX5_push 24 = .ok (.getfield 48, 3) := by decide +kernel
theorem dX5_push_27 : decode cX5_push 27 = .ok (.iload_n 1, 1) := by decide +kernel
theorem dX5_push_28 : decode cX5_push 28 = .ok (.iastore, 1) := by decide +kernel
theorem dX5_push_29 : decode cX5_push 29 = .ok (.aload_n 0, 1) := by decide +kernel
theorem dX5_push_30 : decode cX5_push 30 = .ok (.dup, 1) := by decide +kernel
theorem dX5_push_31 : decode cX5_push 31 = .ok (.getfield 48, 3) := by decide +kernel
theorem dX5_push_34 : decode cX5_push 34 = .ok (.iconst 1, 1) := by decide +kernel
theorem dX5_push_35 : decode cX5_push 35 = .ok (.iadd, 1) := by decide +kernel
theorem dX5_push_36 : decode cX5_push 36 = .ok (.putfield 48, 3) := by decide +kernel
theorem dX5_push_39 : decode cX5_push 39 = .ok (.return_, 1) := by decide +kernel
theorem dX5_pop_0 : decode cX5_pop 0 = .ok (.aload_n 0, 1) := by decide +kernel
theorem dX5_pop_1 : decode cX5_pop 1 = .ok (.getfield 48, 3) := by decide +kernel
theorem dX5_pop_4 : decode cX5_pop 4 = .ok (.ifCond .le 15, 3) := by decide +kernel
theorem dX5_pop_7 : decode cX5_pop 7 = .ok (.aload_n 0, 1) := by decide +kernel
theorem dX5_pop_8 : decode cX5_pop 8 = .ok (.getfield 48, 3) := by decide +kernel
theorem dX5_pop_11 : decode cX5_pop 11 = .ok (.aload_n 0, 1) := by decide +kernel
theorem dX5_pop_12 : decode cX5_pop 12 = .ok (.getfield 26, 3) := by decide +kernel
theorem dX5_pop_15 : decode cX5_pop 15 = .ok (.arraylength, 1) := by decide +kernel
theorem dX5_pop_16 : decode cX5_pop 16 = .ok (.if_icmp .le 5, 3) := by decide +kernel
theorem dX5_pop_19 : decode cX5_pop 19 = .ok (.iconst 0, 1) := by decide +kernel
theorem dX5_pop_20 : decode cX5_pop 20 = .ok (.ireturn, 1) := by decide +kernel
theorem dX5_pop_21 : decode cX5_pop 21 = .ok (.aload_n 0, 1) := by decide +kernel
theorem dX5_pop_22 : decode cX5_pop 22 = .ok (.dup, 1) := by decide +kernel
theorem dX5_pop_23 : decode cX5_pop 23 = .ok (.getfield 48, 3) := by decide +kernel
theorem dX5_pop_26 : decode cX5_pop 26 = .ok (.iconst 1, 1) := by decide +kernel
theorem dX5_pop_27 : decode cX5_pop 27 = .ok (.isub, 1) := by decide +kernel
theorem dX5_pop_28 : decode cX5_pop 28 = .ok (.putfield 48, 3) := by decide +kernel
theorem dX5_pop_31 : decode cX5_pop 31 = .ok (.aload_n 0, 1) := by decide +kernel
theorem dX5_pop_32 : decode cX5_pop 32 = .ok (.getfield 26, 3) := by decide +kernel
theorem dX5_pop_35 : decode cX5_pop 35 = .ok (.aload_n 0, 1) := by decide +kernel
theorem dX5_pop_36 : decode cX5_pop 36 = .ok (.getfield 48, 3) := by decide +kernel
theorem dX5_pop_39 : decode cX5_pop 39 = .ok (.iaload, 1) := by decide +kernel
theorem dX5_pop_40 : decode cX5_pop 40 = .ok (.ireturn, 1) := by decide +kernel
theorem dX6_init_0 : decode cX6_init 0 = .ok (.aload_n 0, 1) := by decide +kernel
theorem dX6_init_1 : decode cX6_init 1 = .ok (.invokespecial 3, 3) := by decide +kernel
theorem dX6_init_4 : decode cX6_init 4 = .ok (.aload_n 0, 1) := by decide +kernel
theorem dX6_init_5 : decode cX6_init 5 = .ok (.bipush 12, 2) := by decide +kernel
theorem dX6_init_7 : decode cX6_init 7 = .ok (.newarray .int, 2) := by decide +kernel
theorem dX6_init_9 : decode cX6_init 9 = .ok (.putfield 9, 3) := by decide +kernel
theorem dX6_init_12 : decode cX6_init 12 = .ok (.aload_n 0, 1) := by decide +kernel
theorem dX6_init_13 : decode cX6_init 13 = .ok (.bipush 12, 2) := by decide +kernel
theorem dX6_init_15 : decode cX6_init 15 = .ok (.newarray .int, 2) := by decide +kernel
theorem dX6_init_17 : decode cX6_init 17 = .ok (.putfield 15, 3) := by decide +kernel
theorem dX6_init_20 : decode cX6_init 20 = .ok (.aload_n 0, 1) := by decide +kernel
theorem dX6_init_21 : decode cX6_init 21 = .ok (.bipush 12, 2) := by decide +kernel
theorem dX6_init_23 : decode cX6_init 23 = .ok (.newarray .int, 2) := by decide +kernel
theorem dX6_init_25 : decode cX6_init 25 = .ok (.putfield 18, 3) := by decide +kernel
theorem dX6_init_28 : decode cX6_init 28 = .ok (.aload_n 0, 1) := by decide +kernel
theorem dX6_init_29 : decode cX6_init 29 = .ok (.bipush 12, 2) := by decide +kernel
theorem dX6_init_31 : decode cX6_init 31 = .ok (.newarray .int, 2) := by decide +kernel
theorem dX6_init_33 : decode cX6_init 33 = .ok (.putfield 21, 3) := by decide +kernel
theorem dX6_init_36 : decode cX6_init 36 = .ok (.aload_n 0, 1) := by decide +kernel
theorem dX6_init_37 : decode cX6_init 37 = .ok (.iconst 3, 1) := by decide +kernel
theorem dX6_init_38 : decode cX6_init 38 = .ok (.newarray .int, 2) := by decide +kernel
theorem dX6_init_40 : decode cX6_init 40 = .ok (.dup, 1) := by decide +kernel
theorem dX6_init_41 : decode cX6_init 41 = .ok (.iconst 0, 1) := by decide +kernel
theorem dX6_init_42 : decode cX6_init 42 = .ok (.bipush 30, 2) := by decide +kernel
theorem dX6_init_44 : decode cX6_init 44 = .ok (.iastore, 1) := by decide +kernel
theorem dX6_init_45 : decode cX6_init 45 = .ok (.dup, 1) := by decide +kernel
theorem dX6_init_46 : decode cX6_init 46 = .ok (.iconst 1, 1) := by decide +kernel
theorem dX6_init_47 : decode cX6_init 47 = .ok (.bipush 20, 2) := by decide +kernel
theorem dX6_init_49 : decode cX6_init 49 = .ok (.iastore, 1) := by decide +kernel
theorem dX6_init_50 : decode cX6_init 50 = .ok (.dup, 1) := by decide +kernel
theorem dX6_init_51 : decode cX6_init 51 = .ok (.iconst 2, 1) := by decide +kernel
theorem dX6_init_52 : decode cX6_init 52 = .ok (.bipush 20, 2) := by decide +kernel
theorem dX6_init_54 : decode cX6_init 54 = .ok (.iastore, 1) := by decide +kernel
theorem dX6_init_55 : decode cX6_init 55 = .ok (.putfield 24, 3) := by decide +kernel
theorem dX6_init_58 : decode cX6_init 58 = .ok (.aload_n 0, 1) := by decide +kernel
theorem dX6_init_59 : decode cX6_init 59 = .ok (.iconst 3, 1) := by decide +kernel
theorem dX6_init_60 : decode cX6_init 60 = .ok (.newarray .int, 2) := by decide +kernel
theorem dX6_init_62 : decode cX6_init 62 = .ok (.dup, 1) := by decide +kernel
theorem dX6_init_63 : decode cX6_init 63 = .ok (.iconst 0, 1) := by decide +kernel
theorem dX6_init_64 : decode cX6_init 64 = .ok (.iconst (-1), 1) := by decide +kernel
theorem dX6_init_65 : decode cX6_init 65 = .ok (.iastore, 1) := by decide +kernel
theorem dX6_init_66 : decode cX6_init 66 = .ok (.dup, 1) := by decide +kernel
theorem dX6_init_67 : decode cX6_init 67 = .ok (.iconst 1, 1) := by decide +kernel
theorem dX6_init_68 : decode cX6_init 68 = .ok (.iconst (-1), 1) := by decide +kernel
theorem dX6_init_69 : decode cX6_init 69 = .ok (.iastore, 1) := by decide +kernel
theorem dX6_init_70 : decode cX6_init 70 = .ok (.dup, 1) := by decide +kernel
theorem dX6_init_71 : decode cX6_init 71 = .ok (.iconst 2, 1) := by decide +kernel
theorem dX6_init_72 : decode cX6_init 72 = .ok (.iconst (-1), 1) := by decide +kernel
theorem dX6_init_73 : decode cX6_init 73 = .ok (.iastore, 1) := by decide +kernel
theorem dX6_init_74 : decode cX6_init 74 = .ok (.putfield 27, 3) := by decide +kernel
theorem dX6_init_77 : decode cX6_init 77 = .ok (.aload_n 0, 1) := by decide +kernel
theorem dX6_init_78 : decode cX6_init 78 = .ok (.iconst 1, 1) := by decide +kernel
theorem dX6_init_79 : decode cX6_init 79 = .ok (.putfield 30, 3) := by decide +kernel
theorem dX6_init_82 : decode cX6_init 82 = .ok (.aload_n 0, 1) := by decide +kernel
theorem dX6_init_83 : decode cX6_init 83 = .ok (.aload_n 1, 1) := by decide +kernel
theorem dX6_init_84 : decode cX6_init 84 = .ok (.putfield 34, 3) := by decide +kernel
theorem dX6_init_87 : decode cX6_init 87 = .ok (.return_, 1) := by decide +kernel
theorem dX6_become_0 : decode cX6_become 0 = .ok (.aload_n 1, 1) := by decide +kernel
theorem dX6_become_1 : decode cX6_become 1 = .ok (.getfield 9, 3) := by decide +kernel
theorem dX6_become_4 : decode cX6_become 4 = .ok (.iconst 0, 1) := by decide +kernel
theorem dX6_become_5 : decode cX6_become 5 = .ok (.aload_n 0, 1) := by decide +kernel
theorem dX6_become_6 : decode cX6_become 6 = .ok (.getfield 9, 3) := by decide +kernel
theorem dX6_become_9 : decode cX6_become 9 = .ok (.iconst 0, 1) := by decide +kernel
theorem dX6_become_10 : decode cX6_become 10 = .ok (.bipush 12, 2) := by decide +kernel
theorem dX6_become_12 : decode cX6_become 12 = .ok (.invokestatic 38, 3) := by decide +kernel
theorem dX6_become_15 : decode cX6_become 15 = .ok (.aload_n 1, 1) := by decide +kernel
theorem dX6_become_16 : decode cX6_become 16 = .ok (.getfield 15, 3) := by decide +kernel
theorem dX6_become_19 : decode cX6_become 19 = .ok (.iconst 0, 1) := by decide +kernel
theorem dX6_become_20 : decode cX6_become 20 = .ok (.aload_n 0, 1) := by decide +kernel
theorem dX6_become_21 : decode cX6_become 21 = .ok (.getfield 15, 3) := by decide +kernel
theorem dX6_become_24 : decode cX6_become 24 = .ok (.iconst 0, 1) := by decide +kernel
theorem dX6_become_25 : decode cX6_become 25 = .ok (.bipush 12, 2) := by decide +kernel
theorem dX6_become_27 : decode cX6_become 27 = .ok (.invokestatic 38, 3) := by decide +kernel
theorem dX6_become_30 : decode cX6_become 30 = .ok (.aload_n 1, 1) := by decide +kernel
theorem dX6_become_31 : decode cX6_become 31 = .ok (.getfield 18, 3) := by decide +kernel
theorem dX6_become_34 : decode cX6_become 34 = .ok (.iconst 0, 1) := by decide +kernel
theorem dX6_become_35 : decode cX6_become 35 = .ok (.aload_n 0, 1) := by decide +kernel
theorem dX6_become_36 : decode cX6_become 36 = .ok (.getfield 18, 3) := by decide +kernel
theorem dX6_become_39 : decode cX6_become 39 = .ok (.iconst 0, 1) := by decide +kernel
theorem dX6_become_40 : decode cX6_become 40 = .ok (.bipush 12, 2) := by decide +kernel
theorem dX6_become_42 : decode cX6_become 42 = .ok (.invokestatic 38, 3) := by decide +kernel
theorem dX6_become_45 : decode cX6_become 45 = .ok (.aload_n 1, 1) := by decide +kernel
theorem dX6_become_46 : decode cX6_become 46 = .ok (.getfield 21, 3) := by decide +kernel
theorem dX6_become_49 : decode cX6_become 49 = .ok (.iconst 0, 1) := by decide +kernel
theorem dX6_become_50 : decode cX6_become 50 = .ok (.aload_n 0, 1) := by decide +kernel
theorem dX6_become_51 : decode cX6_become 51 = .ok (.getfield 21, 3) := by decide +kernel
theorem dX6_become_54 : decode cX6_become 54 = .ok (.iconst 0, 1) := by decide +kernel
theorem dX6_become_55 : decode cX6_become 55 = .ok (.bipush 12, 2) := by decide +kernel
theorem dX6_become_57 : decode cX6_become 57 = .ok (.invokestatic 38, 3) := by decide +kernel
theorem dX6_become_60 : decode cX6_become 60 = .ok (.aload_n 1, 1) := by decide +kernel
theorem dX6_become_61 : decode cX6_become 61 = .ok (.getfield 24, 3) := by decide +kernel
theorem dX6_become_64 : decode cX6_become 64 = .ok (.iconst 0, 1) := by decide +kernel
theorem dX6_become_65 : decode cX6_become 65 = .ok (.aload_n 0, 1) := by decide +kernel
theorem dX6_become_66 : decode cX6_become 66 = .ok (.getfield 24, 3) := by decide +kernel
theorem dX6_become_69 : decode cX6_become 69 = .ok (.iconst 0, 1) := by decide +kernel
theorem dX6_become_70 : decode cX6_become 70 = .ok (.aload_n 0, 1) := by decide +kernel
theorem dX6_become_71 : decode cX6_become 71 = .ok (.getfield 24, 3) := by decide +kernel
theorem dX6_become_74 : decode cX6_become 74 = .ok (.arraylength, 1) := by decide +kernel
theorem dX6_become_75 : decode cX6_become 75 = .ok (.invokestatic 38, 3) := by decide +kernel
theorem dX6_become_78 : decode cX6_become 78 = .ok (.aload_n 1, 1) := by decide +kernel
theorem dX6_become_79 : decode cX6_become 79 = .ok (.getfield 27, 3) := by decide +kernel
theorem dX6_become_82 : decode cX6_become 82 = .ok (.iconst 0, 1) := by decide +kernel
theorem dX6_become_83 : decode cX6_become 83 = .ok (.aload_n 0, 1) := by decide +kernel
theorem dX6_become_84 : decode cX6_become 84 = .ok (.getfield 27, 3) := by decide +kernel
theorem dX6_become_87 : decode cX6_become 87 = .ok (.iconst 0, 1) := by decide +kernel
theorem dX6_become_88 : decode cX6_become 88 = .ok (.aload_n 0, 1) := by decide +kernel
theorem dX6_become_89 : decode cX6_become 89 = .ok (.getfield 27, 3) := by decide +kernel
theorem dX6_become_92 : decode cX6_become 92 = .ok (.arraylength, 1) := by decide +kernel
theorem dX6_become_93 : decode cX6_become 93 = .ok (.invokestatic 38, 3) := by decide +kernel
theorem dX6_become_96 : decode cX6_become 96 = .ok (.aload_n 0, 1) := by decide +kernel
theorem dX6_become_97 : decode cX6_become 97 = .ok (.aload_n 1, 1) := by decide +kernel
theorem dX6_become_98 : decode cX6_become 98 = .ok (.getfield 44, 3) := by decide +kernel
theorem dX6_become_101 : decode cX6_become 101 = .ok (.putfield 44, 3) := by decide +kernel
theorem dX6_become_104 : decode cX6_become 104 = .ok (.aload_n 0, 1) := by decide +kernel
theorem dX6_become_105 : decode cX6_become 105 = .ok (.aload_n 1, 1) := by decide +kernel
theorem dX6_become_106 : decode cX6_become 106 = .ok (.getfield 47, 3) := by decide +kernel
theorem dX6_become_109 : decode cX6_become 109 = .ok (.putfield 47, 3) := by decide +kernel
theorem dX6_become_112 : decode cX6_become 112 = .ok (.aload_n 0, 1) := by decide +kernel
theorem dX6_become_113 : decode cX6_become 113 = .ok (.aload_n 1, 1) := by decide +kernel
theorem dX6_become_114 : decode cX6_become 114 = .ok (.getfield 50, 3) := by decide +kernel
theorem dX6_become_117 : decode cX6_become 117 = .ok (.putfield 50, 3) := by decide +kernel
theorem dX6_become_120 : decode cX6_become 120 = .ok (.aload_n 0, 1) := by decide +kernel
theorem dX6_become_121 : decode cX6_become 121 = .ok (.aload_n 1, 1) := by decide +kernel
theorem dX6_become_122 : decode cX6_become 122 = .ok (.getfield 53, 3) := by decide +kernel
theorem dX6_become_125 : decode cX6_become 125 = .ok (.putfield 53, 3) := by decide +kernel
theorem dX6_become_128 : decode cX6_become 128 = .ok (.aload_n 0, 1) := by decide +kernel
theorem dX6_become_129 : decode cX6_become 129 = .ok (.aload_n 1, 1) := by decide +kernel
theorem dX6_become_130 : decode cX6_become 130 = .ok (.getfield 56, 3) := by decide +kernel
theorem dX6_become_133 : decode cX6_become 133 = .ok (.putfield 56, 3) := by decide +kernel
theorem dX6_become_136 : decode cX6_become 136 = .ok (.aload_n 0, 1) := by decide +kernel
theorem dX6_become_137 : decode cX6_become 137 = .ok (.aload_n 1, 1) := by decide +kernel
theorem dX6_become_138 : decode cX6_become 138 = .ok (.getfield 30, 3) := by decide +kernel
theorem dX6_become_141 : decode cX6_become 141 = .ok (.putfield 30, 3) := by decide +kernel
theorem dX6_become_144 : decode cX6_become 144 = .ok (.aload_n 0, 1) := by decide +kernel
theorem dX6_become_145 : decode cX6_become 145 = .ok (.aload_n 1, 1) := by decide +kernel
theorem dX6_become_146 : decode cX6_become 146 = .ok (.getfield 59, 3) := by decide +kernel
theorem dX6_become_149 : decode cX6_become 149 = .ok (.putfield 59, 3) := by decide +kernel
theorem dX6_become_152 : decode cX6_become 152 = .ok (.return_, 1) := by decide +kernel
theorem dX6_has_0 : decode cX6_has 0 = .ok (.iload_n 1, 1) := by decide +kernel
theorem dX6_has_1 : decode cX6_has 1 = .ok (.ifCond .lt 15, 3) := by decide +kernel
theorem dX6_has_4 : decode cX6_has 4 = .ok (.iload_n 1, 1) := by decide +kernel
theorem dX6_has_5 : decode cX6_has 5 = .ok (.aload_n 0, 1) := by decide +kernel
theorem dX6_has_6 : decode cX6_has 6 = .ok (.getfield 44, 3) := by decide +kernel
theorem dX6_has_9 : decode cX6_has 9 = .ok (.if_icmp .ge 7, 3) := by decide +kernel
theorem dX6_has_12 : decode cX6_has 12 = .ok (.iconst 1, 1) := by decide +kernel
theorem dX6_has_13 : decode cX6_has 13 = .ok (.goto 4, 3) := by decide +kernel
theorem dX6_has_16 : decode cX6_has 16 = .ok (.iconst 0, 1) := by decide +kernel
theorem dX6_has_17 : decode cX6_has 17 = .ok (.ireturn, 1) := by decide +kernel
theorem dX6_isFull_0 : decode cX6_isFull 0 = .ok (.aload_n 0, 1) := by decide +kernel
theorem dX6_isFull_1 : decode cX6_isFull 1 = .ok (.getfield 44, 3) := by decide +kernel
theorem dX6_isFull_4 : decode cX6_isFull 4 = .ok (.bipush 12, 2) := by decide +kernel
theorem dX6_isFull_6 : decode cX6_isFull 6 = .ok (.if_icmp .lt 7, 3) := by decide +kernel
theorem dX6_isFull_9 : decode cX6_isFull 9 = .ok (.iconst 1, 1) := by decide +kernel
theorem dX6_isFull_10 : decode cX6_isFull 10 = .ok (.goto 4, 3) := by decide +kernel
theorem dX6_isFull_13 : decode cX6_isFull 13 = .ok (.iconst 0, 1) := by decide +kernel
theorem dX6_isFull_14 : decode cX6_isFull 14 = .ok (.ireturn, 1) := by decide +kernel
theorem dX6_add_0 : decode cX6_add 0 = .ok (.aload_n 0, 1) := by decide +kernel
theorem dX6_add_1 : decode cX6_add 1 = .ok (.invokevirtual 62, 3) := by decide +kernel
theorem dX6_add_4 : decode cX6_add 4 = .ok (.ifCond .eq 4, 3) := by decide +kernel
theorem dX6_add_7 : decode cX6_add 7 = .ok (.return_, 1) := by decide +kernel
theorem dX6_add_8 : decode cX6_add 8 = .ok (.aload_n 0, 1) := by decide +kernel
theorem dX6_add_9 : decode cX6_add 9 = .ok (.getfield 9, 3) := by decide +kernel
theorem dX6_add_12 : decode cX6_add 12 = .ok (.aload_n 0, 1) := by decide +kernel
theorem dX6_add_13 : decode cX6_add 13 = .ok (.getfield 44, 3) := by decide +kernel
theorem dX6_add_16 : decode cX6_add 16 = .ok (.iload_n 1, 1) := by decide +kernel
theorem dX6_add_17 : decode cX6_add 17 = .ok (.iastore, 1) := by decide +kernel
theorem dX6_add_18 : decode cX6_add 18 = .ok (.aload_n 0, 1) := by decide +kernel
theorem dX6_add_19 : decode cX6_add 19 = .ok (.getfield 15, 3) := by decide +kernel
theorem dX6_add_22 : decode cX6_add 22 = .ok (.aload_n 0, 1) := by decide +kernel
theorem dX6_add_23 : decode cX6_add 23 = .ok (.getfield 44, 3) := by decide +kernel
theorem dX6_add_26 : decode cX6_add 26 = .ok (.iload_n 2, 1) := by decide +kernel
theorem dX6_add_27 : decode cX6_add 27 = .ok (.iastore, 1) := by decide +kernel
theorem dX6_add_28 : decode cX6_add 28 = .ok (.aload_n 0, 1) := by decide +kernel
theorem dX6_add_29 : decode cX6_add 29 = .ok (.getfield 18, 3) := by decide +kernel
theorem dX6_add_32 : decode cX6_add 32 = .ok (.aload_n 0, 1) := by decide +kernel
theorem dX6_add_33 : decode cX6_add 33 = .ok (.getfield 44, 3) := by decide +kernel
theorem dX6_add_36 : decode cX6_add 36 = .ok (.iconst 0, 1) := by decide +kernel
theorem dX6_add_37 : decode cX6_add 37 = .ok (.iastore, 1) := by decide +kernel
theorem dX6_add_38 : decode cX6_add 38 = .ok (.aload_n 0, 1) := by decide +kernel
theorem dX6_add_39 : decode cX6_add 39 = .ok (.getfield 21, 3) := by decide +kernel
theorem dX6_add_42 : decode cX6_add 42 = .ok (.aload_n 0, 1) := by decide +kernel
theorem dX6_add_43 : decode cX6_add 43 = .ok (.getfield 44, 3) := by decide +kernel
theorem dX6_add_46 : decode cX6_add 46 = .ok (.iload_n 3, 1) := by decide +kernel
theorem dX6_add_47 : decode cX6_add 47 = .ok (.iastore, 1) := by decide +kernel
theorem dX6_add_48 : decode cX6_add 48 = .ok (.aload_n 0, 1) := by decide +kernel
theorem dX6_add_49 : decode cX6_add 49 = .ok (.dup, 1) := by decide +kernel
theorem dX6_add_50 : decode cX6_add 50 = .ok (.getfield 44, 3) := by decide +kernel
theorem dX6_add_53 : decode cX6_add 53 = .ok (.iconst 1, 1) := by decide +kernel
theorem dX6_add_54 : decode cX6_add 54 = .ok (.iadd, 1) := by decide +kernel
theorem dX6_add_55 : decode cX6_add 55 = .ok (.putfield 44, 3) := by decide +kernel
theorem dX6_add_58 : decode cX6_add 58 = .ok (.return_, 1) := by decide +kernel
theorem dX6_addText_0 : decode cX6_addText 0 = .ok (.iload_n 1, 1) := by decide +kernel
theorem dX6_addText_1 : decode cX6_addText 1 = .ok (.ifCond .lt 22, 3) := by decide +kernel
theorem dX6_addText_4 : decode cX6_addText 4 = .ok (.iload_n 1, 1) := by decide +kernel
theorem dX6_addText_5 : decode cX6_addText 5 = .ok (.aload_n 0, 1) := by decide +kernel
theorem dX6_addText_6 : decode cX6_addText 6 = .ok (.getfield 27, 3) := by decide +kernel
theorem dX6_addText_9 : decode cX6_addText 9 = .ok (.arraylength, 1) := by decide +kernel
theorem dX6_addText_10 : decode cX6_addText 10 = .ok (.if_icmp .ge 13, 3) := by decide +kernel
theorem dX6_addText_13 : decode cX6_addText 13 = .ok (.aload_n 0, 1) := by decide +kernel
theorem dX6_addText_14 : decode cX6_addText 14 = .ok (.getfield 27, 3) := by decide +kernel
theorem dX6_addText_17 : decode cX6_addText 17 = .ok (.iload_n 1, 1) := by decide +kernel
theorem dX6_addText_18 : decode cX6_addText 18 = .ok (.aload_n 0, 1) := by decide +kernel
theorem dX6_addText_19 : decode cX6_addText 19 = .ok (.getfield 59, 3) := by decide +kernel
theorem dX6_addText_22 : decode cX6_addText 22 = .ok (.iastore, 1) := by decide +kernel
theorem dX6_addText_23 : decode cX6_addText 23 = .ok (.aload_n 0, 1) := by decide +kernel
theorem dX6_addText_24 : decode cX6_addText 24 = .ok (.dup, 1) := by decide +kernel
theorem dX6_addText_25 : decode cX6_addText 25 = .ok (.getfield 59, 3) := by decide +kernel
theorem dX6_addText_28 : decode cX6_addText 28 = .ok (.iconst 1, 1) := by decide +kernel
theorem dX6_addText_29 : decode cX6_addText 29 = .ok (.iadd, 1) := by decide +kernel
theorem dX6_addText_30 : decode cX6_addText 30 = .ok (.putfield 59, 3) := by decide +kernel
theorem dX6_addText_33 : decode cX6_addText 33 = .ok (.aload_n 0, 1) := by decide +kernel
theorem dX6_addText_34 : decode cX6_addText 34 = .ok (.getfield 59, 3) := by decide +kernel
theorem dX6_addText_37 : decode cX6_addText 37 = .ok (.iconst 1, 1) := by decide +kernel
theorem dX6_addText_38 : decode cX6_addText 38 = .ok (.isub, 1) := by decide +kernel
theorem dX6_addText_39 : decode cX6_addText 39 = .ok (.ireturn, 1) := by decide +kernel
theorem dX6_drawCourse_0 : decode cX6_drawCourse 0 = .ok (.aload_n 0, 1) := by decide +kernel
theorem dX6_drawCourse_1 : decode cX6_drawCourse 1 = .ok (.invokevirtual 66, 3) := by decide +kernel
theorem dX6_drawCourse_4 : decode cX6_drawCourse 4 = .ok (.bipush 6, 2) := by decide +kernel
theorem dX6_drawCourse_6 : decode cX6_drawCourse 6 = .ok (.irem, 1) := by decide +kernel
theorem dX6_drawCourse_7 : decode cX6_drawCourse 7 = .ok (.istore_n 1, 1) := by decide +kernel
theorem dX6_drawCourse_8 : decode cX6_drawCourse 8 = .ok (.iconst 1, 1) := by decide +kernel
theorem dX6_drawCourse_9 : decode cX6_drawCourse 9 = .ok (.aload_n 0, 1) := by decide +kernel
theorem dX6_drawCourse_10 : decode cX6_drawCourse 10 = .ok (.invokevirtual 66, 3) := by decide +kernel
theorem dX6_drawCourse_13 : decode cX6_drawCourse 13 = .ok (.bipush 9, 2) := by decide +kernel
theorem dX6_drawCourse_15 : decode cX6_drawCourse 15 = .ok (.irem, 1) := by decide +kernel
theorem dX6_drawCourse_16 : decode cX6_drawCourse 16 = .ok (.iadd, 1) := by decide +kernel
theorem dX6_drawCourse_17 : decode cX6_drawCourse 17 = .ok (.istore_n 2, 1) := by decide +kernel
theorem dX6_drawCourse_18 : decode cX6_drawCourse 18 = .ok (.aload_n 0, 1) := by decide +kernel
theorem dX6_drawCourse_19 : decode cX6_drawCourse 19 = .ok (.invokevirtual 66, 3) := by decide +kernel
theorem dX6_drawCourse_22 : decode cX6_drawCourse 22 = .ok (.istore_n 3, 1) := by decide +kernel
theorem dX6_drawCourse_23 : decode cX6_drawCourse 23 = .ok (.aload_n 0, 1) := by decide +kernel
theorem dX6_drawCourse_24 : decode cX6_drawCourse 24 = .ok (.invokevirtual 66, 3) := by decide +kernel
theorem dX6_drawCourse_27 : decode cX6_drawCourse 27 = .ok (.istore 4, 2) := by decide +kernel
theorem dX6_drawCourse_29 : decode cX6_drawCourse 29 = .ok (.aload_n 0, 1) := by decide +kernel
theorem dX6_drawCourse_30 : decode cX6_drawCourse 30 = .ok (.iload_n 1, 1) := by decide +kernel
theorem dX6_drawCourse_31 : decode cX6_drawCourse 31 = .ok (.iload_n 2, 1) := by decide +kernel
theorem dX6_drawCourse_32 : decode cX6_drawCourse 32 = .ok (.iload_n 3, 1) := by decide +kernel
theorem dX6_drawCourse_33 : decode cX6_drawCourse 33 = .ok (.iload 4, 2) := by decide +kernel
theorem dX6_drawCourse_35 : decode cX6_drawCourse 35 = .ok (.iand, 1) := by decide +kernel
theorem dX6_drawCourse_36 : decode cX6_drawCourse 36 = .ok (.sipush 255, 3) := by decide +kernel
theorem dX6_drawCourse_39 : decode cX6_drawCourse 39 = .ok (.iand, 1) := by decide +kernel
theorem dX6_drawCourse_40 : decode cX6_drawCourse 40 = .ok (.invokevirtual 72, 3) := by decide +kernel
theorem dX6_drawCourse_43 : decode cX6_drawCourse 43 = .ok (.return_, 1) := by decide +kernel
theorem dX6_holding_0 : decode cX6_holding 0 = .ok (.sipush 255, 3) := by decide +kernel
theorem dX6_holding_3 : decode cX6_holding 3 = .ok (.istore_n 2, 1) := by decide +kernel
theorem dX6_holding_4 : decode cX6_holding 4 = .ok (.iconst 0, 1) := by decide +kernel
theorem dX6_holding_5 : decode cX6_holding 5 = .ok (.istore_n 3, 1) := by decide +kernel
theorem dX6_holding_6 : decode cX6_holding 6 = .ok (.iload_n 3, 1) := by decide +kernel
theorem dX6_holding_7 : decode cX6_holding 7 = .ok (.iload_n 1, 1) := by decide +kernel
theorem dX6_holding_8 : decode cX6_holding 8 = .ok (.if_icmp .gt 24, 3) := by decide +kernel
theorem dX6_holding_11 : decode cX6_holding 11 = .ok (.iload_n 3, 1) := by decide +kernel
theorem dX6_holding_12 : decode cX6_holding 12 = .ok (.aload_n 0, 1) := by decide +kernel
theorem dX6_holding_13 : decode cX6_holding 13 = .ok (.getfield 44, 3) := by decide +kernel
theorem dX6_holding_16 : decode cX6_holding 16 = .ok (.if_icmp .ge 16, 3) := by decide +kernel
theorem dX6_holding_19 : decode cX6_holding 19 = .ok (.aload_n 0, 1) := by decide +kernel
theorem dX6_holding_20 : decode cX6_holding 20 = .ok (.iload_n 3, 1) := by decide +kernel
theorem dX6_holding_21 : decode cX6_holding 21 = .ok (.iload_n 2, 1) := by decide +kernel
theorem dX6_holding_22 : decode cX6_holding 22 = .ok (.invokevirtual 76, 3) := by decide +kernel
theorem dX6_holding_25 : decode cX6_holding 25 = .ok (.istore_n 2, 1) := by decide +kernel
theorem dX6_holding_26 : decode cX6_holding 26 = .ok (.iinc 3 1, 3) := by decide +kernel
theorem dX6_holding_29 : decode cX6_holding 29 = .ok (.goto (-23), 3) := by decide +kernel
theorem dX6_holding_32 : decode cX6_holding 32 = .ok (.iload_n 2, 1) := by decide +kernel
theorem dX6_holding_33 : decode cX6_holding 33 = .ok (.ireturn, 1) := by decide +kernel
theorem dX6_holdingOn_0 : decode cX6_holdingOn 0 = .ok (.aload_n 0, 1) := by decide +kernel
theorem dX6_holdingOn_1 : decode cX6_holdingOn 1 = .ok (.getfield 9, 3) := by decide +kernel
theorem dX6_holdingOn_4 : decode cX6_holdingOn 4 = .ok (.iload_n 1, 1) := by decide +kernel
theorem dX6_holdingOn_5 : decode cX6_holdingOn 5 = .ok (.iaload, 1) := by decide +kernel
theorem dX6_holdingOn_6 : decode cX6_holdingOn 6 = .ok (.iload_n 2, 1) := by decide +kernel
theorem dX6_holdingOn_7 : decode cX6_holdingOn 7 = .ok (.invokestatic 80, 3) := by decide +kernel
theorem dX6_holdingOn_10 : decode cX6_holdingOn 10 = .ok (.aload_n 0, 1) := by decide +kernel
theorem dX6_holdingOn_11 : decode cX6_holdingOn 11 = .ok (.getfield 21, 3) := by decide +kernel
theorem dX6_holdingOn_14 : decode cX6_holdingOn 14 = .ok (.iload_n 1, 1) := by decide +kernel
theorem dX6_holdingOn_15 : decode cX6_holdingOn 15 = .ok (.iaload, 1) := by decide +kernel
theorem dX6_holdingOn_16 : decode cX6_holdingOn 16 = .ok (.iconst (-1), 1) := by decide +kernel
theorem dX6_holdingOn_17 : decode cX6_holdingOn 17 = .ok (.ixor, 1) := by decide +kernel
theorem dX6_holdingOn_18 : decode cX6_holdingOn 18 = .ok (.iand, 1) := by decide +kernel
theorem dX6_holdingOn_19 : decode cX6_holdingOn 19 = .ok (.ireturn, 1) := by decide +kernel
theorem dX6_held_0 : decode cX6_held 0 = .ok (.aload_n 0, 1) := by decide +kernel
theorem dX6_held_1 : decode cX6_held 1 = .ok (.iconst 0, 1) := by decide +kernel
theorem dX6_held_2 : decode cX6_held 2 = .ok (.iconst 0, 1) := by decide +kernel
theorem dX6_held_3 : decode cX6_held 3 = .ok (.invokevirtual 83, 3) := by decide +kernel
theorem dX6_held_6 : decode cX6_held 6 = .ok (.ireturn, 1) := by decide +kernel
theorem dX6_heldWithout_0 : decode cX6_heldWithout 0 = .ok (.sipush 255, 3) := by decide +kernel
theorem dX6_heldWithout_3 : decode cX6_heldWithout 3 = .ok (.istore_n 3, 1) := by decide +kernel
theorem dX6_heldWithout_4 : decode cX6_heldWithout 4 = .ok (.iconst 0, 1) := by decide +kernel
theorem dX6_heldWithout_5 : decode cX6_heldWithout 5 = .ok (.istore 4, 2) := by decide +kernel
theorem dX6_heldWithout_7 : decode cX6_heldWithout 7 = .ok (.iconst 0, 1) := by decide +kernel
theorem dX6_heldWithout_8 : decode cX6_heldWithout 8 = .ok (.istore 5, 2) := by decide +kernel
theorem dX6_heldWithout_10 : decode cX6_heldWithout 10 = .ok (.iload 5, 2) := by decide +kernel
theorem dX6_heldWithout_12 : decode cX6_heldWithout 12 = .ok (.aload_n 0, 1) := by decide +kernel
theorem dX6_heldWithout_13 : decode cX6_heldWithout 13 = .ok (.getfield 44, 3) := by decide +kernel
theorem dX6_heldWithout_16 : decode cX6_heldWithout 16 = .ok (.if_icmp .ge 38, 3) := by decide +kernel
theorem dX6_heldWithout_19 : decode cX6_heldWithout 19 = .ok (.aload_n 0, 1) := by decide +kernel
theorem dX6_heldWithout_20 : decode cX6_heldWithout 20 = .ok (.iload 5, 2) := by decide +kernel
theorem dX6_heldWithout_22 : decode cX6_heldWithout 22 = .ok (.iload_n 3, 1) := by decide +kernel
theorem dX6_heldWithout_23 : decode cX6_heldWithout 23 = .ok (.invokevirtual 76, 3) := by decide +kernel
theorem dX6_heldWithout_26 : decode cX6_heldWithout 26 = .ok (.istore_n 3, 1) := by decide +kernel
theorem dX6_heldWithout_27 : decode cX6_heldWithout 27 = .ok (.iload 5, 2) := by decide +kernel
theorem dX6_heldWithout_29 : decode cX6_heldWithout 29 = .ok (.iload_n 1, 1) := by decide +kernel
theorem dX6_heldWithout_30 : decode cX6_heldWithout 30 = .ok (.if_icmp .ne 9, 3) := by decide +kernel
theorem dX6_heldWithout_33 : decode cX6_heldWithout 33 = .ok (.iload_n 3, 1) := by decide +kernel
theorem dX6_heldWithout_34 : decode cX6_heldWithout 34 = .ok (.iload_n 2, 1) := by decide +kernel
theorem dX6_heldWithout_35 : decode cX6_heldWithout 35 = .ok (.iconst (-1), 1) := by decide +kernel
theorem dX6_heldWithout_36 : decode cX6_heldWithout 36 = .ok (.ixor, 1) := by decide +kernel
theorem dX6_heldWithout_37 : decode cX6_heldWithout 37 = .ok (.iand, 1) := by decide +kernel
theorem dX6_heldWithout_38 : decode cX6_heldWithout 38 = .ok (.istore_n 3, 1) := by decide +kernel
theorem dX6_heldWithout_39 : decode cX6_heldWithout 39 = .ok (.iload 4, 2) := by decide +kernel
theorem dX6_heldWithout_41 : decode cX6_heldWithout 41 = .ok (.iload_n 3, 1) := by decide +kernel
theorem dX6_heldWithout_42 : decode cX6_heldWithout 42 = .ok (.invokestatic 86, 3) := by decide +kernel
theorem dX6_heldWithout_45 : decode cX6_heldWithout 45 = .ok (.iadd, 1) := by decide +kernel
theorem dX6_heldWithout_46 : decode cX6_heldWithout 46 = .ok (.istore 4, 2) := by decide +kernel
theorem dX6_heldWithout_48 : decode cX6_heldWithout 48 = .ok (.iinc 5 1, 3) := by decide +kernel
theorem dX6_heldWithout_51 : decode cX6_heldWithout 51 = .ok (.goto (-41), 3) := by decide +kernel
theorem dX6_heldWithout_54 : decode cX6_heldWithout 54 = .ok (.iload 4, 2) := by decide +kernel
theorem dX6_heldWithout_56 : decode cX6_heldWithout 56 = .ok (.ireturn, 1) := by decide +kernel
theorem dX6_lostLoops_0 : decode cX6_lostLoops 0 = .ok (.iconst 0, 1) := by decide +kernel
theorem dX6_lostLoops_1 : decode cX6_lostLoops 1 = .ok (.istore_n 1, 1) := by decide +kernel
theorem dX6_lostLoops_2 : decode cX6_lostLoops 2 = .ok (.iconst 0, 1) := by decide +kernel
theorem dX6_lostLoops_3 : decode cX6_lostLoops 3 = .ok (.istore_n 2, 1) := by decide +kernel
theorem dX6_lostLoops_4 : decode cX6_lostLoops 4 = .ok (.iload_n 2, 1) := by decide +kernel
theorem dX6_lostLoops_5 : decode cX6_lostLoops 5 = .ok (.aload_n 0, 1) := by decide +kernel
theorem dX6_lostLoops_6 : decode cX6_lostLoops 6 = .ok (.getfield 44, 3) := by decide +kernel
theorem dX6_lostLoops_9 : decode cX6_lostLoops 9 = .ok (.if_icmp .ge 21, 3) := by decide +kernel
theorem dX6_lostLoops_12 : decode cX6_lostLoops 12 = .ok (.iload_n 1, 1) := by decide +kernel
theorem dX6_lostLoops_13 : decode cX6_lostLoops 13 = .ok (.aload_n 0, 1) := by decide +kernel
theorem dX6_lostLoops_14 : decode cX6_lostLoops 14 = .ok (.getfield 21, 3) := by decide +kernel
theorem dX6_lostLoops_17 : decode cX6_lostLoops 17 = .ok (.iload_n 2, 1) := by decide +kernel
theorem dX6_lostLoops_18 : decode cX6_lostLoops 18 = .ok (.iaload, 1) := by decide +kernel
theorem dX6_lostLoops_19 : decode cX6_lostLoops 19 = .ok (.invokestatic 86, 3) := by decide +kernel
theorem dX6_lostLoops_22 : decode cX6_lostLoops 22 = .ok (.iadd, 1) := by decide +kernel
theorem dX6_lostLoops_23 : decode cX6_lostLoops 23 = .ok (.istore_n 1, 1) := by decide +kernel
theorem dX6_lostLoops_24 : decode cX6_lostLoops 24 = .ok (.iinc 2 1, 3) := by decide +kernel
theorem dX6_lostLoops_27 : decode cX6_lostLoops 27 = .ok (.goto (-23), 3) := by decide +kernel
theorem dX6_lostLoops_30 : decode cX6_lostLoops 30 = .ok (.iload_n 1, 1) := by decide +kernel
theorem dX6_lostLoops_31 : decode cX6_lostLoops 31 = .ok (.ireturn, 1) := by decide +kernel
theorem dX6_lostBelow_0 : decode cX6_lostBelow 0 = .ok (.iconst 1, 1) := by decide +kernel
theorem dX6_lostBelow_1 : decode cX6_lostBelow 1 = .ok (.iload_n 2, 1) := by decide +kernel
theorem dX6_lostBelow_2 : decode cX6_lostBelow 2 = .ok (.ishl, 1) := by decide +kernel
theorem dX6_lostBelow_3 : decode cX6_lostBelow 3 = .ok (.istore_n 3, 1) := by decide +kernel
theorem dX6_lostBelow_4 : decode cX6_lostBelow 4 = .ok (.iconst 0, 1) := by decide +kernel
theorem dX6_lostBelow_5 : decode cX6_lostBelow 5 = .ok (.istore 4, 2) := by decide +kernel
theorem dX6_lostBelow_7 : decode cX6_lostBelow 7 = .ok (.iload_n 1, 1) := by decide +kernel
theorem dX6_lostBelow_8 : decode cX6_lostBelow 8 = .ok (.istore 5, 2) := by decide +kernel
theorem dX6_lostBelow_10 : decode cX6_lostBelow 10 = .ok (.iload 5, 2) := by decide +kernel
theorem dX6_lostBelow_12 : decode cX6_lostBelow 12 = .ok (.ifCond .lt 38, 3) := by decide +kernel
theorem dX6_lostBelow_15 : decode cX6_lostBelow 15 = .ok (.iload 4, 2) := by decide +kernel
theorem dX6_lostBelow_17 : decode cX6_lostBelow 17 = .ok (.iload_n 3, 1) := by decide +kernel
theorem dX6_lostBelow_18 : decode cX6_lostBelow 18 = .ok (.aload_n 0, 1) := by decide +kernel
theorem dX6_lostBelow_19 : decode cX6_lostBelow 19 = .ok (.getfield 21, 3) := by decide +kernel
theorem dX6_lostBelow_22 : decode cX6_lostBelow 22 = .ok (.iload 5, 2) := by decide +kernel
theorem dX6_lostBelow_24 : decode cX6_lostBelow 24 = .ok (.iaload, 1) := by decide +kernel
theorem dX6_lostBelow_25 : decode cX6_lostBelow 25 = .ok (.iand, 1) := by decide +kernel
theorem dX6_lostBelow_26 : decode cX6_lostBelow 26 = .ok (.invokestatic 86, 3) := by decide +kernel
theorem dX6_lostBelow_29 : decode cX6_lostBelow 29 = .ok (.iadd, 1) := by decide +kernel
theorem dX6_lostBelow_30 : decode cX6_lostBelow 30 = .ok (.istore 4, 2) := by decide +kernel
theorem dX6_lostBelow_32 : decode cX6_lostBelow 32 = .ok (.aload_n 0, 1) := by decide +kernel
theorem dX6_lostBelow_33 : decode cX6_lostBelow 33 = .ok (.getfield 9, 3) := by decide +kernel
theorem dX6_lostBelow_36 : decode cX6_lostBelow 36 = .ok (.iload 5, 2) := by decide +kernel
theorem dX6_lostBelow_38 : decode cX6_lostBelow 38 = .ok (.iaload, 1) := by decide +kernel
theorem dX6_lostBelow_39 : decode cX6_lostBelow 39 = .ok (.iload_n 3, 1) := by decide +kernel
theorem dX6_lostBelow_40 : decode cX6_lostBelow 40 = .ok (.invokestatic 92, 3) := by decide +kernel
theorem dX6_lostBelow_43 : decode cX6_lostBelow 43 = .ok (.istore_n 3, 1) := by decide +kernel
theorem dX6_lostBelow_44 : decode cX6_lostBelow 44 = .ok (.iinc 5 (-1), 3) := by decide +kernel
theorem dX6_lostBelow_47 : decode cX6_lostBelow 47 = .ok (.goto (-37), 3) := by decide +kernel
theorem dX6_lostBelow_50 : decode cX6_lostBelow 50 = .ok (.iload 4, 2) := by decide +kernel
theorem dX6_lostBelow_52 : decode cX6_lostBelow 52 = .ok (.ireturn, 1) := by decide +kernel
theorem dX6_wears_0 : decode cX6_wears 0 = .ok (.aload_n 0, 1) := by decide +kernel
theorem dX6_wears_1 : decode cX6_wears 1 = .ok (.getfield 27, 3) := by decide +kernel
theorem dX6_wears_4 : decode cX6_wears 4 = .ok (.iconst 0, 1) := by decide +kernel
theorem dX6_wears_5 : decode cX6_wears 5 = .ok (.iaload, 1) := by decide +kernel
theorem dX6_wears_6 : decode cX6_wears 6 = .ok (.istore_n 2, 1) := by decide +kernel
theorem dX6_wears_7 : decode cX6_wears 7 = .ok (.iload_n 2, 1) := by decide +kernel
theorem dX6_wears_8 : decode cX6_wears 8 = .ok (.ifCond .ge 8, 3) := by decide +kernel
theorem dX6_wears_11 : decode cX6_wears 11 = .ok (.bipush 6, 2) := by decide +kernel
theorem dX6_wears_13 : decode cX6_wears 13 = .ok (.goto 18, 3) := by decide +kernel
theorem dX6_wears_16 : decode cX6_wears 16 = .ok (.aload_n 0, 1) := by decide +kernel
theorem dX6_wears_17 : decode cX6_wears 17 = .ok (.getfield 34, 3) := by decide +kernel
theorem dX6_wears_20 : decode cX6_wears 20 = .ok (.iload_n 2, 1) := by decide +kernel
theorem dX6_wears_21 : decode cX6_wears 21 = .ok (.aload_n 0, 1) := by decide +kernel
theorem dX6_wears_22 : decode cX6_wears 22 = .ok (.iload_n 1, 1) := by decide +kernel
theorem dX6_wears_23 : decode cX6_wears 23 = .ok (.invokevirtual 97, 3) := by decide +kernel
theorem dX6_wears_26 : decode cX6_wears 26 = .ok (.bipush 99, 2) := by decide +kernel
theorem dX6_wears_28 : decode cX6_wears 28 = .ok (.invokestatic 101, 3) := by decide +kernel
theorem dX6_wears_31 : decode cX6_wears 31 = .ok (.istore_n 3, 1) := by decide +kernel
theorem dX6_wears_32 : decode cX6_wears 32 = .ok (.aload_n 0, 1) := by decide +kernel
theorem dX6_wears_33 : decode cX6_wears 33 = .ok (.getfield 9, 3) := by decide +kernel
theorem dX6_wears_36 : decode cX6_wears 36 = .ok (.iload_n 1, 1) := by decide +kernel
theorem dX6_wears_37 : decode cX6_wears 37 = .ok (.iaload, 1) := by decide +kernel
theorem dX6_wears_38 : decode cX6_wears 38 = .ok (.iload_n 3, 1) := by decide +kernel
theorem dX6_wears_39 : decode cX6_wears 39 = .ok (.invokestatic 104, 3) := by decide +kernel
theorem dX6_wears_42 : decode cX6_wears 42 = .ok (.ireturn, 1) := by decide +kernel
theorem dX6_passNights_0 : decode cX6_passNights 0 = .ok (.iconst 0, 1) := by decide +kernel
theorem dX6_passNights_1 : decode cX6_passNights 1 = .ok (.istore_n 2, 1) := by decide +kernel
theorem dX6_passNights_2 : decode cX6_passNights 2 = .ok (.iload_n 2, 1) := by decide +kernel
theorem dX6_passNights_3 : decode cX6_passNights 3 = .ok (.iload_n 1, 1) := by decide +kernel
theorem dX6_passNights_4 : decode cX6_passNights 4 = .ok (.if_icmp .ge 13, 3) := by decide +kernel
theorem dX6_passNights_7 : decode cX6_passNights 7 = .ok (.aload_n 0, 1) := by decide +kernel
theorem dX6_passNights_8 : decode cX6_passNights 8 = .ok (.invokevirtual 107, 3) := by decide +kernel
theorem dX6_passNights_11 : decode cX6_passNights 11 = .ok (.iinc 2 1, 3) := by decide +kernel
theorem dX6_passNights_14 : decode cX6_passNights 14 = .ok (.goto (-12), 3) := by decide +kernel
theorem dX6_passNights_17 : decode cX6_passNights 17 = .ok (.return_, 1) := by decide +kernel
theorem dX6_passNight_0 : decode cX6_passNight 0 = .ok (.aload_n 0, 1) := by decide +kernel
theorem dX6_passNight_1 : decode cX6_passNight 1 = .ok (.invokevirtual 66, 3) := by decide +kernel
theorem dX6_passNight_4 : decode cX6_passNight 4 = .ok (.bipush 100, 2) := by decide +kernel
theorem dX6_passNight_6 : decode cX6_passNight 6 = .ok (.irem, 1) := by decide +kernel
theorem dX6_passNight_7 : decode cX6_passNight 7 = .ok (.aload_n 0, 1) := by decide +kernel
theorem dX6_passNight_8 : decode cX6_passNight 8 = .ok (.getfield 24, 3) := by decide +kernel
theorem dX6_passNight_11 : decode cX6_passNight 11 = .ok (.iconst 0, 1) := by decide +kernel
theorem dX6_passNight_12 : decode cX6_passNight 12 = .ok (.iaload, 1) := by decide +kernel
theorem dX6_passNight_13 : decode cX6_passNight 13 = .ok (.if_icmp .ge 28, 3) := by decide +kernel
theorem dX6_passNight_16 : decode cX6_passNight 16 = .ok (.aload_n 0, 1) := by decide +kernel
theorem dX6_passNight_17 : decode cX6_passNight 17 = .ok (.invokevirtual 66, 3) := by decide +kernel
theorem dX6_passNight_20 : decode cX6_passNight 20 = .ok (.bipush 6, 2) := by decide +kernel
theorem dX6_passNight_22 : decode cX6_passNight 22 = .ok (.irem, 1) := by decide +kernel
theorem dX6_passNight_23 : decode cX6_passNight 23 = .ok (.istore_n 1, 1) := by decide +kernel
theorem dX6_passNight_24 : decode cX6_passNight 24 = .ok (.iconst 1, 1) := by decide +kernel
theorem dX6_passNight_25 : decode cX6_passNight 25 = .ok (.aload_n 0, 1) := by decide +kernel
theorem dX6_passNight_26 : decode cX6_passNight 26 = .ok (.invokevirtual 66, 3) := by decide +kernel
theorem dX6_passNight_29 : decode cX6_passNight 29 = .ok (.bipush 9, 2) := by decide +kernel
theorem dX6_passNight_31 : decode cX6_passNight 31 = .ok (.irem, 1) := by decide +kernel
theorem dX6_passNight_32 : decode cX6_passNight 32 = .ok (.iadd, 1) := by decide +kernel
theorem dX6_passNight_33 : decode cX6_passNight 33 = .ok (.istore_n 2, 1) := by decide +kernel
theorem dX6_passNight_34 : decode cX6_passNight 34 = .ok (.aload_n 0, 1) := by decide +kernel
theorem dX6_passNight_35 : decode cX6_passNight 35 = .ok (.iload_n 1, 1) := by decide +kernel
theorem dX6_passNight_36 : decode cX6_passNight 36 = .ok (.iload_n 2, 1) := by decide +kernel
theorem dX6_passNight_37 : decode cX6_passNight 37 = .ok (.iconst 0, 1) := by decide +kernel
theorem dX6_passNight_38 : decode cX6_passNight 38 = .ok (.invokevirtual 72, 3) := by decide +kernel
theorem dX6_passNight_41 : decode cX6_passNight 41 = .ok (.iconst 0, 1) := by decide +kernel
theorem dX6_passNight_42 : decode cX6_passNight 42 = .ok (.istore_n 1, 1) := by decide +kernel
theorem dX6_passNight_43 : decode cX6_passNight 43 = .ok (.iload_n 1, 1) := by decide +kernel
theorem dX6_passNight_44 : decode cX6_passNight 44 = .ok (.iconst 3, 1) := by decide +kernel
theorem dX6_passNight_45 : decode cX6_passNight 45 = .ok (.if_icmp .ge 20, 3) := by decide +kernel
theorem dX6_passNight_48 : decode cX6_passNight 48 = .ok (.aload_n 0, 1) := by decide +kernel
theorem dX6_passNight_49 : decode cX6_passNight 49 = .ok (.getfield 44, 3) := by decide +kernel
theorem dX6_passNight_52 : decode cX6_passNight 52 = .ok (.ifCond .le 13, 3) := by decide +kernel
theorem dX6_passNight_55 : decode cX6_passNight 55 = .ok (.aload_n 0, 1) := by decide +kernel
theorem dX6_passNight_56 : decode cX6_passNight 56 = .ok (.invokevirtual 110, 3) := by decide +kernel
theorem dX6_passNight_59 : decode cX6_passNight 59 = .ok (.iinc 1 1, 3) := by decide +kernel
theorem dX6_passNight_62 : decode cX6_passNight 62 = .ok (.goto (-19), 3) := by decide +kernel
theorem dX6_passNight_65 : decode cX6_passNight 65 = .ok (.aload_n 0, 1) := by decide +kernel
theorem dX6_passNight_66 : decode cX6_passNight 66 = .ok (.invokevirtual 66, 3) := by decide +kernel
theorem dX6_passNight_69 : decode cX6_passNight 69 = .ok (.bipush 100, 2) := by decide +kernel
theorem dX6_passNight_71 : decode cX6_passNight 71 = .ok (.irem, 1) := by decide +kernel
theorem dX6_passNight_72 : decode cX6_passNight 72 = .ok (.aload_n 0, 1) := by decide +kernel
theorem dX6_passNight_73 : decode cX6_passNight 73 = .ok (.getfield 24, 3) := by decide +kernel
theorem dX6_passNight_76 : decode cX6_passNight 76 = .ok (.iconst 1, 1) := by decide +kernel
theorem dX6_passNight_77 : decode cX6_passNight 77 = .ok (.iaload, 1) := by decide +kernel
theorem dX6_passNight_78 : decode cX6_passNight 78 = .ok (.if_icmp .ge 34, 3) := by decide +kernel
theorem dX6_passNight_81 : decode cX6_passNight 81 = .ok (.aload_n 0, 1) := by decide +kernel
theorem dX6_passNight_82 : decode cX6_passNight 82 = .ok (.getfield 44, 3) := by decide +kernel
theorem dX6_passNight_85 : decode cX6_passNight 85 = .ok (.ifCond .le 27, 3) := by decide +kernel
theorem dX6_passNight_88 : decode cX6_passNight 88 = .ok (.aload_n 0, 1) := by decide +kernel
theorem dX6_passNight_89 : decode cX6_passNight 89 = .ok (.invokevirtual 66, 3) := by decide +kernel
theorem dX6_passNight_92 : decode cX6_passNight 92 = .ok (.aload_n 0, 1) := by decide +kernel
theorem dX6_passNight_93 : decode cX6_passNight 93 = .ok (.getfield 44, 3) := by decide +kernel
theorem dX6_passNight_96 : decode cX6_passNight 96 = .ok (.irem, 1) := by decide +kernel
theorem dX6_passNight_97 : decode cX6_passNight 97 = .ok (.istore_n 1, 1) := by decide +kernel
theorem dX6_passNight_98 : decode cX6_passNight 98 = .ok (.aload_n 0, 1) := by decide +kernel
theorem dX6_passNight_99 : decode cX6_passNight 99 = .ok (.invokevirtual 66, 3) := by decide +kernel
theorem dX6_passNight_102 : decode cX6_passNight 102 = .ok (.bipush 8, 2) := by decide +kernel
theorem dX6_passNight_104 : decode cX6_passNight 104 = .ok (.irem, 1) := by decide +kernel
theorem dX6_passNight_105 : decode cX6_passNight 105 = .ok (.istore_n 2, 1) := by decide +kernel
theorem dX6_passNight_106 : decode cX6_passNight 106 = .ok (.aload_n 0, 1) := by decide +kernel
theorem dX6_passNight_107 : decode cX6_passNight 107 = .ok (.iload_n 1, 1) := by decide +kernel
theorem dX6_passNight_108 : decode cX6_passNight 108 = .ok (.iload_n 2, 1) := by decide +kernel
theorem dX6_passNight_109 : decode cX6_passNight 109 = .ok (.invokevirtual 113, 3) := by decide +kernel
theorem dX6_passNight_112 : decode cX6_passNight 112 = .ok (.aload_n 0, 1) := by decide +kernel
theorem dX6_passNight_113 : decode cX6_passNight 113 = .ok (.invokevirtual 66, 3) := by decide +kernel
theorem dX6_passNight_116 : decode cX6_passNight 116 = .ok (.bipush 100, 2) := by decide +kernel
theorem dX6_passNight_118 : decode cX6_passNight 118 = .ok (.irem, 1) := by decide +kernel
theorem dX6_passNight_119 : decode cX6_passNight 119 = .ok (.aload_n 0, 1) := by decide +kernel
theorem dX6_passNight_120 : decode cX6_passNight 120 = .ok (.getfield 24, 3) := by decide +kernel
theorem dX6_passNight_123 : decode cX6_passNight 123 = .ok (.iconst 2, 1) := by decide +kernel
theorem dX6_passNight_124 : decode cX6_passNight 124 = .ok (.iaload, 1) := by decide +kernel
theorem dX6_passNight_125 : decode cX6_passNight 125 = .ok (.if_icmp .ge 7, 3) := by decide +kernel
theorem dX6_passNight_128 : decode cX6_passNight 128 = .ok (.aload_n 0, 1) := by decide +kernel
theorem dX6_passNight_129 : decode cX6_passNight 129 = .ok (.invokevirtual 117, 3) := by decide +kernel
theorem dX6_passNight_132 : decode cX6_passNight 132 = .ok (.aload_n 0, 1) := by decide +kernel
theorem dX6_passNight_133 : decode cX6_passNight 133 = .ok (.dup, 1) := by decide +kernel
theorem dX6_passNight_134 : decode cX6_passNight 134 = .ok (.getfield 56, 3) := by decide +kernel
theorem dX6_passNight_137 : decode cX6_passNight 137 = .ok (.iconst 1, 1) := by decide +kernel
theorem dX6_passNight_138 : decode cX6_passNight 138 = .ok (.iadd, 1) := by decide +kernel
theorem dX6_passNight_139 : decode cX6_passNight 139 = .ok (.putfield 56, 3) := by decide +kernel
theorem dX6_passNight_142 : decode cX6_passNight 142 = .ok (.return_, 1) := by decide +kernel
theorem dX6_draw_0 : decode cX6_draw 0 = .ok (.aload_n 0, 1) := by decide +kernel
theorem dX6_draw_1 : decode cX6_draw 1 = .ok (.aload_n 0, 1) := by decide +kernel
theorem dX6_draw_2 : decode cX6_draw 2 = .ok (.getfield 30, 3) := by decide +kernel
theorem dX6_draw_5 : decode cX6_draw 5 = .ok (.ldc 120, 2) := by decide +kernel
theorem dX6_draw_7 : decode cX6_draw 7 = .ok (.imul, 1) := by decide +kernel
theorem dX6_draw_8 : decode cX6_draw 8 = .ok (.sipush 12345, 3) := by decide +kernel
theorem dX6_draw_11 : decode cX6_draw 11 = .ok (.iadd, 1) := by decide +kernel
theorem dX6_draw_12 : decode cX6_draw 12 = .ok (.putfield 30, 3) := by decide +kernel
theorem dX6_draw_15 : decode cX6_draw 15 = .ok (.aload_n 0, 1) := by decide +kernel
theorem dX6_draw_16 : decode cX6_draw 16 = .ok (.getfield 30, 3) := by decide +kernel
theorem dX6_draw_19 : decode cX6_draw 19 = .ok (.bipush 8, 2) := by decide +kernel
theorem dX6_draw_21 : decode cX6_draw 21 = .ok (.iushr, 1) := by decide +kernel
theorem dX6_draw_22 : decode cX6_draw 22 = .ok (.ireturn, 1) := by decide +kernel
theorem dX6_walkSomewhere_0 : decode cX6_walkSomewhere 0 = .ok (.aload_n 0, 1) := by decide +kernel
theorem dX6_walkSomewhere_1 : decode cX6_walkSomewhere 1 = .ok (.getfield 44, 3) := by decide +kernel
theorem dX6_walkSomewhere_4 : decode cX6_walkSomewhere 4 = .ok (.ifCond .gt 4, 3) := by decide +kernel
theorem dX6_walkSomewhere_7 : decode cX6_walkSomewhere 7 = .ok (.return_, 1) := by decide +kernel
theorem dX6_walkSomewhere_8 : decode cX6_walkSomewhere 8 = .ok (.aload_n 0, 1) := by decide +kernel
theorem dX6_walkSomewhere_9 : decode cX6_walkSomewhere 9 = .ok (.invokevirtual 66, 3) := by decide +kernel
theorem dX6_walkSomewhere_12 : decode cX6_walkSomewhere 12 = .ok (.aload_n 0, 1) := by decide +kernel
theorem dX6_walkSomewhere_13 : decode cX6_walkSomewhere 13 = .ok (.getfield 44, 3) := by decide +kernel
theorem dX6_walkSomewhere_16 : decode cX6_walkSomewhere 16 = .ok (.irem, 1) := by decide +kernel
theorem dX6_walkSomewhere_17 : decode cX6_walkSomewhere 17 = .ok (.istore_n 1, 1) := by decide +kernel
theorem dX6_walkSomewhere_18 : decode cX6_walkSomewhere 18 = .ok (.aload_n 0, 1) := by decide +kernel
theorem dX6_walkSomewhere_19 : decode cX6_walkSomewhere 19 = .ok (.invokevirtual 66, 3) := by decide +kernel
theorem dX6_walkSomewhere_22 : decode cX6_walkSomewhere 22 = .ok (.bipush 8, 2) := by decide +kernel
theorem dX6_walkSomewhere_24 : decode cX6_walkSomewhere 24 = .ok (.irem, 1) := by decide +kernel
theorem dX6_walkSomewhere_25 : decode cX6_walkSomewhere 25 = .ok (.istore_n 2, 1) := by decide +kernel
theorem dX6_walkSomewhere_26 : decode cX6_walkSomewhere 26 = .ok (.aload_n 0, 1) := by decide +kernel
theorem dX6_walkSomewhere_27 : decode cX6_walkSomewhere 27 = .ok (.dup, 1) := by decide +kernel
theorem dX6_walkSomewhere_28 : decode cX6_walkSomewhere 28 = .ok (.getfield 47, 3) := by decide +kernel
theorem dX6_walkSomewhere_31 : decode cX6_walkSomewhere 31 = .ok (.iconst 1, 1) := by decide +kernel
theorem dX6_walkSomewhere_32 : decode cX6_walkSomewhere 32 = .ok (.iadd, 1) := by decide +kernel
theorem dX6_walkSomewhere_33 : decode cX6_walkSomewhere 33 = .ok (.putfield 47, 3) := by decide +kernel
theorem dX6_walkSomewhere_36 : decode cX6_walkSomewhere 36 = .ok (.aload_n 0, 1) := by decide +kernel
theorem dX6_walkSomewhere_37 : decode cX6_walkSomewhere 37 = .ok (.getfield 18, 3) := by decide +kernel
theorem dX6_walkSomewhere_40 : decode cX6_walkSomewhere 40 = .ok (.iload_n 1, 1) := by decide +kernel
theorem dX6_walkSomewhere_41 : decode cX6_walkSomewhere 41 = .ok (.bipush 99, 2) := by decide +kernel
theorem dX6_walkSomewhere_43 : decode cX6_walkSomewhere 43 = .ok (.aload_n 0, 1) := by decide +kernel
theorem dX6_walkSomewhere_44 : decode cX6_walkSomewhere 44 = .ok (.getfield 18, 3) := by decide +kernel
theorem dX6_walkSomewhere_47 : decode cX6_walkSomewhere 47 = .ok (.iload_n 1, 1) := by decide +kernel
theorem dX6_walkSomewhere_48 : decode cX6_walkSomewhere 48 = .ok (.iaload, 1) := by decide +kernel
theorem dX6_walkSomewhere_49 : decode cX6_walkSomewhere 49 = .ok (.aload_n 0, 1) := by decide +kernel
theorem dX6_walkSomewhere_50 : decode cX6_walkSomewhere 50 = .ok (.iload_n 1, 1) := by decide +kernel
theorem dX6_walkSomewhere_51 : decode cX6_walkSomewhere 51 = .ok (.invokevirtual 121, 3) := by decide +kernel
theorem dX6_walkSomewhere_54 : decode cX6_walkSomewhere 54 = .ok (.iadd, 1) := by decide +kernel
theorem dX6_walkSomewhere_55 : decode cX6_walkSomewhere 55 = .ok (.invokestatic 123, 3) := by decide +kernel
theorem dX6_walkSomewhere_58 : decode cX6_walkSomewhere 58 = .ok (.iastore, 1) := by decide +kernel
theorem dX6_walkSomewhere_59 : decode cX6_walkSomewhere 59 = .ok (.aload_n 0, 1) := by decide +kernel
theorem dX6_walkSomewhere_60 : decode cX6_walkSomewhere 60 = .ok (.getfield 18, 3) := by decide +kernel
theorem dX6_walkSomewhere_63 : decode cX6_walkSomewhere 63 = .ok (.iload_n 1, 1) := by decide +kernel
theorem dX6_walkSomewhere_64 : decode cX6_walkSomewhere 64 = .ok (.iaload, 1) := by decide +kernel
theorem dX6_walkSomewhere_65 : decode cX6_walkSomewhere 65 = .ok (.aload_n 0, 1) := by decide +kernel
theorem dX6_walkSomewhere_66 : decode cX6_walkSomewhere 66 = .ok (.getfield 9, 3) := by decide +kernel
theorem dX6_walkSomewhere_69 : decode cX6_walkSomewhere 69 = .ok (.iload_n 1, 1) := by decide +kernel
theorem dX6_walkSomewhere_70 : decode cX6_walkSomewhere 70 = .ok (.iaload, 1) := by decide +kernel
theorem dX6_walkSomewhere_71 : decode cX6_walkSomewhere 71 = .ok (.aload_n 0, 1) := by decide +kernel
theorem dX6_walkSomewhere_72 : decode cX6_walkSomewhere 72 = .ok (.getfield 15, 3) := by decide +kernel
theorem dX6_walkSomewhere_75 : decode cX6_walkSomewhere 75 = .ok (.iload_n 1, 1) := by decide +kernel
theorem dX6_walkSomewhere_76 : decode cX6_walkSomewhere 76 = .ok (.iaload, 1) := by decide +kernel
theorem dX6_walkSomewhere_77 : decode cX6_walkSomewhere 77 = .ok (.invokestatic 128, 3) := by decide +kernel
theorem dX6_walkSomewhere_80 : decode cX6_walkSomewhere 80 = .ok (.if_icmp .le 16, 3) := by decide +kernel
theorem dX6_walkSomewhere_83 : decode cX6_walkSomewhere 83 = .ok (.aload_n 0, 1) := by decide +kernel
theorem dX6_walkSomewhere_84 : decode cX6_walkSomewhere 84 = .ok (.getfield 18, 3) := by decide +kernel
theorem dX6_walkSomewhere_87 : decode cX6_walkSomewhere 87 = .ok (.iload_n 1, 1) := by decide +kernel
theorem dX6_walkSomewhere_88 : decode cX6_walkSomewhere 88 = .ok (.iconst 0, 1) := by decide +kernel
theorem dX6_walkSomewhere_89 : decode cX6_walkSomewhere 89 = .ok (.iastore, 1) := by decide +kernel
theorem dX6_walkSomewhere_90 : decode cX6_walkSomewhere 90 = .ok (.aload_n 0, 1) := by decide +kernel
theorem dX6_walkSomewhere_91 : decode cX6_walkSomewhere 91 = .ok (.iload_n 1, 1) := by decide +kernel
theorem dX6_walkSomewhere_92 : decode cX6_walkSomewhere 92 = .ok (.iload_n 2, 1) := by decide +kernel
theorem dX6_walkSomewhere_93 : decode cX6_walkSomewhere 93 = .ok (.invokevirtual 113, 3) := by decide +kernel
theorem dX6_walkSomewhere_96 : decode cX6_walkSomewhere 96 = .ok (.return_, 1) := by decide +kernel
theorem dX6_lose_0 : decode cX6_lose 0 = .ok (.iconst 1, 1) := by decide +kernel
theorem dX6_lose_1 : decode cX6_lose 1 = .ok (.iload_n 2, 1) := by decide +kernel
theorem dX6_lose_2 : decode cX6_lose 2 = .ok (.ishl, 1) := by decide +kernel
theorem dX6_lose_3 : decode cX6_lose 3 = .ok (.istore_n 3, 1) := by decide +kernel
theorem dX6_lose_4 : decode cX6_lose 4 = .ok (.aload_n 0, 1) := by decide +kernel
theorem dX6_lose_5 : decode cX6_lose 5 = .ok (.getfield 21, 3) := by decide +kernel
theorem dX6_lose_8 : decode cX6_lose 8 = .ok (.iload_n 1, 1) := by decide +kernel
theorem dX6_lose_9 : decode cX6_lose 9 = .ok (.iaload, 1) := by decide +kernel
theorem dX6_lose_10 : decode cX6_lose 10 = .ok (.iload_n 3, 1) := by decide +kernel
theorem dX6_lose_11 : decode cX6_lose 11 = .ok (.iand, 1) := by decide +kernel
theorem dX6_lose_12 : decode cX6_lose 12 = .ok (.ifCond .ne 23, 3) := by decide +kernel
theorem dX6_lose_15 : decode cX6_lose 15 = .ok (.aload_n 0, 1) := by decide +kernel
theorem dX6_lose_16 : decode cX6_lose 16 = .ok (.getfield 21, 3) := by decide +kernel
theorem dX6_lose_19 : decode cX6_lose 19 = .ok (.iload_n 1, 1) := by decide +kernel
theorem dX6_lose_20 : decode cX6_lose 20 = .ok (.dup2, 1) := by decide +kernel
theorem dX6_lose_21 : decode cX6_lose 21 = .ok (.iaload, 1) := by decide +kernel
theorem dX6_lose_22 : decode cX6_lose 22 = .ok (.iload_n 3, 1) := by decide +kernel
theorem dX6_lose_23 : decode cX6_lose 23 = .ok (.ior, 1) := by decide +kernel
theorem dX6_lose_24 : decode cX6_lose 24 = .ok (.iastore, 1) := by decide +kernel
theorem dX6_lose_25 : decode cX6_lose 25 = .ok (.aload_n 0, 1) := by decide +kernel
theorem dX6_lose_26 : decode cX6_lose 26 = .ok (.dup, 1) := by decide +kernel
theorem dX6_lose_27 : decode cX6_lose 27 = .ok (.getfield 50, 3) := by decide +kernel
theorem dX6_lose_30 : decode cX6_lose 30 = .ok (.iconst 1, 1) := by decide +kernel
theorem dX6_lose_31 : decode cX6_lose 31 = .ok (.iadd, 1) := by decide +kernel
theorem dX6_lose_32 : decode cX6_lose 32 = .ok (.putfield 50, 3) := by decide +kernel
theorem dX6_lose_35 : decode cX6_lose 35 = .ok (.return_, 1) := by decide +kernel
theorem dX6_mendFirst_0 : decode cX6_mendFirst 0 = .ok (.iconst 0, 1) := by decide +kernel
theorem dX6_mendFirst_1 : decode cX6_mendFirst 1 = .ok (.istore_n 1, 1) := by decide +kernel
theorem dX6_mendFirst_2 : decode cX6_mendFirst 2 = .ok (.iload_n 1, 1) := by decide +kernel
theorem dX6_mendFirst_3 : decode cX6_mendFirst 3 = .ok (.aload_n 0, 1) := by decide +kernel
theorem dX6_mendFirst_4 : decode cX6_mendFirst 4 = .ok (.getfield 44, 3) := by decide +kernel
theorem dX6_mendFirst_7 : decode cX6_mendFirst 7 = .ok (.if_icmp .ge 46, 3) := by decide +kernel
theorem dX6_mendFirst_10 : decode cX6_mendFirst 10 = .ok (.aload_n 0, 1) := by decide +kernel
theorem dX6_mendFirst_11 : decode cX6_mendFirst 11 = .ok (.getfield 21, 3) := by decide +kernel
theorem dX6_mendFirst_14 : decode cX6_mendFirst 14 = .ok (.iload_n 1, 1) := by decide +kernel
theorem dX6_mendFirst_15 : decode cX6_mendFirst 15 = .ok (.iaload, 1) := by decide +kernel
theorem dX6_mendFirst_16 : decode cX6_mendFirst 16 = .ok (.ifCond .eq 31, 3) := by decide +kernel
theorem dX6_mendFirst_19 : decode cX6_mendFirst 19 = .ok (.aload_n 0, 1) := by decide +kernel
theorem dX6_mendFirst_20 : decode cX6_mendFirst 20 = .ok (.getfield 21, 3) := by decide +kernel
theorem dX6_mendFirst_23 : decode cX6_mendFirst 23 = .ok (.iload_n 1, 1) := by decide +kernel
theorem dX6_mendFirst_24 : decode cX6_mendFirst 24 = .ok (.dup2, 1) := by decide +kernel
theorem dX6_mendFirst_25 : decode cX6_mendFirst 25 = .ok (.iaload, 1) := by decide +kernel
theorem dX6_mendFirst_26 : decode cX6_mendFirst 26 = .ok (.aload_n 0, 1) := by decide +kernel
theorem dX6_mendFirst_27 : decode cX6_mendFirst 27 = .ok (.getfield 21, 3) := by decide +kernel
theorem dX6_mendFirst_30 : decode cX6_mendFirst 30 = .ok (.iload_n 1, 1) := by decide +kernel
theorem dX6_mendFirst_31 : decode cX6_mendFirst 31 = .ok (.iaload, 1) := by decide +kernel
theorem dX6_mendFirst_32 : decode cX6_mendFirst 32 = .ok (.iconst 1, 1) := by decide +kernel
theorem dX6_mendFirst_33 : decode cX6_mendFirst 33 = .ok (.isub, 1) := by decide +kernel
theorem dX6_mendFirst_34 : decode cX6_mendFirst 34 = .ok (.iand, 1) := by decide +kernel
theorem dX6_mendFirst_35 : decode cX6_mendFirst 35 = .ok (.iastore, 1) := by decide +kernel
theorem dX6_mendFirst_36 : decode cX6_mendFirst 36 = .ok (.aload_n 0, 1) := by decide +kernel
theorem dX6_mendFirst_37 : decode cX6_mendFirst 37 = .ok (.dup, 1) := by decide +kernel
theorem dX6_mendFirst_38 : decode cX6_mendFirst 38 = .ok (.getfield 53, 3) := by decide +kernel
theorem dX6_mendFirst_41 : decode cX6_mendFirst 41 = .ok (.iconst 1, 1) := by decide +kernel
theorem dX6_mendFirst_42 : decode cX6_mendFirst 42 = .ok (.iadd, 1) := by decide +kernel
theorem dX6_mendFirst_43 : decode cX6_mendFirst 43 = .ok (.putfield 53, 3) := by decide +kernel
theorem dX6_mendFirst_46 : decode cX6_mendFirst 46 = .ok (.return_, 1) := by decide +kernel
theorem dX6_mendFirst_47 : decode cX6_mendFirst 47 = .ok (.iinc 1 1, 3) := by decide +kernel
theorem dX6_mendFirst_50 : decode cX6_mendFirst 50 = .ok (.goto (-48), 3) := by decide +kernel
theorem dX6_mendFirst_53 : decode cX6_mendFirst 53 = .ok (.return_, 1) := by decide +kernel
theorem dX7_init_0 : decode cX7_init 0 = .ok (.aload_n 0, 1) := by decide +kernel
theorem dX7_init_1 : decode cX7_init 1 = .ok (.invokespecial 3, 3) := by decide +kernel
theorem dX7_init_4 : decode cX7_init 4 = .ok (.aload_n 0, 1) := by decide +kernel
theorem dX7_init_5 : decode cX7_init 5 = .ok (.bipush 12, 2) := by decide +kernel
theorem dX7_init_7 : decode cX7_init 7 = .ok (.newarray .int, 2) := by decide +kernel
theorem dX7_init_9 : decode cX7_init 9 = .ok (.putfield 9, 3) := by decide +kernel
theorem dX7_init_12 : decode cX7_init 12 = .ok (.aload_n 0, 1) := by decide +kernel
theorem dX7_init_13 : decode cX7_init 13 = .ok (.bipush 12, 2) := by decide +kernel
theorem dX7_init_15 : decode cX7_init 15 = .ok (.newarray .int, 2) := by decide +kernel
theorem dX7_init_17 : decode cX7_init 17 = .ok (.putfield 15, 3) := by decide +kernel
theorem dX7_init_20 : decode cX7_init 20 = .ok (.aload_n 0, 1) := by decide +kernel
theorem dX7_init_21 : decode cX7_init 21 = .ok (.bipush 12, 2) := by decide +kernel
theorem dX7_init_23 : decode cX7_init 23 = .ok (.newarray .int, 2) := by decide +kernel
theorem dX7_init_25 : decode cX7_init 25 = .ok (.putfield 18, 3) := by decide +kernel
theorem dX7_init_28 : decode cX7_init 28 = .ok (.return_, 1) := by decide +kernel
theorem dX7_steps_0 : decode cX7_steps 0 = .ok (.aload_n 0, 1) := by decide +kernel
theorem dX7_steps_1 : decode cX7_steps 1 = .ok (.aload_n 1, 1) := by decide +kernel
theorem dX7_steps_2 : decode cX7_steps 2 = .ok (.iload_n 2, 1) := by decide +kernel
theorem dX7_steps_3 : decode cX7_steps 3 = .ok (.iload_n 3, 1) := by decide +kernel
theorem dX7_steps_4 : decode cX7_steps 4 = .ok (.invokevirtual 21, 3) := by decide +kernel
theorem dX7_steps_7 : decode cX7_steps 7 = .ok (.istore 6, 2) := by decide +kernel
theorem dX7_steps_9 : decode cX7_steps 9 = .ok (.iconst 0, 1) := by decide +kernel
theorem dX7_steps_10 : decode cX7_steps 10 = .ok (.istore 7, 2) := by decide +kernel
theorem dX7_steps_12 : decode cX7_steps 12 = .ok (.iload 7, 2) := by decide +kernel
theorem dX7_steps_14 : decode cX7_steps 14 = .ok (.bipush 96, 2) := by decide +kernel
theorem dX7_steps_16 : decode cX7_steps 16 = .ok (.if_icmp .gt 39, 3) := by decide +kernel
theorem dX7_steps_19 : decode cX7_steps 19 = .ok (.iload 6, 2) := by decide +kernel
theorem dX7_steps_21 : decode cX7_steps 21 = .ok (.ifCond .le 34, 3) := by decide +kernel
theorem dX7_steps_24 : decode cX7_steps 24 = .ok (.aload_n 0, 1) := by decide +kernel
theorem dX7_steps_25 : decode cX7_steps 25 = .ok (.getfield 15, 3) := by decide +kernel
theorem dX7_steps_28 : decode cX7_steps 28 = .ok (.iload 4, 2) := by decide +kernel
theorem dX7_steps_30 : decode cX7_steps 30 = .ok (.iaload, 1) := by decide +kernel
theorem dX7_steps_31 : decode cX7_steps 31 = .ok (.iload 5, 2) := by decide +kernel
theorem dX7_steps_33 : decode cX7_steps 33 = .ok (.ishr, 1) := by decide +kernel
theorem dX7_steps_34 : decode cX7_steps 34 = .ok (.iconst 1, 1) := by decide +kernel
theorem dX7_steps_35 : decode cX7_steps 35 = .ok (.iand, 1) := by decide +kernel
theorem dX7_steps_36 : decode cX7_steps 36 = .ok (.ifCond .eq 6, 3) := by decide +kernel
theorem dX7_steps_39 : decode cX7_steps 39 = .ok (.iload 7, 2) := by decide +kernel
theorem dX7_steps_41 : decode cX7_steps 41 = .ok (.ireturn, 1) := by decide +kernel
theorem dX7_steps_42 : decode cX7_steps 42 = .ok (.aload_n 0, 1) := by decide +kernel
theorem dX7_steps_43 : decode cX7_steps 43 = .ok (.aload_n 1, 1) := by decide +kernel
theorem dX7_steps_44 : decode cX7_steps 44 = .ok (.invokevirtual 25, 3) := by decide +kernel
theorem dX7_steps_47 : decode cX7_steps 47 = .ok (.istore 6, 2) := by decide +kernel
theorem dX7_steps_49 : decode cX7_steps 49 = .ok (.iinc 7 1, 3) := by decide +kernel
theorem dX7_steps_52 : decode cX7_steps 52 = .ok (.goto (-40), 3) := by decide +kernel
theorem dX7_steps_55 : decode cX7_steps 55 = .ok (.ldc 29, 2) := by decide +kernel
theorem dX7_steps_57 : decode cX7_steps 57 = .ok (.ireturn, 1) := by decide +kernel
theorem dX7_reached_0 : decode cX7_reached 0 = .ok (.aload_n 0, 1) := by decide +kernel
theorem dX7_reached_1 : decode cX7_reached 1 = .ok (.aload_n 1, 1) := by decide +kernel
theorem dX7_reached_2 : decode cX7_reached 2 = .ok (.iload_n 2, 1) := by decide +kernel
theorem dX7_reached_3 : decode cX7_reached 3 = .ok (.iload_n 3, 1) := by decide +kernel
theorem dX7_reached_4 : decode cX7_reached 4 = .ok (.invokevirtual 21, 3) := by decide +kernel
theorem dX7_reached_7 : decode cX7_reached 7 = .ok (.istore 4, 2) := by decide +kernel
theorem dX7_reached_9 : decode cX7_reached 9 = .ok (.iload 4, 2) := by decide +kernel
theorem dX7_reached_11 : decode cX7_reached 11 = .ok (.istore 5, 2) := by decide +kernel
theorem dX7_reached_13 : decode cX7_reached 13 = .ok (.iconst 0, 1) := by decide +kernel
theorem dX7_reached_14 : decode cX7_reached 14 = .ok (.istore 6, 2) := by decide +kernel
theorem dX7_reached_16 : decode cX7_reached 16 = .ok (.iload 6, 2) := by decide +kernel
theorem dX7_reached_18 : decode cX7_reached 18 = .ok (.bipush 96, 2) := by decide +kernel
theorem dX7_reached_20 : decode cX7_reached 20 = .ok (.if_icmp .gt 28, 3) := by decide +kernel
theorem dX7_reached_23 : decode cX7_reached 23 = .ok (.iload 4, 2) := by decide +kernel
theorem dX7_reached_25 : decode cX7_reached 25 = .ok (.ifCond .le 23, 3) := by decide +kernel
theorem dX7_reached_28 : decode cX7_reached 28 = .ok (.aload_n 0, 1) := by decide +kernel
theorem dX7_reached_29 : decode cX7_reached 29 = .ok (.aload_n 1, 1) := by decide +kernel
theorem dX7_reached_30 : decode cX7_reached 30 = .ok (.invokevirtual 25, 3) := by decide +kernel
theorem dX7_reached_33 : decode cX7_reached 33 = .ok (.istore 4, 2) := by decide +kernel
theorem dX7_reached_35 : decode cX7_reached 35 = .ok (.iload 5, 2) := by decide +kernel
theorem dX7_reached_37 : decode cX7_reached 37 = .ok (.iload 4, 2) := by decide +kernel
theorem dX7_reached_39 : decode cX7_reached 39 = .ok (.iadd, 1) := by decide +kernel
theorem dX7_reached_40 : decode cX7_reached 40 = .ok (.istore 5, 2) := by decide +kernel
theorem dX7_reached_42 : decode cX7_reached 42 = .ok (.iinc 6 1, 3) := by decide +kernel
theorem dX7_reached_45 : decode cX7_reached 45 = .ok (.goto (-29), 3) := by decide +kernel
theorem dX7_reached_48 : decode cX7_reached 48 = .ok (.iload 5, 2) := by decide +kernel
theorem dX7_reached_50 : decode cX7_reached 50 = .ok (.ireturn, 1) := by decide +kernel
theorem dX7_begin_0 : decode cX7_begin 0 = .ok (.sipush 255, 3) := by decide +kernel
theorem dX7_begin_3 : decode cX7_begin 3 = .ok (.istore 4, 2) := by decide +kernel
theorem dX7_begin_5 : decode cX7_begin 5 = .ok (.iconst 0, 1) := by decide +kernel
theorem dX7_begin_6 : decode cX7_begin 6 = .ok (.istore 5, 2) := by decide +kernel
theorem dX7_begin_8 : decode cX7_begin 8 = .ok (.iload 5, 2) := by decide +kernel
theorem dX7_begin_10 : decode cX7_begin 10 = .ok (.aload_n 1, 1) := by decide +kernel
theorem dX7_begin_11 : decode cX7_begin 11 = .ok (.getfield 30, 3) := by decide +kernel
theorem dX7_begin_14 : decode cX7_begin 14 = .ok (.if_icmp .ge 36, 3) := by decide +kernel
theorem dX7_begin_17 : decode cX7_begin 17 = .ok (.aload_n 1, 1) := by decide +kernel
theorem dX7_begin_18 : decode cX7_begin 18 = .ok (.iload 5, 2) := by decide +kernel
theorem dX7_begin_20 : decode cX7_begin 20 = .ok (.iload 4, 2) := by decide +kernel
theorem dX7_begin_22 : decode cX7_begin 22 = .ok (.invokevirtual 36, 3) := by decide +kernel
theorem dX7_begin_25 : decode cX7_begin 25 = .ok (.istore 4, 2) := by decide +kernel
theorem dX7_begin_27 : decode cX7_begin 27 = .ok (.aload_n 0, 1) := by decide +kernel
theorem dX7_begin_28 : decode cX7_begin 28 = .ok (.getfield 9, 3) := by decide +kernel
theorem dX7_begin_31 : decode cX7_begin 31 = .ok (.iload 5, 2) := by decide +kernel
theorem dX7_begin_33 : decode cX7_begin 33 = .ok (.iload 4, 2) := by decide +kernel
theorem dX7_begin_35 : decode cX7_begin 35 = .ok (.iastore, 1) := by decide +kernel
theorem dX7_begin_36 : decode cX7_begin 36 = .ok (.aload_n 0, 1) := by decide +kernel
theorem dX7_begin_37 : decode cX7_begin 37 = .ok (.getfield 15, 3) := by decide +kernel
theorem dX7_begin_40 : decode cX7_begin 40 = .ok (.iload 5, 2) := by decide +kernel
theorem dX7_begin_42 : decode cX7_begin 42 = .ok (.iconst 0, 1) := by decide +kernel
theorem dX7_begin_43 : decode cX7_begin 43 = .ok (.iastore, 1) := by decide +kernel
theorem dX7_begin_44 : decode cX7_begin 44 = .ok (.iinc 5 1, 3) := by decide +kernel
theorem dX7_begin_47 : decode cX7_begin 47 = .ok (.goto (-39), 3) := by decide +kernel
theorem dX7_begin_50 : decode cX7_begin 50 = .ok (.aload_n 0, 1) := by decide +kernel
theorem dX7_begin_51 : decode cX7_begin 51 = .ok (.getfield 15, 3) := by decide +kernel
theorem dX7_begin_54 : decode cX7_begin 54 = .ok (.iload_n 2, 1) := by decide +kernel
theorem dX7_begin_55 : decode cX7_begin 55 = .ok (.aload_n 0, 1) := by decide +kernel
theorem dX7_begin_56 : decode cX7_begin 56 = .ok (.getfield 9, 3) := by decide +kernel
theorem dX7_begin_59 : decode cX7_begin 59 = .ok (.iload_n 2, 1) := by decide +kernel
theorem dX7_begin_60 : decode cX7_begin 60 = .ok (.iaload, 1) := by decide +kernel
theorem dX7_begin_61 : decode cX7_begin 61 = .ok (.iconst 1, 1) := by decide +kernel
theorem dX7_begin_62 : decode cX7_begin 62 = .ok (.iload_n 3, 1) := by decide +kernel
theorem dX7_begin_63 : decode cX7_begin 63 = .ok (.ishl, 1) := by decide +kernel
theorem dX7_begin_64 : decode cX7_begin 64 = .ok (.iand, 1) := by decide +kernel
theorem dX7_begin_65 : decode cX7_begin 65 = .ok (.iastore, 1) := by decide +kernel
theorem dX7_begin_66 : decode cX7_begin 66 = .ok (.aload_n 0, 1) := by decide +kernel
theorem dX7_begin_67 : decode cX7_begin 67 = .ok (.getfield 9, 3) := by decide +kernel
theorem dX7_begin_70 : decode cX7_begin 70 = .ok (.iload_n 2, 1) := by decide +kernel
theorem dX7_begin_71 : decode cX7_begin 71 = .ok (.dup2, 1) := by decide +kernel
theorem dX7_begin_72 : decode cX7_begin 72 = .ok (.iaload, 1) := by decide +kernel
theorem dX7_begin_73 : decode cX7_begin 73 = .ok (.aload_n 0, 1) := by decide +kernel
theorem dX7_begin_74 : decode cX7_begin 74 = .ok (.getfield 15, 3) := by decide +kernel
theorem dX7_begin_77 : decode cX7_begin 77 = .ok (.iload_n 2, 1) := by decide +kernel
theorem dX7_begin_78 : decode cX7_begin 78 = .ok (.iaload, 1) := by decide +kernel
theorem dX7_begin_79 : decode cX7_begin 79 = .ok (.iconst (-1), 1) := by decide +kernel
theorem dX7_begin_80 : decode cX7_begin 80 = .ok (.ixor, 1) := by decide +kernel
theorem dX7_begin_81 : decode cX7_begin 81 = .ok (.iand, 1) := by decide +kernel
theorem dX7_begin_82 : decode cX7_begin 82 = .ok (.iastore, 1) := by decide +kernel
theorem dX7_begin_83 : decode cX7_begin 83 = .ok (.aload_n 0, 1) := by decide +kernel
theorem dX7_begin_84 : decode cX7_begin 84 = .ok (.getfield 15, 3) := by decide +kernel
theorem dX7_begin_87 : decode cX7_begin 87 = .ok (.iload_n 2, 1) := by decide +kernel
theorem dX7_begin_88 : decode cX7_begin 88 = .ok (.iaload, 1) := by decide +kernel
theorem dX7_begin_89 : decode cX7_begin 89 = .ok (.invokestatic 40, 3) := by decide +kernel
theorem dX7_begin_92 : decode cX7_begin 92 = .ok (.ireturn, 1) := by decide +kernel
theorem dX7_step_0 : decode cX7_step 0 = .ok (.iconst 0, 1) := by decide +kernel
theorem dX7_step_1 : decode cX7_step 1 = .ok (.istore_n 2, 1) := by decide +kernel
theorem dX7_step_2 : decode cX7_step 2 = .ok (.iconst 0, 1) := by decide +kernel
theorem dX7_step_3 : decode cX7_step 3 = .ok (.istore_n 3, 1) := by decide +kernel
theorem dX7_step_4 : decode cX7_step 4 = .ok (.iload_n 3, 1) := by decide +kernel
theorem dX7_step_5 : decode cX7_step 5 = .ok (.aload_n 1, 1) := by decide +kernel
theorem dX7_step_6 : decode cX7_step 6 = .ok (.getfield 30, 3) := by decide +kernel
theorem dX7_step_9 : decode cX7_step 9 = .ok (.if_icmp .ge 40, 3) := by decide +kernel
theorem dX7_step_12 : decode cX7_step 12 = .ok (.aload_n 0, 1) := by decide +kernel
theorem dX7_step_13 : decode cX7_step 13 = .ok (.getfield 18, 3) := by decide +kernel
theorem dX7_step_16 : decode cX7_step 16 = .ok (.iload_n 3, 1) := by decide +kernel
theorem dX7_step_17 : decode cX7_step 17 = .ok (.aload_n 0, 1) := by decide +kernel
theorem dX7_step_18 : decode cX7_step 18 = .ok (.aload_n 1, 1) := by decide +kernel
theorem dX7_step_19 : decode cX7_step 19 = .ok (.iload_n 3, 1) := by decide +kernel
theorem dX7_step_20 : decode cX7_step 20 = .ok (.invokevirtual 46, 3) := by decide +kernel
theorem dX7_step_23 : decode cX7_step 23 = .ok (.aload_n 0, 1) := by decide +kernel
theorem dX7_step_24 : decode cX7_step 24 = .ok (.getfield 9, 3) := by decide +kernel
theorem dX7_step_27 : decode cX7_step 27 = .ok (.iload_n 3, 1) := by decide +kernel
theorem dX7_step_28 : decode cX7_step 28 = .ok (.iaload, 1) := by decide +kernel
theorem dX7_step_29 : decode cX7_step 29 = .ok (.iand, 1) := by decide +kernel
theorem dX7_step_30 : decode cX7_step 30 = .ok (.iastore, 1) := by decide +kernel
theorem dX7_step_31 : decode cX7_step 31 = .ok (.iload_n 2, 1) := by decide +kernel
theorem dX7_step_32 : decode cX7_step 32 = .ok (.aload_n 0, 1) := by decide +kernel
theorem dX7_step_33 : decode cX7_step 33 = .ok (.getfield 18, 3) := by decide +kernel
theorem dX7_step_36 : decode cX7_step 36 = .ok (.iload_n 3, 1) := by decide +kernel
theorem dX7_step_37 : decode cX7_step 37 = .ok (.iaload, 1) := by decide +kernel
theorem dX7_step_38 : decode cX7_step 38 = .ok (.invokestatic 40, 3) := by decide +kernel
theorem dX7_step_41 : decode cX7_step 41 = .ok (.iadd, 1) := by decide +kernel
theorem dX7_step_42 : decode cX7_step 42 = .ok (.istore_n 2, 1) := by decide +kernel
theorem dX7_step_43 : decode cX7_step 43 = .ok (.iinc 3 1, 3) := by decide +kernel
theorem dX7_step_46 : decode cX7_step 46 = .ok (.goto (-42), 3) := by decide +kernel
theorem dX7_step_49 : decode cX7_step 49 = .ok (.iconst 0, 1) := by decide +kernel
theorem dX7_step_50 : decode cX7_step 50 = .ok (.istore_n 3, 1) := by decide +kernel
theorem dX7_step_51 : decode cX7_step 51 = .ok (.iload_n 3, 1) := by decide +kernel
theorem dX7_step_52 : decode cX7_step 52 = .ok (.aload_n 1, 1) := by decide +kernel
theorem dX7_step_53 : decode cX7_step 53 = .ok (.getfield 30, 3) := by decide +kernel
theorem dX7_step_56 : decode cX7_step 56 = .ok (.if_icmp .ge 38, 3) := by decide +kernel
theorem dX7_step_59 : decode cX7_step 59 = .ok (.aload_n 0, 1) := by decide +kernel
theorem dX7_step_60 : decode cX7_step 60 = .ok (.getfield 9, 3) := by decide +kernel
theorem dX7_step_63 : decode cX7_step 63 = .ok (.iload_n 3, 1) := by decide +kernel
theorem dX7_step_64 : decode cX7_step 64 = .ok (.dup2, 1) := by decide +kernel
theorem dX7_step_65 : decode cX7_step 65 = .ok (.iaload, 1) := by decide +kernel
theorem dX7_step_66 : decode cX7_step 66 = .ok (.aload_n 0, 1) := by decide +kernel
theorem dX7_step_67 : decode cX7_step 67 = .ok (.getfield 18, 3) := by decide +kernel
theorem dX7_step_70 : decode cX7_step 70 = .ok (.iload_n 3, 1) := by decide +kernel
theorem dX7_step_71 : decode cX7_step 71 = .ok (.iaload, 1) := by decide +kernel
theorem dX7_step_72 : decode cX7_step 72 = .ok (.iconst (-1), 1) := by decide +kernel
theorem dX7_step_73 : decode cX7_step 73 = .ok (.ixor, 1) := by decide +kernel
theorem dX7_step_74 : decode cX7_step 74 = .ok (.iand, 1) := by decide +kernel
theorem dX7_step_75 : decode cX7_step 75 = .ok (.iastore, 1) := by decide +kernel
theorem dX7_step_76 : decode cX7_step 76 = .ok (.aload_n 0, 1) := by decide +kernel
theorem dX7_step_77 : decode cX7_step 77 = .ok (.getfield 15, 3) := by decide +kernel
theorem dX7_step_80 : decode cX7_step 80 = .ok (.iload_n 3, 1) := by decide +kernel
theorem dX7_step_81 : decode cX7_step 81 = .ok (.aload_n 0, 1) := by decide +kernel
theorem dX7_step_82 : decode cX7_step 82 = .ok (.getfield 18, 3) := by decide +kernel
theorem dX7_step_85 : decode cX7_step 85 = .ok (.iload_n 3, 1) := by decide +kernel
theorem dX7_step_86 : decode cX7_step 86 = .ok (.iaload, 1) := by decide +kernel
theorem dX7_step_87 : decode cX7_step 87 = .ok (.iastore, 1) := by decide +kernel
theorem dX7_step_88 : decode cX7_step 88 = .ok (.iinc 3 1, 3) := by decide +kernel
theorem dX7_step_91 : decode cX7_step 91 = .ok (.goto (-40), 3) := by decide +kernel
theorem dX7_step_94 : decode cX7_step 94 = .ok (.iload_n 2, 1) := by decide +kernel
theorem dX7_step_95 : decode cX7_step 95 = .ok (.ireturn, 1) := by decide +kernel
theorem dX7_near_0 : decode cX7_near 0 = .ok (.aload_n 0, 1) := by decide +kernel
theorem dX7_near_1 : decode cX7_near 1 = .ok (.getfield 15, 3) := by decide +kernel
theorem dX7_near_4 : decode cX7_near 4 = .ok (.iload_n 2, 1) := by decide +kernel
theorem dX7_near_5 : decode cX7_near 5 = .ok (.iaload, 1) := by decide +kernel
theorem dX7_near_6 : decode cX7_near 6 = .ok (.iconst 1, 1) := by decide +kernel
theorem dX7_near_7 : decode cX7_near 7 = .ok (.ishl, 1) := by decide +kernel
theorem dX7_near_8 : decode cX7_near 8 = .ok (.aload_n 0, 1) := by decide +kernel
theorem dX7_near_9 : decode cX7_near 9 = .ok (.getfield 15, 3) := by decide +kernel
theorem dX7_near_12 : decode cX7_near 12 = .ok (.iload_n 2, 1) := by decide +kernel
theorem dX7_near_13 : decode cX7_near 13 = .ok (.iaload, 1) := by decide +kernel
theorem dX7_near_14 : decode cX7_near 14 = .ok (.iconst 1, 1) := by decide +kernel
theorem dX7_near_15 : decode cX7_near 15 = .ok (.ishr, 1) := by decide +kernel
theorem dX7_near_16 : decode cX7_near 16 = .ok (.ior, 1) := by decide +kernel
theorem dX7_near_17 : decode cX7_near 17 = .ok (.istore_n 3, 1) := by decide +kernel
theorem dX7_near_18 : decode cX7_near 18 = .ok (.iload_n 2, 1) := by decide +kernel
theorem dX7_near_19 : decode cX7_near 19 = .ok (.ifCond .le 23, 3) := by decide +kernel
theorem dX7_near_22 : decode cX7_near 22 = .ok (.iload_n 3, 1) := by decide +kernel
theorem dX7_near_23 : decode cX7_near 23 = .ok (.aload_n 1, 1) := by decide +kernel
theorem dX7_near_24 : decode cX7_near 24 = .ok (.getfield 50, 3) := by decide +kernel
theorem dX7_near_27 : decode cX7_near 27 = .ok (.iload_n 2, 1) := by decide +kernel
theorem dX7_near_28 : decode cX7_near 28 = .ok (.iaload, 1) := by decide +kernel
theorem dX7_near_29 : decode cX7_near 29 = .ok (.aload_n 0, 1) := by decide +kernel
theorem dX7_near_30 : decode cX7_near 30 = .ok (.getfield 15, 3) := by decide +kernel
theorem dX7_near_33 : decode cX7_near 33 = .ok (.iload_n 2, 1) := by decide +kernel
theorem dX7_near_34 : decode cX7_near 34 = .ok (.iconst 1, 1) := by decide +kernel
theorem dX7_near_35 : decode cX7_near 35 = .ok (.isub, 1) := by decide +kernel
theorem dX7_near_36 : decode cX7_near 36 = .ok (.iaload, 1) := by decide +kernel
theorem dX7_near_37 : decode cX7_near 37 = .ok (.invokestatic 53, 3) := by decide +kernel
theorem dX7_near_40 : decode cX7_near 40 = .ok (.ior, 1) := by decide +kernel
theorem dX7_near_41 : decode cX7_near 41 = .ok (.istore_n 3, 1) := by decide +kernel
theorem dX7_near_42 : decode cX7_near 42 = .ok (.iload_n 2, 1) := by decide +kernel
theorem dX7_near_43 : decode cX7_near 43 = .ok (.iconst 1, 1) := by decide +kernel
theorem dX7_near_44 : decode cX7_near 44 = .ok (.iadd, 1) := by decide +kernel
theorem dX7_near_45 : decode cX7_near 45 = .ok (.aload_n 1, 1) := by decide +kernel
theorem dX7_near_46 : decode cX7_near 46 = .ok (.getfield 30, 3) := by decide +kernel
theorem dX7_near_49 : decode cX7_near 49 = .ok (.if_icmp .ge 25, 3) := by decide +kernel
theorem dX7_near_52 : decode cX7_near 52 = .ok (.iload_n 3, 1) := by decide +kernel
theorem dX7_near_53 : decode cX7_near 53 = .ok (.aload_n 1, 1) := by decide +kernel
theorem dX7_near_54 : decode cX7_near 54 = .ok (.getfield 50, 3) := by decide +kernel
theorem dX7_near_57 : decode cX7_near 57 = .ok (.iload_n 2, 1) := by decide +kernel
theorem dX7_near_58 : decode cX7_near 58 = .ok (.iconst 1, 1) := by decide +kernel
theorem dX7_near_59 : decode cX7_near 59 = .ok (.iadd, 1) := by decide +kernel
theorem dX7_near_60 : decode cX7_near 60 = .ok (.iaload, 1) := by decide +kernel
theorem dX7_near_61 : decode cX7_near 61 = .ok (.aload_n 0, 1) := by decide +kernel
theorem dX7_near_62 : decode cX7_near 62 = .ok (.getfield 15, 3) := by decide +kernel
theorem dX7_near_65 : decode cX7_near 65 = .ok (.iload_n 2, 1) := by decide +kernel
theorem dX7_near_66 : decode cX7_near 66 = .ok (.iconst 1, 1) := by decide +kernel
theorem dX7_near_67 : decode cX7_near 67 = .ok (.iadd, 1) := by decide +kernel
theorem dX7_near_68 : decode cX7_near 68 = .ok (.iaload, 1) := by decide +kernel
theorem dX7_near_69 : decode cX7_near 69 = .ok (.invokestatic 58, 3) := by decide +kernel
theorem dX7_near_72 : decode cX7_near 72 = .ok (.ior, 1) := by decide +kernel
theorem dX7_near_73 : decode cX7_near 73 = .ok (.istore_n 3, 1) := by decide +kernel
theorem dX7_near_74 : decode cX7_near 74 = .ok (.iload_n 3, 1) := by decide +kernel
theorem dX7_near_75 : decode cX7_near 75 = .ok (.ireturn, 1) := by decide +kernel
theorem dX8_init_0 : decode cX8_init 0 = .ok (.aload_n 0, 1) := by decide +kernel
theorem dX8_init_1 : decode cX8_init 1 = .ok (.invokespecial 1, 3) := by decide +kernel
theorem dX8_init_4 : decode cX8_init 4 = .ok (.aload_n 0, 1) := by decide +kernel
theorem dX8_init_5 : decode cX8_init 5 = .ok (.new 7, 3) := by decide +kernel
theorem dX8_init_8 : decode cX8_init 8 = .ok (.dup, 1) := by decide +kernel
theorem dX8_init_9 : decode cX8_init 9 = .ok (.invokespecial 9, 3) := by decide +kernel
theorem dX8_init_12 : decode cX8_init 12 = .ok (.putfield 10, 3) := by decide +kernel
theorem dX8_init_15 : decode cX8_init 15 = .ok (.aload_n 0, 1) := by decide +kernel
theorem dX8_init_16 : decode cX8_init 16 = .ok (.new 16, 3) := by decide +kernel
theorem dX8_init_19 : decode cX8_init 19 = .ok (.dup, 1) := by decide +kernel
theorem dX8_init_20 : decode cX8_init 20 = .ok (.aload_n 0, 1) := by decide +kernel
theorem dX8_init_21 : decode cX8_init 21 = .ok (.getfield 10, 3) := by decide +kernel
theorem dX8_init_24 : decode cX8_init 24 = .ok (.invokespecial 18, 3) := by decide +kernel
theorem dX8_init_27 : decode cX8_init 27 = .ok (.putfield 21, 3) := by decide +kernel
theorem dX8_init_30 : decode cX8_init 30 = .ok (.aload_n 0, 1) := by decide +kernel
theorem dX8_init_31 : decode cX8_init 31 = .ok (.new 16, 3) := by decide +kernel
theorem dX8_init_34 : decode cX8_init 34 = .ok (.dup, 1) := by decide +kernel
theorem dX8_init_35 : decode cX8_init 35 = .ok (.aload_n 0, 1) := by decide +kernel
theorem dX8_init_36 : decode cX8_init 36 = .ok (.getfield 10, 3) := by decide +kernel
theorem dX8_init_39 : decode cX8_init 39 = .ok (.invokespecial 18, 3) := by decide +kernel
theorem dX8_init_42 : decode cX8_init 42 = .ok (.putfield 25, 3) := by decide +kernel
theorem dX8_init_45 : decode cX8_init 45 = .ok (.aload_n 0, 1) := by decide +kernel
theorem dX8_init_46 : decode cX8_init 46 = .ok (.new 16, 3) := by decide +kernel
theorem dX8_init_49 : decode cX8_init 49 = .ok (.dup, 1) := by decide +kernel
theorem dX8_init_50 : decode cX8_init 50 = .ok (.aload_n 0, 1) := by decide +kernel
theorem dX8_init_51 : decode cX8_init 51 = .ok (.getfield 10, 3) := by decide +kernel
theorem dX8_init_54 : decode cX8_init 54 = .ok (.invokespecial 18, 3) := by decide +kernel
theorem dX8_init_57 : decode cX8_init 57 = .ok (.putfield 28, 3) := by decide +kernel
theorem dX8_init_60 : decode cX8_init 60 = .ok (.aload_n 0, 1) := by decide +kernel
theorem dX8_init_61 : decode cX8_init 61 = .ok (.new 31, 3) := by decide +kernel
theorem dX8_init_64 : decode cX8_init 64 = .ok (.dup, 1) := by decide +kernel
theorem dX8_init_65 : decode cX8_init 65 = .ok (.invokespecial 33, 3) := by decide +kernel
theorem dX8_init_68 : decode cX8_init 68 = .ok (.putfield 34, 3) := by decide +kernel
theorem dX8_init_71 : decode cX8_init 71 = .ok (.aload_n 0, 1) := by decide +kernel
theorem dX8_init_72 : decode cX8_init 72 = .ok (.new 38, 3) := by decide +kernel
theorem dX8_init_75 : decode cX8_init 75 = .ok (.dup, 1) := by decide +kernel
theorem dX8_init_76 : decode cX8_init 76 = .ok (.invokespecial 40, 3) := by decide +kernel
theorem dX8_init_79 : decode cX8_init 79 = .ok (.putfield 41, 3) := by decide +kernel
theorem dX8_init_82 : decode cX8_init 82 = .ok (.aload_n 0, 1) := by decide +kernel
theorem dX8_init_83 : decode cX8_init 83 = .ok (.new 45, 3) := by decide +kernel
theorem dX8_init_86 : decode cX8_init 86 = .ok (.dup, 1) := by decide +kernel
theorem dX8_init_87 : decode cX8_init 87 = .ok (.aload_n 0, 1) := by decide +kernel
theorem dX8_init_88 : decode cX8_init 88 = .ok (.getfield 41, 3) := by decide +kernel
theorem dX8_init_91 : decode cX8_init 91 = .ok (.invokespecial 47, 3) := by decide +kernel
theorem dX8_init_94 : decode cX8_init 94 = .ok (.putfield 50, 3) := by decide +kernel
theorem dX8_init_97 : decode cX8_init 97 = .ok (.aload_n 0, 1) := by decide +kernel
theorem dX8_init_98 : decode cX8_init 98 = .ok (.iconst 4, 1) := by decide +kernel
theorem dX8_init_99 : decode cX8_init 99 = .ok (.anewarray 54, 3) := by decide +kernel
theorem dX8_init_102 : decode cX8_init 102 = .ok (.putfield 56, 3) := by decide +kernel
theorem dX8_init_105 : decode cX8_init 105 = .ok (.iconst 0, 1) := by decide +kernel
theorem dX8_init_106 : decode cX8_init 106 = .ok (.istore_n 1, 1) := by decide +kernel
theorem dX8_init_107 : decode cX8_init 107 = .ok (.iload_n 1, 1) := by decide +kernel
theorem dX8_init_108 : decode cX8_init 108 = .ok (.iconst 4, 1) := by decide +kernel
theorem dX8_init_109 : decode cX8_init 109 = .ok (.if_icmp .ge 22, 3) := by decide +kernel
theorem dX8_init_112 : decode cX8_init 112 = .ok (.aload_n 0, 1) := by decide +kernel
theorem dX8_init_113 : decode cX8_init 113 = .ok (.getfield 56, 3) := by decide +kernel
theorem dX8_init_116 : decode cX8_init 116 = .ok (.iload_n 1, 1) := by decide +kernel
theorem dX8_init_117 : decode cX8_init 117 = .ok (.new 54, 3) := by decide +kernel
theorem dX8_init_120 : decode cX8_init 120 = .ok (.dup, 1) := by decide +kernel
theorem dX8_init_121 : decode cX8_init 121 = .ok (.invokespecial 60, 3) := by decide +kernel
theorem dX8_init_124 : decode cX8_init 124 = .ok (.aastore, 1) := by decide +kernel
theorem dX8_init_125 : decode cX8_init 125 = .ok (.iinc 1 1, 3) := by decide +kernel
theorem dX8_init_128 : decode cX8_init 128 = .ok (.goto (-21), 3) := by decide +kernel
theorem dX8_init_131 : decode cX8_init 131 = .ok (.aload_n 0, 1) := by decide +kernel
theorem dX8_init_132 : decode cX8_init 132 = .ok (.iconst 5, 1) := by decide +kernel
theorem dX8_init_133 : decode cX8_init 133 = .ok (.anewarray 61, 3) := by decide +kernel
theorem dX8_init_136 : decode cX8_init 136 = .ok (.putfield 63, 3) := by decide +kernel
theorem dX8_init_139 : decode cX8_init 139 = .ok (.iconst 0, 1) := by decide +kernel
theorem dX8_init_140 : decode cX8_init 140 = .ok (.istore_n 1, 1) := by decide +kernel
theorem dX8_init_141 : decode cX8_init 141 = .ok (.iload_n 1, 1) := by decide +kernel
theorem dX8_init_142 : decode cX8_init 142 = .ok (.iconst 5, 1) := by decide +kernel
theorem dX8_init_143 : decode cX8_init 143 = .ok (.if_icmp .ge 22, 3) := by decide +kernel
theorem dX8_init_146 : decode cX8_init 146 = .ok (.aload_n 0, 1) := by decide +kernel
theorem dX8_init_147 : decode cX8_init 147 = .ok (.getfield 63, 3) := by decide +kernel
theorem dX8_init_150 : decode cX8_init 150 = .ok (.iload_n 1, 1) := by decide +kernel
theorem dX8_init_151 : decode cX8_init 151 = .ok (.new 61, 3) := by decide +kernel
theorem dX8_init_154 : decode cX8_init 154 = .ok (.dup, 1) := by decide +kernel
theorem dX8_init_155 : decode cX8_init 155 = .ok (.invokespecial 67, 3) := by decide +kernel
theorem dX8_init_158 : decode cX8_init 158 = .ok (.aastore, 1) := by decide +kernel
theorem dX8_init_159 : decode cX8_init 159 = .ok (.iinc 1 1, 3) := by decide +kernel
theorem dX8_init_162 : decode cX8_init 162 = .ok (.goto (-21), 3) := by decide +kernel
theorem dX8_init_165 : decode cX8_init 165 = .ok (.aload_n 0, 1) := by decide +kernel
theorem dX8_init_166 : decode cX8_init 166 = .ok (.bipush 60, 2) := by decide +kernel
theorem dX8_init_168 : decode cX8_init 168 = .ok (.newarray .int, 2) := by decide +kernel
theorem dX8_init_170 : decode cX8_init 170 = .ok (.putfield 68, 3) := by decide +kernel
theorem dX8_init_173 : decode cX8_init 173 = .ok (.return_, 1) := by decide +kernel
theorem dX8_knit_0 : decode cX8_knit 0 = .ok (.iload_n 1, 1) := by decide +kernel
theorem dX8_knit_1 : decode cX8_knit 1 = .ok (.invokestatic 72, 3) := by decide +kernel
theorem dX8_knit_4 : decode cX8_knit 4 = .ok (.ifCond .eq 10, 3) := by decide +kernel
theorem dX8_knit_7 : decode cX8_knit 7 = .ok (.iload_n 2, 1) := by decide +kernel
theorem dX8_knit_8 : decode cX8_knit 8 = .ok (.invokestatic 78, 3) := by decide +kernel
theorem dX8_knit_11 : decode cX8_knit 11 = .ok (.ifCond .ne 6, 3) := by decide +kernel
theorem dX8_knit_14 : decode cX8_knit 14 = .ok (.ldc 81, 2) := by decide +kernel
theorem dX8_knit_16 : decode cX8_knit 16 = .ok (.ireturn, 1) := by decide +kernel
theorem dX8_knit_17 : decode cX8_knit 17 = .ok (.aload_n 0, 1) := by decide +kernel
theorem dX8_knit_18 : decode cX8_knit 18 = .ok (.getfield 21, 3) := by decide +kernel
theorem dX8_knit_21 : decode cX8_knit 21 = .ok (.invokevirtual 82, 3) := by decide +kernel
theorem dX8_knit_24 : decode cX8_knit 24 = .ok (.ifCond .eq 6, 3) := by decide +kernel
theorem dX8_knit_27 : decode cX8_knit 27 = .ok (.ldc 86, 2) := by decide +kernel
theorem dX8_knit_29 : decode cX8_knit 29 = .ok (.ireturn, 1) := by decide +kernel
theorem dX8_knit_30 : decode cX8_knit 30 = .ok (.aload_n 0, 1) := by decide +kernel
theorem dX8_knit_31 : decode cX8_knit 31 = .ok (.getfield 21, 3) := by decide +kernel
theorem dX8_knit_34 : decode cX8_knit 34 = .ok (.iload_n 1, 1) := by decide +kernel
theorem dX8_knit_35 : decode cX8_knit 35 = .ok (.iload_n 2, 1) := by decide +kernel
theorem dX8_knit_36 : decode cX8_knit 36 = .ok (.iconst 0, 1) := by decide +kernel
theorem dX8_knit_37 : decode cX8_knit 37 = .ok (.invokevirtual 87, 3) := by decide +kernel
theorem dX8_knit_40 : decode cX8_knit 40 = .ok (.aload_n 0, 1) := by decide +kernel
theorem dX8_knit_41 : decode cX8_knit 41 = .ok (.getfield 21, 3) := by decide +kernel
theorem dX8_knit_44 : decode cX8_knit 44 = .ok (.getfield 91, 3) := by decide +kernel
theorem dX8_knit_47 : decode cX8_knit 47 = .ok (.iconst 1, 1) := by decide +kernel
theorem dX8_knit_48 : decode cX8_knit 48 = .ok (.isub, 1) := by decide +kernel
theorem dX8_knit_49 : decode cX8_knit 49 = .ok (.ireturn, 1) := by decide +kernel
theorem dX8_told_0 : decode cX8_told 0 = .ok (.aload_n 0, 1) := by decide +kernel
theorem dX8_told_1 : decode cX8_told 1 = .ok (.getfield 21, 3) := by decide +kernel
theorem dX8_told_4 : decode cX8_told 4 = .ok (.iload_n 1, 1) := by decide +kernel
theorem dX8_told_5 : decode cX8_told 5 = .ok (.invokevirtual 95, 3) := by decide +kernel
theorem dX8_told_8 : decode cX8_told 8 = .ok (.ifCond .ne 6, 3) := by decide +kernel
theorem dX8_told_11 : decode cX8_told 11 = .ok (.ldc 81, 2) := by decide +kernel
theorem dX8_told_13 : decode cX8_told 13 = .ok (.ireturn, 1) := by decide +kernel
theorem dX8_told_14 : decode cX8_told 14 = .ok (.iload_n 2, 1) := by decide +kernel
theorem dX8_told_15 : decode cX8_told 15 = .ok (.tableswitch 147 0 7 #[45, 55, 65, 75, 85, 94, 103, 125], 45) := by decide +kernel
theorem dX8_told_60 : decode cX8_told 60 = .ok (.aload_n 0, 1) := by decide +kernel
theorem dX8_told_61 : decode cX8_told 61 = .ok (.getfield 21, 3) := by decide +kernel
theorem dX8_told_64 : decode cX8_told 64 = .ok (.getfield 98, 3) := by decide +kernel
theorem dX8_told_67 : decode cX8_told 67 = .ok (.iload_n 1, 1) := by decide +kernel
theorem dX8_told_68 : decode cX8_told 68 = .ok (.iaload, 1) := by decide +kernel
theorem dX8_told_69 : decode cX8_told 69 = .ok (.ireturn, 1) := by decide +kernel
theorem dX8_told_70 : decode cX8_told 70 = .ok (.aload_n 0, 1) := by decide +kernel
theorem dX8_told_71 : decode cX8_told 71 = .ok (.getfield 21, 3) := by decide +kernel
theorem dX8_told_74 : decode cX8_told 74 = .ok (.getfield 101, 3) := by decide +kernel
theorem dX8_told_77 : decode cX8_told 77 = .ok (.iload_n 1, 1) := by decide +kernel
theorem dX8_told_78 : decode cX8_told 78 = .ok (.iaload, 1) := by decide +kernel
theorem dX8_told_79 : decode cX8_told 79 = .ok (.ireturn, 1) := by decide +kernel
theorem dX8_told_80 : decode cX8_told 80 = .ok (.aload_n 0, 1) := by decide +kernel
theorem dX8_told_81 : decode cX8_told 81 = .ok (.getfield 21, 3) := by decide +kernel
theorem dX8_told_84 : decode cX8_told 84 = .ok (.getfield 104, 3) := by decide +kernel
theorem dX8_told_87 : decode cX8_told 87 = .ok (.iload_n 1, 1) := by decide +kernel
theorem dX8_told_88 : decode cX8_told 88 = .ok (.iaload, 1) := by decide +kernel
theorem dX8_told_89 : decode cX8_told 89 = .ok (.ireturn, 1) := by decide +kernel
theorem dX8_told_90 : decode cX8_told 90 = .ok (.aload_n 0, 1) := by decide +kernel
theorem dX8_told_91 : decode cX8_told 91 = .ok (.getfield 21, 3) := by decide +kernel
theorem dX8_told_94 : decode cX8_told 94 = .ok (.getfield 107, 3) := by decide +kernel
theorem dX8_told_97 : decode cX8_told 97 = .ok (.iload_n 1, 1) := by decide +kernel
theorem dX8_told_98 : decode cX8_told 98 = .ok (.iaload, 1) := by decide +kernel
theorem dX8_told_99 : decode cX8_told 99 = .ok (.ireturn, 1) := by decide +kernel
theorem dX8_told_100 : decode cX8_told 100 = .ok (.aload_n 0, 1) := by decide +kernel
theorem dX8_told_101 : decode cX8_told 101 = .ok (.getfield 21, 3) := by decide +kernel
theorem dX8_told_104 : decode cX8_told 104 = .ok (.iload_n 1, 1) := by decide +kernel
theorem dX8_told_105 : decode cX8_told 105 = .ok (.invokevirtual 110, 3) := by decide +kernel
theorem dX8_told_108 : decode cX8_told 108 = .ok (.ireturn, 1) := by decide +kernel
theorem dX8_told_109 : decode cX8_told 109 = .ok (.aload_n 0, 1) := by decide +kernel
theorem dX8_told_110 : decode cX8_told 110 = .ok (.getfield 21, 3) := by decide +kernel
theorem dX8_told_113 : decode cX8_told 113 = .ok (.iload_n 1, 1) := by decide +kernel
theorem dX8_told_114 : decode cX8_told 114 = .ok (.invokevirtual 114, 3) := by decide +kernel
theorem dX8_told_117 : decode cX8_told 117 = .ok (.ireturn, 1) := by decide +kernel
theorem dX8_told_118 : decode cX8_told 118 = .ok (.aload_n 0, 1) := by decide +kernel
theorem dX8_told_119 : decode cX8_told 119 = .ok (.getfield 21, 3) := by decide +kernel
theorem dX8_told_122 : decode cX8_told 122 = .ok (.getfield 98, 3) := by decide +kernel
theorem dX8_told_125 : decode cX8_told 125 = .ok (.iload_n 1, 1) := by decide +kernel
theorem dX8_told_126 : decode cX8_told 126 = .ok (.iaload, 1) := by decide +kernel
theorem dX8_told_127 : decode cX8_told 127 = .ok (.aload_n 0, 1) := by decide +kernel
theorem dX8_told_128 : decode cX8_told 128 = .ok (.getfield 21, 3) := by decide +kernel
theorem dX8_told_131 : decode cX8_told 131 = .ok (.getfield 101, 3) := by decide +kernel
theorem dX8_told_134 : decode cX8_told 134 = .ok (.iload_n 1, 1) := by decide +kernel
theorem dX8_told_135 : decode cX8_told 135 = .ok (.iaload, 1) := by decide +kernel
theorem dX8_told_136 : decode cX8_told 136 = .ok (.invokestatic 117, 3) := by decide +kernel
theorem dX8_told_139 : decode cX8_told 139 = .ok (.ireturn, 1) := by decide +kernel
theorem dX8_told_140 : decode cX8_told 140 = .ok (.aload_n 0, 1) := by decide +kernel
theorem dX8_told_141 : decode cX8_told 141 = .ok (.getfield 21, 3) := by decide +kernel
theorem dX8_told_144 : decode cX8_told 144 = .ok (.getfield 98, 3) := by decide +kernel
theorem dX8_told_147 : decode cX8_told 147 = .ok (.iload_n 1, 1) := by decide +kernel
theorem dX8_told_148 : decode cX8_told 148 = .ok (.iaload, 1) := by decide +kernel
theorem dX8_told_149 : decode cX8_told 149 = .ok (.aload_n 0, 1) := by decide +kernel
theorem dX8_told_150 : decode cX8_told 150 = .ok (.getfield 21, 3) := by decide +kernel
theorem dX8_told_153 : decode cX8_told 153 = .ok (.getfield 101, 3) := by decide +kernel
theorem dX8_told_156 : decode cX8_told 156 = .ok (.iload_n 1, 1) := by decide +kernel
theorem dX8_told_157 : decode cX8_told 157 = .ok (.iaload, 1) := by decide +kernel
theorem dX8_told_158 : decode cX8_told 158 = .ok (.invokestatic 121, 3) := by decide +kernel
theorem dX8_told_161 : decode cX8_told 161 = .ok (.ireturn, 1) := by decide +kernel
theorem dX8_told_162 : decode cX8_told 162 = .ok (.ldc 81, 2) := by decide +kernel
theorem dX8_told_164 : decode cX8_told 164 = .ok (.ireturn, 1) := by decide +kernel
theorem dX8_as_0 : decode cX8_as 0 = .ok (.aload_n 0, 1) := by decide +kernel
theorem dX8_as_1 : decode cX8_as 1 = .ok (.getfield 21, 3) := by decide +kernel
theorem dX8_as_4 : decode cX8_as 4 = .ok (.iload_n 1, 1) := by decide +kernel
theorem dX8_as_5 : decode cX8_as 5 = .ok (.invokevirtual 95, 3) := by decide +kernel
theorem dX8_as_8 : decode cX8_as 8 = .ok (.ifCond .eq 10, 3) := by decide +kernel
theorem dX8_as_11 : decode cX8_as 11 = .ok (.iload_n 2, 1) := by decide +kernel
theorem dX8_as_12 : decode cX8_as 12 = .ok (.invokestatic 72, 3) := by decide +kernel
theorem dX8_as_15 : decode cX8_as 15 = .ok (.ifCond .ne 6, 3) := by decide +kernel
theorem dX8_as_18 : decode cX8_as 18 = .ok (.ldc 81, 2) := by decide +kernel
theorem dX8_as_20 : decode cX8_as 20 = .ok (.ireturn, 1) := by decide +kernel
theorem dX8_as_21 : decode cX8_as 21 = .ok (.aload_n 0, 1) := by decide +kernel
theorem dX8_as_22 : decode cX8_as 22 = .ok (.getfield 21, 3) := by decide +kernel
theorem dX8_as_25 : decode cX8_as 25 = .ok (.getfield 98, 3) := by decide +kernel
theorem dX8_as_28 : decode cX8_as 28 = .ok (.iload_n 1, 1) := by decide +kernel
theorem dX8_as_29 : decode cX8_as 29 = .ok (.iaload, 1) := by decide +kernel
theorem dX8_as_30 : decode cX8_as 30 = .ok (.iload_n 2, 1) := by decide +kernel
theorem dX8_as_31 : decode cX8_as 31 = .ok (.invokestatic 124, 3) := by decide +kernel
theorem dX8_as_34 : decode cX8_as 34 = .ok (.ifCond .eq 15, 3) := by decide +kernel
theorem dX8_as_37 : decode cX8_as 37 = .ok (.aload_n 0, 1) := by decide +kernel
theorem dX8_as_38 : decode cX8_as 38 = .ok (.getfield 21, 3) := by decide +kernel
theorem dX8_as_41 : decode cX8_as 41 = .ok (.getfield 104, 3) := by decide +kernel
theorem dX8_as_44 : decode cX8_as 44 = .ok (.iload_n 1, 1) := by decide +kernel
theorem dX8_as_45 : decode cX8_as 45 = .ok (.iaload, 1) := by decide +kernel
theorem dX8_as_46 : decode cX8_as 46 = .ok (.goto 5, 3) := by decide +kernel
theorem dX8_as_49 : decode cX8_as 49 = .ok (.ldc 128, 2) := by decide +kernel
theorem dX8_as_51 : decode cX8_as 51 = .ok (.ireturn, 1) := by decide +kernel
theorem dX8_turns_0 : decode cX8_turns 0 = .ok (.aload_n 0, 1) := by decide +kernel
theorem dX8_turns_1 : decode cX8_turns 1 = .ok (.getfield 21, 3) := by decide +kernel
theorem dX8_turns_4 : decode cX8_turns 4 = .ok (.iload_n 1, 1) := by decide +kernel
theorem dX8_turns_5 : decode cX8_turns 5 = .ok (.invokevirtual 95, 3) := by decide +kernel
theorem dX8_turns_8 : decode cX8_turns 8 = .ok (.ifCond .eq 10, 3) := by decide +kernel
theorem dX8_turns_11 : decode cX8_turns 11 = .ok (.iload_n 2, 1) := by decide +kernel
theorem dX8_turns_12 : decode cX8_turns 12 = .ok (.invokestatic 72, 3) := by decide +kernel
theorem dX8_turns_15 : decode cX8_turns 15 = .ok (.ifCond .ne 6, 3) := by decide +kernel
theorem dX8_turns_18 : decode cX8_turns 18 = .ok (.ldc 81, 2) := by decide +kernel
theorem dX8_turns_20 : decode cX8_turns 20 = .ok (.ireturn, 1) := by decide +kernel
theorem dX8_turns_21 : decode cX8_turns 21 = .ok (.aload_n 0, 1) := by decide +kernel
theorem dX8_turns_22 : decode cX8_turns 22 = .ok (.getfield 21, 3) := by decide +kernel
theorem dX8_turns_25 : decode cX8_turns 25 = .ok (.getfield 98, 3) := by decide +kernel
theorem dX8_turns_28 : decode cX8_turns 28 = .ok (.iload_n 1, 1) := by decide +kernel
theorem dX8_turns_29 : decode cX8_turns 29 = .ok (.iaload, 1) := by decide +kernel
theorem dX8_turns_30 : decode cX8_turns 30 = .ok (.istore_n 3, 1) := by decide +kernel
theorem dX8_turns_31 : decode cX8_turns 31 = .ok (.aload_n 0, 1) := by decide +kernel
theorem dX8_turns_32 : decode cX8_turns 32 = .ok (.getfield 21, 3) := by decide +kernel
theorem dX8_turns_35 : decode cX8_turns 35 = .ok (.getfield 98, 3) := by decide +kernel
theorem dX8_turns_38 : decode cX8_turns 38 = .ok (.iload_n 1, 1) := by decide +kernel
theorem dX8_turns_39 : decode cX8_turns 39 = .ok (.iload_n 2, 1) := by decide +kernel
theorem dX8_turns_40 : decode cX8_turns 40 = .ok (.iastore, 1) := by decide +kernel
theorem dX8_turns_41 : decode cX8_turns 41 = .ok (.iload_n 3, 1) := by decide +kernel
theorem dX8_turns_42 : decode cX8_turns 42 = .ok (.ireturn, 1) := by decide +kernel
theorem dX8_set_0 : decode cX8_set 0 = .ok (.aload_n 0, 1) := by decide +kernel
theorem dX8_set_1 : decode cX8_set 1 = .ok (.getfield 21, 3) := by decide +kernel
theorem dX8_set_4 : decode cX8_set 4 = .ok (.iload_n 1, 1) := by decide +kernel
theorem dX8_set_5 : decode cX8_set 5 = .ok (.invokevirtual 95, 3) := by decide +kernel
theorem dX8_set_8 : decode cX8_set 8 = .ok (.ifCond .ne 6, 3) := by decide +kernel
theorem dX8_set_11 : decode cX8_set 11 = .ok (.ldc 81, 2) := by decide +kernel
theorem dX8_set_13 : decode cX8_set 13 = .ok (.ireturn, 1) := by decide +kernel
theorem dX8_set_14 : decode cX8_set 14 = .ok (.iload_n 2, 1) := by decide +kernel
theorem dX8_set_15 : decode cX8_set 15 = .ok (.iconst 1, 1) := by decide +kernel
theorem dX8_set_16 : decode cX8_set 16 = .ok (.if_icmp .ne 34, 3) := by decide +kernel
theorem dX8_set_19 : decode cX8_set 19 = .ok (.iload_n 3, 1) := by decide +kernel
theorem dX8_set_20 : decode cX8_set 20 = .ok (.invokestatic 78, 3) := by decide +kernel
theorem dX8_set_23 : decode cX8_set 23 = .ok (.ifCond .eq 27, 3) := by decide +kernel
theorem dX8_set_26 : decode cX8_set 26 = .ok (.aload_n 0, 1) := by decide +kernel
theorem dX8_set_27 : decode cX8_set 27 = .ok (.getfield 21, 3) := by decide +kernel
theorem dX8_set_30 : decode cX8_set 30 = .ok (.getfield 101, 3) := by decide +kernel
theorem dX8_set_33 : decode cX8_set 33 = .ok (.iload_n 1, 1) := by decide +kernel
theorem dX8_set_34 : decode cX8_set 34 = .ok (.iaload, 1) := by decide +kernel
theorem dX8_set_35 : decode cX8_set 35 = .ok (.istore 4, 2) := by decide +kernel
theorem dX8_set_37 : decode cX8_set 37 = .ok (.aload_n 0, 1) := by decide +kernel
theorem dX8_set_38 : decode cX8_set 38 = .ok (.getfield 21, 3) := by decide +kernel
theorem dX8_set_41 : decode cX8_set 41 = .ok (.getfield 101, 3) := by decide +kernel
theorem dX8_set_44 : decode cX8_set 44 = .ok (.iload_n 1, 1) := by decide +kernel
theorem dX8_set_45 : decode cX8_set 45 = .ok (.iload_n 3, 1) := by decide +kernel
theorem dX8_set_46 : decode cX8_set 46 = .ok (.iastore, 1) := by decide +kernel
theorem dX8_set_47 : decode cX8_set 47 = .ok (.iload 4, 2) := by decide +kernel
theorem dX8_set_49 : decode cX8_set 49 = .ok (.ireturn, 1) := by decide +kernel
theorem dX8_set_50 : decode cX8_set 50 = .ok (.iload_n 2, 1) := by decide +kernel
theorem dX8_set_51 : decode cX8_set 51 = .ok (.iconst 2, 1) := by decide +kernel
theorem dX8_set_52 : decode cX8_set 52 = .ok (.if_icmp .ne 37, 3) := by decide +kernel
theorem dX8_set_55 : decode cX8_set 55 = .ok (.iload_n 3, 1) := by decide +kernel
theorem dX8_set_56 : decode cX8_set 56 = .ok (.ifCond .lt 33, 3) := by decide +kernel
theorem dX8_set_59 : decode cX8_set 59 = .ok (.iload_n 3, 1) := by decide +kernel
theorem dX8_set_60 : decode cX8_set 60 = .ok (.bipush 99, 2) := by decide +kernel
theorem dX8_set_62 : decode cX8_set 62 = .ok (.if_icmp .gt 27, 3) := by decide +kernel
theorem dX8_set_65 : decode cX8_set 65 = .ok (.aload_n 0, 1) := by decide +kernel
theorem dX8_set_66 : decode cX8_set 66 = .ok (.getfield 21, 3) := by decide +kernel
theorem dX8_set_69 : decode cX8_set 69 = .ok (.getfield 104, 3) := by decide +kernel
theorem dX8_set_72 : decode cX8_set 72 = .ok (.iload_n 1, 1) := by decide +kernel
theorem dX8_set_73 : decode cX8_set 73 = .ok (.iaload, 1) := by decide +kernel
theorem dX8_set_74 : decode cX8_set 74 = .ok (.istore 4, 2) := by decide +kernel
theorem dX8_set_76 : decode cX8_set 76 = .ok (.aload_n 0, 1) := by decide +kernel
theorem dX8_set_77 : decode cX8_set 77 = .ok (.getfield 21, 3) := by decide +kernel
theorem dX8_set_80 : decode cX8_set 80 = .ok (.getfield 104, 3) := by decide +kernel
theorem dX8_set_83 : decode cX8_set 83 = .ok (.iload_n 1, 1) := by decide +kernel
theorem dX8_set_84 : decode cX8_set 84 = .ok (.iload_n 3, 1) := by decide +kernel
theorem dX8_set_85 : decode cX8_set 85 = .ok (.iastore, 1) := by decide +kernel
theorem dX8_set_86 : decode cX8_set 86 = .ok (.iload 4, 2) := by decide +kernel
theorem dX8_set_88 : decode cX8_set 88 = .ok (.ireturn, 1) := by decide +kernel
theorem dX8_set_89 : decode cX8_set 89 = .ok (.ldc 81, 2) := by decide +kernel
theorem dX8_set_91 : decode cX8_set 91 = .ok (.ireturn, 1) := by decide +kernel
theorem dX8_drops_0 : decode cX8_drops 0 = .ok (.aload_n 0, 1) := by decide +kernel
theorem dX8_drops_1 : decode cX8_drops 1 = .ok (.iload_n 1, 1) := by decide +kernel
theorem dX8_drops_2 : decode cX8_drops 2 = .ok (.iload_n 2, 1) := by decide +kernel
theorem dX8_drops_3 : decode cX8_drops 3 = .ok (.invokevirtual 129, 3) := by decide +kernel
theorem dX8_drops_6 : decode cX8_drops 6 = .ok (.ifCond .ne 6, 3) := by decide +kernel
theorem dX8_drops_9 : decode cX8_drops 9 = .ok (.ldc 81, 2) := by decide +kernel
theorem dX8_drops_11 : decode cX8_drops 11 = .ok (.ireturn, 1) := by decide +kernel
theorem dX8_drops_12 : decode cX8_drops 12 = .ok (.iconst 1, 1) := by decide +kernel
theorem dX8_drops_13 : decode cX8_drops 13 = .ok (.iload_n 2, 1) := by decide +kernel
theorem dX8_drops_14 : decode cX8_drops 14 = .ok (.ishl, 1) := by decide +kernel
theorem dX8_drops_15 : decode cX8_drops 15 = .ok (.istore_n 3, 1) := by decide +kernel
theorem dX8_drops_16 : decode cX8_drops 16 = .ok (.aload_n 0, 1) := by decide +kernel
theorem dX8_drops_17 : decode cX8_drops 17 = .ok (.getfield 21, 3) := by decide +kernel
theorem dX8_drops_20 : decode cX8_drops 20 = .ok (.getfield 107, 3) := by decide +kernel
theorem dX8_drops_23 : decode cX8_drops 23 = .ok (.iload_n 1, 1) := by decide +kernel
theorem dX8_drops_24 : decode cX8_drops 24 = .ok (.iaload, 1) := by decide +kernel
theorem dX8_drops_25 : decode cX8_drops 25 = .ok (.iload_n 3, 1) := by decide +kernel
theorem dX8_drops_26 : decode cX8_drops 26 = .ok (.iand, 1) := by decide +kernel
theorem dX8_drops_27 : decode cX8_drops 27 = .ok (.ifCond .eq 6, 3) := by decide +kernel
theorem dX8_drops_30 : decode cX8_drops 30 = .ok (.ldc 132, 2) := by decide +kernel
theorem dX8_drops_32 : decode cX8_drops 32 = .ok (.ireturn, 1) := by decide +kernel
theorem dX8_drops_33 : decode cX8_drops 33 = .ok (.aload_n 0, 1) := by decide +kernel
theorem dX8_drops_34 : decode cX8_drops 34 = .ok (.getfield 21, 3) := by decide +kernel
theorem dX8_drops_37 : decode cX8_drops 37 = .ok (.invokevirtual 133, 3) := by decide +kernel
theorem dX8_drops_40 : decode cX8_drops 40 = .ok (.istore 4, 2) := by decide +kernel
theorem dX8_drops_42 : decode cX8_drops 42 = .ok (.aload_n 0, 1) := by decide +kernel
theorem dX8_drops_43 : decode cX8_drops 43 = .ok (.getfield 21, 3) := by decide +kernel
theorem dX8_drops_46 : decode cX8_drops 46 = .ok (.getfield 107, 3) := by decide +kernel
theorem dX8_drops_49 : decode cX8_drops 49 = .ok (.iload_n 1, 1) := by decide +kernel
theorem dX8_drops_50 : decode cX8_drops 50 = .ok (.dup2, 1) := by decide +kernel
theorem dX8_drops_51 : decode cX8_drops 51 = .ok (.iaload, 1) := by decide +kernel
theorem dX8_drops_52 : decode cX8_drops 52 = .ok (.iload_n 3, 1) := by decide +kernel
theorem dX8_drops_53 : decode cX8_drops 53 = .ok (.ior, 1) := by decide +kernel
theorem dX8_drops_54 : decode cX8_drops 54 = .ok (.iastore, 1) := by decide +kernel
theorem dX8_drops_55 : decode cX8_drops 55 = .ok (.iload 4, 2) := by decide +kernel
theorem dX8_drops_57 : decode cX8_drops 57 = .ok (.aload_n 0, 1) := by decide +kernel
theorem dX8_drops_58 : decode cX8_drops 58 = .ok (.getfield 21, 3) := by decide +kernel
theorem dX8_drops_61 : decode cX8_drops 61 = .ok (.invokevirtual 133, 3) := by decide +kernel
theorem dX8_drops_64 : decode cX8_drops 64 = .ok (.isub, 1) := by decide +kernel
theorem dX8_drops_65 : decode cX8_drops 65 = .ok (.ireturn, 1) := by decide +kernel
theorem dX8_hooks_0 : decode cX8_hooks 0 = .ok (.aload_n 0, 1) := by decide +kernel
theorem dX8_hooks_1 : decode cX8_hooks 1 = .ok (.iload_n 1, 1) := by decide +kernel
theorem dX8_hooks_2 : decode cX8_hooks 2 = .ok (.iload_n 2, 1) := by decide +kernel
theorem dX8_hooks_3 : decode cX8_hooks 3 = .ok (.invokevirtual 129, 3) := by decide +kernel
theorem dX8_hooks_6 : decode cX8_hooks 6 = .ok (.ifCond .ne 6, 3) := by decide +kernel
theorem dX8_hooks_9 : decode cX8_hooks 9 = .ok (.ldc 81, 2) := by decide +kernel
theorem dX8_hooks_11 : decode cX8_hooks 11 = .ok (.ireturn, 1) := by decide +kernel
theorem dX8_hooks_12 : decode cX8_hooks 12 = .ok (.iconst 1, 1) := by decide +kernel
theorem dX8_hooks_13 : decode cX8_hooks 13 = .ok (.iload_n 2, 1) := by decide +kernel
theorem dX8_hooks_14 : decode cX8_hooks 14 = .ok (.ishl, 1) := by decide +kernel
theorem dX8_hooks_15 : decode cX8_hooks 15 = .ok (.istore_n 3, 1) := by decide +kernel
theorem dX8_hooks_16 : decode cX8_hooks 16 = .ok (.aload_n 0, 1) := by decide +kernel
theorem dX8_hooks_17 : decode cX8_hooks 17 = .ok (.getfield 21, 3) := by decide +kernel
theorem dX8_hooks_20 : decode cX8_hooks 20 = .ok (.getfield 107, 3) := by decide +kernel
theorem dX8_hooks_23 : decode cX8_hooks 23 = .ok (.iload_n 1, 1) := by decide +kernel
theorem dX8_hooks_24 : decode cX8_hooks 24 = .ok (.iaload, 1) := by decide +kernel
theorem dX8_hooks_25 : decode cX8_hooks 25 = .ok (.iload_n 3, 1) := by decide +kernel
theorem dX8_hooks_26 : decode cX8_hooks 26 = .ok (.iand, 1) := by decide +kernel
theorem dX8_hooks_27 : decode cX8_hooks 27 = .ok (.ifCond .ne 6, 3) := by decide +kernel
theorem dX8_hooks_30 : decode cX8_hooks 30 = .ok (.ldc 132, 2) := by decide +kernel
theorem dX8_hooks_32 : decode cX8_hooks 32 = .ok (.ireturn, 1) := by decide +kernel
theorem dX8_hooks_33 : decode cX8_hooks 33 = .ok (.aload_n 0, 1) := by decide +kernel
theorem dX8_hooks_34 : decode cX8_hooks 34 = .ok (.getfield 21, 3) := by decide +kernel
theorem dX8_hooks_37 : decode cX8_hooks 37 = .ok (.invokevirtual 133, 3) := by decide +kernel
theorem dX8_hooks_40 : decode cX8_hooks 40 = .ok (.istore 4, 2) := by decide +kernel
theorem dX8_hooks_42 : decode cX8_hooks 42 = .ok (.aload_n 0, 1) := by decide +kernel
theorem dX8_hooks_43 : decode cX8_hooks 43 = .ok (.getfield 21, 3) := by decide +kernel
theorem dX8_hooks_46 : decode cX8_hooks 46 = .ok (.getfield 107, 3) := by decide +kernel
theorem dX8_hooks_49 : decode cX8_hooks 49 = .ok (.iload_n 1, 1) := by decide +kernel
theorem dX8_hooks_50 : decode cX8_hooks 50 = .ok (.dup2, 1) := by decide +kernel
theorem dX8_hooks_51 : decode cX8_hooks 51 = .ok (.iaload, 1) := by decide +kernel
theorem dX8_hooks_52 : decode cX8_hooks 52 = .ok (.iload_n 3, 1) := by decide +kernel
theorem dX8_hooks_53 : decode cX8_hooks 53 = .ok (.iconst (-1), 1) := by decide +kernel
theorem dX8_hooks_54 : decode cX8_hooks 54 = .ok (.ixor, 1) := by decide +kernel
theorem dX8_hooks_55 : decode cX8_hooks 55 = .ok (.iand, 1) := by decide +kernel
theorem dX8_hooks_56 : decode cX8_hooks 56 = .ok (.iastore, 1) := by decide +kernel
theorem dX8_hooks_57 : decode cX8_hooks 57 = .ok (.aload_n 0, 1) := by decide +kernel
theorem dX8_hooks_58 : decode cX8_hooks 58 = .ok (.getfield 21, 3) := by decide +kernel
theorem dX8_hooks_61 : decode cX8_hooks 61 = .ok (.invokevirtual 133, 3) := by decide +kernel
theorem dX8_hooks_64 : decode cX8_hooks 64 = .ok (.iload 4, 2) := by decide +kernel
theorem dX8_hooks_66 : decode cX8_hooks 66 = .ok (.isub, 1) := by decide +kernel
theorem dX8_hooks_67 : decode cX8_hooks 67 = .ok (.ireturn, 1) := by decide +kernel
theorem dX8_rule_0 : decode cX8_rule 0 = .ok (.iload_n 1, 1) := by decide +kernel
theorem dX8_rule_1 : decode cX8_rule 1 = .ok (.ifCond .lt 25, 3) := by decide +kernel
theorem dX8_rule_4 : decode cX8_rule 4 = .ok (.iload_n 1, 1) := by decide +kernel
theorem dX8_rule_5 : decode cX8_rule 5 = .ok (.aload_n 0, 1) := by decide +kernel
theorem dX8_rule_6 : decode cX8_rule 6 = .ok (.getfield 21, 3) := by decide +kernel
theorem dX8_rule_9 : decode cX8_rule 9 = .ok (.getfield 137, 3) := by decide +kernel
theorem dX8_rule_12 : decode cX8_rule 12 = .ok (.arraylength, 1) := by decide +kernel
theorem dX8_rule_13 : decode cX8_rule 13 = .ok (.if_icmp .ge 13, 3) := by decide +kernel
theorem dX8_rule_16 : decode cX8_rule 16 = .ok (.iload_n 2, 1) := by decide +kernel
theorem dX8_rule_17 : decode cX8_rule 17 = .ok (.ifCond .lt 9, 3) := by decide +kernel
theorem dX8_rule_20 : decode cX8_rule 20 = .ok (.iload_n 2, 1) := by decide +kernel
theorem dX8_rule_21 : decode cX8_rule 21 = .ok (.bipush 100, 2) := by decide +kernel
theorem dX8_rule_23 : decode cX8_rule 23 = .ok (.if_icmp .le 6, 3) := by decide +kernel
theorem dX8_rule_26 : decode cX8_rule 26 = .ok (.ldc 81, 2) := by decide +kernel
theorem dX8_rule_28 : decode cX8_rule 28 = .ok (.ireturn, 1) := by decide +kernel
theorem dX8_rule_29 : decode cX8_rule 29 = .ok (.aload_n 0, 1) := by decide +kernel
theorem dX8_rule_30 : decode cX8_rule 30 = .ok (.getfield 21, 3) := by decide +kernel
theorem dX8_rule_33 : decode cX8_rule 33 = .ok (.getfield 137, 3) := by decide +kernel
theorem dX8_rule_36 : decode cX8_rule 36 = .ok (.iload_n 1, 1) := by decide +kernel
theorem dX8_rule_37 : decode cX8_rule 37 = .ok (.iaload, 1) := by decide +kernel
theorem dX8_rule_38 : decode cX8_rule 38 = .ok (.istore_n 3, 1) := by decide +kernel
theorem dX8_rule_39 : decode cX8_rule 39 = .ok (.aload_n 0, 1) := by decide +kernel
theorem dX8_rule_40 : decode cX8_rule 40 = .ok (.getfield 21, 3) := by decide +kernel
theorem dX8_rule_43 : decode cX8_rule 43 = .ok (.getfield 137, 3) := by decide +kernel
theorem dX8_rule_46 : decode cX8_rule 46 = .ok (.iload_n 1, 1) := by decide +kernel
theorem dX8_rule_47 : decode cX8_rule 47 = .ok (.iload_n 2, 1) := by decide +kernel
theorem dX8_rule_48 : decode cX8_rule 48 = .ok (.iastore, 1) := by decide +kernel
theorem dX8_rule_49 : decode cX8_rule 49 = .ok (.iload_n 3, 1) := by decide +kernel
theorem dX8_rule_50 : decode cX8_rule 50 = .ok (.ireturn, 1) := by decide +kernel
theorem dX8_deal_0 : decode cX8_deal 0 = .ok (.iload_n 1, 1) := by decide +kernel
theorem dX8_deal_1 : decode cX8_deal 1 = .ok (.iconst 1, 1) := by decide +kernel
theorem dX8_deal_2 : decode cX8_deal 2 = .ok (.if_icmp .lt 9, 3) := by decide +kernel
theorem dX8_deal_5 : decode cX8_deal 5 = .ok (.iload_n 1, 1) := by decide +kernel
theorem dX8_deal_6 : decode cX8_deal 6 = .ok (.bipush 12, 2) := by decide +kernel
theorem dX8_deal_8 : decode cX8_deal 8 = .ok (.if_icmp .le 6, 3) := by decide +kernel
theorem dX8_deal_11 : decode cX8_deal 11 = .ok (.ldc 81, 2) := by decide +kernel
theorem dX8_deal_13 : decode cX8_deal 13 = .ok (.ireturn, 1) := by decide +kernel
theorem dX8_deal_14 : decode cX8_deal 14 = .ok (.iconst 0, 1) := by decide +kernel
theorem dX8_deal_15 : decode cX8_deal 15 = .ok (.istore_n 2, 1) := by decide +kernel
theorem dX8_deal_16 : decode cX8_deal 16 = .ok (.iconst 0, 1) := by decide +kernel
theorem dX8_deal_17 : decode cX8_deal 17 = .ok (.istore_n 3, 1) := by decide +kernel
theorem dX8_deal_18 : decode cX8_deal 18 = .ok (.iload_n 3, 1) := by decide +kernel
theorem dX8_deal_19 : decode cX8_deal 19 = .ok (.iload_n 1, 1) := by decide +kernel
theorem dX8_deal_20 : decode cX8_deal 20 = .ok (.if_icmp .ge 29, 3) := by decide +kernel
theorem dX8_deal_23 : decode cX8_deal 23 = .ok (.aload_n 0, 1) := by decide +kernel
theorem dX8_deal_24 : decode cX8_deal 24 = .ok (.getfield 21, 3) := by decide +kernel
theorem dX8_deal_27 : decode cX8_deal 27 = .ok (.invokevirtual 82, 3) := by decide +kernel
theorem dX8_deal_30 : decode cX8_deal 30 = .ok (.ifCond .ne 19, 3) := by decide +kernel
theorem dX8_deal_33 : decode cX8_deal 33 = .ok (.aload_n 0, 1) := by decide +kernel
theorem dX8_deal_34 : decode cX8_deal 34 = .ok (.getfield 21, 3) := by decide +kernel
theorem dX8_deal_37 : decode cX8_deal 37 = .ok (.invokevirtual 140, 3) := by decide +kernel
theorem dX8_deal_40 : decode cX8_deal 40 = .ok (.iinc 2 1, 3) := by decide +kernel
theorem dX8_deal_43 : decode cX8_deal 43 = .ok (.iinc 3 1, 3) := by decide +kernel
theorem dX8_deal_46 : decode cX8_deal 46 = .ok (.goto (-28), 3) := by decide +kernel
theorem dX8_deal_49 : decode cX8_deal 49 = .ok (.iload_n 2, 1) := by decide +kernel
theorem dX8_deal_50 : decode cX8_deal 50 = .ok (.ireturn, 1) := by decide +kernel
theorem dX8_seed_0 : decode cX8_seed 0 = .ok (.aload_n 0, 1) := by decide +kernel
theorem dX8_seed_1 : decode cX8_seed 1 = .ok (.getfield 21, 3) := by decide +kernel
theorem dX8_seed_4 : decode cX8_seed 4 = .ok (.getfield 143, 3) := by decide +kernel
theorem dX8_seed_7 : decode cX8_seed 7 = .ok (.istore_n 2, 1) := by decide +kernel
theorem dX8_seed_8 : decode cX8_seed 8 = .ok (.aload_n 0, 1) := by decide +kernel
theorem dX8_seed_9 : decode cX8_seed 9 = .ok (.getfield 21, 3) := by decide +kernel
theorem dX8_seed_12 : decode cX8_seed 12 = .ok (.iload_n 1, 1) := by decide +kernel
theorem dX8_seed_13 : decode cX8_seed 13 = .ok (.putfield 143, 3) := by decide +kernel
theorem dX8_seed_16 : decode cX8_seed 16 = .ok (.iload_n 2, 1) := by decide +kernel
theorem dX8_seed_17 : decode cX8_seed 17 = .ok (.ireturn, 1) := by decide +kernel
theorem dX8_nights_0 : decode cX8_nights 0 = .ok (.iload_n 1, 1) := by decide +kernel
theorem dX8_nights_1 : decode cX8_nights 1 = .ok (.iconst 1, 1) := by decide +kernel
theorem dX8_nights_2 : decode cX8_nights 2 = .ok (.if_icmp .lt 9, 3) := by decide +kernel
theorem dX8_nights_5 : decode cX8_nights 5 = .ok (.iload_n 1, 1) := by decide +kernel
theorem dX8_nights_6 : decode cX8_nights 6 = .ok (.bipush 100, 2) := by decide +kernel
theorem dX8_nights_8 : decode cX8_nights 8 = .ok (.if_icmp .le 6, 3) := by decide +kernel
theorem dX8_nights_11 : decode cX8_nights 11 = .ok (.ldc 81, 2) := by decide +kernel
theorem dX8_nights_13 : decode cX8_nights 13 = .ok (.ireturn, 1) := by decide +kernel
theorem dX8_nights_14 : decode cX8_nights 14 = .ok (.aload_n 0, 1) := by decide +kernel
theorem dX8_nights_15 : decode cX8_nights 15 = .ok (.getfield 21, 3) := by decide +kernel
theorem dX8_nights_18 : decode cX8_nights 18 = .ok (.getfield 146, 3) := by decide +kernel
theorem dX8_nights_21 : decode cX8_nights 21 = .ok (.istore_n 2, 1) := by decide +kernel
theorem dX8_nights_22 : decode cX8_nights 22 = .ok (.iconst 0, 1) := by decide +kernel
theorem dX8_nights_23 : decode cX8_nights 23 = .ok (.istore_n 3, 1) := by decide +kernel
theorem dX8_nights_24 : decode cX8_nights 24 = .ok (.iload_n 3, 1) := by decide +kernel
theorem dX8_nights_25 : decode cX8_nights 25 = .ok (.iload_n 1, 1) := by decide +kernel
theorem dX8_nights_26 : decode cX8_nights 26 = .ok (.if_icmp .ge 29, 3) := by decide +kernel
theorem dX8_nights_29 : decode cX8_nights 29 = .ok (.aload_n 0, 1) := by decide +kernel
theorem dX8_nights_30 : decode cX8_nights 30 = .ok (.getfield 21, 3) := by decide +kernel
theorem dX8_nights_33 : decode cX8_nights 33 = .ok (.getfield 149, 3) := by decide +kernel
theorem dX8_nights_36 : decode cX8_nights 36 = .ok (.sipush 9999, 3) := by decide +kernel
theorem dX8_nights_39 : decode cX8_nights 39 = .ok (.if_icmp .ge 16, 3) := by decide +kernel
theorem dX8_nights_42 : decode cX8_nights 42 = .ok (.aload_n 0, 1) := by decide +kernel
theorem dX8_nights_43 : decode cX8_nights 43 = .ok (.getfield 21, 3) := by decide +kernel
theorem dX8_nights_46 : decode cX8_nights 46 = .ok (.invokevirtual 152, 3) := by decide +kernel
theorem dX8_nights_49 : decode cX8_nights 49 = .ok (.iinc 3 1, 3) := by decide +kernel
theorem dX8_nights_52 : decode cX8_nights 52 = .ok (.goto (-28), 3) := by decide +kernel
theorem dX8_nights_55 : decode cX8_nights 55 = .ok (.aload_n 0, 1) := by decide +kernel
theorem dX8_nights_56 : decode cX8_nights 56 = .ok (.getfield 21, 3) := by decide +kernel
theorem dX8_nights_59 : decode cX8_nights 59 = .ok (.getfield 146, 3) := by decide +kernel
theorem dX8_nights_62 : decode cX8_nights 62 = .ok (.iload_n 2, 1) := by decide +kernel
theorem dX8_nights_63 : decode cX8_nights 63 = .ok (.isub, 1) := by decide +kernel
theorem dX8_nights_64 : decode cX8_nights 64 = .ok (.ireturn, 1) := by decide +kernel
theorem dX8_town_0 : decode cX8_town 0 = .ok (.iload_n 1, 1) := by decide +kernel
theorem dX8_town_1 : decode cX8_town 1 = .ok (.tableswitch 75 0 4 #[35, 43, 51, 59, 67], 35) := by decide +kernel
theorem dX8_town_36 : decode cX8_town 36 = .ok (.aload_n 0, 1) := by decide +kernel
theorem dX8_town_37 : decode cX8_town 37 = .ok (.getfield 21, 3) := by decide +kernel
theorem dX8_town_40 : decode cX8_town 40 = .ok (.getfield 155, 3) := by decide +kernel
theorem dX8_town_43 : decode cX8_town 43 = .ok (.ireturn, 1) := by decide +kernel
theorem dX8_town_44 : decode cX8_town 44 = .ok (.aload_n 0, 1) := by decide +kernel
theorem dX8_town_45 : decode cX8_town 45 = .ok (.getfield 21, 3) := by decide +kernel
theorem dX8_town_48 : decode cX8_town 48 = .ok (.getfield 146, 3) := by decide +kernel
theorem dX8_town_51 : decode cX8_town 51 = .ok (.ireturn, 1) := by decide +kernel
theorem dX8_town_52 : decode cX8_town 52 = .ok (.aload_n 0, 1) := by decide +kernel
theorem dX8_town_53 : decode cX8_town 53 = .ok (.getfield 21, 3) := by decide +kernel
theorem dX8_town_56 : decode cX8_town 56 = .ok (.getfield 158, 3) := by decide +kernel
theorem dX8_town_59 : decode cX8_town 59 = .ok (.ireturn, 1) := by decide +kernel
theorem dX8_town_60 : decode cX8_town 60 = .ok (.aload_n 0, 1) := by decide +kernel
theorem dX8_town_61 : decode cX8_town 61 = .ok (.getfield 21, 3) := by decide +kernel
theorem dX8_town_64 : decode cX8_town 64 = .ok (.invokevirtual 133, 3) := by decide +kernel
theorem dX8_town_67 : decode cX8_town 67 = .ok (.ireturn, 1) := by decide +kernel
theorem dX8_town_68 : decode cX8_town 68 = .ok (.aload_n 0, 1) := by decide +kernel
theorem dX8_town_69 : decode cX8_town 69 = .ok (.getfield 21, 3) := by decide +kernel
theorem dX8_town_72 : decode cX8_town 72 = .ok (.invokevirtual 161, 3) := by decide +kernel
theorem dX8_town_75 : decode cX8_town 75 = .ok (.ireturn, 1) := by decide +kernel
theorem dX8_town_76 : decode cX8_town 76 = .ok (.ldc 81, 2) := by decide +kernel
theorem dX8_town_78 : decode cX8_town 78 = .ok (.ireturn, 1) := by decide +kernel
theorem dX8_way_0 : decode cX8_way 0 = .ok (.aload_n 0, 1) := by decide +kernel
theorem dX8_way_1 : decode cX8_way 1 = .ok (.iload_n 1, 1) := by decide +kernel
theorem dX8_way_2 : decode cX8_way 2 = .ok (.iload_n 2, 1) := by decide +kernel
theorem dX8_way_3 : decode cX8_way 3 = .ok (.invokevirtual 129, 3) := by decide +kernel
theorem dX8_way_6 : decode cX8_way 6 = .ok (.ifCond .eq 13, 3) := by decide +kernel
theorem dX8_way_9 : decode cX8_way 9 = .ok (.aload_n 0, 1) := by decide +kernel
theorem dX8_way_10 : decode cX8_way 10 = .ok (.iload_n 3, 1) := by decide +kernel
theorem dX8_way_11 : decode cX8_way 11 = .ok (.iload 4, 2) := by decide +kernel
theorem dX8_way_13 : decode cX8_way 13 = .ok (.invokevirtual 129, 3) := by decide +kernel
theorem dX8_way_16 : decode cX8_way 16 = .ok (.ifCond .ne 6, 3) := by decide +kernel
theorem dX8_way_19 : decode cX8_way 19 = .ok (.ldc 81, 2) := by decide +kernel
theorem dX8_way_21 : decode cX8_way 21 = .ok (.ireturn, 1) := by decide +kernel
theorem dX8_way_22 : decode cX8_way 22 = .ok (.aload_n 0, 1) := by decide +kernel
theorem dX8_way_23 : decode cX8_way 23 = .ok (.getfield 34, 3) := by decide +kernel
theorem dX8_way_26 : decode cX8_way 26 = .ok (.aload_n 0, 1) := by decide +kernel
theorem dX8_way_27 : decode cX8_way 27 = .ok (.getfield 21, 3) := by decide +kernel
theorem dX8_way_30 : decode cX8_way 30 = .ok (.iload_n 1, 1) := by decide +kernel
theorem dX8_way_31 : decode cX8_way 31 = .ok (.iload_n 2, 1) := by decide +kernel
theorem dX8_way_32 : decode cX8_way 32 = .ok (.iload_n 3, 1) := by decide +kernel
theorem dX8_way_33 : decode cX8_way 33 = .ok (.iload 4, 2) := by decide +kernel
theorem dX8_way_35 : decode cX8_way 35 = .ok (.invokevirtual 164, 3) := by decide +kernel
theorem dX8_way_38 : decode cX8_way 38 = .ok (.ireturn, 1) := by decide +kernel
theorem dX8_reach_0 : decode cX8_reach 0 = .ok (.aload_n 0, 1) := by decide +kernel
theorem dX8_reach_1 : decode cX8_reach 1 = .ok (.iload_n 1, 1) := by decide +kernel
theorem dX8_reach_2 : decode cX8_reach 2 = .ok (.iload_n 2, 1) := by decide +kernel
theorem dX8_reach_3 : decode cX8_reach 3 = .ok (.invokevirtual 129, 3) := by decide +kernel
theorem dX8_reach_6 : decode cX8_reach 6 = .ok (.ifCond .eq 19, 3) := by decide +kernel
theorem dX8_reach_9 : decode cX8_reach 9 = .ok (.aload_n 0, 1) := by decide +kernel
theorem dX8_reach_10 : decode cX8_reach 10 = .ok (.getfield 34, 3) := by decide +kernel
theorem dX8_reach_13 : decode cX8_reach 13 = .ok (.aload_n 0, 1) := by decide +kernel
theorem dX8_reach_14 : decode cX8_reach 14 = .ok (.getfield 21, 3) := by decide +kernel
theorem dX8_reach_17 : decode cX8_reach 17 = .ok (.iload_n 1, 1) := by decide +kernel
theorem dX8_reach_18 : decode cX8_reach 18 = .ok (.iload_n 2, 1) := by decide +kernel
theorem dX8_reach_19 : decode cX8_reach 19 = .ok (.invokevirtual 168, 3) := by decide +kernel
theorem dX8_reach_22 : decode cX8_reach 22 = .ok (.goto 5, 3) := by decide +kernel
theorem dX8_reach_25 : decode cX8_reach 25 = .ok (.ldc 81, 2) := by decide +kernel
theorem dX8_reach_27 : decode cX8_reach 27 = .ok (.ireturn, 1) := by decide +kernel
theorem dX8_pulled_0 : decode cX8_pulled 0 = .ok (.aload_n 0, 1) := by decide +kernel
theorem dX8_pulled_1 : decode cX8_pulled 1 = .ok (.iload_n 1, 1) := by decide +kernel
theorem dX8_pulled_2 : decode cX8_pulled 2 = .ok (.iload_n 2, 1) := by decide +kernel
theorem dX8_pulled_3 : decode cX8_pulled 3 = .ok (.invokevirtual 129, 3) := by decide +kernel
theorem dX8_pulled_6 : decode cX8_pulled 6 = .ok (.ifCond .eq 25, 3) := by decide +kernel
theorem dX8_pulled_9 : decode cX8_pulled 9 = .ok (.aload_n 0, 1) := by decide +kernel
theorem dX8_pulled_10 : decode cX8_pulled 10 = .ok (.getfield 21, 3) := by decide +kernel
theorem dX8_pulled_13 : decode cX8_pulled 13 = .ok (.invokevirtual 133, 3) := by decide +kernel
theorem dX8_pulled_16 : decode cX8_pulled 16 = .ok (.aload_n 0, 1) := by decide +kernel
theorem dX8_pulled_17 : decode cX8_pulled 17 = .ok (.getfield 21, 3) := by decide +kernel
theorem dX8_pulled_20 : decode cX8_pulled 20 = .ok (.iload_n 1, 1) := by decide +kernel
theorem dX8_pulled_21 : decode cX8_pulled 21 = .ok (.iconst 1, 1) := by decide +kernel
theorem dX8_pulled_22 : decode cX8_pulled 22 = .ok (.iload_n 2, 1) := by decide +kernel
theorem dX8_pulled_23 : decode cX8_pulled 23 = .ok (.ishl, 1) := by decide +kernel
theorem dX8_pulled_24 : decode cX8_pulled 24 = .ok (.invokevirtual 172, 3) := by decide +kernel
theorem dX8_pulled_27 : decode cX8_pulled 27 = .ok (.isub, 1) := by decide +kernel
theorem dX8_pulled_28 : decode cX8_pulled 28 = .ok (.goto 5, 3) := by decide +kernel
theorem dX8_pulled_31 : decode cX8_pulled 31 = .ok (.ldc 81, 2) := by decide +kernel
theorem dX8_pulled_33 : decode cX8_pulled 33 = .ok (.ireturn, 1) := by decide +kernel
theorem dX8_worst_0 : decode cX8_worst 0 = .ok (.iload_n 1, 1) := by decide +kernel
theorem dX8_worst_1 : decode cX8_worst 1 = .ok (.ifCond .lt 8, 3) := by decide +kernel
theorem dX8_worst_4 : decode cX8_worst 4 = .ok (.iload_n 1, 1) := by decide +kernel
theorem dX8_worst_5 : decode cX8_worst 5 = .ok (.iconst 2, 1) := by decide +kernel
theorem dX8_worst_6 : decode cX8_worst 6 = .ok (.if_icmp .le 6, 3) := by decide +kernel
theorem dX8_worst_9 : decode cX8_worst 9 = .ok (.ldc 81, 2) := by decide +kernel
theorem dX8_worst_11 : decode cX8_worst 11 = .ok (.ireturn, 1) := by decide +kernel
theorem dX8_worst_12 : decode cX8_worst 12 = .ok (.aload_n 0, 1) := by decide +kernel
theorem dX8_worst_13 : decode cX8_worst 13 = .ok (.getfield 21, 3) := by decide +kernel
theorem dX8_worst_16 : decode cX8_worst 16 = .ok (.getfield 91, 3) := by decide +kernel
theorem dX8_worst_19 : decode cX8_worst 19 = .ok (.ifCond .ne 6, 3) := by decide +kernel
theorem dX8_worst_22 : decode cX8_worst 22 = .ok (.ldc 175, 2) := by decide +kernel
theorem dX8_worst_24 : decode cX8_worst 24 = .ok (.ireturn, 1) := by decide +kernel
theorem dX8_worst_25 : decode cX8_worst 25 = .ok (.aload_n 0, 1) := by decide +kernel
theorem dX8_worst_26 : decode cX8_worst 26 = .ok (.getfield 21, 3) := by decide +kernel
theorem dX8_worst_29 : decode cX8_worst 29 = .ok (.invokevirtual 133, 3) := by decide +kernel
theorem dX8_worst_32 : decode cX8_worst 32 = .ok (.istore_n 2, 1) := by decide +kernel
theorem dX8_worst_33 : decode cX8_worst 33 = .ok (.iconst 0, 1) := by decide +kernel
theorem dX8_worst_34 : decode cX8_worst 34 = .ok (.istore_n 3, 1) := by decide +kernel
theorem dX8_worst_35 : decode cX8_worst 35 = .ok (.iconst 0, 1) := by decide +kernel
theorem dX8_worst_36 : decode cX8_worst 36 = .ok (.istore 4, 2) := by decide +kernel
theorem dX8_worst_38 : decode cX8_worst 38 = .ok (.iconst (-1), 1) := by decide +kernel
theorem dX8_worst_39 : decode cX8_worst 39 = .ok (.istore 5, 2) := by decide +kernel
theorem dX8_worst_41 : decode cX8_worst 41 = .ok (.iconst 0, 1) := by decide +kernel
theorem dX8_worst_42 : decode cX8_worst 42 = .ok (.istore 6, 2) := by decide +kernel
theorem dX8_worst_44 : decode cX8_worst 44 = .ok (.iload 6, 2) := by decide +kernel
theorem dX8_worst_46 : decode cX8_worst 46 = .ok (.aload_n 0, 1) := by decide +kernel
theorem dX8_worst_47 : decode cX8_worst 47 = .ok (.getfield 21, 3) := by decide +kernel
theorem dX8_worst_50 : decode cX8_worst 50 = .ok (.getfield 91, 3) := by decide +kernel
theorem dX8_worst_53 : decode cX8_worst 53 = .ok (.if_icmp .ge 60, 3) := by decide +kernel
theorem dX8_worst_56 : decode cX8_worst 56 = .ok (.iconst 0, 1) := by decide +kernel
theorem dX8_worst_57 : decode cX8_worst 57 = .ok (.istore 7, 2) := by decide +kernel
theorem dX8_worst_59 : decode cX8_worst 59 = .ok (.iload 7, 2) := by decide +kernel
theorem dX8_worst_61 : decode cX8_worst 61 = .ok (.bipush 8, 2) := by decide +kernel
theorem dX8_worst_63 : decode cX8_worst 63 = .ok (.if_icmp .ge 44, 3) := by decide +kernel
theorem dX8_worst_66 : decode cX8_worst 66 = .ok (.iload_n 2, 1) := by decide +kernel
theorem dX8_worst_67 : decode cX8_worst 67 = .ok (.aload_n 0, 1) := by decide +kernel
theorem dX8_worst_68 : decode cX8_worst 68 = .ok (.getfield 21, 3) := by decide +kernel
theorem dX8_worst_71 : decode cX8_worst 71 = .ok (.iload 6, 2) := by decide +kernel
theorem dX8_worst_73 : decode cX8_worst 73 = .ok (.iconst 1, 1) := by decide +kernel
theorem dX8_worst_74 : decode cX8_worst 74 = .ok (.iload 7, 2) := by decide +kernel
theorem dX8_worst_76 : decode cX8_worst 76 = .ok (.ishl, 1) := by decide +kernel
theorem dX8_worst_77 : decode cX8_worst 77 = .ok (.invokevirtual 172, 3) := by decide +kernel
theorem dX8_worst_80 : decode cX8_worst 80 = .ok (.isub, 1) := by decide +kernel
theorem dX8_worst_81 : decode cX8_worst 81 = .ok (.istore 8, 2) := by decide +kernel
theorem dX8_worst_83 : decode cX8_worst 83 = .ok (.iload 8, 2) := by decide +kernel
theorem dX8_worst_85 : decode cX8_worst 85 = .ok (.iload 5, 2) := by decide +kernel
theorem dX8_worst_87 : decode cX8_worst 87 = .ok (.if_icmp .le 14, 3) := by decide +kernel
theorem dX8_worst_90 : decode cX8_worst 90 = .ok (.iload 8, 2) := by decide +kernel
theorem dX8_worst_92 : decode cX8_worst 92 = .ok (.istore 5, 2) := by decide +kernel
theorem dX8_worst_94 : decode cX8_worst 94 = .ok (.iload 6, 2) := by decide +kernel
theorem dX8_worst_96 : decode cX8_worst 96 = .ok (.istore_n 3, 1) := by decide +kernel
theorem dX8_worst_97 : decode cX8_worst 97 = .ok (.iload 7, 2) := by decide +kernel
theorem dX8_worst_99 : decode cX8_worst 99 = .ok (.istore 4, 2) := by decide +kernel
theorem dX8_worst_101 : decode cX8_worst 101 = .ok (.iinc 7 1, 3) := by decide +kernel
theorem dX8_worst_104 : decode cX8_worst 104 = .ok (.goto (-45), 3) := by decide +kernel
theorem dX8_worst_107 : decode cX8_worst 107 = .ok (.iinc 6 1, 3) := by decide +kernel
theorem dX8_worst_110 : decode cX8_worst 110 = .ok (.goto (-66), 3) := by decide +kernel
theorem dX8_worst_113 : decode cX8_worst 113 = .ok (.iload_n 1, 1) := by decide +kernel
theorem dX8_worst_114 : decode cX8_worst 114 = .ok (.ifCond .ne 7, 3) := by decide +kernel
theorem dX8_worst_117 : decode cX8_worst 117 = .ok (.iload_n 3, 1) := by decide +kernel
theorem dX8_worst_118 : decode cX8_worst 118 = .ok (.goto 15, 3) := by decide +kernel
theorem dX8_worst_121 : decode cX8_worst 121 = .ok (.iload_n 1, 1) := by decide +kernel
theorem dX8_worst_122 : decode cX8_worst 122 = .ok (.iconst 1, 1) := by decide +kernel
theorem dX8_worst_123 : decode cX8_worst 123 = .ok (.if_icmp .ne 8, 3) := by decide +kernel
theorem dX8_worst_126 : decode cX8_worst 126 = .ok (.iload 4, 2) := by decide +kernel
theorem dX8_worst_128 : decode cX8_worst 128 = .ok (.goto 5, 3) := by decide +kernel
theorem dX8_worst_131 : decode cX8_worst 131 = .ok (.iload 5, 2) := by decide +kernel
theorem dX8_worst_133 : decode cX8_worst 133 = .ok (.ireturn, 1) := by decide +kernel
