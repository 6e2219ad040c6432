theorem dX6_rot_61 : decode cX6_rot 61 = .ok (.iload_n 2, 1) := by decide +kernel
theorem dX6_rot_62 : decode cX6_rot 62 = .ok (.iadd, 1) := by decide +kernel
theorem dX6_rot_63 : decode cX6_rot 63 = .ok (.dup2, 1) := by decide +kernel
theorem dX6_rot_64 : decode cX6_rot 64 = .ok (.iaload, 1) := by decide +kernel
theorem dX6_rot_65 : decode cX6_rot 65 = .ok (.iload_n 3, 1) := by decide +kernel
theorem dX6_rot_66 : decode cX6_rot 66 = .ok (.iand, 1) := by decide +kernel
theorem dX6_rot_67 : decode cX6_rot 67 = .ok (.iastore, 1) := by decide +kernel
theorem dX6_rot_68 : decode cX6_rot 68 = .ok (.aload_n 0, 1) := by decide +kernel
theorem dX6_rot_69 : decode cX6_rot 69 = .ok (.iload_n 1, 1) := by decide +kernel
theorem dX6_rot_70 : decode cX6_rot 70 = .ok (.iload_n 2, 1) := by decide +kernel
theorem dX6_rot_71 : decode cX6_rot 71 = .ok (.invokevirtual 51, 3) := by decide +kernel
theorem dX6_rot_74 : decode cX6_rot 74 = .ok (.ireturn, 1) := by decide +kernel
theorem dX6_lays_0 : decode cX6_lays 0 = .ok (.aload_n 0, 1) := by decide +kernel
theorem dX6_lays_1 : decode cX6_lays 1 = .ok (.aload_n 0, 1) := by decide +kernel
theorem dX6_lays_2 : decode cX6_lays 2 = .ok (.getfield 151, 3) := by decide +kernel
theorem dX6_lays_5 : decode cX6_lays 5 = .ok (.aload_n 0, 1) := by decide +kernel
theorem dX6_lays_6 : decode cX6_lays 6 = .ok (.getfield 154, 3) := by decide +kernel
theorem dX6_lays_9 : decode cX6_lays 9 = .ok (.iload_n 1, 1) := by decide +kernel
theorem dX6_lays_10 : decode cX6_lays 10 = .ok (.invokevirtual 109, 3) := by decide +kernel
theorem dX6_lays_13 : decode cX6_lays 13 = .ok (.aload_n 0, 1) := by decide +kernel
theorem dX6_lays_14 : decode cX6_lays 14 = .ok (.dup, 1) := by decide +kernel
theorem dX6_lays_15 : decode cX6_lays 15 = .ok (.getfield 154, 3) := by decide +kernel
theorem dX6_lays_18 : decode cX6_lays 18 = .ok (.iconst 1, 1) := by decide +kernel
theorem dX6_lays_19 : decode cX6_lays 19 = .ok (.iadd, 1) := by decide +kernel
theorem dX6_lays_20 : decode cX6_lays 20 = .ok (.putfield 154, 3) := by decide +kernel
theorem dX6_lays_23 : decode cX6_lays 23 = .ok (.aload_n 0, 1) := by decide +kernel
theorem dX6_lays_24 : decode cX6_lays 24 = .ok (.dup, 1) := by decide +kernel
theorem dX6_lays_25 : decode cX6_lays 25 = .ok (.getfield 157, 3) := by decide +kernel
theorem dX6_lays_28 : decode cX6_lays 28 = .ok (.iload_n 1, 1) := by decide +kernel
theorem dX6_lays_29 : decode cX6_lays 29 = .ok (.iadd, 1) := by decide +kernel
theorem dX6_lays_30 : decode cX6_lays 30 = .ok (.putfield 157, 3) := by decide +kernel
theorem dX6_lays_33 : decode cX6_lays 33 = .ok (.return_, 1) := by decide +kernel
theorem dX6_laysCheck_0 : decode cX6_laysCheck 0 = .ok (.aload_n 0, 1) := by decide +kernel
theorem dX6_laysCheck_1 : decode cX6_laysCheck 1 = .ok (.aload_n 0, 1) := by decide +kernel
theorem dX6_laysCheck_2 : decode cX6_laysCheck 2 = .ok (.getfield 157, 3) := by decide +kernel
theorem dX6_laysCheck_5 : decode cX6_laysCheck 5 = .ok (.invokestatic 79, 3) := by decide +kernel
theorem dX6_laysCheck_8 : decode cX6_laysCheck 8 = .ok (.invokevirtual 160, 3) := by decide +kernel
theorem dX6_laysCheck_11 : decode cX6_laysCheck 11 = .ok (.return_, 1) := by decide +kernel
theorem dX6_laysSetting_0 : decode cX6_laysSetting 0 = .ok (.aload_n 0, 1) := by decide +kernel
theorem dX6_laysSetting_1 : decode cX6_laysSetting 1 = .ok (.iconst 0, 1) := by decide +kernel
theorem dX6_laysSetting_2 : decode cX6_laysSetting 2 = .ok (.putfield 157, 3) := by decide +kernel
theorem dX6_laysSetting_5 : decode cX6_laysSetting 5 = .ok (.aload_n 0, 1) := by decide +kernel
theorem dX6_laysSetting_6 : decode cX6_laysSetting 6 = .ok (.iload_n 2, 1) := by decide +kernel
theorem dX6_laysSetting_7 : decode cX6_laysSetting 7 = .ok (.invokevirtual 160, 3) := by decide +kernel
theorem dX6_laysSetting_10 : decode cX6_laysSetting 10 = .ok (.aload_n 0, 1) := by decide +kernel
theorem dX6_laysSetting_11 : decode cX6_laysSetting 11 = .ok (.iload_n 1, 1) := by decide +kernel
theorem dX6_laysSetting_12 : decode cX6_laysSetting 12 = .ok (.iload_n 3, 1) := by decide +kernel
theorem dX6_laysSetting_13 : decode cX6_laysSetting 13 = .ok (.iadd, 1) := by decide +kernel
theorem dX6_laysSetting_14 : decode cX6_laysSetting 14 = .ok (.invokevirtual 160, 3) := by decide +kernel
theorem dX6_laysSetting_17 : decode cX6_laysSetting 17 = .ok (.iload_n 3, 1) := by decide +kernel
theorem dX6_laysSetting_18 : decode cX6_laysSetting 18 = .ok (.iconst 1, 1) := by decide +kernel
theorem dX6_laysSetting_19 : decode cX6_laysSetting 19 = .ok (.isub, 1) := by decide +kernel
theorem dX6_laysSetting_20 : decode cX6_laysSetting 20 = .ok (.istore 6, 2) := by decide +kernel
theorem dX6_laysSetting_22 : decode cX6_laysSetting 22 = .ok (.iload 6, 2) := by decide +kernel
theorem dX6_laysSetting_24 : decode cX6_laysSetting 24 = .ok (.ifCond .lt 26, 3) := by decide +kernel
theorem dX6_laysSetting_27 : decode cX6_laysSetting 27 = .ok (.aload_n 0, 1) := by decide +kernel
theorem dX6_laysSetting_28 : decode cX6_laysSetting 28 = .ok (.lload 4, 2) := by decide +kernel
theorem dX6_laysSetting_30 : decode cX6_laysSetting 30 = .ok (.bipush 8, 2) := by decide +kernel
theorem dX6_laysSetting_32 : decode cX6_laysSetting 32 = .ok (.iload 6, 2) := by decide +kernel
theorem dX6_laysSetting_34 : decode cX6_laysSetting 34 = .ok (.imul, 1) := by decide +kernel
theorem dX6_laysSetting_35 : decode cX6_laysSetting 35 = .ok (.lshr, 1) := by decide +kernel
theorem dX6_laysSetting_36 : decode cX6_laysSetting 36 = .ok (.l2i, 1) := by decide +kernel
theorem dX6_laysSetting_37 : decode cX6_laysSetting 37 = .ok (.sipush 255, 3) := by decide +kernel
theorem dX6_laysSetting_40 : decode cX6_laysSetting 40 = .ok (.iand, 1) := by decide +kernel
theorem dX6_laysSetting_41 : decode cX6_laysSetting 41 = .ok (.invokevirtual 160, 3) := by decide +kernel
theorem dX6_laysSetting_44 : decode cX6_laysSetting 44 = .ok (.iinc 6 (-1), 3) := by decide +kernel
theorem dX6_laysSetting_47 : decode cX6_laysSetting 47 = .ok (.goto (-25), 3) := by decide +kernel
theorem dX6_laysSetting_50 : decode cX6_laysSetting 50 = .ok (.aload_n 0, 1) := by decide +kernel
theorem dX6_laysSetting_51 : decode cX6_laysSetting 51 = .ok (.invokevirtual 163, 3) := by decide +kernel
theorem dX6_laysSetting_54 : decode cX6_laysSetting 54 = .ok (.return_, 1) := by decide +kernel
theorem dX6_laysCounter_0 : decode cX6_laysCounter 0 = .ok (.aload_n 0, 1) := by decide +kernel
theorem dX6_laysCounter_1 : decode cX6_laysCounter 1 = .ok (.iconst 0, 1) := by decide +kernel
theorem dX6_laysCounter_2 : decode cX6_laysCounter 2 = .ok (.putfield 157, 3) := by decide +kernel
theorem dX6_laysCounter_5 : decode cX6_laysCounter 5 = .ok (.aload_n 0, 1) := by decide +kernel
theorem dX6_laysCounter_6 : decode cX6_laysCounter 6 = .ok (.iload_n 1, 1) := by decide +kernel
theorem dX6_laysCounter_7 : decode cX6_laysCounter 7 = .ok (.invokevirtual 160, 3) := by decide +kernel
theorem dX6_laysCounter_10 : decode cX6_laysCounter 10 = .ok (.aload_n 0, 1) := by decide +kernel
theorem dX6_laysCounter_11 : decode cX6_laysCounter 11 = .ok (.bipush 43, 2) := by decide +kernel
theorem dX6_laysCounter_13 : decode cX6_laysCounter 13 = .ok (.invokevirtual 160, 3) := by decide +kernel
theorem dX6_laysCounter_16 : decode cX6_laysCounter 16 = .ok (.aload_n 0, 1) := by decide +kernel
theorem dX6_laysCounter_17 : decode cX6_laysCounter 17 = .ok (.iload_n 2, 1) := by decide +kernel
theorem dX6_laysCounter_18 : decode cX6_laysCounter 18 = .ok (.bipush 16, 2) := by decide +kernel
theorem dX6_laysCounter_20 : decode cX6_laysCounter 20 = .ok (.ishr, 1) := by decide +kernel
theorem dX6_laysCounter_21 : decode cX6_laysCounter 21 = .ok (.sipush 255, 3) := by decide +kernel
theorem dX6_laysCounter_24 : decode cX6_laysCounter 24 = .ok (.iand, 1) := by decide +kernel
theorem dX6_laysCounter_25 : decode cX6_laysCounter 25 = .ok (.invokevirtual 160, 3) := by decide +kernel
theorem dX6_laysCounter_28 : decode cX6_laysCounter 28 = .ok (.aload_n 0, 1) := by decide +kernel
theorem dX6_laysCounter_29 : decode cX6_laysCounter 29 = .ok (.iload_n 2, 1) := by decide +kernel
theorem dX6_laysCounter_30 : decode cX6_laysCounter 30 = .ok (.bipush 8, 2) := by decide +kernel
theorem dX6_laysCounter_32 : decode cX6_laysCounter 32 = .ok (.ishr, 1) := by decide +kernel
theorem dX6_laysCounter_33 : decode cX6_laysCounter 33 = .ok (.sipush 255, 3) := by decide +kernel
theorem dX6_laysCounter_36 : decode cX6_laysCounter 36 = .ok (.iand, 1) := by decide +kernel
theorem dX6_laysCounter_37 : decode cX6_laysCounter 37 = .ok (.invokevirtual 160, 3) := by decide +kernel
theorem dX6_laysCounter_40 : decode cX6_laysCounter 40 = .ok (.aload_n 0, 1) := by decide +kernel
theorem dX6_laysCounter_41 : decode cX6_laysCounter 41 = .ok (.iload_n 2, 1) := by decide +kernel
theorem dX6_laysCounter_42 : decode cX6_laysCounter 42 = .ok (.sipush 255, 3) := by decide +kernel
theorem dX6_laysCounter_45 : decode cX6_laysCounter 45 = .ok (.iand, 1) := by decide +kernel
theorem dX6_laysCounter_46 : decode cX6_laysCounter 46 = .ok (.invokevirtual 160, 3) := by decide +kernel
theorem dX6_laysCounter_49 : decode cX6_laysCounter 49 = .ok (.aload_n 0, 1) := by decide +kernel
theorem dX6_laysCounter_50 : decode cX6_laysCounter 50 = .ok (.invokevirtual 163, 3) := by decide +kernel
theorem dX6_laysCounter_53 : decode cX6_laysCounter 53 = .ok (.aload_n 0, 1) := by decide +kernel
theorem dX6_laysCounter_54 : decode cX6_laysCounter 54 = .ok (.dup, 1) := by decide +kernel
theorem dX6_laysCounter_55 : decode cX6_laysCounter 55 = .ok (.getfield 154, 3) := by decide +kernel
theorem dX6_laysCounter_58 : decode cX6_laysCounter 58 = .ok (.bipush 8, 2) := by decide +kernel
theorem dX6_laysCounter_60 : decode cX6_laysCounter 60 = .ok (.iadd, 1) := by decide +kernel
theorem dX6_laysCounter_61 : decode cX6_laysCounter 61 = .ok (.putfield 154, 3) := by decide +kernel
theorem dX6_laysCounter_64 : decode cX6_laysCounter 64 = .ok (.return_, 1) := by decide +kernel
theorem dX6_sizeNext_0 : decode cX6_sizeNext 0 = .ok (.iconst 4, 1) := by decide +kernel
theorem dX6_sizeNext_1 : decode cX6_sizeNext 1 = .ok (.istore_n 2, 1) := by decide +kernel
theorem dX6_sizeNext_2 : decode cX6_sizeNext 2 = .ok (.iconst 0, 1) := by decide +kernel
theorem dX6_sizeNext_3 : decode cX6_sizeNext 3 = .ok (.istore_n 3, 1) := by decide +kernel
theorem dX6_sizeNext_4 : decode cX6_sizeNext 4 = .ok (.iload_n 3, 1) := by decide +kernel
theorem dX6_sizeNext_5 : decode cX6_sizeNext 5 = .ok (.bipush 48, 2) := by decide +kernel
theorem dX6_sizeNext_7 : decode cX6_sizeNext 7 = .ok (.if_icmp .ge 54, 3) := by decide +kernel
theorem dX6_sizeNext_10 : decode cX6_sizeNext 10 = .ok (.aload_n 0, 1) := by decide +kernel
theorem dX6_sizeNext_11 : decode cX6_sizeNext 11 = .ok (.iload_n 1, 1) := by decide +kernel
theorem dX6_sizeNext_12 : decode cX6_sizeNext 12 = .ok (.iload_n 3, 1) := by decide +kernel
theorem dX6_sizeNext_13 : decode cX6_sizeNext 13 = .ok (.invokevirtual 106, 3) := by decide +kernel
theorem dX6_sizeNext_16 : decode cX6_sizeNext 16 = .ok (.ifCond .eq 39, 3) := by decide +kernel
theorem dX6_sizeNext_19 : decode cX6_sizeNext 19 = .ok (.iload_n 2, 1) := by decide +kernel
theorem dX6_sizeNext_20 : decode cX6_sizeNext 20 = .ok (.aload_n 0, 1) := by decide +kernel
theorem dX6_sizeNext_21 : decode cX6_sizeNext 21 = .ok (.getfield 19, 3) := by decide +kernel
theorem dX6_sizeNext_24 : decode cX6_sizeNext 24 = .ok (.aload_n 0, 1) := by decide +kernel
theorem dX6_sizeNext_25 : decode cX6_sizeNext 25 = .ok (.getfield 28, 3) := by decide +kernel
theorem dX6_sizeNext_28 : decode cX6_sizeNext 28 = .ok (.iload_n 3, 1) := by decide +kernel
theorem dX6_sizeNext_29 : decode cX6_sizeNext 29 = .ok (.iaload, 1) := by decide +kernel
theorem dX6_sizeNext_30 : decode cX6_sizeNext 30 = .ok (.iaload, 1) := by decide +kernel
theorem dX6_sizeNext_31 : decode cX6_sizeNext 31 = .ok (.iconst 1, 1) := by decide +kernel
theorem dX6_sizeNext_32 : decode cX6_sizeNext 32 = .ok (.if_icmp .ne 8, 3) := by decide +kernel
theorem dX6_sizeNext_35 : decode cX6_sizeNext 35 = .ok (.bipush 14, 2) := by decide +kernel
theorem dX6_sizeNext_37 : decode cX6_sizeNext 37 = .ok (.goto 16, 3) := by decide +kernel
theorem dX6_sizeNext_40 : decode cX6_sizeNext 40 = .ok (.iconst 3, 1) := by decide +kernel
theorem dX6_sizeNext_41 : decode cX6_sizeNext 41 = .ok (.aload_n 0, 1) := by decide +kernel
theorem dX6_sizeNext_42 : decode cX6_sizeNext 42 = .ok (.iload_n 1, 1) := by decide +kernel
theorem dX6_sizeNext_43 : decode cX6_sizeNext 43 = .ok (.aload_n 0, 1) := by decide +kernel
theorem dX6_sizeNext_44 : decode cX6_sizeNext 44 = .ok (.getfield 28, 3) := by decide +kernel
theorem dX6_sizeNext_47 : decode cX6_sizeNext 47 = .ok (.iload_n 3, 1) := by decide +kernel
theorem dX6_sizeNext_48 : decode cX6_sizeNext 48 = .ok (.iaload, 1) := by decide +kernel
theorem dX6_sizeNext_49 : decode cX6_sizeNext 49 = .ok (.invokevirtual 103, 3) := by decide +kernel
theorem dX6_sizeNext_52 : decode cX6_sizeNext 52 = .ok (.iadd, 1) := by decide +kernel
theorem dX6_sizeNext_53 : decode cX6_sizeNext 53 = .ok (.iadd, 1) := by decide +kernel
theorem dX6_sizeNext_54 : decode cX6_sizeNext 54 = .ok (.istore_n 2, 1) := by decide +kernel
theorem dX6_sizeNext_55 : decode cX6_sizeNext 55 = .ok (.iinc 3 1, 3) := by decide +kernel
theorem dX6_sizeNext_58 : decode cX6_sizeNext 58 = .ok (.goto (-54), 3) := by decide +kernel
theorem dX6_sizeNext_61 : decode cX6_sizeNext 61 = .ok (.iload_n 2, 1) := by decide +kernel
theorem dX6_sizeNext_62 : decode cX6_sizeNext 62 = .ok (.ireturn, 1) := by decide +kernel
theorem dX6_handsOver_0 : decode cX6_handsOver 0 = .ok (.aload_n 0, 1) := by decide +kernel
theorem dX6_handsOver_1 : decode cX6_handsOver 1 = .ok (.getfield 7, 3) := by decide +kernel
theorem dX6_handsOver_4 : decode cX6_handsOver 4 = .ok (.iconst 3, 1) := by decide +kernel
theorem dX6_handsOver_5 : decode cX6_handsOver 5 = .ok (.iaload, 1) := by decide +kernel
theorem dX6_handsOver_6 : decode cX6_handsOver 6 = .ok (.istore_n 1, 1) := by decide +kernel
theorem dX6_handsOver_7 : decode cX6_handsOver 7 = .ok (.aload_n 0, 1) := by decide +kernel
theorem dX6_handsOver_8 : decode cX6_handsOver 8 = .ok (.iload_n 1, 1) := by decide +kernel
theorem dX6_handsOver_9 : decode cX6_handsOver 9 = .ok (.invokevirtual 126, 3) := by decide +kernel
theorem dX6_handsOver_12 : decode cX6_handsOver 12 = .ok (.istore_n 2, 1) := by decide +kernel
theorem dX6_handsOver_13 : decode cX6_handsOver 13 = .ok (.aload_n 0, 1) := by decide +kernel
theorem dX6_handsOver_14 : decode cX6_handsOver 14 = .ok (.iload_n 2, 1) := by decide +kernel
theorem dX6_handsOver_15 : decode cX6_handsOver 15 = .ok (.iconst 0, 1) := by decide +kernel
theorem dX6_handsOver_16 : decode cX6_handsOver 16 = .ok (.invokevirtual 61, 3) := by decide +kernel
theorem dX6_handsOver_19 : decode cX6_handsOver 19 = .ok (.ifCond .ne 8, 3) := by decide +kernel
theorem dX6_handsOver_22 : decode cX6_handsOver 22 = .ok (.aload_n 0, 1) := by decide +kernel
theorem dX6_handsOver_23 : decode cX6_handsOver 23 = .ok (.iload_n 2, 1) := by decide +kernel
theorem dX6_handsOver_24 : decode cX6_handsOver 24 = .ok (.invokevirtual 113, 3) := by decide +kernel
theorem dX6_handsOver_27 : decode cX6_handsOver 27 = .ok (.aload_n 0, 1) := by decide +kernel
theorem dX6_handsOver_28 : decode cX6_handsOver 28 = .ok (.iload_n 2, 1) := by decide +kernel
theorem dX6_handsOver_29 : decode cX6_handsOver 29 = .ok (.aload_n 0, 1) := by decide +kernel
theorem dX6_handsOver_30 : decode cX6_handsOver 30 = .ok (.iload_n 1, 1) := by decide +kernel
theorem dX6_handsOver_31 : decode cX6_handsOver 31 = .ok (.invokevirtual 116, 3) := by decide +kernel
theorem dX6_handsOver_34 : decode cX6_handsOver 34 = .ok (.iconst 1, 1) := by decide +kernel
theorem dX6_handsOver_35 : decode cX6_handsOver 35 = .ok (.iadd, 1) := by decide +kernel
theorem dX6_handsOver_36 : decode cX6_handsOver 36 = .ok (.ldc 166, 2) := by decide +kernel
theorem dX6_handsOver_38 : decode cX6_handsOver 38 = .ok (.irem, 1) := by decide +kernel
theorem dX6_handsOver_39 : decode cX6_handsOver 39 = .ok (.invokevirtual 129, 3) := by decide +kernel
theorem dX6_handsOver_42 : decode cX6_handsOver 42 = .ok (.aload_n 0, 1) := by decide +kernel
theorem dX6_handsOver_43 : decode cX6_handsOver 43 = .ok (.iload_n 1, 1) := by decide +kernel
theorem dX6_handsOver_44 : decode cX6_handsOver 44 = .ok (.invokevirtual 141, 3) := by decide +kernel
theorem dX6_handsOver_47 : decode cX6_handsOver 47 = .ok (.aload_n 0, 1) := by decide +kernel
theorem dX6_handsOver_48 : decode cX6_handsOver 48 = .ok (.iload_n 2, 1) := by decide +kernel
theorem dX6_handsOver_49 : decode cX6_handsOver 49 = .ok (.putfield 151, 3) := by decide +kernel
theorem dX6_handsOver_52 : decode cX6_handsOver 52 = .ok (.aload_n 0, 1) := by decide +kernel
theorem dX6_handsOver_53 : decode cX6_handsOver 53 = .ok (.iconst 4, 1) := by decide +kernel
theorem dX6_handsOver_54 : decode cX6_handsOver 54 = .ok (.putfield 154, 3) := by decide +kernel
theorem dX6_handsOver_57 : decode cX6_handsOver 57 = .ok (.iconst 0, 1) := by decide +kernel
theorem dX6_handsOver_58 : decode cX6_handsOver 58 = .ok (.istore_n 3, 1) := by decide +kernel
theorem dX6_handsOver_59 : decode cX6_handsOver 59 = .ok (.iload_n 3, 1) := by decide +kernel
theorem dX6_handsOver_60 : decode cX6_handsOver 60 = .ok (.bipush 48, 2) := by decide +kernel
theorem dX6_handsOver_62 : decode cX6_handsOver 62 = .ok (.if_icmp .ge 77, 3) := by decide +kernel
theorem dX6_handsOver_65 : decode cX6_handsOver 65 = .ok (.aload_n 0, 1) := by decide +kernel
theorem dX6_handsOver_66 : decode cX6_handsOver 66 = .ok (.iload_n 1, 1) := by decide +kernel
theorem dX6_handsOver_67 : decode cX6_handsOver 67 = .ok (.iload_n 3, 1) := by decide +kernel
theorem dX6_handsOver_68 : decode cX6_handsOver 68 = .ok (.invokevirtual 106, 3) := by decide +kernel
theorem dX6_handsOver_71 : decode cX6_handsOver 71 = .ok (.ifCond .ne 6, 3) := by decide +kernel
theorem dX6_handsOver_74 : decode cX6_handsOver 74 = .ok (.goto 59, 3) := by decide +kernel
theorem dX6_handsOver_77 : decode cX6_handsOver 77 = .ok (.aload_n 0, 1) := by decide +kernel
theorem dX6_handsOver_78 : decode cX6_handsOver 78 = .ok (.getfield 28, 3) := by decide +kernel
theorem dX6_handsOver_81 : decode cX6_handsOver 81 = .ok (.iload_n 3, 1) := by decide +kernel
theorem dX6_handsOver_82 : decode cX6_handsOver 82 = .ok (.iaload, 1) := by decide +kernel
theorem dX6_handsOver_83 : decode cX6_handsOver 83 = .ok (.istore 4, 2) := by decide +kernel
theorem dX6_handsOver_85 : decode cX6_handsOver 85 = .ok (.aload_n 0, 1) := by decide +kernel
theorem dX6_handsOver_86 : decode cX6_handsOver 86 = .ok (.getfield 19, 3) := by decide +kernel
theorem dX6_handsOver_89 : decode cX6_handsOver 89 = .ok (.iload 4, 2) := by decide +kernel
theorem dX6_handsOver_91 : decode cX6_handsOver 91 = .ok (.iaload, 1) := by decide +kernel
theorem dX6_handsOver_92 : decode cX6_handsOver 92 = .ok (.iconst 1, 1) := by decide +kernel
theorem dX6_handsOver_93 : decode cX6_handsOver 93 = .ok (.if_icmp .ne 19, 3) := by decide +kernel
theorem dX6_handsOver_96 : decode cX6_handsOver 96 = .ok (.aload_n 0, 1) := by decide +kernel
theorem dX6_handsOver_97 : decode cX6_handsOver 97 = .ok (.iload_n 3, 1) := by decide +kernel
theorem dX6_handsOver_98 : decode cX6_handsOver 98 = .ok (.aload_n 0, 1) := by decide +kernel
theorem dX6_handsOver_99 : decode cX6_handsOver 99 = .ok (.iload_n 1, 1) := by decide +kernel
theorem dX6_handsOver_100 : decode cX6_handsOver 100 = .ok (.iload 4, 2) := by decide +kernel
theorem dX6_handsOver_102 : decode cX6_handsOver 102 = .ok (.invokevirtual 167, 3) := by decide +kernel
theorem dX6_handsOver_105 : decode cX6_handsOver 105 = .ok (.l2i, 1) := by decide +kernel
theorem dX6_handsOver_106 : decode cX6_handsOver 106 = .ok (.invokevirtual 171, 3) := by decide +kernel
theorem dX6_handsOver_109 : decode cX6_handsOver 109 = .ok (.goto 24, 3) := by decide +kernel
theorem dX6_handsOver_112 : decode cX6_handsOver 112 = .ok (.aload_n 0, 1) := by decide +kernel
theorem dX6_handsOver_113 : decode cX6_handsOver 113 = .ok (.bipush 16, 2) := by decide +kernel
theorem dX6_handsOver_115 : decode cX6_handsOver 115 = .ok (.iload_n 3, 1) := by decide +kernel
theorem dX6_handsOver_116 : decode cX6_handsOver 116 = .ok (.aload_n 0, 1) := by decide +kernel
theorem dX6_handsOver_117 : decode cX6_handsOver 117 = .ok (.iload_n 1, 1) := by decide +kernel
theorem dX6_handsOver_118 : decode cX6_handsOver 118 = .ok (.iload 4, 2) := by decide +kernel
theorem dX6_handsOver_120 : decode cX6_handsOver 120 = .ok (.invokevirtual 103, 3) := by decide +kernel
theorem dX6_handsOver_123 : decode cX6_handsOver 123 = .ok (.aload_n 0, 1) := by decide +kernel
theorem dX6_handsOver_124 : decode cX6_handsOver 124 = .ok (.iload_n 1, 1) := by decide +kernel
theorem dX6_handsOver_125 : decode cX6_handsOver 125 = .ok (.iload 4, 2) := by decide +kernel
theorem dX6_handsOver_127 : decode cX6_handsOver 127 = .ok (.invokevirtual 167, 3) := by decide +kernel
theorem dX6_handsOver_130 : decode cX6_handsOver 130 = .ok (.invokevirtual 174, 3) := by decide +kernel
theorem dX6_handsOver_133 : decode cX6_handsOver 133 = .ok (.iinc 3 1, 3) := by decide +kernel
theorem dX6_handsOver_136 : decode cX6_handsOver 136 = .ok (.goto (-77), 3) := by decide +kernel
theorem dX6_handsOver_139 : decode cX6_handsOver 139 = .ok (.aload_n 0, 1) := by decide +kernel
theorem dX6_handsOver_140 : decode cX6_handsOver 140 = .ok (.iload_n 2, 1) := by decide +kernel
theorem dX6_handsOver_141 : decode cX6_handsOver 141 = .ok (.iconst 0, 1) := by decide +kernel
theorem dX6_handsOver_142 : decode cX6_handsOver 142 = .ok (.bipush 63, 2) := by decide +kernel
theorem dX6_handsOver_144 : decode cX6_handsOver 144 = .ok (.invokevirtual 109, 3) := by decide +kernel
theorem dX6_handsOver_147 : decode cX6_handsOver 147 = .ok (.aload_n 0, 1) := by decide +kernel
theorem dX6_handsOver_148 : decode cX6_handsOver 148 = .ok (.iload_n 1, 1) := by decide +kernel
theorem dX6_handsOver_149 : decode cX6_handsOver 149 = .ok (.invokevirtual 113, 3) := by decide +kernel
theorem dX6_handsOver_152 : decode cX6_handsOver 152 = .ok (.aload_n 0, 1) := by decide +kernel
theorem dX6_handsOver_153 : decode cX6_handsOver 153 = .ok (.getfield 43, 3) := by decide +kernel
theorem dX6_handsOver_156 : decode cX6_handsOver 156 = .ok (.ifCond .eq 4, 3) := by decide +kernel
theorem dX6_handsOver_159 : decode cX6_handsOver 159 = .ok (.return_, 1) := by decide +kernel
theorem dX6_handsOver_160 : decode cX6_handsOver 160 = .ok (.aload_n 0, 1) := by decide +kernel
theorem dX6_handsOver_161 : decode cX6_handsOver 161 = .ok (.getfield 7, 3) := by decide +kernel
theorem dX6_handsOver_164 : decode cX6_handsOver 164 = .ok (.iconst 3, 1) := by decide +kernel
theorem dX6_handsOver_165 : decode cX6_handsOver 165 = .ok (.iload_n 2, 1) := by decide +kernel
theorem dX6_handsOver_166 : decode cX6_handsOver 166 = .ok (.iastore, 1) := by decide +kernel
theorem dX6_handsOver_167 : decode cX6_handsOver 167 = .ok (.aload_n 0, 1) := by decide +kernel
theorem dX6_handsOver_168 : decode cX6_handsOver 168 = .ok (.getfield 7, 3) := by decide +kernel
theorem dX6_handsOver_171 : decode cX6_handsOver 171 = .ok (.bipush 7, 2) := by decide +kernel
theorem dX6_handsOver_173 : decode cX6_handsOver 173 = .ok (.dup2, 1) := by decide +kernel
theorem dX6_handsOver_174 : decode cX6_handsOver 174 = .ok (.iaload, 1) := by decide +kernel
theorem dX6_handsOver_175 : decode cX6_handsOver 175 = .ok (.iconst 1, 1) := by decide +kernel
theorem dX6_handsOver_176 : decode cX6_handsOver 176 = .ok (.iadd, 1) := by decide +kernel
theorem dX6_handsOver_177 : decode cX6_handsOver 177 = .ok (.iastore, 1) := by decide +kernel
theorem dX6_handsOver_178 : decode cX6_handsOver 178 = .ok (.return_, 1) := by decide +kernel
theorem dX6_freeNow_0 : decode cX6_freeNow 0 = .ok (.aload_n 0, 1) := by decide +kernel
theorem dX6_freeNow_1 : decode cX6_freeNow 1 = .ok (.aload_n 0, 1) := by decide +kernel
theorem dX6_freeNow_2 : decode cX6_freeNow 2 = .ok (.getfield 7, 3) := by decide +kernel
theorem dX6_freeNow_5 : decode cX6_freeNow 5 = .ok (.iconst 3, 1) := by decide +kernel
theorem dX6_freeNow_6 : decode cX6_freeNow 6 = .ok (.iaload, 1) := by decide +kernel
theorem dX6_freeNow_7 : decode cX6_freeNow 7 = .ok (.invokevirtual 141, 3) := by decide +kernel
theorem dX6_freeNow_10 : decode cX6_freeNow 10 = .ok (.aload_n 0, 1) := by decide +kernel
theorem dX6_freeNow_11 : decode cX6_freeNow 11 = .ok (.getfield 7, 3) := by decide +kernel
theorem dX6_freeNow_14 : decode cX6_freeNow 14 = .ok (.iconst 1, 1) := by decide +kernel
theorem dX6_freeNow_15 : decode cX6_freeNow 15 = .ok (.iaload, 1) := by decide +kernel
theorem dX6_freeNow_16 : decode cX6_freeNow 16 = .ok (.aload_n 0, 1) := by decide +kernel
theorem dX6_freeNow_17 : decode cX6_freeNow 17 = .ok (.getfield 82, 3) := by decide +kernel
theorem dX6_freeNow_20 : decode cX6_freeNow 20 = .ok (.isub, 1) := by decide +kernel
theorem dX6_freeNow_21 : decode cX6_freeNow 21 = .ok (.ireturn, 1) := by decide +kernel
theorem dX6_freeThen_0 : decode cX6_freeThen 0 = .ok (.aload_n 0, 1) := by decide +kernel
theorem dX6_freeThen_1 : decode cX6_freeThen 1 = .ok (.aload_n 0, 1) := by decide +kernel
theorem dX6_freeThen_2 : decode cX6_freeThen 2 = .ok (.getfield 7, 3) := by decide +kernel
theorem dX6_freeThen_5 : decode cX6_freeThen 5 = .ok (.iconst 3, 1) := by decide +kernel
theorem dX6_freeThen_6 : decode cX6_freeThen 6 = .ok (.iaload, 1) := by decide +kernel
theorem dX6_freeThen_7 : decode cX6_freeThen 7 = .ok (.invokevirtual 141, 3) := by decide +kernel
theorem dX6_freeThen_10 : decode cX6_freeThen 10 = .ok (.aload_n 0, 1) := by decide +kernel
theorem dX6_freeThen_11 : decode cX6_freeThen 11 = .ok (.getfield 7, 3) := by decide +kernel
theorem dX6_freeThen_14 : decode cX6_freeThen 14 = .ok (.iconst 1, 1) := by decide +kernel
theorem dX6_freeThen_15 : decode cX6_freeThen 15 = .ok (.iaload, 1) := by decide +kernel
theorem dX6_freeThen_16 : decode cX6_freeThen 16 = .ok (.aload_n 0, 1) := by decide +kernel
theorem dX6_freeThen_17 : decode cX6_freeThen 17 = .ok (.aload_n 0, 1) := by decide +kernel
theorem dX6_freeThen_18 : decode cX6_freeThen 18 = .ok (.getfield 7, 3) := by decide +kernel
theorem dX6_freeThen_21 : decode cX6_freeThen 21 = .ok (.iconst 3, 1) := by decide +kernel
theorem dX6_freeThen_22 : decode cX6_freeThen 22 = .ok (.iaload, 1) := by decide +kernel
theorem dX6_freeThen_23 : decode cX6_freeThen 23 = .ok (.invokevirtual 178, 3) := by decide +kernel
theorem dX6_freeThen_26 : decode cX6_freeThen 26 = .ok (.isub, 1) := by decide +kernel
theorem dX6_freeThen_27 : decode cX6_freeThen 27 = .ok (.ireturn, 1) := by decide +kernel
theorem dX6_makesRoom_0 : decode cX6_makesRoom 0 = .ok (.aload_n 0, 1) := by decide +kernel
theorem dX6_makesRoom_1 : decode cX6_makesRoom 1 = .ok (.invokevirtual 181, 3) := by decide +kernel
theorem dX6_makesRoom_4 : decode cX6_makesRoom 4 = .ok (.iload_n 1, 1) := by decide +kernel
theorem dX6_makesRoom_5 : decode cX6_makesRoom 5 = .ok (.if_icmp .ge 17, 3) := by decide +kernel
theorem dX6_makesRoom_8 : decode cX6_makesRoom 8 = .ok (.aload_n 0, 1) := by decide +kernel
theorem dX6_makesRoom_9 : decode cX6_makesRoom 9 = .ok (.invokevirtual 184, 3) := by decide +kernel
theorem dX6_makesRoom_12 : decode cX6_makesRoom 12 = .ok (.iload_n 1, 1) := by decide +kernel
theorem dX6_makesRoom_13 : decode cX6_makesRoom 13 = .ok (.if_icmp .ge 5, 3) := by decide +kernel
theorem dX6_makesRoom_16 : decode cX6_makesRoom 16 = .ok (.iconst 0, 1) := by decide +kernel
theorem dX6_makesRoom_17 : decode cX6_makesRoom 17 = .ok (.ireturn, 1) := by decide +kernel
theorem dX6_makesRoom_18 : decode cX6_makesRoom 18 = .ok (.aload_n 0, 1) := by decide +kernel
theorem dX6_makesRoom_19 : decode cX6_makesRoom 19 = .ok (.invokevirtual 187, 3) := by decide +kernel
theorem dX6_makesRoom_22 : decode cX6_makesRoom 22 = .ok (.aload_n 0, 1) := by decide +kernel
theorem dX6_makesRoom_23 : decode cX6_makesRoom 23 = .ok (.getfield 43, 3) := by decide +kernel
theorem dX6_makesRoom_26 : decode cX6_makesRoom 26 = .ok (.ifCond .eq 5, 3) := by decide +kernel
theorem dX6_makesRoom_29 : decode cX6_makesRoom 29 = .ok (.iconst 1, 1) := by decide +kernel
theorem dX6_makesRoom_30 : decode cX6_makesRoom 30 = .ok (.ireturn, 1) := by decide +kernel
theorem dX6_makesRoom_31 : decode cX6_makesRoom 31 = .ok (.aload_n 0, 1) := by decide +kernel
theorem dX6_makesRoom_32 : decode cX6_makesRoom 32 = .ok (.aload_n 0, 1) := by decide +kernel
theorem dX6_makesRoom_33 : decode cX6_makesRoom 33 = .ok (.getfield 7, 3) := by decide +kernel
theorem dX6_makesRoom_36 : decode cX6_makesRoom 36 = .ok (.iconst 3, 1) := by decide +kernel
theorem dX6_makesRoom_37 : decode cX6_makesRoom 37 = .ok (.iaload, 1) := by decide +kernel
theorem dX6_makesRoom_38 : decode cX6_makesRoom 38 = .ok (.invokevirtual 141, 3) := by decide +kernel
theorem dX6_makesRoom_41 : decode cX6_makesRoom 41 = .ok (.aload_n 0, 1) := by decide +kernel
theorem dX6_makesRoom_42 : decode cX6_makesRoom 42 = .ok (.aload_n 0, 1) := by decide +kernel
theorem dX6_makesRoom_43 : decode cX6_makesRoom 43 = .ok (.getfield 7, 3) := by decide +kernel
theorem dX6_makesRoom_46 : decode cX6_makesRoom 46 = .ok (.iconst 3, 1) := by decide +kernel
theorem dX6_makesRoom_47 : decode cX6_makesRoom 47 = .ok (.iaload, 1) := by decide +kernel
theorem dX6_makesRoom_48 : decode cX6_makesRoom 48 = .ok (.putfield 151, 3) := by decide +kernel
theorem dX6_makesRoom_51 : decode cX6_makesRoom 51 = .ok (.aload_n 0, 1) := by decide +kernel
theorem dX6_makesRoom_52 : decode cX6_makesRoom 52 = .ok (.aload_n 0, 1) := by decide +kernel
theorem dX6_makesRoom_53 : decode cX6_makesRoom 53 = .ok (.getfield 82, 3) := by decide +kernel
theorem dX6_makesRoom_56 : decode cX6_makesRoom 56 = .ok (.putfield 154, 3) := by decide +kernel
theorem dX6_makesRoom_59 : decode cX6_makesRoom 59 = .ok (.iconst 1, 1) := by decide +kernel
theorem dX6_makesRoom_60 : decode cX6_makesRoom 60 = .ok (.ireturn, 1) := by decide +kernel
theorem dX6_inChange_0 : decode cX6_inChange 0 = .ok (.iconst 0, 1) := by decide +kernel
theorem dX6_inChange_1 : decode cX6_inChange 1 = .ok (.istore_n 2, 1) := by decide +kernel
theorem dX6_inChange_2 : decode cX6_inChange 2 = .ok (.iload_n 2, 1) := by decide +kernel
theorem dX6_inChange_3 : decode cX6_inChange 3 = .ok (.aload_n 0, 1) := by decide +kernel
theorem dX6_inChange_4 : decode cX6_inChange 4 = .ok (.getfield 7, 3) := by decide +kernel
theorem dX6_inChange_7 : decode cX6_inChange 7 = .ok (.bipush 11, 2) := by decide +kernel
theorem dX6_inChange_9 : decode cX6_inChange 9 = .ok (.iaload, 1) := by decide +kernel
theorem dX6_inChange_10 : decode cX6_inChange 10 = .ok (.if_icmp .ge 24, 3) := by decide +kernel
theorem dX6_inChange_13 : decode cX6_inChange 13 = .ok (.aload_n 0, 1) := by decide +kernel
theorem dX6_inChange_14 : decode cX6_inChange 14 = .ok (.getfield 7, 3) := by decide +kernel
theorem dX6_inChange_17 : decode cX6_inChange 17 = .ok (.bipush 12, 2) := by decide +kernel
theorem dX6_inChange_19 : decode cX6_inChange 19 = .ok (.iload_n 2, 1) := by decide +kernel
theorem dX6_inChange_20 : decode cX6_inChange 20 = .ok (.iadd, 1) := by decide +kernel
theorem dX6_inChange_21 : decode cX6_inChange 21 = .ok (.iaload, 1) := by decide +kernel
theorem dX6_inChange_22 : decode cX6_inChange 22 = .ok (.iload_n 1, 1) := by decide +kernel
theorem dX6_inChange_23 : decode cX6_inChange 23 = .ok (.if_icmp .ne 5, 3) := by decide +kernel
theorem dX6_inChange_26 : decode cX6_inChange 26 = .ok (.iload_n 2, 1) := by decide +kernel
theorem dX6_inChange_27 : decode cX6_inChange 27 = .ok (.ireturn, 1) := by decide +kernel
theorem dX6_inChange_28 : decode cX6_inChange 28 = .ok (.iinc 2 1, 3) := by decide +kernel
theorem dX6_inChange_31 : decode cX6_inChange 31 = .ok (.goto (-29), 3) := by decide +kernel
theorem dX6_inChange_34 : decode cX6_inChange 34 = .ok (.iconst (-1), 1) := by decide +kernel
theorem dX6_inChange_35 : decode cX6_inChange 35 = .ok (.ireturn, 1) := by decide +kernel
theorem dX6_tells_0 : decode cX6_tells 0 = .ok (.aload_n 0, 1) := by decide +kernel
theorem dX6_tells_1 : decode cX6_tells 1 = .ok (.iload_n 1, 1) := by decide +kernel
theorem dX6_tells_2 : decode cX6_tells 2 = .ok (.invokevirtual 190, 3) := by decide +kernel
theorem dX6_tells_5 : decode cX6_tells 5 = .ok (.istore 4, 2) := by decide +kernel
theorem dX6_tells_7 : decode cX6_tells 7 = .ok (.iload 4, 2) := by decide +kernel
theorem dX6_tells_9 : decode cX6_tells 9 = .ok (.ifCond .ge 37, 3) := by decide +kernel
theorem dX6_tells_12 : decode cX6_tells 12 = .ok (.aload_n 0, 1) := by decide +kernel
theorem dX6_tells_13 : decode cX6_tells 13 = .ok (.getfield 7, 3) := by decide +kernel
theorem dX6_tells_16 : decode cX6_tells 16 = .ok (.bipush 11, 2) := by decide +kernel
theorem dX6_tells_18 : decode cX6_tells 18 = .ok (.iaload, 1) := by decide +kernel
theorem dX6_tells_19 : decode cX6_tells 19 = .ok (.bipush 8, 2) := by decide +kernel
theorem dX6_tells_21 : decode cX6_tells 21 = .ok (.if_icmp .ne 5, 3) := by decide +kernel
theorem dX6_tells_24 : decode cX6_tells 24 = .ok (.iconst (-1), 1) := by decide +kernel
theorem dX6_tells_25 : decode cX6_tells 25 = .ok (.ireturn, 1) := by decide +kernel
theorem dX6_tells_26 : decode cX6_tells 26 = .ok (.aload_n 0, 1) := by decide +kernel
theorem dX6_tells_27 : decode cX6_tells 27 = .ok (.getfield 7, 3) := by decide +kernel
theorem dX6_tells_30 : decode cX6_tells 30 = .ok (.bipush 11, 2) := by decide +kernel
theorem dX6_tells_32 : decode cX6_tells 32 = .ok (.iaload, 1) := by decide +kernel
theorem dX6_tells_33 : decode cX6_tells 33 = .ok (.istore 4, 2) := by decide +kernel
theorem dX6_tells_35 : decode cX6_tells 35 = .ok (.aload_n 0, 1) := by decide +kernel
theorem dX6_tells_36 : decode cX6_tells 36 = .ok (.getfield 7, 3) := by decide +kernel
theorem dX6_tells_39 : decode cX6_tells 39 = .ok (.bipush 11, 2) := by decide +kernel
theorem dX6_tells_41 : decode cX6_tells 41 = .ok (.dup2, 1) := by decide +kernel
theorem dX6_tells_42 : decode cX6_tells 42 = .ok (.iaload, 1) := by decide +kernel
theorem dX6_tells_43 : decode cX6_tells 43 = .ok (.iconst 1, 1) := by decide +kernel
theorem dX6_tells_44 : decode cX6_tells 44 = .ok (.iadd, 1) := by decide +kernel
theorem dX6_tells_45 : decode cX6_tells 45 = .ok (.iastore, 1) := by decide +kernel
theorem dX6_tells_46 : decode cX6_tells 46 = .ok (.aload_n 0, 1) := by decide +kernel
theorem dX6_tells_47 : decode cX6_tells 47 = .ok (.getfield 7, 3) := by decide +kernel
theorem dX6_tells_50 : decode cX6_tells 50 = .ok (.bipush 12, 2) := by decide +kernel
theorem dX6_tells_52 : decode cX6_tells 52 = .ok (.iload 4, 2) := by decide +kernel
theorem dX6_tells_54 : decode cX6_tells 54 = .ok (.iadd, 1) := by decide +kernel
theorem dX6_tells_55 : decode cX6_tells 55 = .ok (.iload_n 1, 1) := by decide +kernel
theorem dX6_tells_56 : decode cX6_tells 56 = .ok (.iastore, 1) := by decide +kernel
theorem dX6_tells_57 : decode cX6_tells 57 = .ok (.aload_n 0, 1) := by decide +kernel
theorem dX6_tells_58 : decode cX6_tells 58 = .ok (.getfield 7, 3) := by decide +kernel
theorem dX6_tells_61 : decode cX6_tells 61 = .ok (.bipush 20, 2) := by decide +kernel
theorem dX6_tells_63 : decode cX6_tells 63 = .ok (.iload 4, 2) := by decide +kernel
theorem dX6_tells_65 : decode cX6_tells 65 = .ok (.iadd, 1) := by decide +kernel
theorem dX6_tells_66 : decode cX6_tells 66 = .ok (.iload_n 2, 1) := by decide +kernel
theorem dX6_tells_67 : decode cX6_tells 67 = .ok (.iastore, 1) := by decide +kernel
theorem dX6_tells_68 : decode cX6_tells 68 = .ok (.aload_n 0, 1) := by decide +kernel
theorem dX6_tells_69 : decode cX6_tells 69 = .ok (.getfield 7, 3) := by decide +kernel
theorem dX6_tells_72 : decode cX6_tells 72 = .ok (.bipush 28, 2) := by decide +kernel
theorem dX6_tells_74 : decode cX6_tells 74 = .ok (.iload 4, 2) := by decide +kernel
theorem dX6_tells_76 : decode cX6_tells 76 = .ok (.iadd, 1) := by decide +kernel
theorem dX6_tells_77 : decode cX6_tells 77 = .ok (.iload_n 3, 1) := by decide +kernel
theorem dX6_tells_78 : decode cX6_tells 78 = .ok (.iastore, 1) := by decide +kernel
theorem dX6_tells_79 : decode cX6_tells 79 = .ok (.iconst 0, 1) := by decide +kernel
theorem dX6_tells_80 : decode cX6_tells 80 = .ok (.ireturn, 1) := by decide +kernel
theorem dX6_sets_0 : decode cX6_sets 0 = .ok (.aload_n 0, 1) := by decide +kernel
theorem dX6_sets_1 : decode cX6_sets 1 = .ok (.getfield 7, 3) := by decide +kernel
theorem dX6_sets_4 : decode cX6_sets 4 = .ok (.bipush 10, 2) := by decide +kernel
theorem dX6_sets_6 : decode cX6_sets 6 = .ok (.iaload, 1) := by decide +kernel
theorem dX6_sets_7 : decode cX6_sets 7 = .ok (.iconst 1, 1) := by decide +kernel
theorem dX6_sets_8 : decode cX6_sets 8 = .ok (.if_icmp .ne 11, 3) := by decide +kernel
theorem dX6_sets_11 : decode cX6_sets 11 = .ok (.aload_n 0, 1) := by decide +kernel
theorem dX6_sets_12 : decode cX6_sets 12 = .ok (.iload_n 1, 1) := by decide +kernel
theorem dX6_sets_13 : decode cX6_sets 13 = .ok (.iload_n 2, 1) := by decide +kernel
theorem dX6_sets_14 : decode cX6_sets 14 = .ok (.iload_n 3, 1) := by decide +kernel
theorem dX6_sets_15 : decode cX6_sets 15 = .ok (.invokevirtual 193, 3) := by decide +kernel
theorem dX6_sets_18 : decode cX6_sets 18 = .ok (.ireturn, 1) := by decide +kernel
theorem dX6_sets_19 : decode cX6_sets 19 = .ok (.aload_n 0, 1) := by decide +kernel
theorem dX6_sets_20 : decode cX6_sets 20 = .ok (.invokevirtual 135, 3) := by decide +kernel
theorem dX6_sets_23 : decode cX6_sets 23 = .ok (.aload_n 0, 1) := by decide +kernel
theorem dX6_sets_24 : decode cX6_sets 24 = .ok (.iconst 3, 1) := by decide +kernel
theorem dX6_sets_25 : decode cX6_sets 25 = .ok (.iload_n 3, 1) := by decide +kernel
theorem dX6_sets_26 : decode cX6_sets 26 = .ok (.iadd, 1) := by decide +kernel
theorem dX6_sets_27 : decode cX6_sets 27 = .ok (.invokevirtual 196, 3) := by decide +kernel
theorem dX6_sets_30 : decode cX6_sets 30 = .ok (.ifCond .ne 6, 3) := by decide +kernel
theorem dX6_sets_33 : decode cX6_sets 33 = .ok (.bipush (-2), 2) := by decide +kernel
theorem dX6_sets_35 : decode cX6_sets 35 = .ok (.ireturn, 1) := by decide +kernel
theorem dX6_sets_36 : decode cX6_sets 36 = .ok (.aload_n 0, 1) := by decide +kernel
theorem dX6_sets_37 : decode cX6_sets 37 = .ok (.bipush 16, 2) := by decide +kernel
theorem dX6_sets_39 : decode cX6_sets 39 = .ok (.iload_n 1, 1) := by decide +kernel
theorem dX6_sets_40 : decode cX6_sets 40 = .ok (.iload_n 3, 1) := by decide +kernel
theorem dX6_sets_41 : decode cX6_sets 41 = .ok (.iload_n 2, 1) := by decide +kernel
theorem dX6_sets_42 : decode cX6_sets 42 = .ok (.i2l, 1) := by decide +kernel
theorem dX6_sets_43 : decode cX6_sets 43 = .ok (.invokevirtual 174, 3) := by decide +kernel
theorem dX6_sets_46 : decode cX6_sets 46 = .ok (.aload_n 0, 1) := by decide +kernel
theorem dX6_sets_47 : decode cX6_sets 47 = .ok (.invokevirtual 199, 3) := by decide +kernel
theorem dX6_sets_50 : decode cX6_sets 50 = .ok (.ireturn, 1) := by decide +kernel
theorem dX6_isSetting_0 : decode cX6_isSetting 0 = .ok (.aload_n 0, 1) := by decide +kernel
theorem dX6_isSetting_1 : decode cX6_isSetting 1 = .ok (.invokevirtual 132, 3) := by decide +kernel
theorem dX6_isSetting_4 : decode cX6_isSetting 4 = .ok (.ifCond .eq 26, 3) := by decide +kernel
theorem dX6_isSetting_7 : decode cX6_isSetting 7 = .ok (.iload_n 1, 1) := by decide +kernel
theorem dX6_isSetting_8 : decode cX6_isSetting 8 = .ok (.iconst 0, 1) := by decide +kernel
theorem dX6_isSetting_9 : decode cX6_isSetting 9 = .ok (.bipush 31, 2) := by decide +kernel
theorem dX6_isSetting_11 : decode cX6_isSetting 11 = .ok (.invokestatic 39, 3) := by decide +kernel
theorem dX6_isSetting_14 : decode cX6_isSetting 14 = .ok (.ifCond .eq 16, 3) := by decide +kernel
theorem dX6_isSetting_17 : decode cX6_isSetting 17 = .ok (.iload_n 2, 1) := by decide +kernel
theorem dX6_isSetting_18 : decode cX6_isSetting 18 = .ok (.iconst 1, 1) := by decide +kernel
theorem dX6_isSetting_19 : decode cX6_isSetting 19 = .ok (.iconst 4, 1) := by decide +kernel
theorem dX6_isSetting_20 : decode cX6_isSetting 20 = .ok (.invokestatic 39, 3) := by decide +kernel
theorem dX6_isSetting_23 : decode cX6_isSetting 23 = .ok (.ifCond .eq 7, 3) := by decide +kernel
theorem dX6_isSetting_26 : decode cX6_isSetting 26 = .ok (.iconst 1, 1) := by decide +kernel
theorem dX6_isSetting_27 : decode cX6_isSetting 27 = .ok (.goto 4, 3) := by decide +kernel
theorem dX6_isSetting_30 : decode cX6_isSetting 30 = .ok (.iconst 0, 1) := by decide +kernel
theorem dX6_isSetting_31 : decode cX6_isSetting 31 = .ok (.ireturn, 1) := by decide +kernel
theorem dX6_set_0 : decode cX6_set 0 = .ok (.aload_n 0, 1) := by decide +kernel
theorem dX6_set_1 : decode cX6_set 1 = .ok (.iconst 0, 1) := by decide +kernel
theorem dX6_set_2 : decode cX6_set 2 = .ok (.putfield 35, 3) := by decide +kernel
theorem dX6_set_5 : decode cX6_set 5 = .ok (.aload_n 0, 1) := by decide +kernel
theorem dX6_set_6 : decode cX6_set 6 = .ok (.iload_n 1, 1) := by decide +kernel
theorem dX6_set_7 : decode cX6_set 7 = .ok (.iload_n 3, 1) := by decide +kernel
theorem dX6_set_8 : decode cX6_set 8 = .ok (.invokevirtual 202, 3) := by decide +kernel
theorem dX6_set_11 : decode cX6_set 11 = .ok (.ifCond .eq 13, 3) := by decide +kernel
theorem dX6_set_14 : decode cX6_set 14 = .ok (.aload_n 0, 1) := by decide +kernel
theorem dX6_set_15 : decode cX6_set 15 = .ok (.iload_n 1, 1) := by decide +kernel
theorem dX6_set_16 : decode cX6_set 16 = .ok (.iload_n 2, 1) := by decide +kernel
theorem dX6_set_17 : decode cX6_set 17 = .ok (.iload_n 3, 1) := by decide +kernel
theorem dX6_set_18 : decode cX6_set 18 = .ok (.invokevirtual 205, 3) := by decide +kernel
theorem dX6_set_21 : decode cX6_set 21 = .ok (.goto 4, 3) := by decide +kernel
theorem dX6_set_24 : decode cX6_set 24 = .ok (.iconst (-1), 1) := by decide +kernel
theorem dX6_set_25 : decode cX6_set 25 = .ok (.ireturn, 1) := by decide +kernel
theorem dX6_drop_0 : decode cX6_drop 0 = .ok (.aload_n 0, 1) := by decide +kernel
theorem dX6_drop_1 : decode cX6_drop 1 = .ok (.iconst 0, 1) := by decide +kernel
theorem dX6_drop_2 : decode cX6_drop 2 = .ok (.putfield 35, 3) := by decide +kernel
theorem dX6_drop_5 : decode cX6_drop 5 = .ok (.aload_n 0, 1) := by decide +kernel
theorem dX6_drop_6 : decode cX6_drop 6 = .ok (.invokevirtual 132, 3) := by decide +kernel
theorem dX6_drop_9 : decode cX6_drop 9 = .ok (.ifCond .eq 13, 3) := by decide +kernel
theorem dX6_drop_12 : decode cX6_drop 12 = .ok (.iload_n 1, 1) := by decide +kernel
theorem dX6_drop_13 : decode cX6_drop 13 = .ok (.iconst 0, 1) := by decide +kernel
theorem dX6_drop_14 : decode cX6_drop 14 = .ok (.bipush 31, 2) := by decide +kernel
theorem dX6_drop_16 : decode cX6_drop 16 = .ok (.invokestatic 39, 3) := by decide +kernel
theorem dX6_drop_19 : decode cX6_drop 19 = .ok (.ifCond .ne 5, 3) := by decide +kernel
theorem dX6_drop_22 : decode cX6_drop 22 = .ok (.iconst (-1), 1) := by decide +kernel
theorem dX6_drop_23 : decode cX6_drop 23 = .ok (.ireturn, 1) := by decide +kernel
theorem dX6_drop_24 : decode cX6_drop 24 = .ok (.aload_n 0, 1) := by decide +kernel
theorem dX6_drop_25 : decode cX6_drop 25 = .ok (.aload_n 0, 1) := by decide +kernel
theorem dX6_drop_26 : decode cX6_drop 26 = .ok (.getfield 7, 3) := by decide +kernel
theorem dX6_drop_29 : decode cX6_drop 29 = .ok (.iconst 3, 1) := by decide +kernel
theorem dX6_drop_30 : decode cX6_drop 30 = .ok (.iaload, 1) := by decide +kernel
theorem dX6_drop_31 : decode cX6_drop 31 = .ok (.invokevirtual 141, 3) := by decide +kernel
theorem dX6_drop_34 : decode cX6_drop 34 = .ok (.aload_n 0, 1) := by decide +kernel
theorem dX6_drop_35 : decode cX6_drop 35 = .ok (.getfield 7, 3) := by decide +kernel
theorem dX6_drop_38 : decode cX6_drop 38 = .ok (.bipush 10, 2) := by decide +kernel
theorem dX6_drop_40 : decode cX6_drop 40 = .ok (.iaload, 1) := by decide +kernel
theorem dX6_drop_41 : decode cX6_drop 41 = .ok (.iconst 1, 1) := by decide +kernel
theorem dX6_drop_42 : decode cX6_drop 42 = .ok (.if_icmp .ne 11, 3) := by decide +kernel
theorem dX6_drop_45 : decode cX6_drop 45 = .ok (.aload_n 0, 1) := by decide +kernel
theorem dX6_drop_46 : decode cX6_drop 46 = .ok (.iload_n 1, 1) := by decide +kernel
theorem dX6_drop_47 : decode cX6_drop 47 = .ok (.invokevirtual 190, 3) := by decide +kernel
theorem dX6_drop_50 : decode cX6_drop 50 = .ok (.goto 4, 3) := by decide +kernel
theorem dX6_drop_53 : decode cX6_drop 53 = .ok (.iconst (-1), 1) := by decide +kernel
theorem dX6_drop_54 : decode cX6_drop 54 = .ok (.istore_n 2, 1) := by decide +kernel
theorem dX6_drop_55 : decode cX6_drop 55 = .ok (.iload_n 2, 1) := by decide +kernel
theorem dX6_drop_56 : decode cX6_drop 56 = .ok (.ifCond .lt 23, 3) := by decide +kernel
theorem dX6_drop_59 : decode cX6_drop 59 = .ok (.aload_n 0, 1) := by decide +kernel
theorem dX6_drop_60 : decode cX6_drop 60 = .ok (.getfield 7, 3) := by decide +kernel
theorem dX6_drop_63 : decode cX6_drop 63 = .ok (.bipush 28, 2) := by decide +kernel
theorem dX6_drop_65 : decode cX6_drop 65 = .ok (.iload_n 2, 1) := by decide +kernel
theorem dX6_drop_66 : decode cX6_drop 66 = .ok (.iadd, 1) := by decide +kernel
theorem dX6_drop_67 : decode cX6_drop 67 = .ok (.iaload, 1) := by decide +kernel
theorem dX6_drop_68 : decode cX6_drop 68 = .ok (.ifCond .le 7, 3) := by decide +kernel
theorem dX6_drop_71 : decode cX6_drop 71 = .ok (.iconst 1, 1) := by decide +kernel
theorem dX6_drop_72 : decode cX6_drop 72 = .ok (.goto 18, 3) := by decide +kernel
theorem dX6_drop_75 : decode cX6_drop 75 = .ok (.iconst 0, 1) := by decide +kernel
theorem dX6_drop_76 : decode cX6_drop 76 = .ok (.goto 14, 3) := by decide +kernel
theorem dX6_drop_79 : decode cX6_drop 79 = .ok (.aload_n 0, 1) := by decide +kernel
theorem dX6_drop_80 : decode cX6_drop 80 = .ok (.aload_n 0, 1) := by decide +kernel
theorem dX6_drop_81 : decode cX6_drop 81 = .ok (.getfield 7, 3) := by decide +kernel
theorem dX6_drop_84 : decode cX6_drop 84 = .ok (.iconst 3, 1) := by decide +kernel
theorem dX6_drop_85 : decode cX6_drop 85 = .ok (.iaload, 1) := by decide +kernel
theorem dX6_drop_86 : decode cX6_drop 86 = .ok (.iload_n 1, 1) := by decide +kernel
theorem dX6_drop_87 : decode cX6_drop 87 = .ok (.invokevirtual 106, 3) := by decide +kernel
theorem dX6_drop_90 : decode cX6_drop 90 = .ok (.istore_n 3, 1) := by decide +kernel
theorem dX6_drop_91 : decode cX6_drop 91 = .ok (.iload_n 3, 1) := by decide +kernel
theorem dX6_drop_92 : decode cX6_drop 92 = .ok (.ifCond .eq 13, 3) := by decide +kernel
theorem dX6_drop_95 : decode cX6_drop 95 = .ok (.aload_n 0, 1) := by decide +kernel
theorem dX6_drop_96 : decode cX6_drop 96 = .ok (.iload_n 1, 1) := by decide +kernel
theorem dX6_drop_97 : decode cX6_drop 97 = .ok (.iconst 0, 1) := by decide +kernel
theorem dX6_drop_98 : decode cX6_drop 98 = .ok (.iconst 0, 1) := by decide +kernel
theorem dX6_drop_99 : decode cX6_drop 99 = .ok (.invokevirtual 205, 3) := by decide +kernel
theorem dX6_drop_102 : decode cX6_drop 102 = .ok (.goto 4, 3) := by decide +kernel
theorem dX6_drop_105 : decode cX6_drop 105 = .ok (.iconst (-1), 1) := by decide +kernel
theorem dX6_drop_106 : decode cX6_drop 106 = .ok (.ireturn, 1) := by decide +kernel
theorem dX6_goesUp_0 : decode cX6_goesUp 0 = .ok (.iload_n 2, 1) := by decide +kernel
theorem dX6_goesUp_1 : decode cX6_goesUp 1 = .ok (.istore_n 3, 1) := by decide +kernel
theorem dX6_goesUp_2 : decode cX6_goesUp 2 = .ok (.iload_n 3, 1) := by decide +kernel
theorem dX6_goesUp_3 : decode cX6_goesUp 3 = .ok (.iload_n 2, 1) := by decide +kernel
theorem dX6_goesUp_4 : decode cX6_goesUp 4 = .ok (.bipush 8, 2) := by decide +kernel
theorem dX6_goesUp_6 : decode cX6_goesUp 6 = .ok (.iadd, 1) := by decide +kernel
theorem dX6_goesUp_7 : decode cX6_goesUp 7 = .ok (.if_icmp .ge 43, 3) := by decide +kernel
theorem dX6_goesUp_10 : decode cX6_goesUp 10 = .ok (.aload_n 0, 1) := by decide +kernel
theorem dX6_goesUp_11 : decode cX6_goesUp 11 = .ok (.iload_n 1, 1) := by decide +kernel
theorem dX6_goesUp_12 : decode cX6_goesUp 12 = .ok (.iload_n 3, 1) := by decide +kernel
theorem dX6_goesUp_13 : decode cX6_goesUp 13 = .ok (.invokevirtual 51, 3) := by decide +kernel
theorem dX6_goesUp_16 : decode cX6_goesUp 16 = .ok (.istore 4, 2) := by decide +kernel
theorem dX6_goesUp_18 : decode cX6_goesUp 18 = .ok (.iload 4, 2) := by decide +kernel
theorem dX6_goesUp_20 : decode cX6_goesUp 20 = .ok (.ifCond .ne 6, 3) := by decide +kernel
theorem dX6_goesUp_23 : decode cX6_goesUp 23 = .ok (.goto 21, 3) := by decide +kernel
theorem dX6_goesUp_26 : decode cX6_goesUp 26 = .ok (.aload_n 0, 1) := by decide +kernel
theorem dX6_goesUp_27 : decode cX6_goesUp 27 = .ok (.iload_n 1, 1) := by decide +kernel
theorem dX6_goesUp_28 : decode cX6_goesUp 28 = .ok (.iload_n 3, 1) := by decide +kernel
theorem dX6_goesUp_29 : decode cX6_goesUp 29 = .ok (.iload 4, 2) := by decide +kernel
theorem dX6_goesUp_31 : decode cX6_goesUp 31 = .ok (.iload 4, 2) := by decide +kernel
theorem dX6_goesUp_33 : decode cX6_goesUp 33 = .ok (.invokestatic 208, 3) := by decide +kernel
theorem dX6_goesUp_36 : decode cX6_goesUp 36 = .ok (.iconst (-1), 1) := by decide +kernel
theorem dX6_goesUp_37 : decode cX6_goesUp 37 = .ok (.ixor, 1) := by decide +kernel
theorem dX6_goesUp_38 : decode cX6_goesUp 38 = .ok (.iand, 1) := by decide +kernel
theorem dX6_goesUp_39 : decode cX6_goesUp 39 = .ok (.invokevirtual 109, 3) := by decide +kernel
theorem dX6_goesUp_42 : decode cX6_goesUp 42 = .ok (.iconst 1, 1) := by decide +kernel
theorem dX6_goesUp_43 : decode cX6_goesUp 43 = .ok (.ireturn, 1) := by decide +kernel
theorem dX6_goesUp_44 : decode cX6_goesUp 44 = .ok (.iinc 3 1, 3) := by decide +kernel
theorem dX6_goesUp_47 : decode cX6_goesUp 47 = .ok (.goto (-45), 3) := by decide +kernel
theorem dX6_goesUp_50 : decode cX6_goesUp 50 = .ok (.iconst 0, 1) := by decide +kernel
theorem dX6_goesUp_51 : decode cX6_goesUp 51 = .ok (.ireturn, 1) := by decide +kernel
theorem dX6_bump_0 : decode cX6_bump 0 = .ok (.aload_n 0, 1) := by decide +kernel
theorem dX6_bump_1 : decode cX6_bump 1 = .ok (.iconst 0, 1) := by decide +kernel
theorem dX6_bump_2 : decode cX6_bump 2 = .ok (.putfield 35, 3) := by decide +kernel
theorem dX6_bump_5 : decode cX6_bump 5 = .ok (.aload_n 0, 1) := by decide +kernel
theorem dX6_bump_6 : decode cX6_bump 6 = .ok (.invokevirtual 132, 3) := by decide +kernel
theorem dX6_bump_9 : decode cX6_bump 9 = .ok (.ifCond .eq 25, 3) := by decide +kernel
theorem dX6_bump_12 : decode cX6_bump 12 = .ok (.aload_n 0, 1) := by decide +kernel
theorem dX6_bump_13 : decode cX6_bump 13 = .ok (.getfield 7, 3) := by decide +kernel
theorem dX6_bump_16 : decode cX6_bump 16 = .ok (.bipush 10, 2) := by decide +kernel
theorem dX6_bump_18 : decode cX6_bump 18 = .ok (.iaload, 1) := by decide +kernel
theorem dX6_bump_19 : decode cX6_bump 19 = .ok (.iconst 1, 1) := by decide +kernel
theorem dX6_bump_20 : decode cX6_bump 20 = .ok (.if_icmp .eq 14, 3) := by decide +kernel
theorem dX6_bump_23 : decode cX6_bump 23 = .ok (.iload_n 1, 1) := by decide +kernel
theorem dX6_bump_24 : decode cX6_bump 24 = .ok (.bipush 32, 2) := by decide +kernel
theorem dX6_bump_26 : decode cX6_bump 26 = .ok (.bipush 47, 2) := by decide +kernel
theorem dX6_bump_28 : decode cX6_bump 28 = .ok (.invokestatic 39, 3) := by decide +kernel
theorem dX6_bump_31 : decode cX6_bump 31 = .ok (.ifCond .ne 5, 3) := by decide +kernel
theorem dX6_bump_34 : decode cX6_bump 34 = .ok (.iconst (-1), 1) := by decide +kernel
theorem dX6_bump_35 : decode cX6_bump 35 = .ok (.ireturn, 1) := by decide +kernel
theorem dX6_bump_36 : decode cX6_bump 36 = .ok (.aload_n 0, 1) := by decide +kernel
theorem dX6_bump_37 : decode cX6_bump 37 = .ok (.aload_n 0, 1) := by decide +kernel
theorem dX6_bump_38 : decode cX6_bump 38 = .ok (.getfield 7, 3) := by decide +kernel
theorem dX6_bump_41 : decode cX6_bump 41 = .ok (.iconst 3, 1) := by decide +kernel
theorem dX6_bump_42 : decode cX6_bump 42 = .ok (.iaload, 1) := by decide +kernel
theorem dX6_bump_43 : decode cX6_bump 43 = .ok (.invokevirtual 141, 3) := by decide +kernel
theorem dX6_bump_46 : decode cX6_bump 46 = .ok (.aload_n 0, 1) := by decide +kernel
theorem dX6_bump_47 : decode cX6_bump 47 = .ok (.getfield 28, 3) := by decide +kernel
theorem dX6_bump_50 : decode cX6_bump 50 = .ok (.iload_n 1, 1) := by decide +kernel
theorem dX6_bump_51 : decode cX6_bump 51 = .ok (.iaload, 1) := by decide +kernel
theorem dX6_bump_52 : decode cX6_bump 52 = .ok (.istore_n 2, 1) := by decide +kernel
theorem dX6_bump_53 : decode cX6_bump 53 = .ok (.iload_n 2, 1) := by decide +kernel
theorem dX6_bump_54 : decode cX6_bump 54 = .ok (.ifCond .ge 7, 3) := by decide +kernel
theorem dX6_bump_57 : decode cX6_bump 57 = .ok (.iconst 0, 1) := by decide +kernel
theorem dX6_bump_58 : decode cX6_bump 58 = .ok (.goto 15, 3) := by decide +kernel
theorem dX6_bump_61 : decode cX6_bump 61 = .ok (.aload_n 0, 1) := by decide +kernel
theorem dX6_bump_62 : decode cX6_bump 62 = .ok (.aload_n 0, 1) := by decide +kernel
theorem dX6_bump_63 : decode cX6_bump 63 = .ok (.getfield 7, 3) := by decide +kernel
theorem dX6_bump_66 : decode cX6_bump 66 = .ok (.iconst 3, 1) := by decide +kernel
theorem dX6_bump_67 : decode cX6_bump 67 = .ok (.iaload, 1) := by decide +kernel
theorem dX6_bump_68 : decode cX6_bump 68 = .ok (.iload_n 2, 1) := by decide +kernel
theorem dX6_bump_69 : decode cX6_bump 69 = .ok (.invokevirtual 167, 3) := by decide +kernel
theorem dX6_bump_72 : decode cX6_bump 72 = .ok (.l2i, 1) := by decide +kernel
theorem dX6_bump_73 : decode cX6_bump 73 = .ok (.istore_n 3, 1) := by decide +kernel
theorem dX6_bump_74 : decode cX6_bump 74 = .ok (.iload_n 3, 1) := by decide +kernel
theorem dX6_bump_75 : decode cX6_bump 75 = .ok (.ldc 211, 2) := by decide +kernel
theorem dX6_bump_77 : decode cX6_bump 77 = .ok (.if_icmp .lt 5, 3) := by decide +kernel
theorem dX6_bump_80 : decode cX6_bump 80 = .ok (.iconst (-1), 1) := by decide +kernel
theorem dX6_bump_81 : decode cX6_bump 81 = .ok (.ireturn, 1) := by decide +kernel
theorem dX6_bump_82 : decode cX6_bump 82 = .ok (.aload_n 0, 1) := by decide +kernel
theorem dX6_bump_83 : decode cX6_bump 83 = .ok (.invokevirtual 135, 3) := by decide +kernel
theorem dX6_bump_86 : decode cX6_bump 86 = .ok (.iload_n 2, 1) := by decide +kernel
theorem dX6_bump_87 : decode cX6_bump 87 = .ok (.ifCond .lt 25, 3) := by decide +kernel
theorem dX6_bump_90 : decode cX6_bump 90 = .ok (.aload_n 0, 1) := by decide +kernel
theorem dX6_bump_91 : decode cX6_bump 91 = .ok (.aload_n 0, 1) := by decide +kernel
theorem dX6_bump_92 : decode cX6_bump 92 = .ok (.getfield 7, 3) := by decide +kernel
theorem dX6_bump_95 : decode cX6_bump 95 = .ok (.iconst 3, 1) := by decide +kernel
theorem dX6_bump_96 : decode cX6_bump 96 = .ok (.iaload, 1) := by decide +kernel
theorem dX6_bump_97 : decode cX6_bump 97 = .ok (.aload_n 0, 1) := by decide +kernel
theorem dX6_bump_98 : decode cX6_bump 98 = .ok (.getfield 16, 3) := by decide +kernel
theorem dX6_bump_101 : decode cX6_bump 101 = .ok (.iload_n 2, 1) := by decide +kernel
theorem dX6_bump_102 : decode cX6_bump 102 = .ok (.iaload, 1) := by decide +kernel
theorem dX6_bump_103 : decode cX6_bump 103 = .ok (.bipush 6, 2) := by decide +kernel
theorem dX6_bump_105 : decode cX6_bump 105 = .ok (.iadd, 1) := by decide +kernel
theorem dX6_bump_106 : decode cX6_bump 106 = .ok (.invokevirtual 212, 3) := by decide +kernel
theorem dX6_bump_109 : decode cX6_bump 109 = .ok (.ifCond .ne 23, 3) := by decide +kernel
theorem dX6_bump_112 : decode cX6_bump 112 = .ok (.aload_n 0, 1) := by decide +kernel
theorem dX6_bump_113 : decode cX6_bump 113 = .ok (.bipush 14, 2) := by decide +kernel
theorem dX6_bump_115 : decode cX6_bump 115 = .ok (.invokevirtual 196, 3) := by decide +kernel
theorem dX6_bump_118 : decode cX6_bump 118 = .ok (.ifCond .ne 6, 3) := by decide +kernel
theorem dX6_bump_121 : decode cX6_bump 121 = .ok (.bipush (-2), 2) := by decide +kernel
theorem dX6_bump_123 : decode cX6_bump 123 = .ok (.ireturn, 1) := by decide +kernel
theorem dX6_bump_124 : decode cX6_bump 124 = .ok (.aload_n 0, 1) := by decide +kernel
theorem dX6_bump_125 : decode cX6_bump 125 = .ok (.iload_n 1, 1) := by decide +kernel
theorem dX6_bump_126 : decode cX6_bump 126 = .ok (.iload_n 3, 1) := by decide +kernel
theorem dX6_bump_127 : decode cX6_bump 127 = .ok (.iconst 1, 1) := by decide +kernel
theorem dX6_bump_128 : decode cX6_bump 128 = .ok (.iadd, 1) := by decide +kernel
theorem dX6_bump_129 : decode cX6_bump 129 = .ok (.invokevirtual 171, 3) := by decide +kernel
theorem dX6_bump_132 : decode cX6_bump 132 = .ok (.aload_n 0, 1) := by decide +kernel
theorem dX6_bump_133 : decode cX6_bump 133 = .ok (.getfield 43, 3) := by decide +kernel
theorem dX6_bump_136 : decode cX6_bump 136 = .ok (.ifCond .eq 8, 3) := by decide +kernel
theorem dX6_bump_139 : decode cX6_bump 139 = .ok (.bipush (-3), 2) := by decide +kernel
theorem dX6_bump_141 : decode cX6_bump 141 = .ok (.goto 6, 3) := by decide +kernel
theorem dX6_bump_144 : decode cX6_bump 144 = .ok (.iload_n 3, 1) := by decide +kernel
theorem dX6_bump_145 : decode cX6_bump 145 = .ok (.iconst 1, 1) := by decide +kernel
theorem dX6_bump_146 : decode cX6_bump 146 = .ok (.iadd, 1) := by decide +kernel
theorem dX6_bump_147 : decode cX6_bump 147 = .ok (.ireturn, 1) := by decide +kernel
theorem dX6_begin_0 : decode cX6_begin 0 = .ok (.aload_n 0, 1) := by decide +kernel
theorem dX6_begin_1 : decode cX6_begin 1 = .ok (.iconst 0, 1) := by decide +kernel
theorem dX6_begin_2 : decode cX6_begin 2 = .ok (.putfield 35, 3) := by decide +kernel
theorem dX6_begin_5 : decode cX6_begin 5 = .ok (.aload_n 0, 1) := by decide +kernel
theorem dX6_begin_6 : decode cX6_begin 6 = .ok (.invokevirtual 132, 3) := by decide +kernel
theorem dX6_begin_9 : decode cX6_begin 9 = .ok (.ifCond .eq 14, 3) := by decide +kernel
theorem dX6_begin_12 : decode cX6_begin 12 = .ok (.aload_n 0, 1) := by decide +kernel
theorem dX6_begin_13 : decode cX6_begin 13 = .ok (.getfield 7, 3) := by decide +kernel
theorem dX6_begin_16 : decode cX6_begin 16 = .ok (.bipush 10, 2) := by decide +kernel
theorem dX6_begin_18 : decode cX6_begin 18 = .ok (.iaload, 1) := by decide +kernel
theorem dX6_begin_19 : decode cX6_begin 19 = .ok (.iconst 1, 1) := by decide +kernel
theorem dX6_begin_20 : decode cX6_begin 20 = .ok (.if_icmp .ne 5, 3) := by decide +kernel
theorem dX6_begin_23 : decode cX6_begin 23 = .ok (.iconst 0, 1) := by decide +kernel
theorem dX6_begin_24 : decode cX6_begin 24 = .ok (.ireturn, 1) := by decide +kernel
theorem dX6_begin_25 : decode cX6_begin 25 = .ok (.aload_n 0, 1) := by decide +kernel
theorem dX6_begin_26 : decode cX6_begin 26 = .ok (.getfield 7, 3) := by decide +kernel
theorem dX6_begin_29 : decode cX6_begin 29 = .ok (.bipush 10, 2) := by decide +kernel
theorem dX6_begin_31 : decode cX6_begin 31 = .ok (.iconst 1, 1) := by decide +kernel
theorem dX6_begin_32 : decode cX6_begin 32 = .ok (.iastore, 1) := by decide +kernel
theorem dX6_begin_33 : decode cX6_begin 33 = .ok (.aload_n 0, 1) := by decide +kernel
theorem dX6_begin_34 : decode cX6_begin 34 = .ok (.getfield 7, 3) := by decide +kernel
theorem dX6_begin_37 : decode cX6_begin 37 = .ok (.bipush 11, 2) := by decide +kernel
theorem dX6_begin_39 : decode cX6_begin 39 = .ok (.iconst 0, 1) := by decide +kernel
theorem dX6_begin_40 : decode cX6_begin 40 = .ok (.iastore, 1) := by decide +kernel
theorem dX6_begin_41 : decode cX6_begin 41 = .ok (.iconst 1, 1) := by decide +kernel
theorem dX6_begin_42 : decode cX6_begin 42 = .ok (.ireturn, 1) := by decide +kernel
theorem dX6_commit_0 : decode cX6_commit 0 = .ok (.aload_n 0, 1) := by decide +kernel
theorem dX6_commit_1 : decode cX6_commit 1 = .ok (.iconst 0, 1) := by decide +kernel
theorem dX6_commit_2 : decode cX6_commit 2 = .ok (.putfield 35, 3) := by decide +kernel
theorem dX6_commit_5 : decode cX6_commit 5 = .ok (.aload_n 0, 1) := by decide +kernel
theorem dX6_commit_6 : decode cX6_commit 6 = .ok (.getfield 7, 3) := by decide +kernel
theorem dX6_commit_9 : decode cX6_commit 9 = .ok (.bipush 10, 2) := by decide +kernel
theorem dX6_commit_11 : decode cX6_commit 11 = .ok (.iaload, 1) := by decide +kernel
theorem dX6_commit_12 : decode cX6_commit 12 = .ok (.ifCond .ne 5, 3) := by decide +kernel
theorem dX6_commit_15 : decode cX6_commit 15 = .ok (.iconst (-1), 1) := by decide +kernel
theorem dX6_commit_16 : decode cX6_commit 16 = .ok (.ireturn, 1) := by decide +kernel
theorem dX6_commit_17 : decode cX6_commit 17 = .ok (.aload_n 0, 1) := by decide +kernel
theorem dX6_commit_18 : decode cX6_commit 18 = .ok (.getfield 7, 3) := by decide +kernel
theorem dX6_commit_21 : decode cX6_commit 21 = .ok (.bipush 11, 2) := by decide +kernel
theorem dX6_commit_23 : decode cX6_commit 23 = .ok (.iaload, 1) := by decide +kernel
theorem dX6_commit_24 : decode cX6_commit 24 = .ok (.ifCond .ne 13, 3) := by decide +kernel
theorem dX6_commit_27 : decode cX6_commit 27 = .ok (.aload_n 0, 1) := by decide +kernel
theorem dX6_commit_28 : decode cX6_commit 28 = .ok (.getfield 7, 3) := by decide +kernel
theorem dX6_commit_31 : decode cX6_commit 31 = .ok (.bipush 10, 2) := by decide +kernel
theorem dX6_commit_33 : decode cX6_commit 33 = .ok (.iconst 0, 1) := by decide +kernel
theorem dX6_commit_34 : decode cX6_commit 34 = .ok (.iastore, 1) := by decide +kernel
theorem dX6_commit_35 : decode cX6_commit 35 = .ok (.iconst (-1), 1) := by decide +kernel
theorem dX6_commit_36 : decode cX6_commit 36 = .ok (.ireturn, 1) := by decide +kernel
theorem dX6_commit_37 : decode cX6_commit 37 = .ok (.iconst 4, 1) := by decide +kernel
theorem dX6_commit_38 : decode cX6_commit 38 = .ok (.istore_n 1, 1) := by decide +kernel
theorem dX6_commit_39 : decode cX6_commit 39 = .ok (.iconst 0, 1) := by decide +kernel
theorem dX6_commit_40 : decode cX6_commit 40 = .ok (.istore_n 2, 1) := by decide +kernel
theorem dX6_commit_41 : decode cX6_commit 41 = .ok (.iload_n 2, 1) := by decide +kernel
theorem dX6_commit_42 : decode cX6_commit 42 = .ok (.aload_n 0, 1) := by decide +kernel
theorem dX6_commit_43 : decode cX6_commit 43 = .ok (.getfield 7, 3) := by decide +kernel
theorem dX6_commit_46 : decode cX6_commit 46 = .ok (.bipush 11, 2) := by decide +kernel
theorem dX6_commit_48 : decode cX6_commit 48 = .ok (.iaload, 1) := by decide +kernel
theorem dX6_commit_49 : decode cX6_commit 49 = .ok (.if_icmp .ge 23, 3) := by decide +kernel
theorem dX6_commit_52 : decode cX6_commit 52 = .ok (.iload_n 1, 1) := by decide +kernel
theorem dX6_commit_53 : decode cX6_commit 53 = .ok (.iconst 3, 1) := by decide +kernel
theorem dX6_commit_54 : decode cX6_commit 54 = .ok (.aload_n 0, 1) := by decide +kernel
theorem dX6_commit_55 : decode cX6_commit 55 = .ok (.getfield 7, 3) := by decide +kernel
theorem dX6_commit_58 : decode cX6_commit 58 = .ok (.bipush 28, 2) := by decide +kernel
theorem dX6_commit_60 : decode cX6_commit 60 = .ok (.iload_n 2, 1) := by decide +kernel
theorem dX6_commit_61 : decode cX6_commit 61 = .ok (.iadd, 1) := by decide +kernel
theorem dX6_commit_62 : decode cX6_commit 62 = .ok (.iaload, 1) := by decide +kernel
theorem dX6_commit_63 : decode cX6_commit 63 = .ok (.iadd, 1) := by decide +kernel
theorem dX6_commit_64 : decode cX6_commit 64 = .ok (.iadd, 1) := by decide +kernel
theorem dX6_commit_65 : decode cX6_commit 65 = .ok (.istore_n 1, 1) := by decide +kernel
theorem dX6_commit_66 : decode cX6_commit 66 = .ok (.iinc 2 1, 3) := by decide +kernel
theorem dX6_commit_69 : decode cX6_commit 69 = .ok (.goto (-28), 3) := by decide +kernel
theorem dX6_commit_72 : decode cX6_commit 72 = .ok (.aload_n 0, 1) := by decide +kernel
theorem dX6_commit_73 : decode cX6_commit 73 = .ok (.invokevirtual 135, 3) := by decide +kernel
theorem dX6_commit_76 : decode cX6_commit 76 = .ok (.aload_n 0, 1) := by decide +kernel
theorem dX6_commit_77 : decode cX6_commit 77 = .ok (.iload_n 1, 1) := by decide +kernel
theorem dX6_commit_78 : decode cX6_commit 78 = .ok (.invokevirtual 196, 3) := by decide +kernel
theorem dX6_commit_81 : decode cX6_commit 81 = .ok (.ifCond .ne 6, 3) := by decide +kernel
theorem dX6_commit_84 : decode cX6_commit 84 = .ok (.bipush (-2), 2) := by decide +kernel
theorem dX6_commit_86 : decode cX6_commit 86 = .ok (.ireturn, 1) := by decide +kernel
theorem dX6_commit_87 : decode cX6_commit 87 = .ok (.iconst 0, 1) := by decide +kernel
theorem dX6_commit_88 : decode cX6_commit 88 = .ok (.istore_n 2, 1) := by decide +kernel
theorem dX6_commit_89 : decode cX6_commit 89 = .ok (.iload_n 2, 1) := by decide +kernel
theorem dX6_commit_90 : decode cX6_commit 90 = .ok (.aload_n 0, 1) := by decide +kernel
theorem dX6_commit_91 : decode cX6_commit 91 = .ok (.getfield 7, 3) := by decide +kernel
theorem dX6_commit_94 : decode cX6_commit 94 = .ok (.bipush 11, 2) := by decide +kernel
theorem dX6_commit_96 : decode cX6_commit 96 = .ok (.iaload, 1) := by decide +kernel
theorem dX6_commit_97 : decode cX6_commit 97 = .ok (.if_icmp .ge 43, 3) := by decide +kernel
theorem dX6_commit_100 : decode cX6_commit 100 = .ok (.aload_n 0, 1) := by decide +kernel
theorem dX6_commit_101 : decode cX6_commit 101 = .ok (.bipush 48, 2) := by decide +kernel
theorem dX6_commit_103 : decode cX6_commit 103 = .ok (.aload_n 0, 1) := by decide +kernel
theorem dX6_commit_104 : decode cX6_commit 104 = .ok (.getfield 7, 3) := by decide +kernel
theorem dX6_commit_107 : decode cX6_commit 107 = .ok (.bipush 12, 2) := by decide +kernel
theorem dX6_commit_109 : decode cX6_commit 109 = .ok (.iload_n 2, 1) := by decide +kernel
theorem dX6_commit_110 : decode cX6_commit 110 = .ok (.iadd, 1) := by decide +kernel
theorem dX6_commit_111 : decode cX6_commit 111 = .ok (.iaload, 1) := by decide +kernel
theorem dX6_commit_112 : decode cX6_commit 112 = .ok (.aload_n 0, 1) := by decide +kernel
theorem dX6_commit_113 : decode cX6_commit 113 = .ok (.getfield 7, 3) := by decide +kernel
theorem dX6_commit_116 : decode cX6_commit 116 = .ok (.bipush 28, 2) := by decide +kernel
theorem dX6_commit_118 : decode cX6_commit 118 = .ok (.iload_n 2, 1) := by decide +kernel
theorem dX6_commit_119 : decode cX6_commit 119 = .ok (.iadd, 1) := by decide +kernel
theorem dX6_commit_120 : decode cX6_commit 120 = .ok (.iaload, 1) := by decide +kernel
theorem dX6_commit_121 : decode cX6_commit 121 = .ok (.aload_n 0, 1) := by decide +kernel
theorem dX6_commit_122 : decode cX6_commit 122 = .ok (.getfield 7, 3) := by decide +kernel
theorem dX6_commit_125 : decode cX6_commit 125 = .ok (.bipush 20, 2) := by decide +kernel
theorem dX6_commit_127 : decode cX6_commit 127 = .ok (.iload_n 2, 1) := by decide +kernel
theorem dX6_commit_128 : decode cX6_commit 128 = .ok (.iadd, 1) := by decide +kernel
theorem dX6_commit_129 : decode cX6_commit 129 = .ok (.iaload, 1) := by decide +kernel
theorem dX6_commit_130 : decode cX6_commit 130 = .ok (.i2l, 1) := by decide +kernel
theorem dX6_commit_131 : decode cX6_commit 131 = .ok (.invokevirtual 174, 3) := by decide +kernel
theorem dX6_commit_134 : decode cX6_commit 134 = .ok (.iinc 2 1, 3) := by decide +kernel
theorem dX6_commit_137 : decode cX6_commit 137 = .ok (.goto (-48), 3) := by decide +kernel
theorem dX6_commit_140 : decode cX6_commit 140 = .ok (.aload_n 0, 1) := by decide +kernel
theorem dX6_commit_141 : decode cX6_commit 141 = .ok (.iconst 0, 1) := by decide +kernel
theorem dX6_commit_142 : decode cX6_commit 142 = .ok (.putfield 157, 3) := by decide +kernel
theorem dX6_commit_145 : decode cX6_commit 145 = .ok (.aload_n 0, 1) := by decide +kernel
theorem dX6_commit_146 : decode cX6_commit 146 = .ok (.bipush 63, 2) := by decide +kernel
theorem dX6_commit_148 : decode cX6_commit 148 = .ok (.invokevirtual 160, 3) := by decide +kernel
theorem dX6_commit_151 : decode cX6_commit 151 = .ok (.aload_n 0, 1) := by decide +kernel
theorem dX6_commit_152 : decode cX6_commit 152 = .ok (.bipush 65, 2) := by decide +kernel
theorem dX6_commit_154 : decode cX6_commit 154 = .ok (.invokevirtual 160, 3) := by decide +kernel
theorem dX6_commit_157 : decode cX6_commit 157 = .ok (.aload_n 0, 1) := by decide +kernel
theorem dX6_commit_158 : decode cX6_commit 158 = .ok (.aload_n 0, 1) := by decide +kernel
theorem dX6_commit_159 : decode cX6_commit 159 = .ok (.getfield 7, 3) := by decide +kernel
theorem dX6_commit_162 : decode cX6_commit 162 = .ok (.bipush 11, 2) := by decide +kernel
theorem dX6_commit_164 : decode cX6_commit 164 = .ok (.iaload, 1) := by decide +kernel
theorem dX6_commit_165 : decode cX6_commit 165 = .ok (.invokevirtual 160, 3) := by decide +kernel
theorem dX6_commit_168 : decode cX6_commit 168 = .ok (.aload_n 0, 1) := by decide +kernel
theorem dX6_commit_169 : decode cX6_commit 169 = .ok (.invokevirtual 163, 3) := by decide +kernel
theorem dX6_commit_172 : decode cX6_commit 172 = .ok (.aload_n 0, 1) := by decide +kernel
theorem dX6_commit_173 : decode cX6_commit 173 = .ok (.getfield 7, 3) := by decide +kernel
theorem dX6_commit_176 : decode cX6_commit 176 = .ok (.bipush 10, 2) := by decide +kernel
theorem dX6_commit_178 : decode cX6_commit 178 = .ok (.iconst 0, 1) := by decide +kernel
theorem dX6_commit_179 : decode cX6_commit 179 = .ok (.iastore, 1) := by decide +kernel
theorem dX6_commit_180 : decode cX6_commit 180 = .ok (.aload_n 0, 1) := by decide +kernel
theorem dX6_commit_181 : decode cX6_commit 181 = .ok (.invokevirtual 199, 3) := by decide +kernel
theorem dX6_commit_184 : decode cX6_commit 184 = .ok (.ireturn, 1) := by decide +kernel
theorem dX6_abort_0 : decode cX6_abort 0 = .ok (.aload_n 0, 1) := by decide +kernel
theorem dX6_abort_1 : decode cX6_abort 1 = .ok (.iconst 0, 1) := by decide +kernel
theorem dX6_abort_2 : decode cX6_abort 2 = .ok (.putfield 35, 3) := by decide +kernel
theorem dX6_abort_5 : decode cX6_abort 5 = .ok (.aload_n 0, 1) := by decide +kernel
theorem dX6_abort_6 : decode cX6_abort 6 = .ok (.getfield 7, 3) := by decide +kernel
theorem dX6_abort_9 : decode cX6_abort 9 = .ok (.bipush 10, 2) := by decide +kernel
theorem dX6_abort_11 : decode cX6_abort 11 = .ok (.iaload, 1) := by decide +kernel
theorem dX6_abort_12 : decode cX6_abort 12 = .ok (.ifCond .ne 5, 3) := by decide +kernel
theorem dX6_abort_15 : decode cX6_abort 15 = .ok (.iconst (-1), 1) := by decide +kernel
theorem dX6_abort_16 : decode cX6_abort 16 = .ok (.ireturn, 1) := by decide +kernel
theorem dX6_abort_17 : decode cX6_abort 17 = .ok (.aload_n 0, 1) := by decide +kernel
theorem dX6_abort_18 : decode cX6_abort 18 = .ok (.getfield 7, 3) := by decide +kernel
theorem dX6_abort_21 : decode cX6_abort 21 = .ok (.bipush 10, 2) := by decide +kernel
theorem dX6_abort_23 : decode cX6_abort 23 = .ok (.iconst 0, 1) := by decide +kernel
theorem dX6_abort_24 : decode cX6_abort 24 = .ok (.iastore, 1) := by decide +kernel
theorem dX6_abort_25 : decode cX6_abort 25 = .ok (.aload_n 0, 1) := by decide +kernel
theorem dX6_abort_26 : decode cX6_abort 26 = .ok (.getfield 7, 3) := by decide +kernel
theorem dX6_abort_29 : decode cX6_abort 29 = .ok (.bipush 11, 2) := by decide +kernel
theorem dX6_abort_31 : decode cX6_abort 31 = .ok (.iaload, 1) := by decide +kernel
theorem dX6_abort_32 : decode cX6_abort 32 = .ok (.ireturn, 1) := by decide +kernel
theorem dX6_isTag_0 : decode cX6_isTag 0 = .ok (.iload_n 1, 1) := by decide +kernel
theorem dX6_isTag_1 : decode cX6_isTag 1 = .ok (.iconst 0, 1) := by decide +kernel
theorem dX6_isTag_2 : decode cX6_isTag 2 = .ok (.bipush 47, 2) := by decide +kernel
theorem dX6_isTag_4 : decode cX6_isTag 4 = .ok (.invokestatic 39, 3) := by decide +kernel
theorem dX6_isTag_7 : decode cX6_isTag 7 = .ok (.ireturn, 1) := by decide +kernel
theorem dX6_valueNow_0 : decode cX6_valueNow 0 = .ok (.aload_n 0, 1) := by decide +kernel
theorem dX6_valueNow_1 : decode cX6_valueNow 1 = .ok (.aload_n 0, 1) := by decide +kernel
theorem dX6_valueNow_2 : decode cX6_valueNow 2 = .ok (.getfield 7, 3) := by decide +kernel
theorem dX6_valueNow_5 : decode cX6_valueNow 5 = .ok (.iconst 3, 1) := by decide +kernel
theorem dX6_valueNow_6 : decode cX6_valueNow 6 = .ok (.iaload, 1) := by decide +kernel
theorem dX6_valueNow_7 : decode cX6_valueNow 7 = .ok (.invokevirtual 141, 3) := by decide +kernel
theorem dX6_valueNow_10 : decode cX6_valueNow 10 = .ok (.aload_n 0, 1) := by decide +kernel
theorem dX6_valueNow_11 : decode cX6_valueNow 11 = .ok (.getfield 28, 3) := by decide +kernel
theorem dX6_valueNow_14 : decode cX6_valueNow 14 = .ok (.iload_n 1, 1) := by decide +kernel
theorem dX6_valueNow_15 : decode cX6_valueNow 15 = .ok (.iaload, 1) := by decide +kernel
theorem dX6_valueNow_16 : decode cX6_valueNow 16 = .ok (.ifCond .ge 9, 3) := by decide +kernel
theorem dX6_valueNow_19 : decode cX6_valueNow 19 = .ok (.ldc2_w 101, 3) := by decide +kernel
theorem dX6_valueNow_22 : decode cX6_valueNow 22 = .ok (.goto 19, 3) := by decide +kernel
theorem dX6_valueNow_25 : decode cX6_valueNow 25 = .ok (.aload_n 0, 1) := by decide +kernel
theorem dX6_valueNow_26 : decode cX6_valueNow 26 = .ok (.aload_n 0, 1) := by decide +kernel
theorem dX6_valueNow_27 : decode cX6_valueNow 27 = .ok (.getfield 7, 3) := by decide +kernel
theorem dX6_valueNow_30 : decode cX6_valueNow 30 = .ok (.iconst 3, 1) := by decide +kernel
theorem dX6_valueNow_31 : decode cX6_valueNow 31 = .ok (.iaload, 1) := by decide +kernel
theorem dX6_valueNow_32 : decode cX6_valueNow 32 = .ok (.aload_n 0, 1) := by decide +kernel
theorem dX6_valueNow_33 : decode cX6_valueNow 33 = .ok (.getfield 28, 3) := by decide +kernel
theorem dX6_valueNow_36 : decode cX6_valueNow 36 = .ok (.iload_n 1, 1) := by decide +kernel
theorem dX6_valueNow_37 : decode cX6_valueNow 37 = .ok (.iaload, 1) := by decide +kernel
theorem dX6_valueNow_38 : decode cX6_valueNow 38 = .ok (.invokevirtual 167, 3) := by decide +kernel
theorem dX6_valueNow_41 : decode cX6_valueNow 41 = .ok (.lreturn, 1) := by decide +kernel
theorem dX6_get_0 : decode cX6_get 0 = .ok (.aload_n 0, 1) := by decide +kernel
theorem dX6_get_1 : decode cX6_get 1 = .ok (.iconst 0, 1) := by decide +kernel
theorem dX6_get_2 : decode cX6_get 2 = .ok (.putfield 35, 3) := by decide +kernel
theorem dX6_get_5 : decode cX6_get 5 = .ok (.aload_n 0, 1) := by decide +kernel
theorem dX6_get_6 : decode cX6_get 6 = .ok (.invokevirtual 132, 3) := by decide +kernel
theorem dX6_get_9 : decode cX6_get 9 = .ok (.ifCond .eq 19, 3) := by decide +kernel
theorem dX6_get_12 : decode cX6_get 12 = .ok (.aload_n 0, 1) := by decide +kernel
theorem dX6_get_13 : decode cX6_get 13 = .ok (.iload_n 1, 1) := by decide +kernel
theorem dX6_get_14 : decode cX6_get 14 = .ok (.invokevirtual 215, 3) := by decide +kernel
theorem dX6_get_17 : decode cX6_get 17 = .ok (.ifCond .eq 11, 3) := by decide +kernel
theorem dX6_get_20 : decode cX6_get 20 = .ok (.aload_n 0, 1) := by decide +kernel
theorem dX6_get_21 : decode cX6_get 21 = .ok (.iload_n 1, 1) := by decide +kernel
theorem dX6_get_22 : decode cX6_get 22 = .ok (.invokevirtual 218, 3) := by decide +kernel
theorem dX6_get_25 : decode cX6_get 25 = .ok (.goto 6, 3) := by decide +kernel
theorem dX6_get_28 : decode cX6_get 28 = .ok (.ldc2_w 222, 3) := by decide +kernel
theorem dX6_get_31 : decode cX6_get 31 = .ok (.lreturn, 1) := by decide +kernel
theorem dX6_length_0 : decode cX6_length 0 = .ok (.aload_n 0, 1) := by decide +kernel
theorem dX6_length_1 : decode cX6_length 1 = .ok (.iconst 0, 1) := by decide +kernel
theorem dX6_length_2 : decode cX6_length 2 = .ok (.putfield 35, 3) := by decide +kernel
theorem dX6_length_5 : decode cX6_length 5 = .ok (.aload_n 0, 1) := by decide +kernel
theorem dX6_length_6 : decode cX6_length 6 = .ok (.invokevirtual 132, 3) := by decide +kernel
theorem dX6_length_9 : decode cX6_length 9 = .ok (.ifCond .eq 11, 3) := by decide +kernel
theorem dX6_length_12 : decode cX6_length 12 = .ok (.aload_n 0, 1) := by decide +kernel
theorem dX6_length_13 : decode cX6_length 13 = .ok (.iload_n 1, 1) := by decide +kernel
theorem dX6_length_14 : decode cX6_length 14 = .ok (.invokevirtual 215, 3) := by decide +kernel
theorem dX6_length_17 : decode cX6_length 17 = .ok (.ifCond .ne 5, 3) := by decide +kernel
theorem dX6_length_20 : decode cX6_length 20 = .ok (.iconst (-1), 1) := by decide +kernel
theorem dX6_length_21 : decode cX6_length 21 = .ok (.ireturn, 1) := by decide +kernel
theorem dX6_length_22 : decode cX6_length 22 = .ok (.aload_n 0, 1) := by decide +kernel
theorem dX6_length_23 : decode cX6_length 23 = .ok (.aload_n 0, 1) := by decide +kernel
theorem dX6_length_24 : decode cX6_length 24 = .ok (.getfield 7, 3) := by decide +kernel
theorem dX6_length_27 : decode cX6_length 27 = .ok (.iconst 3, 1) := by decide +kernel
theorem dX6_length_28 : decode cX6_length 28 = .ok (.iaload, 1) := by decide +kernel
theorem dX6_length_29 : decode cX6_length 29 = .ok (.invokevirtual 141, 3) := by decide +kernel
theorem dX6_length_32 : decode cX6_length 32 = .ok (.aload_n 0, 1) := by decide +kernel
theorem dX6_length_33 : decode cX6_length 33 = .ok (.getfield 28, 3) := by decide +kernel
theorem dX6_length_36 : decode cX6_length 36 = .ok (.iload_n 1, 1) := by decide +kernel
theorem dX6_length_37 : decode cX6_length 37 = .ok (.iaload, 1) := by decide +kernel
theorem dX6_length_38 : decode cX6_length 38 = .ok (.ifCond .ge 7, 3) := by decide +kernel
theorem dX6_length_41 : decode cX6_length 41 = .ok (.iconst 0, 1) := by decide +kernel
theorem dX6_length_42 : decode cX6_length 42 = .ok (.goto 19, 3) := by decide +kernel
theorem dX6_length_45 : decode cX6_length 45 = .ok (.aload_n 0, 1) := by decide +kernel
theorem dX6_length_46 : decode cX6_length 46 = .ok (.aload_n 0, 1) := by decide +kernel
theorem dX6_length_47 : decode cX6_length 47 = .ok (.getfield 7, 3) := by decide +kernel
theorem dX6_length_50 : decode cX6_length 50 = .ok (.iconst 3, 1) := by decide +kernel
theorem dX6_length_51 : decode cX6_length 51 = .ok (.iaload, 1) := by decide +kernel
theorem dX6_length_52 : decode cX6_length 52 = .ok (.aload_n 0, 1) := by decide +kernel
theorem dX6_length_53 : decode cX6_length 53 = .ok (.getfield 28, 3) := by decide +kernel
theorem dX6_length_56 : decode cX6_length 56 = .ok (.iload_n 1, 1) := by decide +kernel
theorem dX6_length_57 : decode cX6_length 57 = .ok (.iaload, 1) := by decide +kernel
theorem dX6_length_58 : decode cX6_length 58 = .ok (.invokevirtual 103, 3) := by decide +kernel
theorem dX6_length_61 : decode cX6_length 61 = .ok (.ireturn, 1) := by decide +kernel
theorem dX6_hand_0 : decode cX6_hand 0 = .ok (.aload_n 0, 1) := by decide +kernel
theorem dX6_hand_1 : decode cX6_hand 1 = .ok (.iconst 0, 1) := by decide +kernel
theorem dX6_hand_2 : decode cX6_hand 2 = .ok (.putfield 35, 3) := by decide +kernel
theorem dX6_hand_5 : decode cX6_hand 5 = .ok (.aload_n 0, 1) := by decide +kernel
theorem dX6_hand_6 : decode cX6_hand 6 = .ok (.invokevirtual 132, 3) := by decide +kernel
theorem dX6_hand_9 : decode cX6_hand 9 = .ok (.ifCond .ne 5, 3) := by decide +kernel
theorem dX6_hand_12 : decode cX6_hand 12 = .ok (.iconst (-1), 1) := by decide +kernel
theorem dX6_hand_13 : decode cX6_hand 13 = .ok (.ireturn, 1) := by decide +kernel
theorem dX6_hand_14 : decode cX6_hand 14 = .ok (.aload_n 0, 1) := by decide +kernel
theorem dX6_hand_15 : decode cX6_hand 15 = .ok (.invokevirtual 135, 3) := by decide +kernel
theorem dX6_hand_18 : decode cX6_hand 18 = .ok (.aload_n 0, 1) := by decide +kernel
theorem dX6_hand_19 : decode cX6_hand 19 = .ok (.invokevirtual 187, 3) := by decide +kernel
theorem dX6_hand_22 : decode cX6_hand 22 = .ok (.aload_n 0, 1) := by decide +kernel
theorem dX6_hand_23 : decode cX6_hand 23 = .ok (.invokevirtual 199, 3) := by decide +kernel
theorem dX6_hand_26 : decode cX6_hand 26 = .ok (.ireturn, 1) := by decide +kernel
theorem dX6_at_0 : decode cX6_at 0 = .ok (.aload_n 0, 1) := by decide +kernel
theorem dX6_at_1 : decode cX6_at 1 = .ok (.aload_n 0, 1) := by decide +kernel
theorem dX6_at_2 : decode cX6_at 2 = .ok (.iload_n 1, 1) := by decide +kernel
theorem dX6_at_3 : decode cX6_at 3 = .ok (.invokevirtual 147, 3) := by decide +kernel
theorem dX6_at_6 : decode cX6_at 6 = .ok (.ifCond .eq 23, 3) := by decide +kernel
theorem dX6_at_9 : decode cX6_at 9 = .ok (.iload_n 2, 1) := by decide +kernel
theorem dX6_at_10 : decode cX6_at 10 = .ok (.iconst 0, 1) := by decide +kernel
theorem dX6_at_11 : decode cX6_at 11 = .ok (.aload_n 0, 1) := by decide +kernel
theorem dX6_at_12 : decode cX6_at 12 = .ok (.getfield 7, 3) := by decide +kernel
theorem dX6_at_15 : decode cX6_at 15 = .ok (.iconst 1, 1) := by decide +kernel
theorem dX6_at_16 : decode cX6_at 16 = .ok (.iaload, 1) := by decide +kernel
theorem dX6_at_17 : decode cX6_at 17 = .ok (.iconst 1, 1) := by decide +kernel
theorem dX6_at_18 : decode cX6_at 18 = .ok (.isub, 1) := by decide +kernel
theorem dX6_at_19 : decode cX6_at 19 = .ok (.invokestatic 39, 3) := by decide +kernel
theorem dX6_at_22 : decode cX6_at 22 = .ok (.ifCond .eq 7, 3) := by decide +kernel
theorem dX6_at_25 : decode cX6_at 25 = .ok (.iconst 0, 1) := by decide +kernel
theorem dX6_at_26 : decode cX6_at 26 = .ok (.goto 4, 3) := by decide +kernel
theorem dX6_at_29 : decode cX6_at 29 = .ok (.iconst 1, 1) := by decide +kernel
theorem dX6_at_30 : decode cX6_at 30 = .ok (.putfield 35, 3) := by decide +kernel
theorem dX6_at_33 : decode cX6_at 33 = .ok (.aload_n 0, 1) := by decide +kernel
theorem dX6_at_34 : decode cX6_at 34 = .ok (.getfield 35, 3) := by decide +kernel
theorem dX6_at_37 : decode cX6_at 37 = .ok (.ifCond .ne 12, 3) := by decide +kernel
theorem dX6_at_40 : decode cX6_at 40 = .ok (.aload_n 0, 1) := by decide +kernel
theorem dX6_at_41 : decode cX6_at 41 = .ok (.iload_n 1, 1) := by decide +kernel
theorem dX6_at_42 : decode cX6_at 42 = .ok (.iload_n 2, 1) := by decide +kernel
theorem dX6_at_43 : decode cX6_at 43 = .ok (.invokevirtual 51, 3) := by decide +kernel
theorem dX6_at_46 : decode cX6_at 46 = .ok (.goto 4, 3) := by decide +kernel
theorem dX6_at_49 : decode cX6_at 49 = .ok (.iconst 0, 1) := by decide +kernel
theorem dX6_at_50 : decode cX6_at 50 = .ok (.ireturn, 1) := by decide +kernel
theorem dX6_sector_0 : decode cX6_sector 0 = .ok (.aload_n 0, 1) := by decide +kernel
theorem dX6_sector_1 : decode cX6_sector 1 = .ok (.iconst 0, 1) := by decide +kernel
theorem dX6_sector_2 : decode cX6_sector 2 = .ok (.putfield 35, 3) := by decide +kernel
theorem dX6_sector_5 : decode cX6_sector 5 = .ok (.aload_n 0, 1) := by decide +kernel
theorem dX6_sector_6 : decode cX6_sector 6 = .ok (.iload_n 1, 1) := by decide +kernel
theorem dX6_sector_7 : decode cX6_sector 7 = .ok (.invokevirtual 147, 3) := by decide +kernel
theorem dX6_sector_10 : decode cX6_sector 10 = .ok (.ifCond .ne 5, 3) := by decide +kernel
theorem dX6_sector_13 : decode cX6_sector 13 = .ok (.iconst (-1), 1) := by decide +kernel
theorem dX6_sector_14 : decode cX6_sector 14 = .ok (.ireturn, 1) := by decide +kernel
theorem dX6_sector_15 : decode cX6_sector 15 = .ok (.iload_n 2, 1) := by decide +kernel
theorem dX6_sector_16 : decode cX6_sector 16 = .ok (.tableswitch 97 0 4 #[36, 43, 49, 59, 74], 36) := by decide +kernel
theorem dX6_sector_52 : decode cX6_sector 52 = .ok (.aload_n 0, 1) := by decide +kernel
theorem dX6_sector_53 : decode cX6_sector 53 = .ok (.iload_n 1, 1) := by decide +kernel
theorem dX6_sector_54 : decode cX6_sector 54 = .ok (.iconst 0, 1) := by decide +kernel
theorem dX6_sector_55 : decode cX6_sector 55 = .ok (.invokevirtual 51, 3) := by decide +kernel
theorem dX6_sector_58 : decode cX6_sector 58 = .ok (.ireturn, 1) := by decide +kernel
theorem dX6_sector_59 : decode cX6_sector 59 = .ok (.aload_n 0, 1) := by decide +kernel
theorem dX6_sector_60 : decode cX6_sector 60 = .ok (.iload_n 1, 1) := by decide +kernel
theorem dX6_sector_61 : decode cX6_sector 61 = .ok (.invokevirtual 116, 3) := by decide +kernel
theorem dX6_sector_64 : decode cX6_sector 64 = .ok (.ireturn, 1) := by decide +kernel
theorem dX6_sector_65 : decode cX6_sector 65 = .ok (.aload_n 0, 1) := by decide +kernel
theorem dX6_sector_66 : decode cX6_sector 66 = .ok (.getfield 7, 3) := by decide +kernel
theorem dX6_sector_69 : decode cX6_sector 69 = .ok (.bipush 36, 2) := by decide +kernel
theorem dX6_sector_71 : decode cX6_sector 71 = .ok (.iload_n 1, 1) := by decide +kernel
theorem dX6_sector_72 : decode cX6_sector 72 = .ok (.iadd, 1) := by decide +kernel
theorem dX6_sector_73 : decode cX6_sector 73 = .ok (.iaload, 1) := by decide +kernel
theorem dX6_sector_74 : decode cX6_sector 74 = .ok (.ireturn, 1) := by decide +kernel
theorem dX6_sector_75 : decode cX6_sector 75 = .ok (.aload_n 0, 1) := by decide +kernel
theorem dX6_sector_76 : decode cX6_sector 76 = .ok (.iload_n 1, 1) := by decide +kernel
theorem dX6_sector_77 : decode cX6_sector 77 = .ok (.iconst 0, 1) := by decide +kernel
theorem dX6_sector_78 : decode cX6_sector 78 = .ok (.invokevirtual 61, 3) := by decide +kernel
theorem dX6_sector_81 : decode cX6_sector 81 = .ok (.ifCond .eq 7, 3) := by decide +kernel
theorem dX6_sector_84 : decode cX6_sector 84 = .ok (.iconst 1, 1) := by decide +kernel
theorem dX6_sector_85 : decode cX6_sector 85 = .ok (.goto 4, 3) := by decide +kernel
theorem dX6_sector_88 : decode cX6_sector 88 = .ok (.iconst 0, 1) := by decide +kernel
theorem dX6_sector_89 : decode cX6_sector 89 = .ok (.ireturn, 1) := by decide +kernel
theorem dX6_sector_90 : decode cX6_sector 90 = .ok (.aload_n 0, 1) := by decide +kernel
theorem dX6_sector_91 : decode cX6_sector 91 = .ok (.invokevirtual 132, 3) := by decide +kernel
theorem dX6_sector_94 : decode cX6_sector 94 = .ok (.ifCond .eq 17, 3) := by decide +kernel
theorem dX6_sector_97 : decode cX6_sector 97 = .ok (.aload_n 0, 1) := by decide +kernel
theorem dX6_sector_98 : decode cX6_sector 98 = .ok (.getfield 7, 3) := by decide +kernel
theorem dX6_sector_101 : decode cX6_sector 101 = .ok (.iconst 3, 1) := by decide +kernel
theorem dX6_sector_102 : decode cX6_sector 102 = .ok (.iaload, 1) := by decide +kernel
theorem dX6_sector_103 : decode cX6_sector 103 = .ok (.iload_n 1, 1) := by decide +kernel
theorem dX6_sector_104 : decode cX6_sector 104 = .ok (.if_icmp .ne 7, 3) := by decide +kernel
theorem dX6_sector_107 : decode cX6_sector 107 = .ok (.iconst 1, 1) := by decide +kernel
theorem dX6_sector_108 : decode cX6_sector 108 = .ok (.goto 4, 3) := by decide +kernel
theorem dX6_sector_111 : decode cX6_sector 111 = .ok (.iconst 0, 1) := by decide +kernel
theorem dX6_sector_112 : decode cX6_sector 112 = .ok (.ireturn, 1) := by decide +kernel
theorem dX6_sector_113 : decode cX6_sector 113 = .ok (.iconst (-1), 1) := by decide +kernel
theorem dX6_sector_114 : decode cX6_sector 114 = .ok (.ireturn, 1) := by decide +kernel
theorem dX6_entry_0 : decode cX6_entry 0 = .ok (.aload_n 0, 1) := by decide +kernel
theorem dX6_entry_1 : decode cX6_entry 1 = .ok (.iconst 0, 1) := by decide +kernel
theorem dX6_entry_2 : decode cX6_entry 2 = .ok (.putfield 35, 3) := by decide +kernel
theorem dX6_entry_5 : decode cX6_entry 5 = .ok (.aload_n 0, 1) := by decide +kernel
theorem dX6_entry_6 : decode cX6_entry 6 = .ok (.iload_n 1, 1) := by decide +kernel
theorem dX6_entry_7 : decode cX6_entry 7 = .ok (.invokevirtual 147, 3) := by decide +kernel
theorem dX6_entry_10 : decode cX6_entry 10 = .ok (.ifCond .eq 12, 3) := by decide +kernel
theorem dX6_entry_13 : decode cX6_entry 13 = .ok (.iload_n 3, 1) := by decide +kernel
theorem dX6_entry_14 : decode cX6_entry 14 = .ok (.iconst 0, 1) := by decide +kernel
theorem dX6_entry_15 : decode cX6_entry 15 = .ok (.iconst 4, 1) := by decide +kernel
theorem dX6_entry_16 : decode cX6_entry 16 = .ok (.invokestatic 39, 3) := by decide +kernel
theorem dX6_entry_19 : decode cX6_entry 19 = .ok (.ifCond .ne 5, 3) := by decide +kernel
theorem dX6_entry_22 : decode cX6_entry 22 = .ok (.iconst (-1), 1) := by decide +kernel
theorem dX6_entry_23 : decode cX6_entry 23 = .ok (.ireturn, 1) := by decide +kernel
theorem dX6_entry_24 : decode cX6_entry 24 = .ok (.aload_n 0, 1) := by decide +kernel
theorem dX6_entry_25 : decode cX6_entry 25 = .ok (.iload_n 1, 1) := by decide +kernel
theorem dX6_entry_26 : decode cX6_entry 26 = .ok (.invokevirtual 141, 3) := by decide +kernel
theorem dX6_entry_29 : decode cX6_entry 29 = .ok (.iload_n 2, 1) := by decide +kernel
theorem dX6_entry_30 : decode cX6_entry 30 = .ok (.iconst (-1), 1) := by decide +kernel
theorem dX6_entry_31 : decode cX6_entry 31 = .ok (.if_icmp .ne 8, 3) := by decide +kernel
theorem dX6_entry_34 : decode cX6_entry 34 = .ok (.aload_n 0, 1) := by decide +kernel
theorem dX6_entry_35 : decode cX6_entry 35 = .ok (.getfield 55, 3) := by decide +kernel
theorem dX6_entry_38 : decode cX6_entry 38 = .ok (.ireturn, 1) := by decide +kernel
theorem dX6_entry_39 : decode cX6_entry 39 = .ok (.iload_n 2, 1) := by decide +kernel
theorem dX6_entry_40 : decode cX6_entry 40 = .ok (.iconst 0, 1) := by decide +kernel
theorem dX6_entry_41 : decode cX6_entry 41 = .ok (.aload_n 0, 1) := by decide +kernel
theorem dX6_entry_42 : decode cX6_entry 42 = .ok (.getfield 55, 3) := by decide +kernel
theorem dX6_entry_45 : decode cX6_entry 45 = .ok (.iconst 1, 1) := by decide +kernel
theorem dX6_entry_46 : decode cX6_entry 46 = .ok (.isub, 1) := by decide +kernel
theorem dX6_entry_47 : decode cX6_entry 47 = .ok (.invokestatic 39, 3) := by decide +kernel
theorem dX6_entry_50 : decode cX6_entry 50 = .ok (.ifCond .ne 5, 3) := by decide +kernel
theorem dX6_entry_53 : decode cX6_entry 53 = .ok (.iconst (-1), 1) := by decide +kernel
theorem dX6_entry_54 : decode cX6_entry 54 = .ok (.ireturn, 1) := by decide +kernel
theorem dX6_entry_55 : decode cX6_entry 55 = .ok (.iload_n 3, 1) := by decide +kernel
theorem dX6_entry_56 : decode cX6_entry 56 = .ok (.tableswitch 65 0 3 #[32, 39, 51, 58], 32) := by decide +kernel
theorem dX6_entry_88 : decode cX6_entry 88 = .ok (.aload_n 0, 1) := by decide +kernel
theorem dX6_entry_89 : decode cX6_entry 89 = .ok (.getfield 16, 3) := by decide +kernel
theorem dX6_entry_92 : decode cX6_entry 92 = .ok (.iload_n 2, 1) := by decide +kernel
theorem dX6_entry_93 : decode cX6_entry 93 = .ok (.iaload, 1) := by decide +kernel
theorem dX6_entry_94 : decode cX6_entry 94 = .ok (.ireturn, 1) := by decide +kernel
theorem dX6_entry_95 : decode cX6_entry 95 = .ok (.aload_n 0, 1) := by decide +kernel
theorem dX6_entry_96 : decode cX6_entry 96 = .ok (.iload_n 1, 1) := by decide +kernel
theorem dX6_entry_97 : decode cX6_entry 97 = .ok (.aload_n 0, 1) := by decide +kernel
theorem dX6_entry_98 : decode cX6_entry 98 = .ok (.getfield 16, 3) := by decide +kernel
theorem dX6_entry_101 : decode cX6_entry 101 = .ok (.iload_n 2, 1) := by decide +kernel
theorem dX6_entry_102 : decode cX6_entry 102 = .ok (.iaload, 1) := by decide +kernel
theorem dX6_entry_103 : decode cX6_entry 103 = .ok (.invokevirtual 51, 3) := by decide +kernel
theorem dX6_entry_106 : decode cX6_entry 106 = .ok (.ireturn, 1) := by decide +kernel
theorem dX6_entry_107 : decode cX6_entry 107 = .ok (.aload_n 0, 1) := by decide +kernel
theorem dX6_entry_108 : decode cX6_entry 108 = .ok (.getfield 19, 3) := by decide +kernel
theorem dX6_entry_111 : decode cX6_entry 111 = .ok (.iload_n 2, 1) := by decide +kernel
theorem dX6_entry_112 : decode cX6_entry 112 = .ok (.iaload, 1) := by decide +kernel
theorem dX6_entry_113 : decode cX6_entry 113 = .ok (.ireturn, 1) := by decide +kernel
theorem dX6_entry_114 : decode cX6_entry 114 = .ok (.aload_n 0, 1) := by decide +kernel
theorem dX6_entry_115 : decode cX6_entry 115 = .ok (.getfield 22, 3) := by decide +kernel
theorem dX6_entry_118 : decode cX6_entry 118 = .ok (.iload_n 2, 1) := by decide +kernel
theorem dX6_entry_119 : decode cX6_entry 119 = .ok (.iaload, 1) := by decide +kernel
theorem dX6_entry_120 : decode cX6_entry 120 = .ok (.ireturn, 1) := by decide +kernel
theorem dX6_entry_121 : decode cX6_entry 121 = .ok (.aload_n 0, 1) := by decide +kernel
theorem dX6_entry_122 : decode cX6_entry 122 = .ok (.getfield 25, 3) := by decide +kernel
theorem dX6_entry_125 : decode cX6_entry 125 = .ok (.iload_n 2, 1) := by decide +kernel
theorem dX6_entry_126 : decode cX6_entry 126 = .ok (.iaload, 1) := by decide +kernel
theorem dX6_entry_127 : decode cX6_entry 127 = .ok (.ireturn, 1) := by decide +kernel
theorem dX6_space_0 : decode cX6_space 0 = .ok (.aload_n 0, 1) := by decide +kernel
theorem dX6_space_1 : decode cX6_space 1 = .ok (.iconst 0, 1) := by decide +kernel
theorem dX6_space_2 : decode cX6_space 2 = .ok (.putfield 35, 3) := by decide +kernel
theorem dX6_space_5 : decode cX6_space 5 = .ok (.aload_n 0, 1) := by decide +kernel
theorem dX6_space_6 : decode cX6_space 6 = .ok (.iload_n 1, 1) := by decide +kernel
theorem dX6_space_7 : decode cX6_space 7 = .ok (.invokevirtual 147, 3) := by decide +kernel
theorem dX6_space_10 : decode cX6_space 10 = .ok (.ifCond .eq 12, 3) := by decide +kernel
theorem dX6_space_13 : decode cX6_space 13 = .ok (.iload_n 2, 1) := by decide +kernel
theorem dX6_space_14 : decode cX6_space 14 = .ok (.iconst 0, 1) := by decide +kernel
theorem dX6_space_15 : decode cX6_space 15 = .ok (.iconst 3, 1) := by decide +kernel
theorem dX6_space_16 : decode cX6_space 16 = .ok (.invokestatic 39, 3) := by decide +kernel
theorem dX6_space_19 : decode cX6_space 19 = .ok (.ifCond .ne 5, 3) := by decide +kernel
theorem dX6_space_22 : decode cX6_space 22 = .ok (.iconst (-1), 1) := by decide +kernel
theorem dX6_space_23 : decode cX6_space 23 = .ok (.ireturn, 1) := by decide +kernel
theorem dX6_space_24 : decode cX6_space 24 = .ok (.aload_n 0, 1) := by decide +kernel
theorem dX6_space_25 : decode cX6_space 25 = .ok (.iload_n 1, 1) := by decide +kernel
theorem dX6_space_26 : decode cX6_space 26 = .ok (.invokevirtual 141, 3) := by decide +kernel
theorem dX6_space_29 : decode cX6_space 29 = .ok (.iload_n 2, 1) := by decide +kernel
theorem dX6_space_30 : decode cX6_space 30 = .ok (.iconst 2, 1) := by decide +kernel
theorem dX6_space_31 : decode cX6_space 31 = .ok (.if_icmp .ge 19, 3) := by decide +kernel
theorem dX6_space_34 : decode cX6_space 34 = .ok (.iload_n 2, 1) := by decide +kernel
theorem dX6_space_35 : decode cX6_space 35 = .ok (.ifCond .ne 10, 3) := by decide +kernel
theorem dX6_space_38 : decode cX6_space 38 = .ok (.aload_n 0, 1) := by decide +kernel
theorem dX6_space_39 : decode cX6_space 39 = .ok (.getfield 82, 3) := by decide +kernel
theorem dX6_space_42 : decode cX6_space 42 = .ok (.goto 7, 3) := by decide +kernel
theorem dX6_space_45 : decode cX6_space 45 = .ok (.aload_n 0, 1) := by decide +kernel
theorem dX6_space_46 : decode cX6_space 46 = .ok (.getfield 58, 3) := by decide +kernel
theorem dX6_space_49 : decode cX6_space 49 = .ok (.ireturn, 1) := by decide +kernel
theorem dX6_space_50 : decode cX6_space 50 = .ok (.iconst 0, 1) := by decide +kernel
theorem dX6_space_51 : decode cX6_space 51 = .ok (.istore_n 3, 1) := by decide +kernel
theorem dX6_space_52 : decode cX6_space 52 = .ok (.iconst 0, 1) := by decide +kernel
theorem dX6_space_53 : decode cX6_space 53 = .ok (.istore 4, 2) := by decide +kernel
theorem dX6_space_55 : decode cX6_space 55 = .ok (.iconst 0, 1) := by decide +kernel
theorem dX6_space_56 : decode cX6_space 56 = .ok (.istore 5, 2) := by decide +kernel
theorem dX6_space_58 : decode cX6_space 58 = .ok (.iload 5, 2) := by decide +kernel
theorem dX6_space_60 : decode cX6_space 60 = .ok (.aload_n 0, 1) := by decide +kernel
theorem dX6_space_61 : decode cX6_space 61 = .ok (.getfield 55, 3) := by decide +kernel
theorem dX6_space_64 : decode cX6_space 64 = .ok (.if_icmp .ge 62, 3) := by decide +kernel
theorem dX6_space_67 : decode cX6_space 67 = .ok (.iload 4, 2) := by decide +kernel
theorem dX6_space_69 : decode cX6_space 69 = .ok (.aload_n 0, 1) := by decide +kernel
theorem dX6_space_70 : decode cX6_space 70 = .ok (.getfield 22, 3) := by decide +kernel
theorem dX6_space_73 : decode cX6_space 73 = .ok (.iload 5, 2) := by decide +kernel
theorem dX6_space_75 : decode cX6_space 75 = .ok (.iaload, 1) := by decide +kernel
theorem dX6_space_76 : decode cX6_space 76 = .ok (.iadd, 1) := by decide +kernel
theorem dX6_space_77 : decode cX6_space 77 = .ok (.istore 4, 2) := by decide +kernel
theorem dX6_space_79 : decode cX6_space 79 = .ok (.aload_n 0, 1) := by decide +kernel
theorem dX6_space_80 : decode cX6_space 80 = .ok (.getfield 19, 3) := by decide +kernel
theorem dX6_space_83 : decode cX6_space 83 = .ok (.iload 5, 2) := by decide +kernel
theorem dX6_space_85 : decode cX6_space 85 = .ok (.iaload, 1) := by decide +kernel
theorem dX6_space_86 : decode cX6_space 86 = .ok (.iconst 3, 1) := by decide +kernel
theorem dX6_space_87 : decode cX6_space 87 = .ok (.if_icmp .eq 33, 3) := by decide +kernel
theorem dX6_space_90 : decode cX6_space 90 = .ok (.aload_n 0, 1) := by decide +kernel
theorem dX6_space_91 : decode cX6_space 91 = .ok (.getfield 25, 3) := by decide +kernel
theorem dX6_space_94 : decode cX6_space 94 = .ok (.iload 5, 2) := by decide +kernel
theorem dX6_space_96 : decode cX6_space 96 = .ok (.iaload, 1) := by decide +kernel
theorem dX6_space_97 : decode cX6_space 97 = .ok (.ifCond .ne 23, 3) := by decide +kernel
theorem dX6_space_100 : decode cX6_space 100 = .ok (.aload_n 0, 1) := by decide +kernel
theorem dX6_space_101 : decode cX6_space 101 = .ok (.iload_n 1, 1) := by decide +kernel
theorem dX6_space_102 : decode cX6_space 102 = .ok (.iload 5, 2) := by decide +kernel
theorem dX6_space_104 : decode cX6_space 104 = .ok (.invokevirtual 103, 3) := by decide +kernel
theorem dX6_space_107 : decode cX6_space 107 = .ok (.ifCond .le 13, 3) := by decide +kernel
theorem dX6_space_110 : decode cX6_space 110 = .ok (.iload_n 3, 1) := by decide +kernel
theorem dX6_space_111 : decode cX6_space 111 = .ok (.aload_n 0, 1) := by decide +kernel
theorem dX6_space_112 : decode cX6_space 112 = .ok (.getfield 22, 3) := by decide +kernel
theorem dX6_space_115 : decode cX6_space 115 = .ok (.iload 5, 2) := by decide +kernel
theorem dX6_space_117 : decode cX6_space 117 = .ok (.iaload, 1) := by decide +kernel
theorem dX6_space_118 : decode cX6_space 118 = .ok (.iadd, 1) := by decide +kernel
theorem dX6_space_119 : decode cX6_space 119 = .ok (.istore_n 3, 1) := by decide +kernel
theorem dX6_space_120 : decode cX6_space 120 = .ok (.iinc 5 1, 3) := by decide +kernel
theorem dX6_space_123 : decode cX6_space 123 = .ok (.goto (-65), 3) := by decide +kernel
theorem dX6_space_126 : decode cX6_space 126 = .ok (.iload_n 2, 1) := by decide +kernel
theorem dX6_space_127 : decode cX6_space 127 = .ok (.iconst 2, 1) := by decide +kernel
theorem dX6_space_128 : decode cX6_space 128 = .ok (.if_icmp .ne 7, 3) := by decide +kernel
theorem dX6_space_131 : decode cX6_space 131 = .ok (.iload_n 3, 1) := by decide +kernel
theorem dX6_space_132 : decode cX6_space 132 = .ok (.goto 7, 3) := by decide +kernel
theorem dX6_space_135 : decode cX6_space 135 = .ok (.iload 4, 2) := by decide +kernel
theorem dX6_space_137 : decode cX6_space 137 = .ok (.iload_n 3, 1) := by decide +kernel
theorem dX6_space_138 : decode cX6_space 138 = .ok (.isub, 1) := by decide +kernel
theorem dX6_space_139 : decode cX6_space 139 = .ok (.ireturn, 1) := by decide +kernel
theorem dX6_until_0 : decode cX6_until 0 = .ok (.aload_n 0, 1) := by decide +kernel
theorem dX6_until_1 : decode cX6_until 1 = .ok (.iconst 0, 1) := by decide +kernel
theorem dX6_until_2 : decode cX6_until 2 = .ok (.putfield 35, 3) := by decide +kernel
theorem dX6_until_5 : decode cX6_until 5 = .ok (.aload_n 0, 1) := by decide +kernel
theorem dX6_until_6 : decode cX6_until 6 = .ok (.invokevirtual 132, 3) := by decide +kernel
theorem dX6_until_9 : decode cX6_until 9 = .ok (.ifCond .eq 23, 3) := by decide +kernel
theorem dX6_until_12 : decode cX6_until 12 = .ok (.iload_n 1, 1) := by decide +kernel
theorem dX6_until_13 : decode cX6_until 13 = .ok (.iconst 1, 1) := by decide +kernel
theorem dX6_until_14 : decode cX6_until 14 = .ok (.iconst 4, 1) := by decide +kernel
theorem dX6_until_15 : decode cX6_until 15 = .ok (.invokestatic 39, 3) := by decide +kernel
theorem dX6_until_18 : decode cX6_until 18 = .ok (.ifCond .eq 14, 3) := by decide +kernel
theorem dX6_until_21 : decode cX6_until 21 = .ok (.aload_n 0, 1) := by decide +kernel
theorem dX6_until_22 : decode cX6_until 22 = .ok (.invokevirtual 181, 3) := by decide +kernel
theorem dX6_until_25 : decode cX6_until 25 = .ok (.iconst 3, 1) := by decide +kernel
theorem dX6_until_26 : decode cX6_until 26 = .ok (.iload_n 1, 1) := by decide +kernel
theorem dX6_until_27 : decode cX6_until 27 = .ok (.iadd, 1) := by decide +kernel
theorem dX6_until_28 : decode cX6_until 28 = .ok (.idiv, 1) := by decide +kernel
theorem dX6_until_29 : decode cX6_until 29 = .ok (.goto 4, 3) := by decide +kernel
theorem dX6_until_32 : decode cX6_until 32 = .ok (.iconst (-1), 1) := by decide +kernel
theorem dX6_until_33 : decode cX6_until 33 = .ok (.ireturn, 1) := by decide +kernel
theorem dX6_after_0 : decode cX6_after 0 = .ok (.aload_n 0, 1) := by decide +kernel
theorem dX6_after_1 : decode cX6_after 1 = .ok (.iconst 0, 1) := by decide +kernel
theorem dX6_after_2 : decode cX6_after 2 = .ok (.putfield 35, 3) := by decide +kernel
theorem dX6_after_5 : decode cX6_after 5 = .ok (.aload_n 0, 1) := by decide +kernel
theorem dX6_after_6 : decode cX6_after 6 = .ok (.invokevirtual 132, 3) := by decide +kernel
theorem dX6_after_9 : decode cX6_after 9 = .ok (.ifCond .eq 10, 3) := by decide +kernel
theorem dX6_after_12 : decode cX6_after 12 = .ok (.aload_n 0, 1) := by decide +kernel
theorem dX6_after_13 : decode cX6_after 13 = .ok (.invokevirtual 184, 3) := by decide +kernel
theorem dX6_after_16 : decode cX6_after 16 = .ok (.goto 4, 3) := by decide +kernel
theorem dX6_after_19 : decode cX6_after 19 = .ok (.iconst (-1), 1) := by decide +kernel
theorem dX6_after_20 : decode cX6_after 20 = .ok (.ireturn, 1) := by decide +kernel
theorem dX6_wouldCost_0 : decode cX6_wouldCost 0 = .ok (.aload_n 0, 1) := by decide +kernel
theorem dX6_wouldCost_1 : decode cX6_wouldCost 1 = .ok (.invokevirtual 224, 3) := by decide +kernel
theorem dX6_wouldCost_4 : decode cX6_wouldCost 4 = .ok (.aload_n 0, 1) := by decide +kernel
theorem dX6_wouldCost_5 : decode cX6_wouldCost 5 = .ok (.getfield 7, 3) := by decide +kernel
theorem dX6_wouldCost_8 : decode cX6_wouldCost 8 = .ok (.iconst 4, 1) := by decide +kernel
theorem dX6_wouldCost_9 : decode cX6_wouldCost 9 = .ok (.iconst 0, 1) := by decide +kernel
theorem dX6_wouldCost_10 : decode cX6_wouldCost 10 = .ok (.iastore, 1) := by decide +kernel
theorem dX6_wouldCost_11 : decode cX6_wouldCost 11 = .ok (.aload_n 0, 1) := by decide +kernel
theorem dX6_wouldCost_12 : decode cX6_wouldCost 12 = .ok (.iconst 0, 1) := by decide +kernel
theorem dX6_wouldCost_13 : decode cX6_wouldCost 13 = .ok (.iconst 0, 1) := by decide +kernel
theorem dX6_wouldCost_14 : decode cX6_wouldCost 14 = .ok (.iload_n 1, 1) := by decide +kernel
theorem dX6_wouldCost_15 : decode cX6_wouldCost 15 = .ok (.invokevirtual 205, 3) := by decide +kernel
theorem dX6_wouldCost_18 : decode cX6_wouldCost 18 = .ok (.istore_n 2, 1) := by decide +kernel
theorem dX6_wouldCost_19 : decode cX6_wouldCost 19 = .ok (.aload_n 0, 1) := by decide +kernel
theorem dX6_wouldCost_20 : decode cX6_wouldCost 20 = .ok (.invokevirtual 227, 3) := by decide +kernel
theorem dX6_wouldCost_23 : decode cX6_wouldCost 23 = .ok (.iload_n 2, 1) := by decide +kernel
theorem dX6_wouldCost_24 : decode cX6_wouldCost 24 = .ok (.ireturn, 1) := by decide +kernel
theorem dX6_costs_0 : decode cX6_costs 0 = .ok (.aload_n 0, 1) := by decide +kernel
theorem dX6_costs_1 : decode cX6_costs 1 = .ok (.iconst 0, 1) := by decide +kernel
theorem dX6_costs_2 : decode cX6_costs 2 = .ok (.putfield 35, 3) := by decide +kernel
theorem dX6_costs_5 : decode cX6_costs 5 = .ok (.aload_n 0, 1) := by decide +kernel
theorem dX6_costs_6 : decode cX6_costs 6 = .ok (.invokevirtual 132, 3) := by decide +kernel
theorem dX6_costs_9 : decode cX6_costs 9 = .ok (.ifCond .eq 30, 3) := by decide +kernel
theorem dX6_costs_12 : decode cX6_costs 12 = .ok (.aload_n 0, 1) := by decide +kernel
theorem dX6_costs_13 : decode cX6_costs 13 = .ok (.getfield 7, 3) := by decide +kernel
theorem dX6_costs_16 : decode cX6_costs 16 = .ok (.bipush 10, 2) := by decide +kernel
theorem dX6_costs_18 : decode cX6_costs 18 = .ok (.iaload, 1) := by decide +kernel
theorem dX6_costs_19 : decode cX6_costs 19 = .ok (.ifCond .ne 20, 3) := by decide +kernel
theorem dX6_costs_22 : decode cX6_costs 22 = .ok (.iload_n 1, 1) := by decide +kernel
theorem dX6_costs_23 : decode cX6_costs 23 = .ok (.iconst 1, 1) := by decide +kernel
theorem dX6_costs_24 : decode cX6_costs 24 = .ok (.iconst 4, 1) := by decide +kernel
theorem dX6_costs_25 : decode cX6_costs 25 = .ok (.invokestatic 39, 3) := by decide +kernel
theorem dX6_costs_28 : decode cX6_costs 28 = .ok (.ifCond .eq 11, 3) := by decide +kernel
theorem dX6_costs_31 : decode cX6_costs 31 = .ok (.aload_n 0, 1) := by decide +kernel
theorem dX6_costs_32 : decode cX6_costs 32 = .ok (.iload_n 1, 1) := by decide +kernel
theorem dX6_costs_33 : decode cX6_costs 33 = .ok (.invokevirtual 230, 3) := by decide +kernel
theorem dX6_costs_36 : decode cX6_costs 36 = .ok (.goto 4, 3) := by decide +kernel
theorem dX6_costs_39 : decode cX6_costs 39 = .ok (.iconst (-1), 1) := by decide +kernel
theorem dX6_costs_40 : decode cX6_costs 40 = .ok (.ireturn, 1) := by decide +kernel
theorem dX6_torn_0 : decode cX6_torn 0 = .ok (.aload_n 0, 1) := by decide +kernel
theorem dX6_torn_1 : decode cX6_torn 1 = .ok (.iconst 0, 1) := by decide +kernel
theorem dX6_torn_2 : decode cX6_torn 2 = .ok (.putfield 35, 3) := by decide +kernel
theorem dX6_torn_5 : decode cX6_torn 5 = .ok (.aload_n 0, 1) := by decide +kernel
theorem dX6_torn_6 : decode cX6_torn 6 = .ok (.iload_n 1, 1) := by decide +kernel
theorem dX6_torn_7 : decode cX6_torn 7 = .ok (.iload_n 3, 1) := by decide +kernel
theorem dX6_torn_8 : decode cX6_torn 8 = .ok (.invokevirtual 202, 3) := by decide +kernel
theorem dX6_torn_11 : decode cX6_torn 11 = .ok (.ifCond .eq 36, 3) := by decide +kernel
theorem dX6_torn_14 : decode cX6_torn 14 = .ok (.aload_n 0, 1) := by decide +kernel
theorem dX6_torn_15 : decode cX6_torn 15 = .ok (.getfield 7, 3) := by decide +kernel
theorem dX6_torn_18 : decode cX6_torn 18 = .ok (.bipush 10, 2) := by decide +kernel
theorem dX6_torn_20 : decode cX6_torn 20 = .ok (.iaload, 1) := by decide +kernel
theorem dX6_torn_21 : decode cX6_torn 21 = .ok (.iconst 1, 1) := by decide +kernel
theorem dX6_torn_22 : decode cX6_torn 22 = .ok (.if_icmp .eq 25, 3) := by decide +kernel
theorem dX6_torn_25 : decode cX6_torn 25 = .ok (.iload 5, 2) := by decide +kernel
theorem dX6_torn_27 : decode cX6_torn 27 = .ok (.iconst 0, 1) := by decide +kernel
theorem dX6_torn_28 : decode cX6_torn 28 = .ok (.sipush 255, 3) := by decide +kernel
theorem dX6_torn_31 : decode cX6_torn 31 = .ok (.invokestatic 39, 3) := by decide +kernel
theorem dX6_torn_34 : decode cX6_torn 34 = .ok (.ifCond .eq 13, 3) := by decide +kernel
theorem dX6_torn_37 : decode cX6_torn 37 = .ok (.iload 6, 2) := by decide +kernel
