theorem dX1_init_0 : decode cX1_init 0 = .ok (.aload_n 0, 1) := by decide +kernel
theorem dX1_init_1 : decode cX1_init 1 = .ok (.invokespecial 3, 3) := by decide +kernel
theorem dX1_init_4 : decode cX1_init 4 = .ok (.aload_n 0, 1) := by decide +kernel
theorem dX1_init_5 : decode cX1_init 5 = .ok (.sipush 768, 3) := by decide +kernel
theorem dX1_init_8 : decode cX1_init 8 = .ok (.newarray .int, 2) := by decide +kernel
theorem dX1_init_10 : decode cX1_init 10 = .ok (.putfield 9, 3) := by decide +kernel
theorem dX1_init_13 : decode cX1_init 13 = .ok (.aload_n 0, 1) := by decide +kernel
theorem dX1_init_14 : decode cX1_init 14 = .ok (.bipush 6, 2) := by decide +kernel
theorem dX1_init_16 : decode cX1_init 16 = .ok (.newarray .int, 2) := by decide +kernel
theorem dX1_init_18 : decode cX1_init 18 = .ok (.putfield 15, 3) := by decide +kernel
theorem dX1_init_21 : decode cX1_init 21 = .ok (.return_, 1) := by decide +kernel
theorem dX1_renew_0 : decode cX1_renew 0 = .ok (.aload_n 0, 1) := by decide +kernel
theorem dX1_renew_1 : decode cX1_renew 1 = .ok (.iload_n 1, 1) := by decide +kernel
theorem dX1_renew_2 : decode cX1_renew 2 = .ok (.putfield 18, 3) := by decide +kernel
theorem dX1_renew_5 : decode cX1_renew 5 = .ok (.aload_n 0, 1) := by decide +kernel
theorem dX1_renew_6 : decode cX1_renew 6 = .ok (.iload_n 2, 1) := by decide +kernel
theorem dX1_renew_7 : decode cX1_renew 7 = .ok (.putfield 22, 3) := by decide +kernel
theorem dX1_renew_10 : decode cX1_renew 10 = .ok (.aload_n 0, 1) := by decide +kernel
theorem dX1_renew_11 : decode cX1_renew 11 = .ok (.getfield 9, 3) := by decide +kernel
theorem dX1_renew_14 : decode cX1_renew 14 = .ok (.sipush 255, 3) := by decide +kernel
theorem dX1_renew_17 : decode cX1_renew 17 = .ok (.invokestatic 25, 3) := by decide +kernel
theorem dX1_renew_20 : decode cX1_renew 20 = .ok (.aload_n 0, 1) := by decide +kernel
theorem dX1_renew_21 : decode cX1_renew 21 = .ok (.getfield 15, 3) := by decide +kernel
theorem dX1_renew_24 : decode cX1_renew 24 = .ok (.iconst 0, 1) := by decide +kernel
theorem dX1_renew_25 : decode cX1_renew 25 = .ok (.invokestatic 25, 3) := by decide +kernel
theorem dX1_renew_28 : decode cX1_renew 28 = .ok (.aload_n 0, 1) := by decide +kernel
theorem dX1_renew_29 : decode cX1_renew 29 = .ok (.iconst 0, 1) := by decide +kernel
theorem dX1_renew_30 : decode cX1_renew 30 = .ok (.putfield 31, 3) := by decide +kernel
theorem dX1_renew_33 : decode cX1_renew 33 = .ok (.aload_n 0, 1) := by decide +kernel
theorem dX1_renew_34 : decode cX1_renew 34 = .ok (.iconst 0, 1) := by decide +kernel
theorem dX1_renew_35 : decode cX1_renew 35 = .ok (.putfield 34, 3) := by decide +kernel
theorem dX1_renew_38 : decode cX1_renew 38 = .ok (.aload_n 0, 1) := by decide +kernel
theorem dX1_renew_39 : decode cX1_renew 39 = .ok (.iconst 0, 1) := by decide +kernel
theorem dX1_renew_40 : decode cX1_renew 40 = .ok (.putfield 37, 3) := by decide +kernel
theorem dX1_renew_43 : decode cX1_renew 43 = .ok (.aload_n 0, 1) := by decide +kernel
theorem dX1_renew_44 : decode cX1_renew 44 = .ok (.iconst 0, 1) := by decide +kernel
theorem dX1_renew_45 : decode cX1_renew 45 = .ok (.putfield 41, 3) := by decide +kernel
theorem dX1_renew_48 : decode cX1_renew 48 = .ok (.aload_n 0, 1) := by decide +kernel
theorem dX1_renew_49 : decode cX1_renew 49 = .ok (.iconst 0, 1) := by decide +kernel
theorem dX1_renew_50 : decode cX1_renew 50 = .ok (.putfield 44, 3) := by decide +kernel
theorem dX1_renew_53 : decode cX1_renew 53 = .ok (.aload_n 0, 1) := by decide +kernel
theorem dX1_renew_54 : decode cX1_renew 54 = .ok (.iconst 0, 1) := by decide +kernel
theorem dX1_renew_55 : decode cX1_renew 55 = .ok (.putfield 47, 3) := by decide +kernel
theorem dX1_renew_58 : decode cX1_renew 58 = .ok (.return_, 1) := by decide +kernel
theorem dX1_copyFrom_0 : decode cX1_copyFrom 0 = .ok (.aload_n 0, 1) := by decide +kernel
theorem dX1_copyFrom_1 : decode cX1_copyFrom 1 = .ok (.aload_n 1, 1) := by decide +kernel
theorem dX1_copyFrom_2 : decode cX1_copyFrom 2 = .ok (.getfield 18, 3) := by decide +kernel
theorem dX1_copyFrom_5 : decode cX1_copyFrom 5 = .ok (.putfield 18, 3) := by decide +kernel
theorem dX1_copyFrom_8 : decode cX1_copyFrom 8 = .ok (.aload_n 0, 1) := by decide +kernel
theorem dX1_copyFrom_9 : decode cX1_copyFrom 9 = .ok (.aload_n 1, 1) := by decide +kernel
theorem dX1_copyFrom_10 : decode cX1_copyFrom 10 = .ok (.getfield 22, 3) := by decide +kernel
theorem dX1_copyFrom_13 : decode cX1_copyFrom 13 = .ok (.putfield 22, 3) := by decide +kernel
theorem dX1_copyFrom_16 : decode cX1_copyFrom 16 = .ok (.aload_n 1, 1) := by decide +kernel
theorem dX1_copyFrom_17 : decode cX1_copyFrom 17 = .ok (.getfield 9, 3) := by decide +kernel
theorem dX1_copyFrom_20 : decode cX1_copyFrom 20 = .ok (.iconst 0, 1) := by decide +kernel
theorem dX1_copyFrom_21 : decode cX1_copyFrom 21 = .ok (.aload_n 0, 1) := by decide +kernel
theorem dX1_copyFrom_22 : decode cX1_copyFrom 22 = .ok (.getfield 9, 3) := by decide +kernel
theorem dX1_copyFrom_25 : decode cX1_copyFrom 25 = .ok (.iconst 0, 1) := by decide +kernel
theorem dX1_copyFrom_26 : decode cX1_copyFrom 26 = .ok (.aload_n 0, 1) := by decide +kernel
theorem dX1_copyFrom_27 : decode cX1_copyFrom 27 = .ok (.getfield 9, 3) := by decide +kernel
theorem dX1_copyFrom_30 : decode cX1_copyFrom 30 = .ok (.arraylength, 1) := by decide +kernel
theorem dX1_copyFrom_31 : decode cX1_copyFrom 31 = .ok (.invokestatic 50, 3) := by decide +kernel
theorem dX1_copyFrom_34 : decode cX1_copyFrom 34 = .ok (.aload_n 1, 1) := by decide +kernel
theorem dX1_copyFrom_35 : decode cX1_copyFrom 35 = .ok (.getfield 15, 3) := by decide +kernel
theorem dX1_copyFrom_38 : decode cX1_copyFrom 38 = .ok (.iconst 0, 1) := by decide +kernel
theorem dX1_copyFrom_39 : decode cX1_copyFrom 39 = .ok (.aload_n 0, 1) := by decide +kernel
theorem dX1_copyFrom_40 : decode cX1_copyFrom 40 = .ok (.getfield 15, 3) := by decide +kernel
theorem dX1_copyFrom_43 : decode cX1_copyFrom 43 = .ok (.iconst 0, 1) := by decide +kernel
theorem dX1_copyFrom_44 : decode cX1_copyFrom 44 = .ok (.aload_n 0, 1) := by decide +kernel
theorem dX1_copyFrom_45 : decode cX1_copyFrom 45 = .ok (.getfield 15, 3) := by decide +kernel
theorem dX1_copyFrom_48 : decode cX1_copyFrom 48 = .ok (.arraylength, 1) := by decide +kernel
theorem dX1_copyFrom_49 : decode cX1_copyFrom 49 = .ok (.invokestatic 50, 3) := by decide +kernel
theorem dX1_copyFrom_52 : decode cX1_copyFrom 52 = .ok (.aload_n 0, 1) := by decide +kernel
theorem dX1_copyFrom_53 : decode cX1_copyFrom 53 = .ok (.aload_n 1, 1) := by decide +kernel
theorem dX1_copyFrom_54 : decode cX1_copyFrom 54 = .ok (.getfield 31, 3) := by decide +kernel
theorem dX1_copyFrom_57 : decode cX1_copyFrom 57 = .ok (.putfield 31, 3) := by decide +kernel
theorem dX1_copyFrom_60 : decode cX1_copyFrom 60 = .ok (.aload_n 0, 1) := by decide +kernel
theorem dX1_copyFrom_61 : decode cX1_copyFrom 61 = .ok (.aload_n 1, 1) := by decide +kernel
theorem dX1_copyFrom_62 : decode cX1_copyFrom 62 = .ok (.getfield 34, 3) := by decide +kernel
theorem dX1_copyFrom_65 : decode cX1_copyFrom 65 = .ok (.putfield 34, 3) := by decide +kernel
theorem dX1_copyFrom_68 : decode cX1_copyFrom 68 = .ok (.aload_n 0, 1) := by decide +kernel
theorem dX1_copyFrom_69 : decode cX1_copyFrom 69 = .ok (.aload_n 1, 1) := by decide +kernel
theorem dX1_copyFrom_70 : decode cX1_copyFrom 70 = .ok (.getfield 37, 3) := by decide +kernel
theorem dX1_copyFrom_73 : decode cX1_copyFrom 73 = .ok (.putfield 37, 3) := by decide +kernel
theorem dX1_copyFrom_76 : decode cX1_copyFrom 76 = .ok (.aload_n 0, 1) := by decide +kernel
theorem dX1_copyFrom_77 : decode cX1_copyFrom 77 = .ok (.aload_n 1, 1) := by decide +kernel
theorem dX1_copyFrom_78 : decode cX1_copyFrom 78 = .ok (.getfield 41, 3) := by decide +kernel
theorem dX1_copyFrom_81 : decode cX1_copyFrom 81 = .ok (.putfield 41, 3) := by decide +kernel
theorem dX1_copyFrom_84 : decode cX1_copyFrom 84 = .ok (.aload_n 0, 1) := by decide +kernel
theorem dX1_copyFrom_85 : decode cX1_copyFrom 85 = .ok (.aload_n 1, 1) := by decide +kernel
theorem dX1_copyFrom_86 : decode cX1_copyFrom 86 = .ok (.getfield 44, 3) := by decide +kernel
theorem dX1_copyFrom_89 : decode cX1_copyFrom 89 = .ok (.putfield 44, 3) := by decide +kernel
theorem dX1_copyFrom_92 : decode cX1_copyFrom 92 = .ok (.aload_n 0, 1) := by decide +kernel
theorem dX1_copyFrom_93 : decode cX1_copyFrom 93 = .ok (.aload_n 1, 1) := by decide +kernel
theorem dX1_copyFrom_94 : decode cX1_copyFrom 94 = .ok (.getfield 47, 3) := by decide +kernel
theorem dX1_copyFrom_97 : decode cX1_copyFrom 97 = .ok (.putfield 47, 3) := by decide +kernel
theorem dX1_copyFrom_100 : decode cX1_copyFrom 100 = .ok (.return_, 1) := by decide +kernel
theorem dX1_arm_0 : decode cX1_arm 0 = .ok (.aload_n 0, 1) := by decide +kernel
theorem dX1_arm_1 : decode cX1_arm 1 = .ok (.iload_n 1, 1) := by decide +kernel
theorem dX1_arm_2 : decode cX1_arm 2 = .ok (.putfield 41, 3) := by decide +kernel
theorem dX1_arm_5 : decode cX1_arm 5 = .ok (.aload_n 0, 1) := by decide +kernel
theorem dX1_arm_6 : decode cX1_arm 6 = .ok (.iload_n 2, 1) := by decide +kernel
theorem dX1_arm_7 : decode cX1_arm 7 = .ok (.putfield 44, 3) := by decide +kernel
theorem dX1_arm_10 : decode cX1_arm 10 = .ok (.return_, 1) := by decide +kernel
theorem dX1_hasSector_0 : decode cX1_hasSector 0 = .ok (.iload_n 1, 1) := by decide +kernel
theorem dX1_hasSector_1 : decode cX1_hasSector 1 = .ok (.ifCond .lt 15, 3) := by decide +kernel
theorem dX1_hasSector_4 : decode cX1_hasSector 4 = .ok (.iload_n 1, 1) := by decide +kernel
theorem dX1_hasSector_5 : decode cX1_hasSector 5 = .ok (.aload_n 0, 1) := by decide +kernel
theorem dX1_hasSector_6 : decode cX1_hasSector 6 = .ok (.getfield 18, 3) := by decide +kernel
theorem dX1_hasSector_9 : decode cX1_hasSector 9 = .ok (.if_icmp .ge 7, 3) := by decide +kernel
theorem dX1_hasSector_12 : decode cX1_hasSector 12 = .ok (.iconst 1, 1) := by decide +kernel
theorem dX1_hasSector_13 : decode cX1_hasSector 13 = .ok (.goto 4, 3) := by decide +kernel
theorem dX1_hasSector_16 : decode cX1_hasSector 16 = .ok (.iconst 0, 1) := by decide +kernel
theorem dX1_hasSector_17 : decode cX1_hasSector 17 = .ok (.ireturn, 1) := by decide +kernel
theorem dX1_holds_0 : decode cX1_holds 0 = .ok (.iload_n 1, 1) := by decide +kernel
theorem dX1_holds_1 : decode cX1_holds 1 = .ok (.ifCond .lt 27, 3) := by decide +kernel
theorem dX1_holds_4 : decode cX1_holds 4 = .ok (.iload_n 1, 1) := by decide +kernel
theorem dX1_holds_5 : decode cX1_holds 5 = .ok (.aload_n 0, 1) := by decide +kernel
theorem dX1_holds_6 : decode cX1_holds 6 = .ok (.getfield 18, 3) := by decide +kernel
theorem dX1_holds_9 : decode cX1_holds 9 = .ok (.if_icmp .ge 19, 3) := by decide +kernel
theorem dX1_holds_12 : decode cX1_holds 12 = .ok (.iload_n 2, 1) := by decide +kernel
theorem dX1_holds_13 : decode cX1_holds 13 = .ok (.ifCond .lt 15, 3) := by decide +kernel
theorem dX1_holds_16 : decode cX1_holds 16 = .ok (.iload_n 2, 1) := by decide +kernel
theorem dX1_holds_17 : decode cX1_holds 17 = .ok (.aload_n 0, 1) := by decide +kernel
theorem dX1_holds_18 : decode cX1_holds 18 = .ok (.getfield 22, 3) := by decide +kernel
theorem dX1_holds_21 : decode cX1_holds 21 = .ok (.if_icmp .ge 7, 3) := by decide +kernel
theorem dX1_holds_24 : decode cX1_holds 24 = .ok (.iconst 1, 1) := by decide +kernel
theorem dX1_holds_25 : decode cX1_holds 25 = .ok (.goto 4, 3) := by decide +kernel
theorem dX1_holds_28 : decode cX1_holds 28 = .ok (.iconst 0, 1) := by decide +kernel
theorem dX1_holds_29 : decode cX1_holds 29 = .ok (.ireturn, 1) := by decide +kernel
theorem dX1_peek_0 : decode cX1_peek 0 = .ok (.aload_n 0, 1) := by decide +kernel
theorem dX1_peek_1 : decode cX1_peek 1 = .ok (.iload_n 1, 1) := by decide +kernel
theorem dX1_peek_2 : decode cX1_peek 2 = .ok (.iload_n 2, 1) := by decide +kernel
theorem dX1_peek_3 : decode cX1_peek 3 = .ok (.invokevirtual 56, 3) := by decide +kernel
theorem dX1_peek_6 : decode cX1_peek 6 = .ok (.ifCond .eq 19, 3) := by decide +kernel
theorem dX1_peek_9 : decode cX1_peek 9 = .ok (.aload_n 0, 1) := by decide +kernel
theorem dX1_peek_10 : decode cX1_peek 10 = .ok (.getfield 9, 3) := by decide +kernel
theorem dX1_peek_13 : decode cX1_peek 13 = .ok (.iload_n 1, 1) := by decide +kernel
theorem dX1_peek_14 : decode cX1_peek 14 = .ok (.aload_n 0, 1) := by decide +kernel
theorem dX1_peek_15 : decode cX1_peek 15 = .ok (.getfield 22, 3) := by decide +kernel
theorem dX1_peek_18 : decode cX1_peek 18 = .ok (.imul, 1) := by decide +kernel
theorem dX1_peek_19 : decode cX1_peek 19 = .ok (.iload_n 2, 1) := by decide +kernel
theorem dX1_peek_20 : decode cX1_peek 20 = .ok (.iadd, 1) := by decide +kernel
theorem dX1_peek_21 : decode cX1_peek 21 = .ok (.iaload, 1) := by decide +kernel
theorem dX1_peek_22 : decode cX1_peek 22 = .ok (.goto 6, 3) := by decide +kernel
theorem dX1_peek_25 : decode cX1_peek 25 = .ok (.sipush 255, 3) := by decide +kernel
theorem dX1_peek_28 : decode cX1_peek 28 = .ok (.ireturn, 1) := by decide +kernel
theorem dX1_decay_0 : decode cX1_decay 0 = .ok (.aload_n 0, 1) := by decide +kernel
theorem dX1_decay_1 : decode cX1_decay 1 = .ok (.iload_n 1, 1) := by decide +kernel
theorem dX1_decay_2 : decode cX1_decay 2 = .ok (.iload_n 2, 1) := by decide +kernel
theorem dX1_decay_3 : decode cX1_decay 3 = .ok (.invokevirtual 56, 3) := by decide +kernel
theorem dX1_decay_6 : decode cX1_decay 6 = .ok (.ifCond .ne 5, 3) := by decide +kernel
theorem dX1_decay_9 : decode cX1_decay 9 = .ok (.iconst (-1), 1) := by decide +kernel
theorem dX1_decay_10 : decode cX1_decay 10 = .ok (.ireturn, 1) := by decide +kernel
theorem dX1_decay_11 : decode cX1_decay 11 = .ok (.aload_n 0, 1) := by decide +kernel
theorem dX1_decay_12 : decode cX1_decay 12 = .ok (.getfield 9, 3) := by decide +kernel
theorem dX1_decay_15 : decode cX1_decay 15 = .ok (.iload_n 1, 1) := by decide +kernel
theorem dX1_decay_16 : decode cX1_decay 16 = .ok (.aload_n 0, 1) := by decide +kernel
theorem dX1_decay_17 : decode cX1_decay 17 = .ok (.getfield 22, 3) := by decide +kernel
theorem dX1_decay_20 : decode cX1_decay 20 = .ok (.imul, 1) := by decide +kernel
theorem dX1_decay_21 : decode cX1_decay 21 = .ok (.iload_n 2, 1) := by decide +kernel
theorem dX1_decay_22 : decode cX1_decay 22 = .ok (.iadd, 1) := by decide +kernel
theorem dX1_decay_23 : decode cX1_decay 23 = .ok (.dup2, 1) := by decide +kernel
theorem dX1_decay_24 : decode cX1_decay 24 = .ok (.iaload, 1) := by decide +kernel
theorem dX1_decay_25 : decode cX1_decay 25 = .ok (.iload_n 3, 1) := by decide +kernel
theorem dX1_decay_26 : decode cX1_decay 26 = .ok (.iand, 1) := by decide +kernel
theorem dX1_decay_27 : decode cX1_decay 27 = .ok (.iastore, 1) := by decide +kernel
theorem dX1_decay_28 : decode cX1_decay 28 = .ok (.aload_n 0, 1) := by decide +kernel
theorem dX1_decay_29 : decode cX1_decay 29 = .ok (.getfield 9, 3) := by decide +kernel
theorem dX1_decay_32 : decode cX1_decay 32 = .ok (.iload_n 1, 1) := by decide +kernel
theorem dX1_decay_33 : decode cX1_decay 33 = .ok (.aload_n 0, 1) := by decide +kernel
theorem dX1_decay_34 : decode cX1_decay 34 = .ok (.getfield 22, 3) := by decide +kernel
theorem dX1_decay_37 : decode cX1_decay 37 = .ok (.imul, 1) := by decide +kernel
theorem dX1_decay_38 : decode cX1_decay 38 = .ok (.iload_n 2, 1) := by decide +kernel
theorem dX1_decay_39 : decode cX1_decay 39 = .ok (.iadd, 1) := by decide +kernel
theorem dX1_decay_40 : decode cX1_decay 40 = .ok (.iaload, 1) := by decide +kernel
theorem dX1_decay_41 : decode cX1_decay 41 = .ok (.ireturn, 1) := by decide +kernel
theorem dX1_write_0 : decode cX1_write 0 = .ok (.aload_n 0, 1) := by decide +kernel
theorem dX1_write_1 : decode cX1_write 1 = .ok (.getfield 37, 3) := by decide +kernel
theorem dX1_write_4 : decode cX1_write 4 = .ok (.ifCond .eq 12, 3) := by decide +kernel
theorem dX1_write_7 : decode cX1_write 7 = .ok (.aload_n 0, 1) := by decide +kernel
theorem dX1_write_8 : decode cX1_write 8 = .ok (.iload_n 1, 1) := by decide +kernel
theorem dX1_write_9 : decode cX1_write 9 = .ok (.iload_n 2, 1) := by decide +kernel
theorem dX1_write_10 : decode cX1_write 10 = .ok (.invokevirtual 56, 3) := by decide +kernel
theorem dX1_write_13 : decode cX1_write 13 = .ok (.ifCond .ne 4, 3) := by decide +kernel
theorem dX1_write_16 : decode cX1_write 16 = .ok (.return_, 1) := by decide +kernel
theorem dX1_write_17 : decode cX1_write 17 = .ok (.aload_n 0, 1) := by decide +kernel
theorem dX1_write_18 : decode cX1_write 18 = .ok (.invokevirtual 60, 3) := by decide +kernel
theorem dX1_write_21 : decode cX1_write 21 = .ok (.ifCond .eq 9, 3) := by decide +kernel
theorem dX1_write_24 : decode cX1_write 24 = .ok (.sipush 255, 3) := by decide +kernel
theorem dX1_write_27 : decode cX1_write 27 = .ok (.goto 7, 3) := by decide +kernel
theorem dX1_write_30 : decode cX1_write 30 = .ok (.aload_n 0, 1) := by decide +kernel
theorem dX1_write_31 : decode cX1_write 31 = .ok (.getfield 44, 3) := by decide +kernel
theorem dX1_write_34 : decode cX1_write 34 = .ok (.istore 4, 2) := by decide +kernel
theorem dX1_write_36 : decode cX1_write 36 = .ok (.aload_n 0, 1) := by decide +kernel
theorem dX1_write_37 : decode cX1_write 37 = .ok (.getfield 9, 3) := by decide +kernel
theorem dX1_write_40 : decode cX1_write 40 = .ok (.iload_n 1, 1) := by decide +kernel
theorem dX1_write_41 : decode cX1_write 41 = .ok (.aload_n 0, 1) := by decide +kernel
theorem dX1_write_42 : decode cX1_write 42 = .ok (.getfield 22, 3) := by decide +kernel
theorem dX1_write_45 : decode cX1_write 45 = .ok (.imul, 1) := by decide +kernel
theorem dX1_write_46 : decode cX1_write 46 = .ok (.iload_n 2, 1) := by decide +kernel
theorem dX1_write_47 : decode cX1_write 47 = .ok (.iadd, 1) := by decide +kernel
theorem dX1_write_48 : decode cX1_write 48 = .ok (.dup2, 1) := by decide +kernel
theorem dX1_write_49 : decode cX1_write 49 = .ok (.iaload, 1) := by decide +kernel
theorem dX1_write_50 : decode cX1_write 50 = .ok (.iload_n 3, 1) := by decide +kernel
theorem dX1_write_51 : decode cX1_write 51 = .ok (.sipush 255, 3) := by decide +kernel
theorem dX1_write_54 : decode cX1_write 54 = .ok (.iload 4, 2) := by decide +kernel
theorem dX1_write_56 : decode cX1_write 56 = .ok (.ixor, 1) := by decide +kernel
theorem dX1_write_57 : decode cX1_write 57 = .ok (.ior, 1) := by decide +kernel
theorem dX1_write_58 : decode cX1_write 58 = .ok (.iand, 1) := by decide +kernel
theorem dX1_write_59 : decode cX1_write 59 = .ok (.iastore, 1) := by decide +kernel
theorem dX1_write_60 : decode cX1_write 60 = .ok (.aload_n 0, 1) := by decide +kernel
theorem dX1_write_61 : decode cX1_write 61 = .ok (.dup, 1) := by decide +kernel
theorem dX1_write_62 : decode cX1_write 62 = .ok (.getfield 31, 3) := by decide +kernel
theorem dX1_write_65 : decode cX1_write 65 = .ok (.iconst 1, 1) := by decide +kernel
theorem dX1_write_66 : decode cX1_write 66 = .ok (.iadd, 1) := by decide +kernel
theorem dX1_write_67 : decode cX1_write 67 = .ok (.putfield 31, 3) := by decide +kernel
theorem dX1_write_70 : decode cX1_write 70 = .ok (.return_, 1) := by decide +kernel
theorem dX1_erase_0 : decode cX1_erase 0 = .ok (.aload_n 0, 1) := by decide +kernel
theorem dX1_erase_1 : decode cX1_erase 1 = .ok (.getfield 37, 3) := by decide +kernel
theorem dX1_erase_4 : decode cX1_erase 4 = .ok (.ifCond .eq 11, 3) := by decide +kernel
theorem dX1_erase_7 : decode cX1_erase 7 = .ok (.aload_n 0, 1) := by decide +kernel
theorem dX1_erase_8 : decode cX1_erase 8 = .ok (.iload_n 1, 1) := by decide +kernel
theorem dX1_erase_9 : decode cX1_erase 9 = .ok (.invokevirtual 64, 3) := by decide +kernel
theorem dX1_erase_12 : decode cX1_erase 12 = .ok (.ifCond .ne 4, 3) := by decide +kernel
theorem dX1_erase_15 : decode cX1_erase 15 = .ok (.return_, 1) := by decide +kernel
theorem dX1_erase_16 : decode cX1_erase 16 = .ok (.aload_n 0, 1) := by decide +kernel
theorem dX1_erase_17 : decode cX1_erase 17 = .ok (.invokevirtual 60, 3) := by decide +kernel
theorem dX1_erase_20 : decode cX1_erase 20 = .ok (.ifCond .eq 10, 3) := by decide +kernel
theorem dX1_erase_23 : decode cX1_erase 23 = .ok (.aload_n 0, 1) := by decide +kernel
theorem dX1_erase_24 : decode cX1_erase 24 = .ok (.getfield 22, 3) := by decide +kernel
theorem dX1_erase_27 : decode cX1_erase 27 = .ok (.goto 9, 3) := by decide +kernel
theorem dX1_erase_30 : decode cX1_erase 30 = .ok (.aload_n 0, 1) := by decide +kernel
theorem dX1_erase_31 : decode cX1_erase 31 = .ok (.getfield 22, 3) := by decide +kernel
theorem dX1_erase_34 : decode cX1_erase 34 = .ok (.iconst 2, 1) := by decide +kernel
theorem dX1_erase_35 : decode cX1_erase 35 = .ok (.idiv, 1) := by decide +kernel
theorem dX1_erase_36 : decode cX1_erase 36 = .ok (.istore_n 2, 1) := by decide +kernel
theorem dX1_erase_37 : decode cX1_erase 37 = .ok (.iconst 0, 1) := by decide +kernel
theorem dX1_erase_38 : decode cX1_erase 38 = .ok (.istore_n 3, 1) := by decide +kernel
theorem dX1_erase_39 : decode cX1_erase 39 = .ok (.iload_n 3, 1) := by decide +kernel
theorem dX1_erase_40 : decode cX1_erase 40 = .ok (.iload_n 2, 1) := by decide +kernel
theorem dX1_erase_41 : decode cX1_erase 41 = .ok (.if_icmp .ge 25, 3) := by decide +kernel
theorem dX1_erase_44 : decode cX1_erase 44 = .ok (.aload_n 0, 1) := by decide +kernel
theorem dX1_erase_45 : decode cX1_erase 45 = .ok (.getfield 9, 3) := by decide +kernel
theorem dX1_erase_48 : decode cX1_erase 48 = .ok (.iload_n 1, 1) := by decide +kernel
theorem dX1_erase_49 : decode cX1_erase 49 = .ok (.aload_n 0, 1) := by decide +kernel
theorem dX1_erase_50 : decode cX1_erase 50 = .ok (.getfield 22, 3) := by decide +kernel
theorem dX1_erase_53 : decode cX1_erase 53 = .ok (.imul, 1) := by decide +kernel
theorem dX1_erase_54 : decode cX1_erase 54 = .ok (.iload_n 3, 1) := by decide +kernel
theorem dX1_erase_55 : decode cX1_erase 55 = .ok (.iadd, 1) := by decide +kernel
theorem dX1_erase_56 : decode cX1_erase 56 = .ok (.sipush 255, 3) := by decide +kernel
theorem dX1_erase_59 : decode cX1_erase 59 = .ok (.iastore, 1) := by decide +kernel
theorem dX1_erase_60 : decode cX1_erase 60 = .ok (.iinc 3 1, 3) := by decide +kernel
theorem dX1_erase_63 : decode cX1_erase 63 = .ok (.goto (-24), 3) := by decide +kernel
theorem dX1_erase_66 : decode cX1_erase 66 = .ok (.aload_n 0, 1) := by decide +kernel
theorem dX1_erase_67 : decode cX1_erase 67 = .ok (.getfield 15, 3) := by decide +kernel
theorem dX1_erase_70 : decode cX1_erase 70 = .ok (.iload_n 1, 1) := by decide +kernel
theorem dX1_erase_71 : decode cX1_erase 71 = .ok (.dup2, 1) := by decide +kernel
theorem dX1_erase_72 : decode cX1_erase 72 = .ok (.iaload, 1) := by decide +kernel
theorem dX1_erase_73 : decode cX1_erase 73 = .ok (.iconst 1, 1) := by decide +kernel
theorem dX1_erase_74 : decode cX1_erase 74 = .ok (.iadd, 1) := by decide +kernel
theorem dX1_erase_75 : decode cX1_erase 75 = .ok (.iastore, 1) := by decide +kernel
theorem dX1_erase_76 : decode cX1_erase 76 = .ok (.return_, 1) := by decide +kernel
theorem dX1_endures_0 : decode cX1_endures 0 = .ok (.aload_n 0, 1) := by decide +kernel
theorem dX1_endures_1 : decode cX1_endures 1 = .ok (.dup, 1) := by decide +kernel
theorem dX1_endures_2 : decode cX1_endures 2 = .ok (.getfield 34, 3) := by decide +kernel
theorem dX1_endures_5 : decode cX1_endures 5 = .ok (.iconst 1, 1) := by decide +kernel
theorem dX1_endures_6 : decode cX1_endures 6 = .ok (.iadd, 1) := by decide +kernel
theorem dX1_endures_7 : decode cX1_endures 7 = .ok (.putfield 34, 3) := by decide +kernel
theorem dX1_endures_10 : decode cX1_endures 10 = .ok (.aload_n 0, 1) := by decide +kernel
theorem dX1_endures_11 : decode cX1_endures 11 = .ok (.getfield 41, 3) := by decide +kernel
theorem dX1_endures_14 : decode cX1_endures 14 = .ok (.ifCond .ne 5, 3) := by decide +kernel
theorem dX1_endures_17 : decode cX1_endures 17 = .ok (.iconst 1, 1) := by decide +kernel
theorem dX1_endures_18 : decode cX1_endures 18 = .ok (.ireturn, 1) := by decide +kernel
theorem dX1_endures_19 : decode cX1_endures 19 = .ok (.aload_n 0, 1) := by decide +kernel
theorem dX1_endures_20 : decode cX1_endures 20 = .ok (.dup, 1) := by decide +kernel
theorem dX1_endures_21 : decode cX1_endures 21 = .ok (.getfield 41, 3) := by decide +kernel
theorem dX1_endures_24 : decode cX1_endures 24 = .ok (.iconst 1, 1) := by decide +kernel
theorem dX1_endures_25 : decode cX1_endures 25 = .ok (.isub, 1) := by decide +kernel
theorem dX1_endures_26 : decode cX1_endures 26 = .ok (.putfield 41, 3) := by decide +kernel
theorem dX1_endures_29 : decode cX1_endures 29 = .ok (.aload_n 0, 1) := by decide +kernel
theorem dX1_endures_30 : decode cX1_endures 30 = .ok (.getfield 41, 3) := by decide +kernel
theorem dX1_endures_33 : decode cX1_endures 33 = .ok (.ifCond .le 5, 3) := by decide +kernel
theorem dX1_endures_36 : decode cX1_endures 36 = .ok (.iconst 1, 1) := by decide +kernel
theorem dX1_endures_37 : decode cX1_endures 37 = .ok (.ireturn, 1) := by decide +kernel
theorem dX1_endures_38 : decode cX1_endures 38 = .ok (.aload_n 0, 1) := by decide +kernel
theorem dX1_endures_39 : decode cX1_endures 39 = .ok (.iconst 0, 1) := by decide +kernel
theorem dX1_endures_40 : decode cX1_endures 40 = .ok (.putfield 37, 3) := by decide +kernel
theorem dX1_endures_43 : decode cX1_endures 43 = .ok (.aload_n 0, 1) := by decide +kernel
theorem dX1_endures_44 : decode cX1_endures 44 = .ok (.dup, 1) := by decide +kernel
theorem dX1_endures_45 : decode cX1_endures 45 = .ok (.getfield 47, 3) := by decide +kernel
theorem dX1_endures_48 : decode cX1_endures 48 = .ok (.iconst 1, 1) := by decide +kernel
theorem dX1_endures_49 : decode cX1_endures 49 = .ok (.iadd, 1) := by decide +kernel
theorem dX1_endures_50 : decode cX1_endures 50 = .ok (.putfield 47, 3) := by decide +kernel
theorem dX1_endures_53 : decode cX1_endures 53 = .ok (.iconst 0, 1) := by decide +kernel
theorem dX1_endures_54 : decode cX1_endures 54 = .ok (.ireturn, 1) := by decide +kernel
theorem dX1_makeReady_0 : decode cX1_makeReady 0 = .ok (.iload_n 2, 1) := by decide +kernel
theorem dX1_makeReady_1 : decode cX1_makeReady 1 = .ok (.sipush 256, 3) := by decide +kernel
theorem dX1_makeReady_4 : decode cX1_makeReady 4 = .ok (.idiv, 1) := by decide +kernel
theorem dX1_makeReady_5 : decode cX1_makeReady 5 = .ok (.istore_n 3, 1) := by decide +kernel
theorem dX1_makeReady_6 : decode cX1_makeReady 6 = .ok (.iload_n 2, 1) := by decide +kernel
theorem dX1_makeReady_7 : decode cX1_makeReady 7 = .ok (.sipush 256, 3) := by decide +kernel
theorem dX1_makeReady_10 : decode cX1_makeReady 10 = .ok (.irem, 1) := by decide +kernel
theorem dX1_makeReady_11 : decode cX1_makeReady 11 = .ok (.istore 4, 2) := by decide +kernel
theorem dX1_makeReady_13 : decode cX1_makeReady 13 = .ok (.aload_n 0, 1) := by decide +kernel
theorem dX1_makeReady_14 : decode cX1_makeReady 14 = .ok (.iload_n 1, 1) := by decide +kernel
theorem dX1_makeReady_15 : decode cX1_makeReady 15 = .ok (.iconst 1, 1) := by decide +kernel
theorem dX1_makeReady_16 : decode cX1_makeReady 16 = .ok (.iload_n 3, 1) := by decide +kernel
theorem dX1_makeReady_17 : decode cX1_makeReady 17 = .ok (.invokevirtual 68, 3) := by decide +kernel
theorem dX1_makeReady_20 : decode cX1_makeReady 20 = .ok (.aload_n 0, 1) := by decide +kernel
theorem dX1_makeReady_21 : decode cX1_makeReady 21 = .ok (.iload_n 1, 1) := by decide +kernel
theorem dX1_makeReady_22 : decode cX1_makeReady 22 = .ok (.iconst 2, 1) := by decide +kernel
theorem dX1_makeReady_23 : decode cX1_makeReady 23 = .ok (.iload 4, 2) := by decide +kernel
theorem dX1_makeReady_25 : decode cX1_makeReady 25 = .ok (.invokevirtual 68, 3) := by decide +kernel
theorem dX1_makeReady_28 : decode cX1_makeReady 28 = .ok (.aload_n 0, 1) := by decide +kernel
theorem dX1_makeReady_29 : decode cX1_makeReady 29 = .ok (.iload_n 1, 1) := by decide +kernel
theorem dX1_makeReady_30 : decode cX1_makeReady 30 = .ok (.iconst 3, 1) := by decide +kernel
theorem dX1_makeReady_31 : decode cX1_makeReady 31 = .ok (.iload_n 3, 1) := by decide +kernel
theorem dX1_makeReady_32 : decode cX1_makeReady 32 = .ok (.iload 4, 2) := by decide +kernel
theorem dX1_makeReady_34 : decode cX1_makeReady 34 = .ok (.iadd, 1) := by decide +kernel
theorem dX1_makeReady_35 : decode cX1_makeReady 35 = .ok (.invokestatic 72, 3) := by decide +kernel
theorem dX1_makeReady_38 : decode cX1_makeReady 38 = .ok (.invokevirtual 68, 3) := by decide +kernel
theorem dX1_makeReady_41 : decode cX1_makeReady 41 = .ok (.aload_n 0, 1) := by decide +kernel
theorem dX1_makeReady_42 : decode cX1_makeReady 42 = .ok (.iload_n 1, 1) := by decide +kernel
theorem dX1_makeReady_43 : decode cX1_makeReady 43 = .ok (.iconst 0, 1) := by decide +kernel
theorem dX1_makeReady_44 : decode cX1_makeReady 44 = .ok (.bipush 127, 2) := by decide +kernel
theorem dX1_makeReady_46 : decode cX1_makeReady 46 = .ok (.invokevirtual 68, 3) := by decide +kernel
theorem dX1_makeReady_49 : decode cX1_makeReady 49 = .ok (.return_, 1) := by decide +kernel
theorem dX1_writeDraft_0 : decode cX1_writeDraft 0 = .ok (.iconst 0, 1) := by decide +kernel
theorem dX1_writeDraft_1 : decode cX1_writeDraft 1 = .ok (.istore 4, 2) := by decide +kernel
theorem dX1_writeDraft_3 : decode cX1_writeDraft 3 = .ok (.iload 4, 2) := by decide +kernel
theorem dX1_writeDraft_5 : decode cX1_writeDraft 5 = .ok (.aload_n 3, 1) := by decide +kernel
theorem dX1_writeDraft_6 : decode cX1_writeDraft 6 = .ok (.getfield 76, 3) := by decide +kernel
theorem dX1_writeDraft_9 : decode cX1_writeDraft 9 = .ok (.if_icmp .ge 35, 3) := by decide +kernel
theorem dX1_writeDraft_12 : decode cX1_writeDraft 12 = .ok (.iload 4, 2) := by decide +kernel
theorem dX1_writeDraft_14 : decode cX1_writeDraft 14 = .ok (.aload_n 3, 1) := by decide +kernel
theorem dX1_writeDraft_15 : decode cX1_writeDraft 15 = .ok (.getfield 81, 3) := by decide +kernel
theorem dX1_writeDraft_18 : decode cX1_writeDraft 18 = .ok (.arraylength, 1) := by decide +kernel
theorem dX1_writeDraft_19 : decode cX1_writeDraft 19 = .ok (.if_icmp .ge 25, 3) := by decide +kernel
theorem dX1_writeDraft_22 : decode cX1_writeDraft 22 = .ok (.aload_n 0, 1) := by decide +kernel
theorem dX1_writeDraft_23 : decode cX1_writeDraft 23 = .ok (.iload_n 1, 1) := by decide +kernel
theorem dX1_writeDraft_24 : decode cX1_writeDraft 24 = .ok (.iload_n 2, 1) := by decide +kernel
theorem dX1_writeDraft_25 : decode cX1_writeDraft 25 = .ok (.iload 4, 2) := by decide +kernel
theorem dX1_writeDraft_27 : decode cX1_writeDraft 27 = .ok (.iadd, 1) := by decide +kernel
theorem dX1_writeDraft_28 : decode cX1_writeDraft 28 = .ok (.aload_n 3, 1) := by decide +kernel
theorem dX1_writeDraft_29 : decode cX1_writeDraft 29 = .ok (.getfield 81, 3) := by decide +kernel
theorem dX1_writeDraft_32 : decode cX1_writeDraft 32 = .ok (.iload 4, 2) := by decide +kernel
theorem dX1_writeDraft_34 : decode cX1_writeDraft 34 = .ok (.iaload, 1) := by decide +kernel
theorem dX1_writeDraft_35 : decode cX1_writeDraft 35 = .ok (.invokevirtual 68, 3) := by decide +kernel
theorem dX1_writeDraft_38 : decode cX1_writeDraft 38 = .ok (.iinc 4 1, 3) := by decide +kernel
theorem dX1_writeDraft_41 : decode cX1_writeDraft 41 = .ok (.goto (-38), 3) := by decide +kernel
theorem dX1_writeDraft_44 : decode cX1_writeDraft 44 = .ok (.return_, 1) := by decide +kernel
theorem dX1_eraseAllBut_0 : decode cX1_eraseAllBut 0 = .ok (.iconst 0, 1) := by decide +kernel
theorem dX1_eraseAllBut_1 : decode cX1_eraseAllBut 1 = .ok (.istore_n 2, 1) := by decide +kernel
theorem dX1_eraseAllBut_2 : decode cX1_eraseAllBut 2 = .ok (.iload_n 2, 1) := by decide +kernel
theorem dX1_eraseAllBut_3 : decode cX1_eraseAllBut 3 = .ok (.aload_n 0, 1) := by decide +kernel
theorem dX1_eraseAllBut_4 : decode cX1_eraseAllBut 4 = .ok (.getfield 18, 3) := by decide +kernel
theorem dX1_eraseAllBut_7 : decode cX1_eraseAllBut 7 = .ok (.if_icmp .ge 27, 3) := by decide +kernel
theorem dX1_eraseAllBut_10 : decode cX1_eraseAllBut 10 = .ok (.iload_n 2, 1) := by decide +kernel
theorem dX1_eraseAllBut_11 : decode cX1_eraseAllBut 11 = .ok (.iload_n 1, 1) := by decide +kernel
theorem dX1_eraseAllBut_12 : decode cX1_eraseAllBut 12 = .ok (.if_icmp .eq 16, 3) := by decide +kernel
theorem dX1_eraseAllBut_15 : decode cX1_eraseAllBut 15 = .ok (.aload_n 0, 1) := by decide +kernel
theorem dX1_eraseAllBut_16 : decode cX1_eraseAllBut 16 = .ok (.iload_n 2, 1) := by decide +kernel
theorem dX1_eraseAllBut_17 : decode cX1_eraseAllBut 17 = .ok (.invokevirtual 84, 3) := by decide +kernel
theorem dX1_eraseAllBut_20 : decode cX1_eraseAllBut 20 = .ok (.ifCond .ne 8, 3) := by decide +kernel
theorem dX1_eraseAllBut_23 : decode cX1_eraseAllBut 23 = .ok (.aload_n 0, 1) := by decide +kernel
theorem dX1_eraseAllBut_24 : decode cX1_eraseAllBut 24 = .ok (.iload_n 2, 1) := by decide +kernel
theorem dX1_eraseAllBut_25 : decode cX1_eraseAllBut 25 = .ok (.invokevirtual 87, 3) := by decide +kernel
theorem dX1_eraseAllBut_28 : decode cX1_eraseAllBut 28 = .ok (.iinc 2 1, 3) := by decide +kernel
theorem dX1_eraseAllBut_31 : decode cX1_eraseAllBut 31 = .ok (.goto (-29), 3) := by decide +kernel
theorem dX1_eraseAllBut_34 : decode cX1_eraseAllBut 34 = .ok (.return_, 1) := by decide +kernel
theorem dX1_isBlank_0 : decode cX1_isBlank 0 = .ok (.aload_n 0, 1) := by decide +kernel
theorem dX1_isBlank_1 : decode cX1_isBlank 1 = .ok (.iload_n 1, 1) := by decide +kernel
theorem dX1_isBlank_2 : decode cX1_isBlank 2 = .ok (.invokevirtual 91, 3) := by decide +kernel
theorem dX1_isBlank_5 : decode cX1_isBlank 5 = .ok (.ifCond .ne 7, 3) := by decide +kernel
theorem dX1_isBlank_8 : decode cX1_isBlank 8 = .ok (.iconst 1, 1) := by decide +kernel
theorem dX1_isBlank_9 : decode cX1_isBlank 9 = .ok (.goto 4, 3) := by decide +kernel
theorem dX1_isBlank_12 : decode cX1_isBlank 12 = .ok (.iconst 0, 1) := by decide +kernel
theorem dX1_isBlank_13 : decode cX1_isBlank 13 = .ok (.ireturn, 1) := by decide +kernel
theorem dX1_usedEnd_0 : decode cX1_usedEnd 0 = .ok (.aload_n 0, 1) := by decide +kernel
theorem dX1_usedEnd_1 : decode cX1_usedEnd 1 = .ok (.iload_n 1, 1) := by decide +kernel
theorem dX1_usedEnd_2 : decode cX1_usedEnd 2 = .ok (.invokevirtual 64, 3) := by decide +kernel
theorem dX1_usedEnd_5 : decode cX1_usedEnd 5 = .ok (.ifCond .ne 5, 3) := by decide +kernel
theorem dX1_usedEnd_8 : decode cX1_usedEnd 8 = .ok (.iconst 0, 1) := by decide +kernel
theorem dX1_usedEnd_9 : decode cX1_usedEnd 9 = .ok (.ireturn, 1) := by decide +kernel
theorem dX1_usedEnd_10 : decode cX1_usedEnd 10 = .ok (.aload_n 0, 1) := by decide +kernel
theorem dX1_usedEnd_11 : decode cX1_usedEnd 11 = .ok (.getfield 22, 3) := by decide +kernel
theorem dX1_usedEnd_14 : decode cX1_usedEnd 14 = .ok (.istore_n 2, 1) := by decide +kernel
theorem dX1_usedEnd_15 : decode cX1_usedEnd 15 = .ok (.iload_n 2, 1) := by decide +kernel
theorem dX1_usedEnd_16 : decode cX1_usedEnd 16 = .ok (.ifCond .le 30, 3) := by decide +kernel
theorem dX1_usedEnd_19 : decode cX1_usedEnd 19 = .ok (.aload_n 0, 1) := by decide +kernel
theorem dX1_usedEnd_20 : decode cX1_usedEnd 20 = .ok (.getfield 9, 3) := by decide +kernel
theorem dX1_usedEnd_23 : decode cX1_usedEnd 23 = .ok (.iload_n 1, 1) := by decide +kernel
theorem dX1_usedEnd_24 : decode cX1_usedEnd 24 = .ok (.aload_n 0, 1) := by decide +kernel
theorem dX1_usedEnd_25 : decode cX1_usedEnd 25 = .ok (.getfield 22, 3) := by decide +kernel
theorem dX1_usedEnd_28 : decode cX1_usedEnd 28 = .ok (.imul, 1) := by decide +kernel
theorem dX1_usedEnd_29 : decode cX1_usedEnd 29 = .ok (.iload_n 2, 1) := by decide +kernel
theorem dX1_usedEnd_30 : decode cX1_usedEnd 30 = .ok (.iadd, 1) := by decide +kernel
theorem dX1_usedEnd_31 : decode cX1_usedEnd 31 = .ok (.iconst 1, 1) := by decide +kernel
theorem dX1_usedEnd_32 : decode cX1_usedEnd 32 = .ok (.isub, 1) := by decide +kernel
theorem dX1_usedEnd_33 : decode cX1_usedEnd 33 = .ok (.iaload, 1) := by decide +kernel
theorem dX1_usedEnd_34 : decode cX1_usedEnd 34 = .ok (.sipush 255, 3) := by decide +kernel
theorem dX1_usedEnd_37 : decode cX1_usedEnd 37 = .ok (.if_icmp .ne 9, 3) := by decide +kernel
theorem dX1_usedEnd_40 : decode cX1_usedEnd 40 = .ok (.iinc 2 (-1), 3) := by decide +kernel
theorem dX1_usedEnd_43 : decode cX1_usedEnd 43 = .ok (.goto (-28), 3) := by decide +kernel
theorem dX1_usedEnd_46 : decode cX1_usedEnd 46 = .ok (.iload_n 2, 1) := by decide +kernel
theorem dX1_usedEnd_47 : decode cX1_usedEnd 47 = .ok (.ireturn, 1) := by decide +kernel
theorem dX1_copySector_0 : decode cX1_copySector 0 = .ok (.aload_n 0, 1) := by decide +kernel
theorem dX1_copySector_1 : decode cX1_copySector 1 = .ok (.iload_n 1, 1) := by decide +kernel
theorem dX1_copySector_2 : decode cX1_copySector 2 = .ok (.invokevirtual 64, 3) := by decide +kernel
theorem dX1_copySector_5 : decode cX1_copySector 5 = .ok (.ifCond .ne 4, 3) := by decide +kernel
theorem dX1_copySector_8 : decode cX1_copySector 8 = .ok (.return_, 1) := by decide +kernel
theorem dX1_copySector_9 : decode cX1_copySector 9 = .ok (.iconst 0, 1) := by decide +kernel
theorem dX1_copySector_10 : decode cX1_copySector 10 = .ok (.istore_n 3, 1) := by decide +kernel
theorem dX1_copySector_11 : decode cX1_copySector 11 = .ok (.iload_n 3, 1) := by decide +kernel
theorem dX1_copySector_12 : decode cX1_copySector 12 = .ok (.aload_n 0, 1) := by decide +kernel
theorem dX1_copySector_13 : decode cX1_copySector 13 = .ok (.getfield 22, 3) := by decide +kernel
theorem dX1_copySector_16 : decode cX1_copySector 16 = .ok (.if_icmp .ge 31, 3) := by decide +kernel
theorem dX1_copySector_19 : decode cX1_copySector 19 = .ok (.iload_n 3, 1) := by decide +kernel
theorem dX1_copySector_20 : decode cX1_copySector 20 = .ok (.aload_n 2, 1) := by decide +kernel
theorem dX1_copySector_21 : decode cX1_copySector 21 = .ok (.arraylength, 1) := by decide +kernel
theorem dX1_copySector_22 : decode cX1_copySector 22 = .ok (.if_icmp .ge 25, 3) := by decide +kernel
theorem dX1_copySector_25 : decode cX1_copySector 25 = .ok (.aload_n 2, 1) := by decide +kernel
theorem dX1_copySector_26 : decode cX1_copySector 26 = .ok (.iload_n 3, 1) := by decide +kernel
theorem dX1_copySector_27 : decode cX1_copySector 27 = .ok (.aload_n 0, 1) := by decide +kernel
theorem dX1_copySector_28 : decode cX1_copySector 28 = .ok (.getfield 9, 3) := by decide +kernel
theorem dX1_copySector_31 : decode cX1_copySector 31 = .ok (.iload_n 1, 1) := by decide +kernel
theorem dX1_copySector_32 : decode cX1_copySector 32 = .ok (.aload_n 0, 1) := by decide +kernel
theorem dX1_copySector_33 : decode cX1_copySector 33 = .ok (.getfield 22, 3) := by decide +kernel
theorem dX1_copySector_36 : decode cX1_copySector 36 = .ok (.imul, 1) := by decide +kernel
theorem dX1_copySector_37 : decode cX1_copySector 37 = .ok (.iload_n 3, 1) := by decide +kernel
theorem dX1_copySector_38 : decode cX1_copySector 38 = .ok (.iadd, 1) := by decide +kernel
theorem dX1_copySector_39 : decode cX1_copySector 39 = .ok (.iaload, 1) := by decide +kernel
theorem dX1_copySector_40 : decode cX1_copySector 40 = .ok (.iastore, 1) := by decide +kernel
theorem dX1_copySector_41 : decode cX1_copySector 41 = .ok (.iinc 3 1, 3) := by decide +kernel
theorem dX1_copySector_44 : decode cX1_copySector 44 = .ok (.goto (-33), 3) := by decide +kernel
theorem dX1_copySector_47 : decode cX1_copySector 47 = .ok (.return_, 1) := by decide +kernel
theorem dX1_numberOf_0 : decode cX1_numberOf 0 = .ok (.aload_n 0, 1) := by decide +kernel
theorem dX1_numberOf_1 : decode cX1_numberOf 1 = .ok (.iload_n 1, 1) := by decide +kernel
theorem dX1_numberOf_2 : decode cX1_numberOf 2 = .ok (.iconst 1, 1) := by decide +kernel
theorem dX1_numberOf_3 : decode cX1_numberOf 3 = .ok (.invokevirtual 94, 3) := by decide +kernel
theorem dX1_numberOf_6 : decode cX1_numberOf 6 = .ok (.sipush 256, 3) := by decide +kernel
theorem dX1_numberOf_9 : decode cX1_numberOf 9 = .ok (.imul, 1) := by decide +kernel
theorem dX1_numberOf_10 : decode cX1_numberOf 10 = .ok (.aload_n 0, 1) := by decide +kernel
theorem dX1_numberOf_11 : decode cX1_numberOf 11 = .ok (.iload_n 1, 1) := by decide +kernel
theorem dX1_numberOf_12 : decode cX1_numberOf 12 = .ok (.iconst 2, 1) := by decide +kernel
theorem dX1_numberOf_13 : decode cX1_numberOf 13 = .ok (.invokevirtual 94, 3) := by decide +kernel
theorem dX1_numberOf_16 : decode cX1_numberOf 16 = .ok (.iadd, 1) := by decide +kernel
theorem dX1_numberOf_17 : decode cX1_numberOf 17 = .ok (.ireturn, 1) := by decide +kernel
theorem dX1_isActive_0 : decode cX1_isActive 0 = .ok (.aload_n 0, 1) := by decide +kernel
theorem dX1_isActive_1 : decode cX1_isActive 1 = .ok (.iload_n 1, 1) := by decide +kernel
theorem dX1_isActive_2 : decode cX1_isActive 2 = .ok (.iconst 1, 1) := by decide +kernel
theorem dX1_isActive_3 : decode cX1_isActive 3 = .ok (.invokevirtual 94, 3) := by decide +kernel
theorem dX1_isActive_6 : decode cX1_isActive 6 = .ok (.aload_n 0, 1) := by decide +kernel
theorem dX1_isActive_7 : decode cX1_isActive 7 = .ok (.iload_n 1, 1) := by decide +kernel
theorem dX1_isActive_8 : decode cX1_isActive 8 = .ok (.iconst 2, 1) := by decide +kernel
theorem dX1_isActive_9 : decode cX1_isActive 9 = .ok (.invokevirtual 94, 3) := by decide +kernel
theorem dX1_isActive_12 : decode cX1_isActive 12 = .ok (.iadd, 1) := by decide +kernel
theorem dX1_isActive_13 : decode cX1_isActive 13 = .ok (.istore_n 2, 1) := by decide +kernel
theorem dX1_isActive_14 : decode cX1_isActive 14 = .ok (.aload_n 0, 1) := by decide +kernel
theorem dX1_isActive_15 : decode cX1_isActive 15 = .ok (.iload_n 1, 1) := by decide +kernel
theorem dX1_isActive_16 : decode cX1_isActive 16 = .ok (.iconst 0, 1) := by decide +kernel
theorem dX1_isActive_17 : decode cX1_isActive 17 = .ok (.invokevirtual 94, 3) := by decide +kernel
theorem dX1_isActive_20 : decode cX1_isActive 20 = .ok (.bipush 63, 2) := by decide +kernel
theorem dX1_isActive_22 : decode cX1_isActive 22 = .ok (.if_icmp .ne 20, 3) := by decide +kernel
theorem dX1_isActive_25 : decode cX1_isActive 25 = .ok (.aload_n 0, 1) := by decide +kernel
theorem dX1_isActive_26 : decode cX1_isActive 26 = .ok (.iload_n 1, 1) := by decide +kernel
theorem dX1_isActive_27 : decode cX1_isActive 27 = .ok (.iconst 3, 1) := by decide +kernel
theorem dX1_isActive_28 : decode cX1_isActive 28 = .ok (.invokevirtual 94, 3) := by decide +kernel
theorem dX1_isActive_31 : decode cX1_isActive 31 = .ok (.iload_n 2, 1) := by decide +kernel
theorem dX1_isActive_32 : decode cX1_isActive 32 = .ok (.invokestatic 72, 3) := by decide +kernel
theorem dX1_isActive_35 : decode cX1_isActive 35 = .ok (.if_icmp .ne 7, 3) := by decide +kernel
theorem dX1_isActive_38 : decode cX1_isActive 38 = .ok (.iconst 1, 1) := by decide +kernel
theorem dX1_isActive_39 : decode cX1_isActive 39 = .ok (.goto 4, 3) := by decide +kernel
theorem dX1_isActive_42 : decode cX1_isActive 42 = .ok (.iconst 0, 1) := by decide +kernel
theorem dX1_isActive_43 : decode cX1_isActive 43 = .ok (.ireturn, 1) := by decide +kernel
theorem dX1_greatestActive_0 : decode cX1_greatestActive 0 = .ok (.iconst (-1), 1) := by decide +kernel
theorem dX1_greatestActive_1 : decode cX1_greatestActive 1 = .ok (.istore_n 1, 1) := by decide +kernel
theorem dX1_greatestActive_2 : decode cX1_greatestActive 2 = .ok (.iconst 0, 1) := by decide +kernel
theorem dX1_greatestActive_3 : decode cX1_greatestActive 3 = .ok (.istore_n 2, 1) := by decide +kernel
theorem dX1_greatestActive_4 : decode cX1_greatestActive 4 = .ok (.iload_n 2, 1) := by decide +kernel
theorem dX1_greatestActive_5 : decode cX1_greatestActive 5 = .ok (.aload_n 0, 1) := by decide +kernel
theorem dX1_greatestActive_6 : decode cX1_greatestActive 6 = .ok (.getfield 18, 3) := by decide +kernel
theorem dX1_greatestActive_9 : decode cX1_greatestActive 9 = .ok (.if_icmp .ge 37, 3) := by decide +kernel
theorem dX1_greatestActive_12 : decode cX1_greatestActive 12 = .ok (.aload_n 0, 1) := by decide +kernel
theorem dX1_greatestActive_13 : decode cX1_greatestActive 13 = .ok (.iload_n 2, 1) := by decide +kernel
theorem dX1_greatestActive_14 : decode cX1_greatestActive 14 = .ok (.invokevirtual 98, 3) := by decide +kernel
theorem dX1_greatestActive_17 : decode cX1_greatestActive 17 = .ok (.ifCond .eq 23, 3) := by decide +kernel
theorem dX1_greatestActive_20 : decode cX1_greatestActive 20 = .ok (.iload_n 1, 1) := by decide +kernel
theorem dX1_greatestActive_21 : decode cX1_greatestActive 21 = .ok (.iconst (-1), 1) := by decide +kernel
theorem dX1_greatestActive_22 : decode cX1_greatestActive 22 = .ok (.if_icmp .eq 16, 3) := by decide +kernel
theorem dX1_greatestActive_25 : decode cX1_greatestActive 25 = .ok (.aload_n 0, 1) := by decide +kernel
theorem dX1_greatestActive_26 : decode cX1_greatestActive 26 = .ok (.iload_n 2, 1) := by decide +kernel
theorem dX1_greatestActive_27 : decode cX1_greatestActive 27 = .ok (.invokevirtual 101, 3) := by decide +kernel
theorem dX1_greatestActive_30 : decode cX1_greatestActive 30 = .ok (.aload_n 0, 1) := by decide +kernel
theorem dX1_greatestActive_31 : decode cX1_greatestActive 31 = .ok (.iload_n 1, 1) := by decide +kernel
theorem dX1_greatestActive_32 : decode cX1_greatestActive 32 = .ok (.invokevirtual 101, 3) := by decide +kernel
theorem dX1_greatestActive_35 : decode cX1_greatestActive 35 = .ok (.if_icmp .le 5, 3) := by decide +kernel
theorem dX1_greatestActive_38 : decode cX1_greatestActive 38 = .ok (.iload_n 2, 1) := by decide +kernel
theorem dX1_greatestActive_39 : decode cX1_greatestActive 39 = .ok (.istore_n 1, 1) := by decide +kernel
theorem dX1_greatestActive_40 : decode cX1_greatestActive 40 = .ok (.iinc 2 1, 3) := by decide +kernel
theorem dX1_greatestActive_43 : decode cX1_greatestActive 43 = .ok (.goto (-39), 3) := by decide +kernel
theorem dX1_greatestActive_46 : decode cX1_greatestActive 46 = .ok (.iload_n 1, 1) := by decide +kernel
theorem dX1_greatestActive_47 : decode cX1_greatestActive 47 = .ok (.ireturn, 1) := by decide +kernel
theorem dX1_leastErased_0 : decode cX1_leastErased 0 = .ok (.iconst (-1), 1) := by decide +kernel
theorem dX1_leastErased_1 : decode cX1_leastErased 1 = .ok (.istore_n 2, 1) := by decide +kernel
theorem dX1_leastErased_2 : decode cX1_leastErased 2 = .ok (.iconst 0, 1) := by decide +kernel
theorem dX1_leastErased_3 : decode cX1_leastErased 3 = .ok (.istore_n 3, 1) := by decide +kernel
theorem dX1_leastErased_4 : decode cX1_leastErased 4 = .ok (.iload_n 3, 1) := by decide +kernel
theorem dX1_leastErased_5 : decode cX1_leastErased 5 = .ok (.aload_n 0, 1) := by decide +kernel
theorem dX1_leastErased_6 : decode cX1_leastErased 6 = .ok (.getfield 18, 3) := by decide +kernel
theorem dX1_leastErased_9 : decode cX1_leastErased 9 = .ok (.if_icmp .ge 34, 3) := by decide +kernel
theorem dX1_leastErased_12 : decode cX1_leastErased 12 = .ok (.iload_n 3, 1) := by decide +kernel
theorem dX1_leastErased_13 : decode cX1_leastErased 13 = .ok (.iload_n 1, 1) := by decide +kernel
theorem dX1_leastErased_14 : decode cX1_leastErased 14 = .ok (.if_icmp .eq 23, 3) := by decide +kernel
theorem dX1_leastErased_17 : decode cX1_leastErased 17 = .ok (.iload_n 2, 1) := by decide +kernel
theorem dX1_leastErased_18 : decode cX1_leastErased 18 = .ok (.iconst (-1), 1) := by decide +kernel
theorem dX1_leastErased_19 : decode cX1_leastErased 19 = .ok (.if_icmp .eq 16, 3) := by decide +kernel
theorem dX1_leastErased_22 : decode cX1_leastErased 22 = .ok (.aload_n 0, 1) := by decide +kernel
theorem dX1_leastErased_23 : decode cX1_leastErased 23 = .ok (.iload_n 3, 1) := by decide +kernel
theorem dX1_leastErased_24 : decode cX1_leastErased 24 = .ok (.invokevirtual 104, 3) := by decide +kernel
theorem dX1_leastErased_27 : decode cX1_leastErased 27 = .ok (.aload_n 0, 1) := by decide +kernel
theorem dX1_leastErased_28 : decode cX1_leastErased 28 = .ok (.iload_n 2, 1) := by decide +kernel
theorem dX1_leastErased_29 : decode cX1_leastErased 29 = .ok (.invokevirtual 104, 3) := by decide +kernel
theorem dX1_leastErased_32 : decode cX1_leastErased 32 = .ok (.if_icmp .ge 5, 3) := by decide +kernel
theorem dX1_leastErased_35 : decode cX1_leastErased 35 = .ok (.iload_n 3, 1) := by decide +kernel
theorem dX1_leastErased_36 : decode cX1_leastErased 36 = .ok (.istore_n 2, 1) := by decide +kernel
theorem dX1_leastErased_37 : decode cX1_leastErased 37 = .ok (.iinc 3 1, 3) := by decide +kernel
theorem dX1_leastErased_40 : decode cX1_leastErased 40 = .ok (.goto (-36), 3) := by decide +kernel
theorem dX1_leastErased_43 : decode cX1_leastErased 43 = .ok (.iload_n 2, 1) := by decide +kernel
theorem dX1_leastErased_44 : decode cX1_leastErased 44 = .ok (.ireturn, 1) := by decide +kernel
theorem dX1_erasesOf_0 : decode cX1_erasesOf 0 = .ok (.aload_n 0, 1) := by decide +kernel
theorem dX1_erasesOf_1 : decode cX1_erasesOf 1 = .ok (.iload_n 1, 1) := by decide +kernel
theorem dX1_erasesOf_2 : decode cX1_erasesOf 2 = .ok (.invokevirtual 64, 3) := by decide +kernel
theorem dX1_erasesOf_5 : decode cX1_erasesOf 5 = .ok (.ifCond .eq 12, 3) := by decide +kernel
theorem dX1_erasesOf_8 : decode cX1_erasesOf 8 = .ok (.aload_n 0, 1) := by decide +kernel
theorem dX1_erasesOf_9 : decode cX1_erasesOf 9 = .ok (.getfield 15, 3) := by decide +kernel
theorem dX1_erasesOf_12 : decode cX1_erasesOf 12 = .ok (.iload_n 1, 1) := by decide +kernel
theorem dX1_erasesOf_13 : decode cX1_erasesOf 13 = .ok (.iaload, 1) := by decide +kernel
theorem dX1_erasesOf_14 : decode cX1_erasesOf 14 = .ok (.goto 4, 3) := by decide +kernel
theorem dX1_erasesOf_17 : decode cX1_erasesOf 17 = .ok (.iconst 0, 1) := by decide +kernel
theorem dX1_erasesOf_18 : decode cX1_erasesOf 18 = .ok (.ireturn, 1) := by decide +kernel
theorem dX1_mostErases_0 : decode cX1_mostErases 0 = .ok (.iconst 0, 1) := by decide +kernel
theorem dX1_mostErases_1 : decode cX1_mostErases 1 = .ok (.istore_n 1, 1) := by decide +kernel
theorem dX1_mostErases_2 : decode cX1_mostErases 2 = .ok (.iconst 0, 1) := by decide +kernel
theorem dX1_mostErases_3 : decode cX1_mostErases 3 = .ok (.istore_n 2, 1) := by decide +kernel
theorem dX1_mostErases_4 : decode cX1_mostErases 4 = .ok (.iload_n 2, 1) := by decide +kernel
theorem dX1_mostErases_5 : decode cX1_mostErases 5 = .ok (.aload_n 0, 1) := by decide +kernel
theorem dX1_mostErases_6 : decode cX1_mostErases 6 = .ok (.getfield 18, 3) := by decide +kernel
theorem dX1_mostErases_9 : decode cX1_mostErases 9 = .ok (.if_icmp .ge 20, 3) := by decide +kernel
theorem dX1_mostErases_12 : decode cX1_mostErases 12 = .ok (.iload_n 1, 1) := by decide +kernel
theorem dX1_mostErases_13 : decode cX1_mostErases 13 = .ok (.aload_n 0, 1) := by decide +kernel
theorem dX1_mostErases_14 : decode cX1_mostErases 14 = .ok (.getfield 15, 3) := by decide +kernel
theorem dX1_mostErases_17 : decode cX1_mostErases 17 = .ok (.iload_n 2, 1) := by decide +kernel
theorem dX1_mostErases_18 : decode cX1_mostErases 18 = .ok (.iaload, 1) := by decide +kernel
theorem dX1_mostErases_19 : decode cX1_mostErases 19 = .ok (.invokestatic 107, 3) := by decide +kernel
theorem dX1_mostErases_22 : decode cX1_mostErases 22 = .ok (.istore_n 1, 1) := by decide +kernel
theorem dX1_mostErases_23 : decode cX1_mostErases 23 = .ok (.iinc 2 1, 3) := by decide +kernel
theorem dX1_mostErases_26 : decode cX1_mostErases 26 = .ok (.goto (-22), 3) := by decide +kernel
theorem dX1_mostErases_29 : decode cX1_mostErases 29 = .ok (.iload_n 1, 1) := by decide +kernel
theorem dX1_mostErases_30 : decode cX1_mostErases 30 = .ok (.ireturn, 1) := by decide +kernel
theorem dX1_fewestErases_0 : decode cX1_fewestErases 0 = .ok (.aload_n 0, 1) := by decide +kernel
theorem dX1_fewestErases_1 : decode cX1_fewestErases 1 = .ok (.aload_n 0, 1) := by decide +kernel
theorem dX1_fewestErases_2 : decode cX1_fewestErases 2 = .ok (.iconst (-1), 1) := by decide +kernel
theorem dX1_fewestErases_3 : decode cX1_fewestErases 3 = .ok (.invokevirtual 112, 3) := by decide +kernel
theorem dX1_fewestErases_6 : decode cX1_fewestErases 6 = .ok (.invokevirtual 104, 3) := by decide +kernel
theorem dX1_fewestErases_9 : decode cX1_fewestErases 9 = .ok (.ireturn, 1) := by decide +kernel
theorem dX1_allErases_0 : decode cX1_allErases 0 = .ok (.iconst 0, 1) := by decide +kernel
theorem dX1_allErases_1 : decode cX1_allErases 1 = .ok (.istore_n 1, 1) := by decide +kernel
theorem dX1_allErases_2 : decode cX1_allErases 2 = .ok (.iconst 0, 1) := by decide +kernel
theorem dX1_allErases_3 : decode cX1_allErases 3 = .ok (.istore_n 2, 1) := by decide +kernel
theorem dX1_allErases_4 : decode cX1_allErases 4 = .ok (.iload_n 2, 1) := by decide +kernel
theorem dX1_allErases_5 : decode cX1_allErases 5 = .ok (.aload_n 0, 1) := by decide +kernel
theorem dX1_allErases_6 : decode cX1_allErases 6 = .ok (.getfield 18, 3) := by decide +kernel
theorem dX1_allErases_9 : decode cX1_allErases 9 = .ok (.if_icmp .ge 18, 3) := by decide +kernel
theorem dX1_allErases_12 : decode cX1_allErases 12 = .ok (.iload_n 1, 1) := by decide +kernel
theorem dX1_allErases_13 : decode cX1_allErases 13 = .ok (.aload_n 0, 1) := by decide +kernel
theorem dX1_allErases_14 : decode cX1_allErases 14 = .ok (.getfield 15, 3) := by decide +kernel
theorem dX1_allErases_17 : decode cX1_allErases 17 = .ok (.iload_n 2, 1) := by decide +kernel
theorem dX1_allErases_18 : decode cX1_allErases 18 = .ok (.iaload, 1) := by decide +kernel
theorem dX1_allErases_19 : decode cX1_allErases 19 = .ok (.iadd, 1) := by decide +kernel
theorem dX1_allErases_20 : decode cX1_allErases 20 = .ok (.istore_n 1, 1) := by decide +kernel
theorem dX1_allErases_21 : decode cX1_allErases 21 = .ok (.iinc 2 1, 3) := by decide +kernel
theorem dX1_allErases_24 : decode cX1_allErases 24 = .ok (.goto (-20), 3) := by decide +kernel
theorem dX1_allErases_27 : decode cX1_allErases 27 = .ok (.iload_n 1, 1) := by decide +kernel
theorem dX1_allErases_28 : decode cX1_allErases 28 = .ok (.ireturn, 1) := by decide +kernel
