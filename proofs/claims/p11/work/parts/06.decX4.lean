theorem dX4_init_0 : decode cX4_init 0 = .ok (.aload_n 0, 1) := by decide +kernel
theorem dX4_init_1 : decode cX4_init 1 = .ok (.invokespecial 3, 3) := by decide +kernel
theorem dX4_init_4 : decode cX4_init 4 = .ok (.aload_n 0, 1) := by decide +kernel
theorem dX4_init_5 : decode cX4_init 5 = .ok (.new 9, 3) := by decide +kernel
theorem dX4_init_8 : decode cX4_init 8 = .ok (.dup, 1) := by decide +kernel
theorem dX4_init_9 : decode cX4_init 9 = .ok (.invokespecial 11, 3) := by decide +kernel
theorem dX4_init_12 : decode cX4_init 12 = .ok (.putfield 12, 3) := by decide +kernel
theorem dX4_init_15 : decode cX4_init 15 = .ok (.aload_n 0, 1) := by decide +kernel
theorem dX4_init_16 : decode cX4_init 16 = .ok (.new 18, 3) := by decide +kernel
theorem dX4_init_19 : decode cX4_init 19 = .ok (.dup, 1) := by decide +kernel
theorem dX4_init_20 : decode cX4_init 20 = .ok (.invokespecial 20, 3) := by decide +kernel
theorem dX4_init_23 : decode cX4_init 23 = .ok (.putfield 21, 3) := by decide +kernel
theorem dX4_init_26 : decode cX4_init 26 = .ok (.aload_n 0, 1) := by decide +kernel
theorem dX4_init_27 : decode cX4_init 27 = .ok (.new 25, 3) := by decide +kernel
theorem dX4_init_30 : decode cX4_init 30 = .ok (.dup, 1) := by decide +kernel
theorem dX4_init_31 : decode cX4_init 31 = .ok (.invokespecial 27, 3) := by decide +kernel
theorem dX4_init_34 : decode cX4_init 34 = .ok (.putfield 28, 3) := by decide +kernel
theorem dX4_init_37 : decode cX4_init 37 = .ok (.aload_n 0, 1) := by decide +kernel
theorem dX4_init_38 : decode cX4_init 38 = .ok (.new 32, 3) := by decide +kernel
theorem dX4_init_41 : decode cX4_init 41 = .ok (.dup, 1) := by decide +kernel
theorem dX4_init_42 : decode cX4_init 42 = .ok (.invokespecial 34, 3) := by decide +kernel
theorem dX4_init_45 : decode cX4_init 45 = .ok (.putfield 35, 3) := by decide +kernel
theorem dX4_init_48 : decode cX4_init 48 = .ok (.aload_n 0, 1) := by decide +kernel
theorem dX4_init_49 : decode cX4_init 49 = .ok (.iconst (-1), 1) := by decide +kernel
theorem dX4_init_50 : decode cX4_init 50 = .ok (.putfield 39, 3) := by decide +kernel
theorem dX4_init_53 : decode cX4_init 53 = .ok (.aload_n 0, 1) := by decide +kernel
theorem dX4_init_54 : decode cX4_init 54 = .ok (.getfield 12, 3) := by decide +kernel
theorem dX4_init_57 : decode cX4_init 57 = .ok (.iconst 3, 1) := by decide +kernel
theorem dX4_init_58 : decode cX4_init 58 = .ok (.bipush 64, 2) := by decide +kernel
theorem dX4_init_60 : decode cX4_init 60 = .ok (.invokevirtual 43, 3) := by decide +kernel
theorem dX4_init_63 : decode cX4_init 63 = .ok (.return_, 1) := by decide +kernel
theorem dX4_renew_0 : decode cX4_renew 0 = .ok (.aload_n 0, 1) := by decide +kernel
theorem dX4_renew_1 : decode cX4_renew 1 = .ok (.getfield 12, 3) := by decide +kernel
theorem dX4_renew_4 : decode cX4_renew 4 = .ok (.iload_n 1, 1) := by decide +kernel
theorem dX4_renew_5 : decode cX4_renew 5 = .ok (.iload_n 2, 1) := by decide +kernel
theorem dX4_renew_6 : decode cX4_renew 6 = .ok (.invokevirtual 43, 3) := by decide +kernel
theorem dX4_renew_9 : decode cX4_renew 9 = .ok (.aload_n 0, 1) := by decide +kernel
theorem dX4_renew_10 : decode cX4_renew 10 = .ok (.iconst 0, 1) := by decide +kernel
theorem dX4_renew_11 : decode cX4_renew 11 = .ok (.putfield 47, 3) := by decide +kernel
theorem dX4_renew_14 : decode cX4_renew 14 = .ok (.aload_n 0, 1) := by decide +kernel
theorem dX4_renew_15 : decode cX4_renew 15 = .ok (.invokevirtual 50, 3) := by decide +kernel
theorem dX4_renew_18 : decode cX4_renew 18 = .ok (.return_, 1) := by decide +kernel
theorem dX4_copyFrom_0 : decode cX4_copyFrom 0 = .ok (.aload_n 0, 1) := by decide +kernel
theorem dX4_copyFrom_1 : decode cX4_copyFrom 1 = .ok (.getfield 12, 3) := by decide +kernel
theorem dX4_copyFrom_4 : decode cX4_copyFrom 4 = .ok (.aload_n 1, 1) := by decide +kernel
theorem dX4_copyFrom_5 : decode cX4_copyFrom 5 = .ok (.getfield 12, 3) := by decide +kernel
theorem dX4_copyFrom_8 : decode cX4_copyFrom 8 = .ok (.invokevirtual 53, 3) := by decide +kernel
theorem dX4_copyFrom_11 : decode cX4_copyFrom 11 = .ok (.aload_n 0, 1) := by decide +kernel
theorem dX4_copyFrom_12 : decode cX4_copyFrom 12 = .ok (.aload_n 1, 1) := by decide +kernel
theorem dX4_copyFrom_13 : decode cX4_copyFrom 13 = .ok (.getfield 39, 3) := by decide +kernel
theorem dX4_copyFrom_16 : decode cX4_copyFrom 16 = .ok (.putfield 39, 3) := by decide +kernel
theorem dX4_copyFrom_19 : decode cX4_copyFrom 19 = .ok (.aload_n 0, 1) := by decide +kernel
theorem dX4_copyFrom_20 : decode cX4_copyFrom 20 = .ok (.aload_n 1, 1) := by decide +kernel
theorem dX4_copyFrom_21 : decode cX4_copyFrom 21 = .ok (.getfield 47, 3) := by decide +kernel
theorem dX4_copyFrom_24 : decode cX4_copyFrom 24 = .ok (.putfield 47, 3) := by decide +kernel
theorem dX4_copyFrom_27 : decode cX4_copyFrom 27 = .ok (.aload_n 0, 1) := by decide +kernel
theorem dX4_copyFrom_28 : decode cX4_copyFrom 28 = .ok (.getfield 28, 3) := by decide +kernel
theorem dX4_copyFrom_31 : decode cX4_copyFrom 31 = .ok (.invokevirtual 57, 3) := by decide +kernel
theorem dX4_copyFrom_34 : decode cX4_copyFrom 34 = .ok (.return_, 1) := by decide +kernel
theorem dX4_isOn_0 : decode cX4_isOn 0 = .ok (.aload_n 0, 1) := by decide +kernel
theorem dX4_isOn_1 : decode cX4_isOn 1 = .ok (.getfield 39, 3) := by decide +kernel
theorem dX4_isOn_4 : decode cX4_isOn 4 = .ok (.iconst (-1), 1) := by decide +kernel
theorem dX4_isOn_5 : decode cX4_isOn 5 = .ok (.if_icmp .eq 7, 3) := by decide +kernel
theorem dX4_isOn_8 : decode cX4_isOn 8 = .ok (.iconst 1, 1) := by decide +kernel
theorem dX4_isOn_9 : decode cX4_isOn 9 = .ok (.goto 4, 3) := by decide +kernel
theorem dX4_isOn_12 : decode cX4_isOn 12 = .ok (.iconst 0, 1) := by decide +kernel
theorem dX4_isOn_13 : decode cX4_isOn 13 = .ok (.ireturn, 1) := by decide +kernel
theorem dX4_switchOff_0 : decode cX4_switchOff 0 = .ok (.aload_n 0, 1) := by decide +kernel
theorem dX4_switchOff_1 : decode cX4_switchOff 1 = .ok (.iconst (-1), 1) := by decide +kernel
theorem dX4_switchOff_2 : decode cX4_switchOff 2 = .ok (.putfield 39, 3) := by decide +kernel
theorem dX4_switchOff_5 : decode cX4_switchOff 5 = .ok (.aload_n 0, 1) := by decide +kernel
theorem dX4_switchOff_6 : decode cX4_switchOff 6 = .ok (.getfield 12, 3) := by decide +kernel
theorem dX4_switchOff_9 : decode cX4_switchOff 9 = .ok (.iconst 0, 1) := by decide +kernel
theorem dX4_switchOff_10 : decode cX4_switchOff 10 = .ok (.putfield 60, 3) := by decide +kernel
theorem dX4_switchOff_13 : decode cX4_switchOff 13 = .ok (.aload_n 0, 1) := by decide +kernel
theorem dX4_switchOff_14 : decode cX4_switchOff 14 = .ok (.getfield 28, 3) := by decide +kernel
theorem dX4_switchOff_17 : decode cX4_switchOff 17 = .ok (.invokevirtual 57, 3) := by decide +kernel
theorem dX4_switchOff_20 : decode cX4_switchOff 20 = .ok (.return_, 1) := by decide +kernel
theorem dX4_switchOn_0 : decode cX4_switchOn 0 = .ok (.aload_n 0, 1) := by decide +kernel
theorem dX4_switchOn_1 : decode cX4_switchOn 1 = .ok (.getfield 12, 3) := by decide +kernel
theorem dX4_switchOn_4 : decode cX4_switchOn 4 = .ok (.iconst 1, 1) := by decide +kernel
theorem dX4_switchOn_5 : decode cX4_switchOn 5 = .ok (.putfield 60, 3) := by decide +kernel
theorem dX4_switchOn_8 : decode cX4_switchOn 8 = .ok (.aload_n 0, 1) := by decide +kernel
theorem dX4_switchOn_9 : decode cX4_switchOn 9 = .ok (.getfield 12, 3) := by decide +kernel
theorem dX4_switchOn_12 : decode cX4_switchOn 12 = .ok (.iconst 0, 1) := by decide +kernel
theorem dX4_switchOn_13 : decode cX4_switchOn 13 = .ok (.putfield 64, 3) := by decide +kernel
theorem dX4_switchOn_16 : decode cX4_switchOn 16 = .ok (.aload_n 0, 1) := by decide +kernel
theorem dX4_switchOn_17 : decode cX4_switchOn 17 = .ok (.getfield 12, 3) := by decide +kernel
theorem dX4_switchOn_20 : decode cX4_switchOn 20 = .ok (.invokevirtual 67, 3) := by decide +kernel
theorem dX4_switchOn_23 : decode cX4_switchOn 23 = .ok (.istore_n 1, 1) := by decide +kernel
theorem dX4_switchOn_24 : decode cX4_switchOn 24 = .ok (.aload_n 0, 1) := by decide +kernel
theorem dX4_switchOn_25 : decode cX4_switchOn 25 = .ok (.getfield 12, 3) := by decide +kernel
theorem dX4_switchOn_28 : decode cX4_switchOn 28 = .ok (.iload_n 1, 1) := by decide +kernel
theorem dX4_switchOn_29 : decode cX4_switchOn 29 = .ok (.invokevirtual 71, 3) := by decide +kernel
theorem dX4_switchOn_32 : decode cX4_switchOn 32 = .ok (.iload_n 1, 1) := by decide +kernel
theorem dX4_switchOn_33 : decode cX4_switchOn 33 = .ok (.iconst (-1), 1) := by decide +kernel
theorem dX4_switchOn_34 : decode cX4_switchOn 34 = .ok (.if_icmp .ne 32, 3) := by decide +kernel
theorem dX4_switchOn_37 : decode cX4_switchOn 37 = .ok (.aload_n 0, 1) := by decide +kernel
theorem dX4_switchOn_38 : decode cX4_switchOn 38 = .ok (.getfield 12, 3) := by decide +kernel
theorem dX4_switchOn_41 : decode cX4_switchOn 41 = .ok (.iconst (-1), 1) := by decide +kernel
theorem dX4_switchOn_42 : decode cX4_switchOn 42 = .ok (.invokevirtual 75, 3) := by decide +kernel
theorem dX4_switchOn_45 : decode cX4_switchOn 45 = .ok (.istore_n 1, 1) := by decide +kernel
theorem dX4_switchOn_46 : decode cX4_switchOn 46 = .ok (.aload_n 0, 1) := by decide +kernel
theorem dX4_switchOn_47 : decode cX4_switchOn 47 = .ok (.getfield 12, 3) := by decide +kernel
theorem dX4_switchOn_50 : decode cX4_switchOn 50 = .ok (.iload_n 1, 1) := by decide +kernel
theorem dX4_switchOn_51 : decode cX4_switchOn 51 = .ok (.iconst 1, 1) := by decide +kernel
theorem dX4_switchOn_52 : decode cX4_switchOn 52 = .ok (.invokevirtual 79, 3) := by decide +kernel
theorem dX4_switchOn_55 : decode cX4_switchOn 55 = .ok (.aload_n 0, 1) := by decide +kernel
theorem dX4_switchOn_56 : decode cX4_switchOn 56 = .ok (.getfield 12, 3) := by decide +kernel
theorem dX4_switchOn_59 : decode cX4_switchOn 59 = .ok (.iload_n 1, 1) := by decide +kernel
theorem dX4_switchOn_60 : decode cX4_switchOn 60 = .ok (.iconst 0, 1) := by decide +kernel
theorem dX4_switchOn_61 : decode cX4_switchOn 61 = .ok (.bipush 63, 2) := by decide +kernel
theorem dX4_switchOn_63 : decode cX4_switchOn 63 = .ok (.invokevirtual 82, 3) := by decide +kernel
theorem dX4_switchOn_66 : decode cX4_switchOn 66 = .ok (.aload_n 0, 1) := by decide +kernel
theorem dX4_switchOn_67 : decode cX4_switchOn 67 = .ok (.iload_n 1, 1) := by decide +kernel
theorem dX4_switchOn_68 : decode cX4_switchOn 68 = .ok (.putfield 39, 3) := by decide +kernel
theorem dX4_switchOn_71 : decode cX4_switchOn 71 = .ok (.aload_n 0, 1) := by decide +kernel
theorem dX4_switchOn_72 : decode cX4_switchOn 72 = .ok (.aload_n 0, 1) := by decide +kernel
theorem dX4_switchOn_73 : decode cX4_switchOn 73 = .ok (.invokevirtual 86, 3) := by decide +kernel
theorem dX4_switchOn_76 : decode cX4_switchOn 76 = .ok (.invokevirtual 90, 3) := by decide +kernel
theorem dX4_switchOn_79 : decode cX4_switchOn 79 = .ok (.invokestatic 94, 3) := by decide +kernel
theorem dX4_switchOn_82 : decode cX4_switchOn 82 = .ok (.invokevirtual 100, 3) := by decide +kernel
theorem dX4_switchOn_85 : decode cX4_switchOn 85 = .ok (.ireturn, 1) := by decide +kernel
theorem dX4_outcome_0 : decode cX4_outcome 0 = .ok (.aload_n 0, 1) := by decide +kernel
theorem dX4_outcome_1 : decode cX4_outcome 1 = .ok (.getfield 12, 3) := by decide +kernel
theorem dX4_outcome_4 : decode cX4_outcome 4 = .ok (.getfield 60, 3) := by decide +kernel
theorem dX4_outcome_7 : decode cX4_outcome 7 = .ok (.ifCond .eq 5, 3) := by decide +kernel
theorem dX4_outcome_10 : decode cX4_outcome 10 = .ok (.iload_n 1, 1) := by decide +kernel
theorem dX4_outcome_11 : decode cX4_outcome 11 = .ok (.ireturn, 1) := by decide +kernel
theorem dX4_outcome_12 : decode cX4_outcome 12 = .ok (.aload_n 0, 1) := by decide +kernel
theorem dX4_outcome_13 : decode cX4_outcome 13 = .ok (.invokevirtual 50, 3) := by decide +kernel
theorem dX4_outcome_16 : decode cX4_outcome 16 = .ok (.bipush (-3), 2) := by decide +kernel
theorem dX4_outcome_18 : decode cX4_outcome 18 = .ok (.ireturn, 1) := by decide +kernel
theorem dX4_look_0 : decode cX4_look 0 = .ok (.aload_n 0, 1) := by decide +kernel
theorem dX4_look_1 : decode cX4_look 1 = .ok (.getfield 21, 3) := by decide +kernel
theorem dX4_look_4 : decode cX4_look 4 = .ok (.aload_n 0, 1) := by decide +kernel
theorem dX4_look_5 : decode cX4_look 5 = .ok (.getfield 12, 3) := by decide +kernel
theorem dX4_look_8 : decode cX4_look 8 = .ok (.aload_n 0, 1) := by decide +kernel
theorem dX4_look_9 : decode cX4_look 9 = .ok (.getfield 39, 3) := by decide +kernel
theorem dX4_look_12 : decode cX4_look 12 = .ok (.invokevirtual 103, 3) := by decide +kernel
theorem dX4_look_15 : decode cX4_look 15 = .ok (.aload_n 0, 1) := by decide +kernel
theorem dX4_look_16 : decode cX4_look 16 = .ok (.getfield 21, 3) := by decide +kernel
theorem dX4_look_19 : decode cX4_look 19 = .ok (.areturn, 1) := by decide +kernel
theorem dX4_wouldHave_0 : decode cX4_wouldHave 0 = .ok (.aload_n 0, 1) := by decide +kernel
theorem dX4_wouldHave_1 : decode cX4_wouldHave 1 = .ok (.getfield 28, 3) := by decide +kernel
theorem dX4_wouldHave_4 : decode cX4_wouldHave 4 = .ok (.getfield 107, 3) := by decide +kernel
theorem dX4_wouldHave_7 : decode cX4_wouldHave 7 = .ok (.ifCond .eq 14, 3) := by decide +kernel
theorem dX4_wouldHave_10 : decode cX4_wouldHave 10 = .ok (.aload_n 0, 1) := by decide +kernel
theorem dX4_wouldHave_11 : decode cX4_wouldHave 11 = .ok (.getfield 28, 3) := by decide +kernel
theorem dX4_wouldHave_14 : decode cX4_wouldHave 14 = .ok (.iload_n 1, 1) := by decide +kernel
theorem dX4_wouldHave_15 : decode cX4_wouldHave 15 = .ok (.invokevirtual 110, 3) := by decide +kernel
theorem dX4_wouldHave_18 : decode cX4_wouldHave 18 = .ok (.goto 4, 3) := by decide +kernel
theorem dX4_wouldHave_21 : decode cX4_wouldHave 21 = .ok (.iconst (-1), 1) := by decide +kernel
theorem dX4_wouldHave_22 : decode cX4_wouldHave 22 = .ok (.istore_n 2, 1) := by decide +kernel
theorem dX4_wouldHave_23 : decode cX4_wouldHave 23 = .ok (.iload_n 2, 1) := by decide +kernel
theorem dX4_wouldHave_24 : decode cX4_wouldHave 24 = .ok (.iconst (-1), 1) := by decide +kernel
theorem dX4_wouldHave_25 : decode cX4_wouldHave 25 = .ok (.if_icmp .eq 21, 3) := by decide +kernel
theorem dX4_wouldHave_28 : decode cX4_wouldHave 28 = .ok (.aload_n 0, 1) := by decide +kernel
theorem dX4_wouldHave_29 : decode cX4_wouldHave 29 = .ok (.getfield 28, 3) := by decide +kernel
theorem dX4_wouldHave_32 : decode cX4_wouldHave 32 = .ok (.getfield 113, 3) := by decide +kernel
theorem dX4_wouldHave_35 : decode cX4_wouldHave 35 = .ok (.iload_n 2, 1) := by decide +kernel
theorem dX4_wouldHave_36 : decode cX4_wouldHave 36 = .ok (.iaload, 1) := by decide +kernel
theorem dX4_wouldHave_37 : decode cX4_wouldHave 37 = .ok (.ifCond .le 7, 3) := by decide +kernel
theorem dX4_wouldHave_40 : decode cX4_wouldHave 40 = .ok (.iconst 1, 1) := by decide +kernel
theorem dX4_wouldHave_41 : decode cX4_wouldHave 41 = .ok (.goto 4, 3) := by decide +kernel
theorem dX4_wouldHave_44 : decode cX4_wouldHave 44 = .ok (.iconst 0, 1) := by decide +kernel
theorem dX4_wouldHave_45 : decode cX4_wouldHave 45 = .ok (.ireturn, 1) := by decide +kernel
theorem dX4_wouldHave_46 : decode cX4_wouldHave 46 = .ok (.aload_n 0, 1) := by decide +kernel
theorem dX4_wouldHave_47 : decode cX4_wouldHave 47 = .ok (.invokevirtual 86, 3) := by decide +kernel
theorem dX4_wouldHave_50 : decode cX4_wouldHave 50 = .ok (.iload_n 1, 1) := by decide +kernel
theorem dX4_wouldHave_51 : decode cX4_wouldHave 51 = .ok (.invokevirtual 117, 3) := by decide +kernel
theorem dX4_wouldHave_54 : decode cX4_wouldHave 54 = .ok (.ireturn, 1) := by decide +kernel
theorem dX4_keep_0 : decode cX4_keep 0 = .ok (.aload_n 0, 1) := by decide +kernel
theorem dX4_keep_1 : decode cX4_keep 1 = .ok (.getfield 12, 3) := by decide +kernel
theorem dX4_keep_4 : decode cX4_keep 4 = .ok (.iconst 0, 1) := by decide +kernel
theorem dX4_keep_5 : decode cX4_keep 5 = .ok (.putfield 64, 3) := by decide +kernel
theorem dX4_keep_8 : decode cX4_keep 8 = .ok (.aload_n 0, 1) := by decide +kernel
theorem dX4_keep_9 : decode cX4_keep 9 = .ok (.iconst 3, 1) := by decide +kernel
theorem dX4_keep_10 : decode cX4_keep 10 = .ok (.iload_n 3, 1) := by decide +kernel
theorem dX4_keep_11 : decode cX4_keep 11 = .ok (.iadd, 1) := by decide +kernel
theorem dX4_keep_12 : decode cX4_keep 12 = .ok (.invokevirtual 121, 3) := by decide +kernel
theorem dX4_keep_15 : decode cX4_keep 15 = .ok (.ifCond .ne 6, 3) := by decide +kernel
theorem dX4_keep_18 : decode cX4_keep 18 = .ok (.bipush (-2), 2) := by decide +kernel
theorem dX4_keep_20 : decode cX4_keep 20 = .ok (.ireturn, 1) := by decide +kernel
theorem dX4_keep_21 : decode cX4_keep 21 = .ok (.aload_n 0, 1) := by decide +kernel
theorem dX4_keep_22 : decode cX4_keep 22 = .ok (.getfield 35, 3) := by decide +kernel
theorem dX4_keep_25 : decode cX4_keep 25 = .ok (.iload_n 1, 1) := by decide +kernel
theorem dX4_keep_26 : decode cX4_keep 26 = .ok (.bipush 16, 2) := by decide +kernel
theorem dX4_keep_28 : decode cX4_keep 28 = .ok (.iload_n 2, 1) := by decide +kernel
theorem dX4_keep_29 : decode cX4_keep 29 = .ok (.iload_n 3, 1) := by decide +kernel
theorem dX4_keep_30 : decode cX4_keep 30 = .ok (.invokevirtual 124, 3) := by decide +kernel
theorem dX4_keep_33 : decode cX4_keep 33 = .ok (.aload_n 0, 1) := by decide +kernel
theorem dX4_keep_34 : decode cX4_keep 34 = .ok (.getfield 12, 3) := by decide +kernel
theorem dX4_keep_37 : decode cX4_keep 37 = .ok (.aload_n 0, 1) := by decide +kernel
theorem dX4_keep_38 : decode cX4_keep 38 = .ok (.getfield 39, 3) := by decide +kernel
theorem dX4_keep_41 : decode cX4_keep 41 = .ok (.aload_n 0, 1) := by decide +kernel
theorem dX4_keep_42 : decode cX4_keep 42 = .ok (.getfield 128, 3) := by decide +kernel
theorem dX4_keep_45 : decode cX4_keep 45 = .ok (.aload_n 0, 1) := by decide +kernel
theorem dX4_keep_46 : decode cX4_keep 46 = .ok (.getfield 35, 3) := by decide +kernel
theorem dX4_keep_49 : decode cX4_keep 49 = .ok (.invokevirtual 131, 3) := by decide +kernel
theorem dX4_keep_52 : decode cX4_keep 52 = .ok (.aload_n 0, 1) := by decide +kernel
theorem dX4_keep_53 : decode cX4_keep 53 = .ok (.aload_n 0, 1) := by decide +kernel
theorem dX4_keep_54 : decode cX4_keep 54 = .ok (.getfield 12, 3) := by decide +kernel
theorem dX4_keep_57 : decode cX4_keep 57 = .ok (.getfield 64, 3) := by decide +kernel
theorem dX4_keep_60 : decode cX4_keep 60 = .ok (.invokevirtual 100, 3) := by decide +kernel
theorem dX4_keep_63 : decode cX4_keep 63 = .ok (.ireturn, 1) := by decide +kernel
theorem dX4_countUp_0 : decode cX4_countUp 0 = .ok (.aload_n 0, 1) := by decide +kernel
theorem dX4_countUp_1 : decode cX4_countUp 1 = .ok (.getfield 21, 3) := by decide +kernel
theorem dX4_countUp_4 : decode cX4_countUp 4 = .ok (.aload_n 0, 1) := by decide +kernel
theorem dX4_countUp_5 : decode cX4_countUp 5 = .ok (.getfield 12, 3) := by decide +kernel
theorem dX4_countUp_8 : decode cX4_countUp 8 = .ok (.aload_n 0, 1) := by decide +kernel
theorem dX4_countUp_9 : decode cX4_countUp 9 = .ok (.getfield 39, 3) := by decide +kernel
theorem dX4_countUp_12 : decode cX4_countUp 12 = .ok (.invokevirtual 103, 3) := by decide +kernel
theorem dX4_countUp_15 : decode cX4_countUp 15 = .ok (.aload_n 0, 1) := by decide +kernel
theorem dX4_countUp_16 : decode cX4_countUp 16 = .ok (.getfield 21, 3) := by decide +kernel
theorem dX4_countUp_19 : decode cX4_countUp 19 = .ok (.iload_n 1, 1) := by decide +kernel
theorem dX4_countUp_20 : decode cX4_countUp 20 = .ok (.invokevirtual 117, 3) := by decide +kernel
theorem dX4_countUp_23 : decode cX4_countUp 23 = .ok (.ifCond .eq 15, 3) := by decide +kernel
theorem dX4_countUp_26 : decode cX4_countUp 26 = .ok (.aload_n 0, 1) := by decide +kernel
theorem dX4_countUp_27 : decode cX4_countUp 27 = .ok (.getfield 21, 3) := by decide +kernel
theorem dX4_countUp_30 : decode cX4_countUp 30 = .ok (.iload_n 1, 1) := by decide +kernel
theorem dX4_countUp_31 : decode cX4_countUp 31 = .ok (.invokevirtual 135, 3) := by decide +kernel
theorem dX4_countUp_34 : decode cX4_countUp 34 = .ok (.l2i, 1) := by decide +kernel
theorem dX4_countUp_35 : decode cX4_countUp 35 = .ok (.goto 4, 3) := by decide +kernel
theorem dX4_countUp_38 : decode cX4_countUp 38 = .ok (.iconst 0, 1) := by decide +kernel
theorem dX4_countUp_39 : decode cX4_countUp 39 = .ok (.istore_n 2, 1) := by decide +kernel
theorem dX4_countUp_40 : decode cX4_countUp 40 = .ok (.iload_n 2, 1) := by decide +kernel
theorem dX4_countUp_41 : decode cX4_countUp 41 = .ok (.ldc 139, 2) := by decide +kernel
theorem dX4_countUp_43 : decode cX4_countUp 43 = .ok (.if_icmp .lt 5, 3) := by decide +kernel
theorem dX4_countUp_46 : decode cX4_countUp 46 = .ok (.iconst (-1), 1) := by decide +kernel
theorem dX4_countUp_47 : decode cX4_countUp 47 = .ok (.ireturn, 1) := by decide +kernel
theorem dX4_countUp_48 : decode cX4_countUp 48 = .ok (.aload_n 0, 1) := by decide +kernel
theorem dX4_countUp_49 : decode cX4_countUp 49 = .ok (.getfield 21, 3) := by decide +kernel
theorem dX4_countUp_52 : decode cX4_countUp 52 = .ok (.iload_n 1, 1) := by decide +kernel
theorem dX4_countUp_53 : decode cX4_countUp 53 = .ok (.invokevirtual 140, 3) := by decide +kernel
theorem dX4_countUp_56 : decode cX4_countUp 56 = .ok (.istore_n 3, 1) := by decide +kernel
theorem dX4_countUp_57 : decode cX4_countUp 57 = .ok (.iload_n 3, 1) := by decide +kernel
theorem dX4_countUp_58 : decode cX4_countUp 58 = .ok (.iconst (-1), 1) := by decide +kernel
theorem dX4_countUp_59 : decode cX4_countUp 59 = .ok (.if_icmp .eq 45, 3) := by decide +kernel
theorem dX4_countUp_62 : decode cX4_countUp 62 = .ok (.aload_n 0, 1) := by decide +kernel
theorem dX4_countUp_63 : decode cX4_countUp 63 = .ok (.getfield 12, 3) := by decide +kernel
theorem dX4_countUp_66 : decode cX4_countUp 66 = .ok (.aload_n 0, 1) := by decide +kernel
theorem dX4_countUp_67 : decode cX4_countUp 67 = .ok (.getfield 39, 3) := by decide +kernel
theorem dX4_countUp_70 : decode cX4_countUp 70 = .ok (.iload_n 3, 1) := by decide +kernel
theorem dX4_countUp_71 : decode cX4_countUp 71 = .ok (.invokevirtual 143, 3) := by decide +kernel
theorem dX4_countUp_74 : decode cX4_countUp 74 = .ok (.istore 4, 2) := by decide +kernel
theorem dX4_countUp_76 : decode cX4_countUp 76 = .ok (.aload_n 0, 1) := by decide +kernel
theorem dX4_countUp_77 : decode cX4_countUp 77 = .ok (.getfield 12, 3) := by decide +kernel
theorem dX4_countUp_80 : decode cX4_countUp 80 = .ok (.aload_n 0, 1) := by decide +kernel
theorem dX4_countUp_81 : decode cX4_countUp 81 = .ok (.getfield 39, 3) := by decide +kernel
theorem dX4_countUp_84 : decode cX4_countUp 84 = .ok (.iload_n 3, 1) := by decide +kernel
theorem dX4_countUp_85 : decode cX4_countUp 85 = .ok (.iload 4, 2) := by decide +kernel
theorem dX4_countUp_87 : decode cX4_countUp 87 = .ok (.iload 4, 2) := by decide +kernel
theorem dX4_countUp_89 : decode cX4_countUp 89 = .ok (.invokestatic 147, 3) := by decide +kernel
theorem dX4_countUp_92 : decode cX4_countUp 92 = .ok (.ixor, 1) := by decide +kernel
theorem dX4_countUp_93 : decode cX4_countUp 93 = .ok (.invokevirtual 82, 3) := by decide +kernel
theorem dX4_countUp_96 : decode cX4_countUp 96 = .ok (.aload_n 0, 1) := by decide +kernel
theorem dX4_countUp_97 : decode cX4_countUp 97 = .ok (.iload_n 2, 1) := by decide +kernel
theorem dX4_countUp_98 : decode cX4_countUp 98 = .ok (.iconst 1, 1) := by decide +kernel
theorem dX4_countUp_99 : decode cX4_countUp 99 = .ok (.iadd, 1) := by decide +kernel
theorem dX4_countUp_100 : decode cX4_countUp 100 = .ok (.invokevirtual 100, 3) := by decide +kernel
theorem dX4_countUp_103 : decode cX4_countUp 103 = .ok (.ireturn, 1) := by decide +kernel
theorem dX4_countUp_104 : decode cX4_countUp 104 = .ok (.aload_n 0, 1) := by decide +kernel
theorem dX4_countUp_105 : decode cX4_countUp 105 = .ok (.bipush 14, 2) := by decide +kernel
theorem dX4_countUp_107 : decode cX4_countUp 107 = .ok (.invokevirtual 121, 3) := by decide +kernel
theorem dX4_countUp_110 : decode cX4_countUp 110 = .ok (.ifCond .ne 6, 3) := by decide +kernel
theorem dX4_countUp_113 : decode cX4_countUp 113 = .ok (.bipush (-2), 2) := by decide +kernel
theorem dX4_countUp_115 : decode cX4_countUp 115 = .ok (.ireturn, 1) := by decide +kernel
theorem dX4_countUp_116 : decode cX4_countUp 116 = .ok (.aload_n 0, 1) := by decide +kernel
theorem dX4_countUp_117 : decode cX4_countUp 117 = .ok (.getfield 35, 3) := by decide +kernel
theorem dX4_countUp_120 : decode cX4_countUp 120 = .ok (.iload_n 1, 1) := by decide +kernel
theorem dX4_countUp_121 : decode cX4_countUp 121 = .ok (.iload_n 2, 1) := by decide +kernel
theorem dX4_countUp_122 : decode cX4_countUp 122 = .ok (.iconst 1, 1) := by decide +kernel
theorem dX4_countUp_123 : decode cX4_countUp 123 = .ok (.iadd, 1) := by decide +kernel
theorem dX4_countUp_124 : decode cX4_countUp 124 = .ok (.invokevirtual 150, 3) := by decide +kernel
theorem dX4_countUp_127 : decode cX4_countUp 127 = .ok (.aload_n 0, 1) := by decide +kernel
theorem dX4_countUp_128 : decode cX4_countUp 128 = .ok (.getfield 12, 3) := by decide +kernel
theorem dX4_countUp_131 : decode cX4_countUp 131 = .ok (.aload_n 0, 1) := by decide +kernel
theorem dX4_countUp_132 : decode cX4_countUp 132 = .ok (.getfield 39, 3) := by decide +kernel
theorem dX4_countUp_135 : decode cX4_countUp 135 = .ok (.aload_n 0, 1) := by decide +kernel
theorem dX4_countUp_136 : decode cX4_countUp 136 = .ok (.getfield 128, 3) := by decide +kernel
theorem dX4_countUp_139 : decode cX4_countUp 139 = .ok (.aload_n 0, 1) := by decide +kernel
theorem dX4_countUp_140 : decode cX4_countUp 140 = .ok (.getfield 35, 3) := by decide +kernel
theorem dX4_countUp_143 : decode cX4_countUp 143 = .ok (.invokevirtual 131, 3) := by decide +kernel
theorem dX4_countUp_146 : decode cX4_countUp 146 = .ok (.aload_n 0, 1) := by decide +kernel
theorem dX4_countUp_147 : decode cX4_countUp 147 = .ok (.iload_n 2, 1) := by decide +kernel
theorem dX4_countUp_148 : decode cX4_countUp 148 = .ok (.iconst 1, 1) := by decide +kernel
theorem dX4_countUp_149 : decode cX4_countUp 149 = .ok (.iadd, 1) := by decide +kernel
theorem dX4_countUp_150 : decode cX4_countUp 150 = .ok (.invokevirtual 100, 3) := by decide +kernel
theorem dX4_countUp_153 : decode cX4_countUp 153 = .ok (.ireturn, 1) := by decide +kernel
theorem dX4_highestBit_0 : decode cX4_highestBit 0 = .ok (.sipush 128, 3) := by decide +kernel
theorem dX4_highestBit_3 : decode cX4_highestBit 3 = .ok (.istore_n 1, 1) := by decide +kernel
theorem dX4_highestBit_4 : decode cX4_highestBit 4 = .ok (.iload_n 1, 1) := by decide +kernel
theorem dX4_highestBit_5 : decode cX4_highestBit 5 = .ok (.ifCond .le 18, 3) := by decide +kernel
theorem dX4_highestBit_8 : decode cX4_highestBit 8 = .ok (.iload_n 0, 1) := by decide +kernel
theorem dX4_highestBit_9 : decode cX4_highestBit 9 = .ok (.iload_n 1, 1) := by decide +kernel
theorem dX4_highestBit_10 : decode cX4_highestBit 10 = .ok (.iand, 1) := by decide +kernel
theorem dX4_highestBit_11 : decode cX4_highestBit 11 = .ok (.ifCond .eq 5, 3) := by decide +kernel
theorem dX4_highestBit_14 : decode cX4_highestBit 14 = .ok (.iload_n 1, 1) := by decide +kernel
theorem dX4_highestBit_15 : decode cX4_highestBit 15 = .ok (.ireturn, 1) := by decide +kernel
theorem dX4_highestBit_16 : decode cX4_highestBit 16 = .ok (.iload_n 1, 1) := by decide +kernel
theorem dX4_highestBit_17 : decode cX4_highestBit 17 = .ok (.iconst 2, 1) := by decide +kernel
theorem dX4_highestBit_18 : decode cX4_highestBit 18 = .ok (.idiv, 1) := by decide +kernel
theorem dX4_highestBit_19 : decode cX4_highestBit 19 = .ok (.istore_n 1, 1) := by decide +kernel
theorem dX4_highestBit_20 : decode cX4_highestBit 20 = .ok (.goto (-16), 3) := by decide +kernel
theorem dX4_highestBit_23 : decode cX4_highestBit 23 = .ok (.iconst 0, 1) := by decide +kernel
theorem dX4_highestBit_24 : decode cX4_highestBit 24 = .ok (.ireturn, 1) := by decide +kernel
theorem dX4_writeChange_0 : decode cX4_writeChange 0 = .ok (.aload_n 0, 1) := by decide +kernel
theorem dX4_writeChange_1 : decode cX4_writeChange 1 = .ok (.getfield 12, 3) := by decide +kernel
theorem dX4_writeChange_4 : decode cX4_writeChange 4 = .ok (.iconst 0, 1) := by decide +kernel
theorem dX4_writeChange_5 : decode cX4_writeChange 5 = .ok (.putfield 64, 3) := by decide +kernel
theorem dX4_writeChange_8 : decode cX4_writeChange 8 = .ok (.aload_n 0, 1) := by decide +kernel
theorem dX4_writeChange_9 : decode cX4_writeChange 9 = .ok (.aload_n 0, 1) := by decide +kernel
theorem dX4_writeChange_10 : decode cX4_writeChange 10 = .ok (.getfield 28, 3) := by decide +kernel
theorem dX4_writeChange_13 : decode cX4_writeChange 13 = .ok (.invokevirtual 153, 3) := by decide +kernel
theorem dX4_writeChange_16 : decode cX4_writeChange 16 = .ok (.invokevirtual 121, 3) := by decide +kernel
theorem dX4_writeChange_19 : decode cX4_writeChange 19 = .ok (.ifCond .ne 6, 3) := by decide +kernel
theorem dX4_writeChange_22 : decode cX4_writeChange 22 = .ok (.bipush (-2), 2) := by decide +kernel
theorem dX4_writeChange_24 : decode cX4_writeChange 24 = .ok (.ireturn, 1) := by decide +kernel
theorem dX4_writeChange_25 : decode cX4_writeChange 25 = .ok (.iconst 0, 1) := by decide +kernel
theorem dX4_writeChange_26 : decode cX4_writeChange 26 = .ok (.istore_n 1, 1) := by decide +kernel
theorem dX4_writeChange_27 : decode cX4_writeChange 27 = .ok (.iload_n 1, 1) := by decide +kernel
theorem dX4_writeChange_28 : decode cX4_writeChange 28 = .ok (.aload_n 0, 1) := by decide +kernel
theorem dX4_writeChange_29 : decode cX4_writeChange 29 = .ok (.getfield 28, 3) := by decide +kernel
theorem dX4_writeChange_32 : decode cX4_writeChange 32 = .ok (.getfield 156, 3) := by decide +kernel
theorem dX4_writeChange_35 : decode cX4_writeChange 35 = .ok (.if_icmp .ge 80, 3) := by decide +kernel
theorem dX4_writeChange_38 : decode cX4_writeChange 38 = .ok (.aload_n 0, 1) := by decide +kernel
theorem dX4_writeChange_39 : decode cX4_writeChange 39 = .ok (.getfield 35, 3) := by decide +kernel
theorem dX4_writeChange_42 : decode cX4_writeChange 42 = .ok (.aload_n 0, 1) := by decide +kernel
theorem dX4_writeChange_43 : decode cX4_writeChange 43 = .ok (.getfield 28, 3) := by decide +kernel
theorem dX4_writeChange_46 : decode cX4_writeChange 46 = .ok (.getfield 159, 3) := by decide +kernel
theorem dX4_writeChange_49 : decode cX4_writeChange 49 = .ok (.iload_n 1, 1) := by decide +kernel
theorem dX4_writeChange_50 : decode cX4_writeChange 50 = .ok (.iaload, 1) := by decide +kernel
theorem dX4_writeChange_51 : decode cX4_writeChange 51 = .ok (.bipush 48, 2) := by decide +kernel
theorem dX4_writeChange_53 : decode cX4_writeChange 53 = .ok (.aload_n 0, 1) := by decide +kernel
theorem dX4_writeChange_54 : decode cX4_writeChange 54 = .ok (.getfield 28, 3) := by decide +kernel
theorem dX4_writeChange_57 : decode cX4_writeChange 57 = .ok (.getfield 162, 3) := by decide +kernel
theorem dX4_writeChange_60 : decode cX4_writeChange 60 = .ok (.iload_n 1, 1) := by decide +kernel
theorem dX4_writeChange_61 : decode cX4_writeChange 61 = .ok (.iaload, 1) := by decide +kernel
theorem dX4_writeChange_62 : decode cX4_writeChange 62 = .ok (.aload_n 0, 1) := by decide +kernel
theorem dX4_writeChange_63 : decode cX4_writeChange 63 = .ok (.getfield 28, 3) := by decide +kernel
theorem dX4_writeChange_66 : decode cX4_writeChange 66 = .ok (.getfield 113, 3) := by decide +kernel
theorem dX4_writeChange_69 : decode cX4_writeChange 69 = .ok (.iload_n 1, 1) := by decide +kernel
theorem dX4_writeChange_70 : decode cX4_writeChange 70 = .ok (.iaload, 1) := by decide +kernel
theorem dX4_writeChange_71 : decode cX4_writeChange 71 = .ok (.invokevirtual 124, 3) := by decide +kernel
theorem dX4_writeChange_74 : decode cX4_writeChange 74 = .ok (.aload_n 0, 1) := by decide +kernel
theorem dX4_writeChange_75 : decode cX4_writeChange 75 = .ok (.getfield 12, 3) := by decide +kernel
theorem dX4_writeChange_78 : decode cX4_writeChange 78 = .ok (.aload_n 0, 1) := by decide +kernel
theorem dX4_writeChange_79 : decode cX4_writeChange 79 = .ok (.getfield 39, 3) := by decide +kernel
theorem dX4_writeChange_82 : decode cX4_writeChange 82 = .ok (.aload_n 0, 1) := by decide +kernel
theorem dX4_writeChange_83 : decode cX4_writeChange 83 = .ok (.getfield 128, 3) := by decide +kernel
theorem dX4_writeChange_86 : decode cX4_writeChange 86 = .ok (.aload_n 0, 1) := by decide +kernel
theorem dX4_writeChange_87 : decode cX4_writeChange 87 = .ok (.getfield 35, 3) := by decide +kernel
theorem dX4_writeChange_90 : decode cX4_writeChange 90 = .ok (.invokevirtual 131, 3) := by decide +kernel
theorem dX4_writeChange_93 : decode cX4_writeChange 93 = .ok (.aload_n 0, 1) := by decide +kernel
theorem dX4_writeChange_94 : decode cX4_writeChange 94 = .ok (.dup, 1) := by decide +kernel
theorem dX4_writeChange_95 : decode cX4_writeChange 95 = .ok (.getfield 128, 3) := by decide +kernel
theorem dX4_writeChange_98 : decode cX4_writeChange 98 = .ok (.aload_n 0, 1) := by decide +kernel
theorem dX4_writeChange_99 : decode cX4_writeChange 99 = .ok (.getfield 35, 3) := by decide +kernel
theorem dX4_writeChange_102 : decode cX4_writeChange 102 = .ok (.getfield 165, 3) := by decide +kernel
theorem dX4_writeChange_105 : decode cX4_writeChange 105 = .ok (.iadd, 1) := by decide +kernel
theorem dX4_writeChange_106 : decode cX4_writeChange 106 = .ok (.putfield 128, 3) := by decide +kernel
theorem dX4_writeChange_109 : decode cX4_writeChange 109 = .ok (.iinc 1 1, 3) := by decide +kernel
theorem dX4_writeChange_112 : decode cX4_writeChange 112 = .ok (.goto (-85), 3) := by decide +kernel
theorem dX4_writeChange_115 : decode cX4_writeChange 115 = .ok (.aload_n 0, 1) := by decide +kernel
theorem dX4_writeChange_116 : decode cX4_writeChange 116 = .ok (.getfield 35, 3) := by decide +kernel
theorem dX4_writeChange_119 : decode cX4_writeChange 119 = .ok (.aload_n 0, 1) := by decide +kernel
theorem dX4_writeChange_120 : decode cX4_writeChange 120 = .ok (.getfield 28, 3) := by decide +kernel
theorem dX4_writeChange_123 : decode cX4_writeChange 123 = .ok (.getfield 156, 3) := by decide +kernel
theorem dX4_writeChange_126 : decode cX4_writeChange 126 = .ok (.invokevirtual 168, 3) := by decide +kernel
theorem dX4_writeChange_129 : decode cX4_writeChange 129 = .ok (.aload_n 0, 1) := by decide +kernel
theorem dX4_writeChange_130 : decode cX4_writeChange 130 = .ok (.getfield 12, 3) := by decide +kernel
theorem dX4_writeChange_133 : decode cX4_writeChange 133 = .ok (.aload_n 0, 1) := by decide +kernel
theorem dX4_writeChange_134 : decode cX4_writeChange 134 = .ok (.getfield 39, 3) := by decide +kernel
theorem dX4_writeChange_137 : decode cX4_writeChange 137 = .ok (.aload_n 0, 1) := by decide +kernel
theorem dX4_writeChange_138 : decode cX4_writeChange 138 = .ok (.getfield 128, 3) := by decide +kernel
theorem dX4_writeChange_141 : decode cX4_writeChange 141 = .ok (.aload_n 0, 1) := by decide +kernel
theorem dX4_writeChange_142 : decode cX4_writeChange 142 = .ok (.getfield 35, 3) := by decide +kernel
theorem dX4_writeChange_145 : decode cX4_writeChange 145 = .ok (.invokevirtual 131, 3) := by decide +kernel
theorem dX4_writeChange_148 : decode cX4_writeChange 148 = .ok (.aload_n 0, 1) := by decide +kernel
theorem dX4_writeChange_149 : decode cX4_writeChange 149 = .ok (.getfield 28, 3) := by decide +kernel
theorem dX4_writeChange_152 : decode cX4_writeChange 152 = .ok (.invokevirtual 57, 3) := by decide +kernel
theorem dX4_writeChange_155 : decode cX4_writeChange 155 = .ok (.aload_n 0, 1) := by decide +kernel
theorem dX4_writeChange_156 : decode cX4_writeChange 156 = .ok (.aload_n 0, 1) := by decide +kernel
theorem dX4_writeChange_157 : decode cX4_writeChange 157 = .ok (.getfield 12, 3) := by decide +kernel
theorem dX4_writeChange_160 : decode cX4_writeChange 160 = .ok (.getfield 64, 3) := by decide +kernel
theorem dX4_writeChange_163 : decode cX4_writeChange 163 = .ok (.invokevirtual 100, 3) := by decide +kernel
theorem dX4_writeChange_166 : decode cX4_writeChange 166 = .ok (.ireturn, 1) := by decide +kernel
theorem dX4_makeRoom_0 : decode cX4_makeRoom 0 = .ok (.aload_n 0, 1) := by decide +kernel
theorem dX4_makeRoom_1 : decode cX4_makeRoom 1 = .ok (.getfield 21, 3) := by decide +kernel
theorem dX4_makeRoom_4 : decode cX4_makeRoom 4 = .ok (.aload_n 0, 1) := by decide +kernel
theorem dX4_makeRoom_5 : decode cX4_makeRoom 5 = .ok (.getfield 12, 3) := by decide +kernel
theorem dX4_makeRoom_8 : decode cX4_makeRoom 8 = .ok (.aload_n 0, 1) := by decide +kernel
theorem dX4_makeRoom_9 : decode cX4_makeRoom 9 = .ok (.getfield 39, 3) := by decide +kernel
theorem dX4_makeRoom_12 : decode cX4_makeRoom 12 = .ok (.invokevirtual 103, 3) := by decide +kernel
theorem dX4_makeRoom_15 : decode cX4_makeRoom 15 = .ok (.aload_n 0, 1) := by decide +kernel
theorem dX4_makeRoom_16 : decode cX4_makeRoom 16 = .ok (.getfield 21, 3) := by decide +kernel
theorem dX4_makeRoom_19 : decode cX4_makeRoom 19 = .ok (.invokevirtual 171, 3) := by decide +kernel
theorem dX4_makeRoom_22 : decode cX4_makeRoom 22 = .ok (.iload_n 1, 1) := by decide +kernel
theorem dX4_makeRoom_23 : decode cX4_makeRoom 23 = .ok (.if_icmp .ge 35, 3) := by decide +kernel
theorem dX4_makeRoom_26 : decode cX4_makeRoom 26 = .ok (.aload_n 0, 1) := by decide +kernel
theorem dX4_makeRoom_27 : decode cX4_makeRoom 27 = .ok (.getfield 21, 3) := by decide +kernel
theorem dX4_makeRoom_30 : decode cX4_makeRoom 30 = .ok (.invokevirtual 174, 3) := by decide +kernel
theorem dX4_makeRoom_33 : decode cX4_makeRoom 33 = .ok (.iload_n 1, 1) := by decide +kernel
theorem dX4_makeRoom_34 : decode cX4_makeRoom 34 = .ok (.if_icmp .ge 5, 3) := by decide +kernel
theorem dX4_makeRoom_37 : decode cX4_makeRoom 37 = .ok (.iconst 0, 1) := by decide +kernel
theorem dX4_makeRoom_38 : decode cX4_makeRoom 38 = .ok (.ireturn, 1) := by decide +kernel
theorem dX4_makeRoom_39 : decode cX4_makeRoom 39 = .ok (.aload_n 0, 1) := by decide +kernel
theorem dX4_makeRoom_40 : decode cX4_makeRoom 40 = .ok (.invokevirtual 177, 3) := by decide +kernel
theorem dX4_makeRoom_43 : decode cX4_makeRoom 43 = .ok (.aload_n 0, 1) := by decide +kernel
theorem dX4_makeRoom_44 : decode cX4_makeRoom 44 = .ok (.getfield 21, 3) := by decide +kernel
theorem dX4_makeRoom_47 : decode cX4_makeRoom 47 = .ok (.aload_n 0, 1) := by decide +kernel
theorem dX4_makeRoom_48 : decode cX4_makeRoom 48 = .ok (.getfield 12, 3) := by decide +kernel
theorem dX4_makeRoom_51 : decode cX4_makeRoom 51 = .ok (.aload_n 0, 1) := by decide +kernel
theorem dX4_makeRoom_52 : decode cX4_makeRoom 52 = .ok (.getfield 39, 3) := by decide +kernel
theorem dX4_makeRoom_55 : decode cX4_makeRoom 55 = .ok (.invokevirtual 103, 3) := by decide +kernel
theorem dX4_makeRoom_58 : decode cX4_makeRoom 58 = .ok (.aload_n 0, 1) := by decide +kernel
theorem dX4_makeRoom_59 : decode cX4_makeRoom 59 = .ok (.aload_n 0, 1) := by decide +kernel
theorem dX4_makeRoom_60 : decode cX4_makeRoom 60 = .ok (.getfield 21, 3) := by decide +kernel
theorem dX4_makeRoom_63 : decode cX4_makeRoom 63 = .ok (.getfield 180, 3) := by decide +kernel
theorem dX4_makeRoom_66 : decode cX4_makeRoom 66 = .ok (.putfield 128, 3) := by decide +kernel
theorem dX4_makeRoom_69 : decode cX4_makeRoom 69 = .ok (.iconst 1, 1) := by decide +kernel
theorem dX4_makeRoom_70 : decode cX4_makeRoom 70 = .ok (.ireturn, 1) := by decide +kernel
theorem dX4_handOverByHand_0 : decode cX4_handOverByHand 0 = .ok (.aload_n 0, 1) := by decide +kernel
theorem dX4_handOverByHand_1 : decode cX4_handOverByHand 1 = .ok (.getfield 12, 3) := by decide +kernel
theorem dX4_handOverByHand_4 : decode cX4_handOverByHand 4 = .ok (.iconst 0, 1) := by decide +kernel
theorem dX4_handOverByHand_5 : decode cX4_handOverByHand 5 = .ok (.putfield 64, 3) := by decide +kernel
theorem dX4_handOverByHand_8 : decode cX4_handOverByHand 8 = .ok (.aload_n 0, 1) := by decide +kernel
theorem dX4_handOverByHand_9 : decode cX4_handOverByHand 9 = .ok (.getfield 21, 3) := by decide +kernel
theorem dX4_handOverByHand_12 : decode cX4_handOverByHand 12 = .ok (.aload_n 0, 1) := by decide +kernel
theorem dX4_handOverByHand_13 : decode cX4_handOverByHand 13 = .ok (.getfield 12, 3) := by decide +kernel
theorem dX4_handOverByHand_16 : decode cX4_handOverByHand 16 = .ok (.aload_n 0, 1) := by decide +kernel
theorem dX4_handOverByHand_17 : decode cX4_handOverByHand 17 = .ok (.getfield 39, 3) := by decide +kernel
theorem dX4_handOverByHand_20 : decode cX4_handOverByHand 20 = .ok (.invokevirtual 103, 3) := by decide +kernel
theorem dX4_handOverByHand_23 : decode cX4_handOverByHand 23 = .ok (.aload_n 0, 1) := by decide +kernel
theorem dX4_handOverByHand_24 : decode cX4_handOverByHand 24 = .ok (.invokevirtual 177, 3) := by decide +kernel
theorem dX4_handOverByHand_27 : decode cX4_handOverByHand 27 = .ok (.aload_n 0, 1) := by decide +kernel
theorem dX4_handOverByHand_28 : decode cX4_handOverByHand 28 = .ok (.aload_n 0, 1) := by decide +kernel
theorem dX4_handOverByHand_29 : decode cX4_handOverByHand 29 = .ok (.getfield 12, 3) := by decide +kernel
theorem dX4_handOverByHand_32 : decode cX4_handOverByHand 32 = .ok (.getfield 64, 3) := by decide +kernel
theorem dX4_handOverByHand_35 : decode cX4_handOverByHand 35 = .ok (.invokevirtual 100, 3) := by decide +kernel
theorem dX4_handOverByHand_38 : decode cX4_handOverByHand 38 = .ok (.ireturn, 1) := by decide +kernel
theorem dX4_handOver_0 : decode cX4_handOver 0 = .ok (.aload_n 0, 1) := by decide +kernel
theorem dX4_handOver_1 : decode cX4_handOver 1 = .ok (.getfield 12, 3) := by decide +kernel
theorem dX4_handOver_4 : decode cX4_handOver 4 = .ok (.aload_n 0, 1) := by decide +kernel
theorem dX4_handOver_5 : decode cX4_handOver 5 = .ok (.getfield 39, 3) := by decide +kernel
theorem dX4_handOver_8 : decode cX4_handOver 8 = .ok (.invokevirtual 75, 3) := by decide +kernel
theorem dX4_handOver_11 : decode cX4_handOver 11 = .ok (.istore_n 1, 1) := by decide +kernel
theorem dX4_handOver_12 : decode cX4_handOver 12 = .ok (.aload_n 0, 1) := by decide +kernel
theorem dX4_handOver_13 : decode cX4_handOver 13 = .ok (.getfield 12, 3) := by decide +kernel
theorem dX4_handOver_16 : decode cX4_handOver 16 = .ok (.iload_n 1, 1) := by decide +kernel
theorem dX4_handOver_17 : decode cX4_handOver 17 = .ok (.invokevirtual 183, 3) := by decide +kernel
theorem dX4_handOver_20 : decode cX4_handOver 20 = .ok (.ifCond .ne 11, 3) := by decide +kernel
theorem dX4_handOver_23 : decode cX4_handOver 23 = .ok (.aload_n 0, 1) := by decide +kernel
theorem dX4_handOver_24 : decode cX4_handOver 24 = .ok (.getfield 12, 3) := by decide +kernel
theorem dX4_handOver_27 : decode cX4_handOver 27 = .ok (.iload_n 1, 1) := by decide +kernel
theorem dX4_handOver_28 : decode cX4_handOver 28 = .ok (.invokevirtual 186, 3) := by decide +kernel
theorem dX4_handOver_31 : decode cX4_handOver 31 = .ok (.aload_n 0, 1) := by decide +kernel
theorem dX4_handOver_32 : decode cX4_handOver 32 = .ok (.getfield 12, 3) := by decide +kernel
theorem dX4_handOver_35 : decode cX4_handOver 35 = .ok (.iload_n 1, 1) := by decide +kernel
theorem dX4_handOver_36 : decode cX4_handOver 36 = .ok (.aload_n 0, 1) := by decide +kernel
theorem dX4_handOver_37 : decode cX4_handOver 37 = .ok (.getfield 12, 3) := by decide +kernel
theorem dX4_handOver_40 : decode cX4_handOver 40 = .ok (.aload_n 0, 1) := by decide +kernel
theorem dX4_handOver_41 : decode cX4_handOver 41 = .ok (.getfield 39, 3) := by decide +kernel
theorem dX4_handOver_44 : decode cX4_handOver 44 = .ok (.invokevirtual 189, 3) := by decide +kernel
theorem dX4_handOver_47 : decode cX4_handOver 47 = .ok (.iconst 1, 1) := by decide +kernel
theorem dX4_handOver_48 : decode cX4_handOver 48 = .ok (.iadd, 1) := by decide +kernel
theorem dX4_handOver_49 : decode cX4_handOver 49 = .ok (.ldc 192, 2) := by decide +kernel
theorem dX4_handOver_51 : decode cX4_handOver 51 = .ok (.irem, 1) := by decide +kernel
theorem dX4_handOver_52 : decode cX4_handOver 52 = .ok (.invokevirtual 79, 3) := by decide +kernel
theorem dX4_handOver_55 : decode cX4_handOver 55 = .ok (.iconst 4, 1) := by decide +kernel
theorem dX4_handOver_56 : decode cX4_handOver 56 = .ok (.istore_n 2, 1) := by decide +kernel
theorem dX4_handOver_57 : decode cX4_handOver 57 = .ok (.iconst 0, 1) := by decide +kernel
theorem dX4_handOver_58 : decode cX4_handOver 58 = .ok (.istore_n 3, 1) := by decide +kernel
theorem dX4_handOver_59 : decode cX4_handOver 59 = .ok (.iload_n 3, 1) := by decide +kernel
theorem dX4_handOver_60 : decode cX4_handOver 60 = .ok (.bipush 48, 2) := by decide +kernel
theorem dX4_handOver_62 : decode cX4_handOver 62 = .ok (.if_icmp .ge 114, 3) := by decide +kernel
theorem dX4_handOver_65 : decode cX4_handOver 65 = .ok (.aload_n 0, 1) := by decide +kernel
theorem dX4_handOver_66 : decode cX4_handOver 66 = .ok (.getfield 21, 3) := by decide +kernel
theorem dX4_handOver_69 : decode cX4_handOver 69 = .ok (.iload_n 3, 1) := by decide +kernel
theorem dX4_handOver_70 : decode cX4_handOver 70 = .ok (.invokevirtual 117, 3) := by decide +kernel
theorem dX4_handOver_73 : decode cX4_handOver 73 = .ok (.ifCond .ne 6, 3) := by decide +kernel
theorem dX4_handOver_76 : decode cX4_handOver 76 = .ok (.goto 94, 3) := by decide +kernel
theorem dX4_handOver_79 : decode cX4_handOver 79 = .ok (.aload_n 0, 1) := by decide +kernel
theorem dX4_handOver_80 : decode cX4_handOver 80 = .ok (.getfield 21, 3) := by decide +kernel
theorem dX4_handOver_83 : decode cX4_handOver 83 = .ok (.aload_n 0, 1) := by decide +kernel
theorem dX4_handOver_84 : decode cX4_handOver 84 = .ok (.getfield 21, 3) := by decide +kernel
theorem dX4_handOver_87 : decode cX4_handOver 87 = .ok (.iload_n 3, 1) := by decide +kernel
theorem dX4_handOver_88 : decode cX4_handOver 88 = .ok (.invokevirtual 193, 3) := by decide +kernel
theorem dX4_handOver_91 : decode cX4_handOver 91 = .ok (.invokevirtual 196, 3) := by decide +kernel
theorem dX4_handOver_94 : decode cX4_handOver 94 = .ok (.l2i, 1) := by decide +kernel
theorem dX4_handOver_95 : decode cX4_handOver 95 = .ok (.istore 4, 2) := by decide +kernel
theorem dX4_handOver_97 : decode cX4_handOver 97 = .ok (.iload_n 3, 1) := by decide +kernel
theorem dX4_handOver_98 : decode cX4_handOver 98 = .ok (.bipush 32, 2) := by decide +kernel
theorem dX4_handOver_100 : decode cX4_handOver 100 = .ok (.if_icmp .ge 26, 3) := by decide +kernel
theorem dX4_handOver_103 : decode cX4_handOver 103 = .ok (.aload_n 0, 1) := by decide +kernel
theorem dX4_handOver_104 : decode cX4_handOver 104 = .ok (.getfield 35, 3) := by decide +kernel
theorem dX4_handOver_107 : decode cX4_handOver 107 = .ok (.iload_n 3, 1) := by decide +kernel
theorem dX4_handOver_108 : decode cX4_handOver 108 = .ok (.bipush 16, 2) := by decide +kernel
theorem dX4_handOver_110 : decode cX4_handOver 110 = .ok (.iload 4, 2) := by decide +kernel
theorem dX4_handOver_112 : decode cX4_handOver 112 = .ok (.aload_n 0, 1) := by decide +kernel
theorem dX4_handOver_113 : decode cX4_handOver 113 = .ok (.getfield 21, 3) := by decide +kernel
theorem dX4_handOver_116 : decode cX4_handOver 116 = .ok (.iload_n 3, 1) := by decide +kernel
theorem dX4_handOver_117 : decode cX4_handOver 117 = .ok (.invokevirtual 199, 3) := by decide +kernel
theorem dX4_handOver_120 : decode cX4_handOver 120 = .ok (.invokevirtual 124, 3) := by decide +kernel
theorem dX4_handOver_123 : decode cX4_handOver 123 = .ok (.goto 13, 3) := by decide +kernel
theorem dX4_handOver_126 : decode cX4_handOver 126 = .ok (.aload_n 0, 1) := by decide +kernel
theorem dX4_handOver_127 : decode cX4_handOver 127 = .ok (.getfield 35, 3) := by decide +kernel
theorem dX4_handOver_130 : decode cX4_handOver 130 = .ok (.iload_n 3, 1) := by decide +kernel
theorem dX4_handOver_131 : decode cX4_handOver 131 = .ok (.iload 4, 2) := by decide +kernel
theorem dX4_handOver_133 : decode cX4_handOver 133 = .ok (.invokevirtual 150, 3) := by decide +kernel
theorem dX4_handOver_136 : decode cX4_handOver 136 = .ok (.aload_n 0, 1) := by decide +kernel
theorem dX4_handOver_137 : decode cX4_handOver 137 = .ok (.getfield 12, 3) := by decide +kernel
theorem dX4_handOver_140 : decode cX4_handOver 140 = .ok (.iload_n 1, 1) := by decide +kernel
theorem dX4_handOver_141 : decode cX4_handOver 141 = .ok (.iload_n 2, 1) := by decide +kernel
theorem dX4_handOver_142 : decode cX4_handOver 142 = .ok (.aload_n 0, 1) := by decide +kernel
theorem dX4_handOver_143 : decode cX4_handOver 143 = .ok (.getfield 35, 3) := by decide +kernel
theorem dX4_handOver_146 : decode cX4_handOver 146 = .ok (.invokevirtual 131, 3) := by decide +kernel
theorem dX4_handOver_149 : decode cX4_handOver 149 = .ok (.iload_n 2, 1) := by decide +kernel
theorem dX4_handOver_150 : decode cX4_handOver 150 = .ok (.iload_n 3, 1) := by decide +kernel
theorem dX4_handOver_151 : decode cX4_handOver 151 = .ok (.bipush 32, 2) := by decide +kernel
theorem dX4_handOver_153 : decode cX4_handOver 153 = .ok (.if_icmp .ge 13, 3) := by decide +kernel
theorem dX4_handOver_156 : decode cX4_handOver 156 = .ok (.aload_n 0, 1) := by decide +kernel
theorem dX4_handOver_157 : decode cX4_handOver 157 = .ok (.getfield 35, 3) := by decide +kernel
theorem dX4_handOver_160 : decode cX4_handOver 160 = .ok (.getfield 165, 3) := by decide +kernel
theorem dX4_handOver_163 : decode cX4_handOver 163 = .ok (.goto 5, 3) := by decide +kernel
theorem dX4_handOver_166 : decode cX4_handOver 166 = .ok (.bipush 14, 2) := by decide +kernel
theorem dX4_handOver_168 : decode cX4_handOver 168 = .ok (.iadd, 1) := by decide +kernel
theorem dX4_handOver_169 : decode cX4_handOver 169 = .ok (.istore_n 2, 1) := by decide +kernel
theorem dX4_handOver_170 : decode cX4_handOver 170 = .ok (.iinc 3 1, 3) := by decide +kernel
theorem dX4_handOver_173 : decode cX4_handOver 173 = .ok (.goto (-114), 3) := by decide +kernel
theorem dX4_handOver_176 : decode cX4_handOver 176 = .ok (.aload_n 0, 1) := by decide +kernel
theorem dX4_handOver_177 : decode cX4_handOver 177 = .ok (.getfield 12, 3) := by decide +kernel
theorem dX4_handOver_180 : decode cX4_handOver 180 = .ok (.iload_n 1, 1) := by decide +kernel
theorem dX4_handOver_181 : decode cX4_handOver 181 = .ok (.iconst 0, 1) := by decide +kernel
theorem dX4_handOver_182 : decode cX4_handOver 182 = .ok (.bipush 63, 2) := by decide +kernel
theorem dX4_handOver_184 : decode cX4_handOver 184 = .ok (.invokevirtual 82, 3) := by decide +kernel
theorem dX4_handOver_187 : decode cX4_handOver 187 = .ok (.aload_n 0, 1) := by decide +kernel
theorem dX4_handOver_188 : decode cX4_handOver 188 = .ok (.getfield 12, 3) := by decide +kernel
theorem dX4_handOver_191 : decode cX4_handOver 191 = .ok (.aload_n 0, 1) := by decide +kernel
theorem dX4_handOver_192 : decode cX4_handOver 192 = .ok (.getfield 39, 3) := by decide +kernel
theorem dX4_handOver_195 : decode cX4_handOver 195 = .ok (.invokevirtual 186, 3) := by decide +kernel
theorem dX4_handOver_198 : decode cX4_handOver 198 = .ok (.aload_n 0, 1) := by decide +kernel
theorem dX4_handOver_199 : decode cX4_handOver 199 = .ok (.getfield 12, 3) := by decide +kernel
theorem dX4_handOver_202 : decode cX4_handOver 202 = .ok (.getfield 60, 3) := by decide +kernel
theorem dX4_handOver_205 : decode cX4_handOver 205 = .ok (.ifCond .eq 18, 3) := by decide +kernel
theorem dX4_handOver_208 : decode cX4_handOver 208 = .ok (.aload_n 0, 1) := by decide +kernel
theorem dX4_handOver_209 : decode cX4_handOver 209 = .ok (.iload_n 1, 1) := by decide +kernel
theorem dX4_handOver_210 : decode cX4_handOver 210 = .ok (.putfield 39, 3) := by decide +kernel
theorem dX4_handOver_213 : decode cX4_handOver 213 = .ok (.aload_n 0, 1) := by decide +kernel
theorem dX4_handOver_214 : decode cX4_handOver 214 = .ok (.dup, 1) := by decide +kernel
theorem dX4_handOver_215 : decode cX4_handOver 215 = .ok (.getfield 47, 3) := by decide +kernel
theorem dX4_handOver_218 : decode cX4_handOver 218 = .ok (.iconst 1, 1) := by decide +kernel
theorem dX4_handOver_219 : decode cX4_handOver 219 = .ok (.iadd, 1) := by decide +kernel
theorem dX4_handOver_220 : decode cX4_handOver 220 = .ok (.putfield 47, 3) := by decide +kernel
theorem dX4_handOver_223 : decode cX4_handOver 223 = .ok (.return_, 1) := by decide +kernel
theorem dX4_costOf_0 : decode cX4_costOf 0 = .ok (.aload_n 0, 1) := by decide +kernel
theorem dX4_costOf_1 : decode cX4_costOf 1 = .ok (.getfield 21, 3) := by decide +kernel
theorem dX4_costOf_4 : decode cX4_costOf 4 = .ok (.aload_n 0, 1) := by decide +kernel
theorem dX4_costOf_5 : decode cX4_costOf 5 = .ok (.getfield 12, 3) := by decide +kernel
theorem dX4_costOf_8 : decode cX4_costOf 8 = .ok (.aload_n 0, 1) := by decide +kernel
theorem dX4_costOf_9 : decode cX4_costOf 9 = .ok (.getfield 39, 3) := by decide +kernel
theorem dX4_costOf_12 : decode cX4_costOf 12 = .ok (.invokevirtual 103, 3) := by decide +kernel
theorem dX4_costOf_15 : decode cX4_costOf 15 = .ok (.aload_n 0, 1) := by decide +kernel
theorem dX4_costOf_16 : decode cX4_costOf 16 = .ok (.getfield 21, 3) := by decide +kernel
theorem dX4_costOf_19 : decode cX4_costOf 19 = .ok (.invokevirtual 171, 3) := by decide +kernel
theorem dX4_costOf_22 : decode cX4_costOf 22 = .ok (.iload_n 1, 1) := by decide +kernel
theorem dX4_costOf_23 : decode cX4_costOf 23 = .ok (.if_icmp .lt 5, 3) := by decide +kernel
theorem dX4_costOf_26 : decode cX4_costOf 26 = .ok (.iload_n 1, 1) := by decide +kernel
theorem dX4_costOf_27 : decode cX4_costOf 27 = .ok (.ireturn, 1) := by decide +kernel
theorem dX4_costOf_28 : decode cX4_costOf 28 = .ok (.aload_n 0, 1) := by decide +kernel
theorem dX4_costOf_29 : decode cX4_costOf 29 = .ok (.getfield 21, 3) := by decide +kernel
theorem dX4_costOf_32 : decode cX4_costOf 32 = .ok (.invokevirtual 174, 3) := by decide +kernel
theorem dX4_costOf_35 : decode cX4_costOf 35 = .ok (.iload_n 1, 1) := by decide +kernel
theorem dX4_costOf_36 : decode cX4_costOf 36 = .ok (.if_icmp .ge 8, 3) := by decide +kernel
theorem dX4_costOf_39 : decode cX4_costOf 39 = .ok (.bipush (-2), 2) := by decide +kernel
theorem dX4_costOf_41 : decode cX4_costOf 41 = .ok (.goto 9, 3) := by decide +kernel
theorem dX4_costOf_44 : decode cX4_costOf 44 = .ok (.aload_n 0, 1) := by decide +kernel
theorem dX4_costOf_45 : decode cX4_costOf 45 = .ok (.invokevirtual 202, 3) := by decide +kernel
theorem dX4_costOf_48 : decode cX4_costOf 48 = .ok (.iload_n 1, 1) := by decide +kernel
theorem dX4_costOf_49 : decode cX4_costOf 49 = .ok (.iadd, 1) := by decide +kernel
theorem dX4_costOf_50 : decode cX4_costOf 50 = .ok (.ireturn, 1) := by decide +kernel
theorem dX4_handoverDoings_0 : decode cX4_handoverDoings 0 = .ok (.aload_n 0, 1) := by decide +kernel
theorem dX4_handoverDoings_1 : decode cX4_handoverDoings 1 = .ok (.getfield 12, 3) := by decide +kernel
theorem dX4_handoverDoings_4 : decode cX4_handoverDoings 4 = .ok (.aload_n 0, 1) := by decide +kernel
theorem dX4_handoverDoings_5 : decode cX4_handoverDoings 5 = .ok (.getfield 12, 3) := by decide +kernel
theorem dX4_handoverDoings_8 : decode cX4_handoverDoings 8 = .ok (.aload_n 0, 1) := by decide +kernel
theorem dX4_handoverDoings_9 : decode cX4_handoverDoings 9 = .ok (.getfield 39, 3) := by decide +kernel
theorem dX4_handoverDoings_12 : decode cX4_handoverDoings 12 = .ok (.invokevirtual 75, 3) := by decide +kernel
theorem dX4_handoverDoings_15 : decode cX4_handoverDoings 15 = .ok (.invokevirtual 183, 3) := by decide +kernel
theorem dX4_handoverDoings_18 : decode cX4_handoverDoings 18 = .ok (.ifCond .eq 7, 3) := by decide +kernel
theorem dX4_handoverDoings_21 : decode cX4_handoverDoings 21 = .ok (.iconst 0, 1) := by decide +kernel
theorem dX4_handoverDoings_22 : decode cX4_handoverDoings 22 = .ok (.goto 4, 3) := by decide +kernel
theorem dX4_handoverDoings_25 : decode cX4_handoverDoings 25 = .ok (.iconst 1, 1) := by decide +kernel
theorem dX4_handoverDoings_26 : decode cX4_handoverDoings 26 = .ok (.istore_n 1, 1) := by decide +kernel
theorem dX4_handoverDoings_27 : decode cX4_handoverDoings 27 = .ok (.iconst 5, 1) := by decide +kernel
theorem dX4_handoverDoings_28 : decode cX4_handoverDoings 28 = .ok (.istore_n 2, 1) := by decide +kernel
theorem dX4_handoverDoings_29 : decode cX4_handoverDoings 29 = .ok (.iload_n 1, 1) := by decide +kernel
theorem dX4_handoverDoings_30 : decode cX4_handoverDoings 30 = .ok (.iload_n 2, 1) := by decide +kernel
theorem dX4_handoverDoings_31 : decode cX4_handoverDoings 31 = .ok (.iadd, 1) := by decide +kernel
theorem dX4_handoverDoings_32 : decode cX4_handoverDoings 32 = .ok (.aload_n 0, 1) := by decide +kernel
theorem dX4_handoverDoings_33 : decode cX4_handoverDoings 33 = .ok (.getfield 21, 3) := by decide +kernel
theorem dX4_handoverDoings_36 : decode cX4_handoverDoings 36 = .ok (.invokevirtual 205, 3) := by decide +kernel
theorem dX4_handoverDoings_39 : decode cX4_handoverDoings 39 = .ok (.iadd, 1) := by decide +kernel
theorem dX4_handoverDoings_40 : decode cX4_handoverDoings 40 = .ok (.iconst 1, 1) := by decide +kernel
theorem dX4_handoverDoings_41 : decode cX4_handoverDoings 41 = .ok (.iadd, 1) := by decide +kernel
theorem dX4_handoverDoings_42 : decode cX4_handoverDoings 42 = .ok (.ireturn, 1) := by decide +kernel
theorem dX4_wearOut_0 : decode cX4_wearOut 0 = .ok (.iconst 0, 1) := by decide +kernel
theorem dX4_wearOut_1 : decode cX4_wearOut 1 = .ok (.istore_n 2, 1) := by decide +kernel
theorem dX4_wearOut_2 : decode cX4_wearOut 2 = .ok (.iload_n 2, 1) := by decide +kernel
theorem dX4_wearOut_3 : decode cX4_wearOut 3 = .ok (.iload_n 1, 1) := by decide +kernel
theorem dX4_wearOut_4 : decode cX4_wearOut 4 = .ok (.if_icmp .ge 67, 3) := by decide +kernel
theorem dX4_wearOut_7 : decode cX4_wearOut 7 = .ok (.aload_n 0, 1) := by decide +kernel
theorem dX4_wearOut_8 : decode cX4_wearOut 8 = .ok (.getfield 12, 3) := by decide +kernel
theorem dX4_wearOut_11 : decode cX4_wearOut 11 = .ok (.aload_n 0, 1) := by decide +kernel
theorem dX4_wearOut_12 : decode cX4_wearOut 12 = .ok (.getfield 39, 3) := by decide +kernel
theorem dX4_wearOut_15 : decode cX4_wearOut 15 = .ok (.invokevirtual 75, 3) := by decide +kernel
theorem dX4_wearOut_18 : decode cX4_wearOut 18 = .ok (.istore_n 3, 1) := by decide +kernel
theorem dX4_wearOut_19 : decode cX4_wearOut 19 = .ok (.aload_n 0, 1) := by decide +kernel
theorem dX4_wearOut_20 : decode cX4_wearOut 20 = .ok (.getfield 12, 3) := by decide +kernel
theorem dX4_wearOut_23 : decode cX4_wearOut 23 = .ok (.aload_n 0, 1) := by decide +kernel
theorem dX4_wearOut_24 : decode cX4_wearOut 24 = .ok (.getfield 39, 3) := by decide +kernel
theorem dX4_wearOut_27 : decode cX4_wearOut 27 = .ok (.invokevirtual 208, 3) := by decide +kernel
theorem dX4_wearOut_30 : decode cX4_wearOut 30 = .ok (.ifCond .eq 35, 3) := by decide +kernel
theorem dX4_wearOut_33 : decode cX4_wearOut 33 = .ok (.aload_n 0, 1) := by decide +kernel
theorem dX4_wearOut_34 : decode cX4_wearOut 34 = .ok (.getfield 12, 3) := by decide +kernel
theorem dX4_wearOut_37 : decode cX4_wearOut 37 = .ok (.iload_n 3, 1) := by decide +kernel
theorem dX4_wearOut_38 : decode cX4_wearOut 38 = .ok (.invokevirtual 208, 3) := by decide +kernel
theorem dX4_wearOut_41 : decode cX4_wearOut 41 = .ok (.ifCond .eq 24, 3) := by decide +kernel
theorem dX4_wearOut_44 : decode cX4_wearOut 44 = .ok (.aload_n 0, 1) := by decide +kernel
theorem dX4_wearOut_45 : decode cX4_wearOut 45 = .ok (.getfield 12, 3) := by decide +kernel
theorem dX4_wearOut_48 : decode cX4_wearOut 48 = .ok (.getfield 211, 3) := by decide +kernel
theorem dX4_wearOut_51 : decode cX4_wearOut 51 = .ok (.aload_n 0, 1) := by decide +kernel
theorem dX4_wearOut_52 : decode cX4_wearOut 52 = .ok (.getfield 39, 3) := by decide +kernel
theorem dX4_wearOut_55 : decode cX4_wearOut 55 = .ok (.dup2, 1) := by decide +kernel
theorem dX4_wearOut_56 : decode cX4_wearOut 56 = .ok (.iaload, 1) := by decide +kernel
theorem dX4_wearOut_57 : decode cX4_wearOut 57 = .ok (.iconst 1, 1) := by decide +kernel
theorem dX4_wearOut_58 : decode cX4_wearOut 58 = .ok (.iadd, 1) := by decide +kernel
theorem dX4_wearOut_59 : decode cX4_wearOut 59 = .ok (.iastore, 1) := by decide +kernel
theorem dX4_wearOut_60 : decode cX4_wearOut 60 = .ok (.aload_n 0, 1) := by decide +kernel
theorem dX4_wearOut_61 : decode cX4_wearOut 61 = .ok (.iload_n 3, 1) := by decide +kernel
theorem dX4_wearOut_62 : decode cX4_wearOut 62 = .ok (.putfield 39, 3) := by decide +kernel
theorem dX4_wearOut_65 : decode cX4_wearOut 65 = .ok (.iinc 2 1, 3) := by decide +kernel
theorem dX4_wearOut_68 : decode cX4_wearOut 68 = .ok (.goto (-66), 3) := by decide +kernel
theorem dX4_wearOut_71 : decode cX4_wearOut 71 = .ok (.return_, 1) := by decide +kernel
