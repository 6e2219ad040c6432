theorem dX5_init_0 : decode cX5_init 0 = .ok (.aload_n 0, 1) := by decide +kernel
theorem dX5_init_1 : decode cX5_init 1 = .ok (.invokespecial 3, 3) := by decide +kernel
theorem dX5_init_4 : decode cX5_init 4 = .ok (.aload_n 0, 1) := by decide +kernel
theorem dX5_init_5 : decode cX5_init 5 = .ok (.new 9, 3) := by decide +kernel
theorem dX5_init_8 : decode cX5_init 8 = .ok (.dup, 1) := by decide +kernel
theorem dX5_init_9 : decode cX5_init 9 = .ok (.invokespecial 11, 3) := by decide +kernel
theorem dX5_init_12 : decode cX5_init 12 = .ok (.putfield 12, 3) := by decide +kernel
theorem dX5_init_15 : decode cX5_init 15 = .ok (.aload_n 0, 1) := by decide +kernel
theorem dX5_init_16 : decode cX5_init 16 = .ok (.new 9, 3) := by decide +kernel
theorem dX5_init_19 : decode cX5_init 19 = .ok (.dup, 1) := by decide +kernel
theorem dX5_init_20 : decode cX5_init 20 = .ok (.invokespecial 11, 3) := by decide +kernel
theorem dX5_init_23 : decode cX5_init 23 = .ok (.putfield 16, 3) := by decide +kernel
theorem dX5_init_26 : decode cX5_init 26 = .ok (.return_, 1) := by decide +kernel
theorem dX5_chip_0 : decode cX5_chip 0 = .ok (.iload_n 1, 1) := by decide +kernel
theorem dX5_chip_1 : decode cX5_chip 1 = .ok (.iconst 2, 1) := by decide +kernel
theorem dX5_chip_2 : decode cX5_chip 2 = .ok (.bipush 6, 2) := by decide +kernel
theorem dX5_chip_4 : decode cX5_chip 4 = .ok (.invokestatic 19, 3) := by decide +kernel
theorem dX5_chip_7 : decode cX5_chip 7 = .ok (.ifCond .eq 15, 3) := by decide +kernel
theorem dX5_chip_10 : decode cX5_chip 10 = .ok (.iload_n 2, 1) := by decide +kernel
theorem dX5_chip_11 : decode cX5_chip 11 = .ok (.bipush 32, 2) := by decide +kernel
theorem dX5_chip_13 : decode cX5_chip 13 = .ok (.sipush 128, 3) := by decide +kernel
theorem dX5_chip_16 : decode cX5_chip 16 = .ok (.invokestatic 19, 3) := by decide +kernel
theorem dX5_chip_19 : decode cX5_chip 19 = .ok (.ifCond .ne 5, 3) := by decide +kernel
theorem dX5_chip_22 : decode cX5_chip 22 = .ok (.iconst 0, 1) := by decide +kernel
theorem dX5_chip_23 : decode cX5_chip 23 = .ok (.ireturn, 1) := by decide +kernel
theorem dX5_chip_24 : decode cX5_chip 24 = .ok (.aload_n 0, 1) := by decide +kernel
theorem dX5_chip_25 : decode cX5_chip 25 = .ok (.getfield 12, 3) := by decide +kernel
theorem dX5_chip_28 : decode cX5_chip 28 = .ok (.iload_n 1, 1) := by decide +kernel
theorem dX5_chip_29 : decode cX5_chip 29 = .ok (.iload_n 2, 1) := by decide +kernel
theorem dX5_chip_30 : decode cX5_chip 30 = .ok (.invokevirtual 23, 3) := by decide +kernel
theorem dX5_chip_33 : decode cX5_chip 33 = .ok (.iconst 1, 1) := by decide +kernel
theorem dX5_chip_34 : decode cX5_chip 34 = .ok (.ireturn, 1) := by decide +kernel
theorem dX5_on_0 : decode cX5_on 0 = .ok (.aload_n 0, 1) := by decide +kernel
theorem dX5_on_1 : decode cX5_on 1 = .ok (.getfield 12, 3) := by decide +kernel
theorem dX5_on_4 : decode cX5_on 4 = .ok (.invokevirtual 27, 3) := by decide +kernel
theorem dX5_on_7 : decode cX5_on 7 = .ok (.ifCond .eq 7, 3) := by decide +kernel
theorem dX5_on_10 : decode cX5_on 10 = .ok (.iconst (-1), 1) := by decide +kernel
theorem dX5_on_11 : decode cX5_on 11 = .ok (.goto 10, 3) := by decide +kernel
theorem dX5_on_14 : decode cX5_on 14 = .ok (.aload_n 0, 1) := by decide +kernel
theorem dX5_on_15 : decode cX5_on 15 = .ok (.getfield 12, 3) := by decide +kernel
theorem dX5_on_18 : decode cX5_on 18 = .ok (.invokevirtual 31, 3) := by decide +kernel
theorem dX5_on_21 : decode cX5_on 21 = .ok (.ireturn, 1) := by decide +kernel
theorem dX5_off_0 : decode cX5_off 0 = .ok (.aload_n 0, 1) := by decide +kernel
theorem dX5_off_1 : decode cX5_off 1 = .ok (.getfield 12, 3) := by decide +kernel
theorem dX5_off_4 : decode cX5_off 4 = .ok (.invokevirtual 27, 3) := by decide +kernel
theorem dX5_off_7 : decode cX5_off 7 = .ok (.ifCond .ne 5, 3) := by decide +kernel
theorem dX5_off_10 : decode cX5_off 10 = .ok (.iconst 0, 1) := by decide +kernel
theorem dX5_off_11 : decode cX5_off 11 = .ok (.ireturn, 1) := by decide +kernel
theorem dX5_off_12 : decode cX5_off 12 = .ok (.aload_n 0, 1) := by decide +kernel
theorem dX5_off_13 : decode cX5_off 13 = .ok (.getfield 12, 3) := by decide +kernel
theorem dX5_off_16 : decode cX5_off 16 = .ok (.invokevirtual 35, 3) := by decide +kernel
theorem dX5_off_19 : decode cX5_off 19 = .ok (.iconst 1, 1) := by decide +kernel
theorem dX5_off_20 : decode cX5_off 20 = .ok (.ireturn, 1) := by decide +kernel
theorem dX5_power_0 : decode cX5_power 0 = .ok (.iload_n 1, 1) := by decide +kernel
theorem dX5_power_1 : decode cX5_power 1 = .ok (.iconst 0, 1) := by decide +kernel
theorem dX5_power_2 : decode cX5_power 2 = .ok (.sipush 9999, 3) := by decide +kernel
theorem dX5_power_5 : decode cX5_power 5 = .ok (.invokestatic 19, 3) := by decide +kernel
theorem dX5_power_8 : decode cX5_power 8 = .ok (.ifCond .eq 14, 3) := by decide +kernel
theorem dX5_power_11 : decode cX5_power 11 = .ok (.iload_n 2, 1) := by decide +kernel
theorem dX5_power_12 : decode cX5_power 12 = .ok (.iconst 0, 1) := by decide +kernel
theorem dX5_power_13 : decode cX5_power 13 = .ok (.sipush 255, 3) := by decide +kernel
theorem dX5_power_16 : decode cX5_power 16 = .ok (.invokestatic 19, 3) := by decide +kernel
theorem dX5_power_19 : decode cX5_power 19 = .ok (.ifCond .ne 5, 3) := by decide +kernel
theorem dX5_power_22 : decode cX5_power 22 = .ok (.iconst 0, 1) := by decide +kernel
theorem dX5_power_23 : decode cX5_power 23 = .ok (.ireturn, 1) := by decide +kernel
theorem dX5_power_24 : decode cX5_power 24 = .ok (.aload_n 0, 1) := by decide +kernel
theorem dX5_power_25 : decode cX5_power 25 = .ok (.getfield 12, 3) := by decide +kernel
theorem dX5_power_28 : decode cX5_power 28 = .ok (.getfield 38, 3) := by decide +kernel
theorem dX5_power_31 : decode cX5_power 31 = .ok (.iload_n 1, 1) := by decide +kernel
theorem dX5_power_32 : decode cX5_power 32 = .ok (.iload_n 2, 1) := by decide +kernel
theorem dX5_power_33 : decode cX5_power 33 = .ok (.invokevirtual 42, 3) := by decide +kernel
theorem dX5_power_36 : decode cX5_power 36 = .ok (.iconst 1, 1) := by decide +kernel
theorem dX5_power_37 : decode cX5_power 37 = .ok (.ireturn, 1) := by decide +kernel
theorem dX5_rot_0 : decode cX5_rot 0 = .ok (.aload_n 0, 1) := by decide +kernel
theorem dX5_rot_1 : decode cX5_rot 1 = .ok (.getfield 12, 3) := by decide +kernel
theorem dX5_rot_4 : decode cX5_rot 4 = .ok (.invokevirtual 27, 3) := by decide +kernel
theorem dX5_rot_7 : decode cX5_rot 7 = .ok (.ifCond .ne 29, 3) := by decide +kernel
theorem dX5_rot_10 : decode cX5_rot 10 = .ok (.aload_n 0, 1) := by decide +kernel
theorem dX5_rot_11 : decode cX5_rot 11 = .ok (.getfield 12, 3) := by decide +kernel
theorem dX5_rot_14 : decode cX5_rot 14 = .ok (.getfield 38, 3) := by decide +kernel
theorem dX5_rot_17 : decode cX5_rot 17 = .ok (.iload_n 1, 1) := by decide +kernel
theorem dX5_rot_18 : decode cX5_rot 18 = .ok (.iload_n 2, 1) := by decide +kernel
theorem dX5_rot_19 : decode cX5_rot 19 = .ok (.invokevirtual 47, 3) := by decide +kernel
theorem dX5_rot_22 : decode cX5_rot 22 = .ok (.ifCond .eq 14, 3) := by decide +kernel
theorem dX5_rot_25 : decode cX5_rot 25 = .ok (.iload_n 3, 1) := by decide +kernel
theorem dX5_rot_26 : decode cX5_rot 26 = .ok (.iconst 0, 1) := by decide +kernel
theorem dX5_rot_27 : decode cX5_rot 27 = .ok (.sipush 255, 3) := by decide +kernel
theorem dX5_rot_30 : decode cX5_rot 30 = .ok (.invokestatic 19, 3) := by decide +kernel
theorem dX5_rot_33 : decode cX5_rot 33 = .ok (.ifCond .ne 5, 3) := by decide +kernel
theorem dX5_rot_36 : decode cX5_rot 36 = .ok (.iconst (-1), 1) := by decide +kernel
theorem dX5_rot_37 : decode cX5_rot 37 = .ok (.ireturn, 1) := by decide +kernel
theorem dX5_rot_38 : decode cX5_rot 38 = .ok (.aload_n 0, 1) := by decide +kernel
theorem dX5_rot_39 : decode cX5_rot 39 = .ok (.getfield 12, 3) := by decide +kernel
theorem dX5_rot_42 : decode cX5_rot 42 = .ok (.getfield 38, 3) := by decide +kernel
theorem dX5_rot_45 : decode cX5_rot 45 = .ok (.iload_n 1, 1) := by decide +kernel
theorem dX5_rot_46 : decode cX5_rot 46 = .ok (.iload_n 2, 1) := by decide +kernel
theorem dX5_rot_47 : decode cX5_rot 47 = .ok (.iload_n 3, 1) := by decide +kernel
theorem dX5_rot_48 : decode cX5_rot 48 = .ok (.invokevirtual 51, 3) := by decide +kernel
theorem dX5_rot_51 : decode cX5_rot 51 = .ok (.ireturn, 1) := by decide +kernel
theorem dX5_set_0 : decode cX5_set 0 = .ok (.aload_n 0, 1) := by decide +kernel
theorem dX5_set_1 : decode cX5_set 1 = .ok (.getfield 12, 3) := by decide +kernel
theorem dX5_set_4 : decode cX5_set 4 = .ok (.invokevirtual 27, 3) := by decide +kernel
theorem dX5_set_7 : decode cX5_set 7 = .ok (.ifCond .eq 11, 3) := by decide +kernel
theorem dX5_set_10 : decode cX5_set 10 = .ok (.iload_n 1, 1) := by decide +kernel
theorem dX5_set_11 : decode cX5_set 11 = .ok (.iload_n 3, 1) := by decide +kernel
theorem dX5_set_12 : decode cX5_set 12 = .ok (.invokestatic 55, 3) := by decide +kernel
theorem dX5_set_15 : decode cX5_set 15 = .ok (.ifCond .ne 5, 3) := by decide +kernel
theorem dX5_set_18 : decode cX5_set 18 = .ok (.iconst (-1), 1) := by decide +kernel
theorem dX5_set_19 : decode cX5_set 19 = .ok (.ireturn, 1) := by decide +kernel
theorem dX5_set_20 : decode cX5_set 20 = .ok (.aload_n 0, 1) := by decide +kernel
theorem dX5_set_21 : decode cX5_set 21 = .ok (.getfield 12, 3) := by decide +kernel
theorem dX5_set_24 : decode cX5_set 24 = .ok (.getfield 58, 3) := by decide +kernel
theorem dX5_set_27 : decode cX5_set 27 = .ok (.getfield 62, 3) := by decide +kernel
theorem dX5_set_30 : decode cX5_set 30 = .ok (.ifCond .eq 17, 3) := by decide +kernel
theorem dX5_set_33 : decode cX5_set 33 = .ok (.aload_n 0, 1) := by decide +kernel
theorem dX5_set_34 : decode cX5_set 34 = .ok (.getfield 12, 3) := by decide +kernel
theorem dX5_set_37 : decode cX5_set 37 = .ok (.getfield 58, 3) := by decide +kernel
theorem dX5_set_40 : decode cX5_set 40 = .ok (.iload_n 1, 1) := by decide +kernel
theorem dX5_set_41 : decode cX5_set 41 = .ok (.iload_n 2, 1) := by decide +kernel
theorem dX5_set_42 : decode cX5_set 42 = .ok (.iload_n 3, 1) := by decide +kernel
theorem dX5_set_43 : decode cX5_set 43 = .ok (.invokevirtual 68, 3) := by decide +kernel
theorem dX5_set_46 : decode cX5_set 46 = .ok (.ireturn, 1) := by decide +kernel
theorem dX5_set_47 : decode cX5_set 47 = .ok (.aload_n 0, 1) := by decide +kernel
theorem dX5_set_48 : decode cX5_set 48 = .ok (.getfield 12, 3) := by decide +kernel
theorem dX5_set_51 : decode cX5_set 51 = .ok (.iload_n 1, 1) := by decide +kernel
theorem dX5_set_52 : decode cX5_set 52 = .ok (.iload_n 2, 1) := by decide +kernel
theorem dX5_set_53 : decode cX5_set 53 = .ok (.iload_n 3, 1) := by decide +kernel
theorem dX5_set_54 : decode cX5_set 54 = .ok (.invokevirtual 71, 3) := by decide +kernel
theorem dX5_set_57 : decode cX5_set 57 = .ok (.ireturn, 1) := by decide +kernel
theorem dX5_drop_0 : decode cX5_drop 0 = .ok (.aload_n 0, 1) := by decide +kernel
theorem dX5_drop_1 : decode cX5_drop 1 = .ok (.getfield 12, 3) := by decide +kernel
theorem dX5_drop_4 : decode cX5_drop 4 = .ok (.invokevirtual 27, 3) := by decide +kernel
theorem dX5_drop_7 : decode cX5_drop 7 = .ok (.ifCond .eq 24, 3) := by decide +kernel
theorem dX5_drop_10 : decode cX5_drop 10 = .ok (.iload_n 1, 1) := by decide +kernel
theorem dX5_drop_11 : decode cX5_drop 11 = .ok (.iconst 0, 1) := by decide +kernel
theorem dX5_drop_12 : decode cX5_drop 12 = .ok (.bipush 31, 2) := by decide +kernel
theorem dX5_drop_14 : decode cX5_drop 14 = .ok (.invokestatic 19, 3) := by decide +kernel
theorem dX5_drop_17 : decode cX5_drop 17 = .ok (.ifCond .eq 14, 3) := by decide +kernel
theorem dX5_drop_20 : decode cX5_drop 20 = .ok (.aload_n 0, 1) := by decide +kernel
theorem dX5_drop_21 : decode cX5_drop 21 = .ok (.getfield 12, 3) := by decide +kernel
theorem dX5_drop_24 : decode cX5_drop 24 = .ok (.iload_n 1, 1) := by decide +kernel
theorem dX5_drop_25 : decode cX5_drop 25 = .ok (.invokevirtual 74, 3) := by decide +kernel
theorem dX5_drop_28 : decode cX5_drop 28 = .ok (.ifCond .ne 5, 3) := by decide +kernel
theorem dX5_drop_31 : decode cX5_drop 31 = .ok (.iconst (-1), 1) := by decide +kernel
theorem dX5_drop_32 : decode cX5_drop 32 = .ok (.ireturn, 1) := by decide +kernel
theorem dX5_drop_33 : decode cX5_drop 33 = .ok (.aload_n 0, 1) := by decide +kernel
theorem dX5_drop_34 : decode cX5_drop 34 = .ok (.getfield 12, 3) := by decide +kernel
theorem dX5_drop_37 : decode cX5_drop 37 = .ok (.getfield 58, 3) := by decide +kernel
theorem dX5_drop_40 : decode cX5_drop 40 = .ok (.getfield 62, 3) := by decide +kernel
theorem dX5_drop_43 : decode cX5_drop 43 = .ok (.ifCond .eq 17, 3) := by decide +kernel
theorem dX5_drop_46 : decode cX5_drop 46 = .ok (.aload_n 0, 1) := by decide +kernel
theorem dX5_drop_47 : decode cX5_drop 47 = .ok (.getfield 12, 3) := by decide +kernel
theorem dX5_drop_50 : decode cX5_drop 50 = .ok (.getfield 58, 3) := by decide +kernel
theorem dX5_drop_53 : decode cX5_drop 53 = .ok (.iload_n 1, 1) := by decide +kernel
theorem dX5_drop_54 : decode cX5_drop 54 = .ok (.iconst 0, 1) := by decide +kernel
theorem dX5_drop_55 : decode cX5_drop 55 = .ok (.iconst 0, 1) := by decide +kernel
theorem dX5_drop_56 : decode cX5_drop 56 = .ok (.invokevirtual 68, 3) := by decide +kernel
theorem dX5_drop_59 : decode cX5_drop 59 = .ok (.ireturn, 1) := by decide +kernel
theorem dX5_drop_60 : decode cX5_drop 60 = .ok (.aload_n 0, 1) := by decide +kernel
theorem dX5_drop_61 : decode cX5_drop 61 = .ok (.getfield 12, 3) := by decide +kernel
theorem dX5_drop_64 : decode cX5_drop 64 = .ok (.iload_n 1, 1) := by decide +kernel
theorem dX5_drop_65 : decode cX5_drop 65 = .ok (.iconst 0, 1) := by decide +kernel
theorem dX5_drop_66 : decode cX5_drop 66 = .ok (.iconst 0, 1) := by decide +kernel
theorem dX5_drop_67 : decode cX5_drop 67 = .ok (.invokevirtual 71, 3) := by decide +kernel
theorem dX5_drop_70 : decode cX5_drop 70 = .ok (.ireturn, 1) := by decide +kernel
theorem dX5_bump_0 : decode cX5_bump 0 = .ok (.aload_n 0, 1) := by decide +kernel
theorem dX5_bump_1 : decode cX5_bump 1 = .ok (.getfield 12, 3) := by decide +kernel
theorem dX5_bump_4 : decode cX5_bump 4 = .ok (.invokevirtual 27, 3) := by decide +kernel
theorem dX5_bump_7 : decode cX5_bump 7 = .ok (.ifCond .eq 27, 3) := by decide +kernel
theorem dX5_bump_10 : decode cX5_bump 10 = .ok (.aload_n 0, 1) := by decide +kernel
theorem dX5_bump_11 : decode cX5_bump 11 = .ok (.getfield 12, 3) := by decide +kernel
theorem dX5_bump_14 : decode cX5_bump 14 = .ok (.getfield 58, 3) := by decide +kernel
theorem dX5_bump_17 : decode cX5_bump 17 = .ok (.getfield 62, 3) := by decide +kernel
theorem dX5_bump_20 : decode cX5_bump 20 = .ok (.ifCond .ne 14, 3) := by decide +kernel
theorem dX5_bump_23 : decode cX5_bump 23 = .ok (.iload_n 1, 1) := by decide +kernel
theorem dX5_bump_24 : decode cX5_bump 24 = .ok (.bipush 32, 2) := by decide +kernel
theorem dX5_bump_26 : decode cX5_bump 26 = .ok (.bipush 47, 2) := by decide +kernel
theorem dX5_bump_28 : decode cX5_bump 28 = .ok (.invokestatic 19, 3) := by decide +kernel
theorem dX5_bump_31 : decode cX5_bump 31 = .ok (.ifCond .ne 5, 3) := by decide +kernel
theorem dX5_bump_34 : decode cX5_bump 34 = .ok (.iconst (-1), 1) := by decide +kernel
theorem dX5_bump_35 : decode cX5_bump 35 = .ok (.ireturn, 1) := by decide +kernel
theorem dX5_bump_36 : decode cX5_bump 36 = .ok (.aload_n 0, 1) := by decide +kernel
theorem dX5_bump_37 : decode cX5_bump 37 = .ok (.getfield 12, 3) := by decide +kernel
theorem dX5_bump_40 : decode cX5_bump 40 = .ok (.iload_n 1, 1) := by decide +kernel
theorem dX5_bump_41 : decode cX5_bump 41 = .ok (.invokevirtual 78, 3) := by decide +kernel
theorem dX5_bump_44 : decode cX5_bump 44 = .ok (.ireturn, 1) := by decide +kernel
theorem dX5_begin_0 : decode cX5_begin 0 = .ok (.aload_n 0, 1) := by decide +kernel
theorem dX5_begin_1 : decode cX5_begin 1 = .ok (.getfield 12, 3) := by decide +kernel
theorem dX5_begin_4 : decode cX5_begin 4 = .ok (.invokevirtual 27, 3) := by decide +kernel
theorem dX5_begin_7 : decode cX5_begin 7 = .ok (.ifCond .eq 16, 3) := by decide +kernel
theorem dX5_begin_10 : decode cX5_begin 10 = .ok (.aload_n 0, 1) := by decide +kernel
theorem dX5_begin_11 : decode cX5_begin 11 = .ok (.getfield 12, 3) := by decide +kernel
theorem dX5_begin_14 : decode cX5_begin 14 = .ok (.getfield 58, 3) := by decide +kernel
theorem dX5_begin_17 : decode cX5_begin 17 = .ok (.getfield 62, 3) := by decide +kernel
theorem dX5_begin_20 : decode cX5_begin 20 = .ok (.ifCond .eq 5, 3) := by decide +kernel
theorem dX5_begin_23 : decode cX5_begin 23 = .ok (.iconst 0, 1) := by decide +kernel
theorem dX5_begin_24 : decode cX5_begin 24 = .ok (.ireturn, 1) := by decide +kernel
theorem dX5_begin_25 : decode cX5_begin 25 = .ok (.aload_n 0, 1) := by decide +kernel
theorem dX5_begin_26 : decode cX5_begin 26 = .ok (.getfield 12, 3) := by decide +kernel
theorem dX5_begin_29 : decode cX5_begin 29 = .ok (.getfield 58, 3) := by decide +kernel
theorem dX5_begin_32 : decode cX5_begin 32 = .ok (.invokevirtual 82, 3) := by decide +kernel
theorem dX5_begin_35 : decode cX5_begin 35 = .ok (.iconst 1, 1) := by decide +kernel
theorem dX5_begin_36 : decode cX5_begin 36 = .ok (.ireturn, 1) := by decide +kernel
theorem dX5_commit_0 : decode cX5_commit 0 = .ok (.aload_n 0, 1) := by decide +kernel
theorem dX5_commit_1 : decode cX5_commit 1 = .ok (.getfield 12, 3) := by decide +kernel
theorem dX5_commit_4 : decode cX5_commit 4 = .ok (.getfield 58, 3) := by decide +kernel
theorem dX5_commit_7 : decode cX5_commit 7 = .ok (.getfield 62, 3) := by decide +kernel
theorem dX5_commit_10 : decode cX5_commit 10 = .ok (.ifCond .ne 5, 3) := by decide +kernel
theorem dX5_commit_13 : decode cX5_commit 13 = .ok (.iconst (-1), 1) := by decide +kernel
theorem dX5_commit_14 : decode cX5_commit 14 = .ok (.ireturn, 1) := by decide +kernel
theorem dX5_commit_15 : decode cX5_commit 15 = .ok (.aload_n 0, 1) := by decide +kernel
theorem dX5_commit_16 : decode cX5_commit 16 = .ok (.getfield 12, 3) := by decide +kernel
theorem dX5_commit_19 : decode cX5_commit 19 = .ok (.getfield 58, 3) := by decide +kernel
theorem dX5_commit_22 : decode cX5_commit 22 = .ok (.getfield 85, 3) := by decide +kernel
theorem dX5_commit_25 : decode cX5_commit 25 = .ok (.ifCond .ne 15, 3) := by decide +kernel
theorem dX5_commit_28 : decode cX5_commit 28 = .ok (.aload_n 0, 1) := by decide +kernel
theorem dX5_commit_29 : decode cX5_commit 29 = .ok (.getfield 12, 3) := by decide +kernel
theorem dX5_commit_32 : decode cX5_commit 32 = .ok (.getfield 58, 3) := by decide +kernel
theorem dX5_commit_35 : decode cX5_commit 35 = .ok (.invokevirtual 89, 3) := by decide +kernel
theorem dX5_commit_38 : decode cX5_commit 38 = .ok (.iconst (-1), 1) := by decide +kernel
theorem dX5_commit_39 : decode cX5_commit 39 = .ok (.ireturn, 1) := by decide +kernel
theorem dX5_commit_40 : decode cX5_commit 40 = .ok (.aload_n 0, 1) := by decide +kernel
theorem dX5_commit_41 : decode cX5_commit 41 = .ok (.getfield 12, 3) := by decide +kernel
theorem dX5_commit_44 : decode cX5_commit 44 = .ok (.invokevirtual 92, 3) := by decide +kernel
theorem dX5_commit_47 : decode cX5_commit 47 = .ok (.ireturn, 1) := by decide +kernel
theorem dX5_abort_0 : decode cX5_abort 0 = .ok (.aload_n 0, 1) := by decide +kernel
theorem dX5_abort_1 : decode cX5_abort 1 = .ok (.getfield 12, 3) := by decide +kernel
theorem dX5_abort_4 : decode cX5_abort 4 = .ok (.getfield 58, 3) := by decide +kernel
theorem dX5_abort_7 : decode cX5_abort 7 = .ok (.getfield 62, 3) := by decide +kernel
theorem dX5_abort_10 : decode cX5_abort 10 = .ok (.ifCond .ne 5, 3) := by decide +kernel
theorem dX5_abort_13 : decode cX5_abort 13 = .ok (.iconst (-1), 1) := by decide +kernel
theorem dX5_abort_14 : decode cX5_abort 14 = .ok (.ireturn, 1) := by decide +kernel
theorem dX5_abort_15 : decode cX5_abort 15 = .ok (.aload_n 0, 1) := by decide +kernel
theorem dX5_abort_16 : decode cX5_abort 16 = .ok (.getfield 12, 3) := by decide +kernel
theorem dX5_abort_19 : decode cX5_abort 19 = .ok (.getfield 58, 3) := by decide +kernel
theorem dX5_abort_22 : decode cX5_abort 22 = .ok (.getfield 85, 3) := by decide +kernel
theorem dX5_abort_25 : decode cX5_abort 25 = .ok (.istore_n 1, 1) := by decide +kernel
theorem dX5_abort_26 : decode cX5_abort 26 = .ok (.aload_n 0, 1) := by decide +kernel
theorem dX5_abort_27 : decode cX5_abort 27 = .ok (.getfield 12, 3) := by decide +kernel
theorem dX5_abort_30 : decode cX5_abort 30 = .ok (.getfield 58, 3) := by decide +kernel
theorem dX5_abort_33 : decode cX5_abort 33 = .ok (.invokevirtual 89, 3) := by decide +kernel
theorem dX5_abort_36 : decode cX5_abort 36 = .ok (.iload_n 1, 1) := by decide +kernel
theorem dX5_abort_37 : decode cX5_abort 37 = .ok (.ireturn, 1) := by decide +kernel
theorem dX5_get_0 : decode cX5_get 0 = .ok (.aload_n 0, 1) := by decide +kernel
theorem dX5_get_1 : decode cX5_get 1 = .ok (.getfield 12, 3) := by decide +kernel
theorem dX5_get_4 : decode cX5_get 4 = .ok (.invokevirtual 27, 3) := by decide +kernel
theorem dX5_get_7 : decode cX5_get 7 = .ok (.ifCond .eq 10, 3) := by decide +kernel
theorem dX5_get_10 : decode cX5_get 10 = .ok (.iload_n 1, 1) := by decide +kernel
theorem dX5_get_11 : decode cX5_get 11 = .ok (.invokestatic 95, 3) := by decide +kernel
theorem dX5_get_14 : decode cX5_get 14 = .ok (.ifCond .ne 7, 3) := by decide +kernel
theorem dX5_get_17 : decode cX5_get 17 = .ok (.ldc2_w 98, 3) := by decide +kernel
theorem dX5_get_20 : decode cX5_get 20 = .ok (.lreturn, 1) := by decide +kernel
theorem dX5_get_21 : decode cX5_get 21 = .ok (.aload_n 0, 1) := by decide +kernel
theorem dX5_get_22 : decode cX5_get 22 = .ok (.getfield 12, 3) := by decide +kernel
theorem dX5_get_25 : decode cX5_get 25 = .ok (.invokevirtual 100, 3) := by decide +kernel
theorem dX5_get_28 : decode cX5_get 28 = .ok (.iload_n 1, 1) := by decide +kernel
theorem dX5_get_29 : decode cX5_get 29 = .ok (.invokevirtual 104, 3) := by decide +kernel
theorem dX5_get_32 : decode cX5_get 32 = .ok (.lreturn, 1) := by decide +kernel
theorem dX5_length_0 : decode cX5_length 0 = .ok (.aload_n 0, 1) := by decide +kernel
theorem dX5_length_1 : decode cX5_length 1 = .ok (.getfield 12, 3) := by decide +kernel
theorem dX5_length_4 : decode cX5_length 4 = .ok (.invokevirtual 27, 3) := by decide +kernel
theorem dX5_length_7 : decode cX5_length 7 = .ok (.ifCond .eq 10, 3) := by decide +kernel
theorem dX5_length_10 : decode cX5_length 10 = .ok (.iload_n 1, 1) := by decide +kernel
theorem dX5_length_11 : decode cX5_length 11 = .ok (.invokestatic 95, 3) := by decide +kernel
theorem dX5_length_14 : decode cX5_length 14 = .ok (.ifCond .ne 5, 3) := by decide +kernel
theorem dX5_length_17 : decode cX5_length 17 = .ok (.iconst (-1), 1) := by decide +kernel
theorem dX5_length_18 : decode cX5_length 18 = .ok (.ireturn, 1) := by decide +kernel
theorem dX5_length_19 : decode cX5_length 19 = .ok (.aload_n 0, 1) := by decide +kernel
theorem dX5_length_20 : decode cX5_length 20 = .ok (.getfield 12, 3) := by decide +kernel
theorem dX5_length_23 : decode cX5_length 23 = .ok (.invokevirtual 100, 3) := by decide +kernel
theorem dX5_length_26 : decode cX5_length 26 = .ok (.iload_n 1, 1) := by decide +kernel
theorem dX5_length_27 : decode cX5_length 27 = .ok (.invokevirtual 110, 3) := by decide +kernel
theorem dX5_length_30 : decode cX5_length 30 = .ok (.ireturn, 1) := by decide +kernel
theorem dX5_hand_0 : decode cX5_hand 0 = .ok (.aload_n 0, 1) := by decide +kernel
theorem dX5_hand_1 : decode cX5_hand 1 = .ok (.getfield 12, 3) := by decide +kernel
theorem dX5_hand_4 : decode cX5_hand 4 = .ok (.invokevirtual 27, 3) := by decide +kernel
theorem dX5_hand_7 : decode cX5_hand 7 = .ok (.ifCond .eq 13, 3) := by decide +kernel
theorem dX5_hand_10 : decode cX5_hand 10 = .ok (.aload_n 0, 1) := by decide +kernel
theorem dX5_hand_11 : decode cX5_hand 11 = .ok (.getfield 12, 3) := by decide +kernel
theorem dX5_hand_14 : decode cX5_hand 14 = .ok (.invokevirtual 113, 3) := by decide +kernel
theorem dX5_hand_17 : decode cX5_hand 17 = .ok (.goto 4, 3) := by decide +kernel
theorem dX5_hand_20 : decode cX5_hand 20 = .ok (.iconst (-1), 1) := by decide +kernel
theorem dX5_hand_21 : decode cX5_hand 21 = .ok (.ireturn, 1) := by decide +kernel
theorem dX5_at_0 : decode cX5_at 0 = .ok (.aload_n 0, 1) := by decide +kernel
theorem dX5_at_1 : decode cX5_at 1 = .ok (.getfield 12, 3) := by decide +kernel
theorem dX5_at_4 : decode cX5_at 4 = .ok (.getfield 38, 3) := by decide +kernel
theorem dX5_at_7 : decode cX5_at 7 = .ok (.iload_n 1, 1) := by decide +kernel
theorem dX5_at_8 : decode cX5_at 8 = .ok (.iload_n 2, 1) := by decide +kernel
theorem dX5_at_9 : decode cX5_at 9 = .ok (.invokevirtual 47, 3) := by decide +kernel
theorem dX5_at_12 : decode cX5_at 12 = .ok (.ifCond .ne 13, 3) := by decide +kernel
theorem dX5_at_15 : decode cX5_at 15 = .ok (.new 116, 3) := by decide +kernel
theorem dX5_at_18 : decode cX5_at 18 = .ok (.dup, 1) := by decide +kernel
theorem dX5_at_19 : decode cX5_at 19 = .ok (.ldc 118, 2) := by decide +kernel
theorem dX5_at_21 : decode cX5_at 21 = .ok (.invokespecial 120, 3) := by decide +kernel
theorem dX5_at_24 : decode cX5_at 24 = .ok (.athrow, 1) := by decide +kernel
theorem dX5_at_25 : decode cX5_at 25 = .ok (.aload_n 0, 1) := by decide +kernel
theorem dX5_at_26 : decode cX5_at 26 = .ok (.getfield 12, 3) := by decide +kernel
theorem dX5_at_29 : decode cX5_at 29 = .ok (.getfield 38, 3) := by decide +kernel
theorem dX5_at_32 : decode cX5_at 32 = .ok (.iload_n 1, 1) := by decide +kernel
theorem dX5_at_33 : decode cX5_at 33 = .ok (.iload_n 2, 1) := by decide +kernel
theorem dX5_at_34 : decode cX5_at 34 = .ok (.invokevirtual 123, 3) := by decide +kernel
theorem dX5_at_37 : decode cX5_at 37 = .ok (.ireturn, 1) := by decide +kernel
theorem dX5_sector_0 : decode cX5_sector 0 = .ok (.aload_n 0, 1) := by decide +kernel
theorem dX5_sector_1 : decode cX5_sector 1 = .ok (.getfield 12, 3) := by decide +kernel
theorem dX5_sector_4 : decode cX5_sector 4 = .ok (.getfield 38, 3) := by decide +kernel
theorem dX5_sector_7 : decode cX5_sector 7 = .ok (.astore_n 3, 1) := by decide +kernel
theorem dX5_sector_8 : decode cX5_sector 8 = .ok (.aload_n 3, 1) := by decide +kernel
theorem dX5_sector_9 : decode cX5_sector 9 = .ok (.iload_n 1, 1) := by decide +kernel
theorem dX5_sector_10 : decode cX5_sector 10 = .ok (.invokevirtual 127, 3) := by decide +kernel
theorem dX5_sector_13 : decode cX5_sector 13 = .ok (.ifCond .ne 5, 3) := by decide +kernel
theorem dX5_sector_16 : decode cX5_sector 16 = .ok (.iconst (-1), 1) := by decide +kernel
theorem dX5_sector_17 : decode cX5_sector 17 = .ok (.ireturn, 1) := by decide +kernel
theorem dX5_sector_18 : decode cX5_sector 18 = .ok (.iload_n 2, 1) := by decide +kernel
theorem dX5_sector_19 : decode cX5_sector 19 = .ok (.tableswitch 83 0 4 #[33, 40, 46, 52, 66], 33) := by decide +kernel
theorem dX5_sector_52 : decode cX5_sector 52 = .ok (.aload_n 3, 1) := by decide +kernel
theorem dX5_sector_53 : decode cX5_sector 53 = .ok (.iload_n 1, 1) := by decide +kernel
theorem dX5_sector_54 : decode cX5_sector 54 = .ok (.iconst 0, 1) := by decide +kernel
theorem dX5_sector_55 : decode cX5_sector 55 = .ok (.invokevirtual 123, 3) := by decide +kernel
theorem dX5_sector_58 : decode cX5_sector 58 = .ok (.ireturn, 1) := by decide +kernel
theorem dX5_sector_59 : decode cX5_sector 59 = .ok (.aload_n 3, 1) := by decide +kernel
theorem dX5_sector_60 : decode cX5_sector 60 = .ok (.iload_n 1, 1) := by decide +kernel
theorem dX5_sector_61 : decode cX5_sector 61 = .ok (.invokevirtual 130, 3) := by decide +kernel
theorem dX5_sector_64 : decode cX5_sector 64 = .ok (.ireturn, 1) := by decide +kernel
theorem dX5_sector_65 : decode cX5_sector 65 = .ok (.aload_n 3, 1) := by decide +kernel
theorem dX5_sector_66 : decode cX5_sector 66 = .ok (.iload_n 1, 1) := by decide +kernel
theorem dX5_sector_67 : decode cX5_sector 67 = .ok (.invokevirtual 133, 3) := by decide +kernel
theorem dX5_sector_70 : decode cX5_sector 70 = .ok (.ireturn, 1) := by decide +kernel
theorem dX5_sector_71 : decode cX5_sector 71 = .ok (.aload_n 3, 1) := by decide +kernel
theorem dX5_sector_72 : decode cX5_sector 72 = .ok (.iload_n 1, 1) := by decide +kernel
theorem dX5_sector_73 : decode cX5_sector 73 = .ok (.invokevirtual 136, 3) := by decide +kernel
theorem dX5_sector_76 : decode cX5_sector 76 = .ok (.ifCond .eq 7, 3) := by decide +kernel
theorem dX5_sector_79 : decode cX5_sector 79 = .ok (.iconst 1, 1) := by decide +kernel
theorem dX5_sector_80 : decode cX5_sector 80 = .ok (.goto 4, 3) := by decide +kernel
theorem dX5_sector_83 : decode cX5_sector 83 = .ok (.iconst 0, 1) := by decide +kernel
theorem dX5_sector_84 : decode cX5_sector 84 = .ok (.ireturn, 1) := by decide +kernel
theorem dX5_sector_85 : decode cX5_sector 85 = .ok (.aload_n 0, 1) := by decide +kernel
theorem dX5_sector_86 : decode cX5_sector 86 = .ok (.getfield 12, 3) := by decide +kernel
theorem dX5_sector_89 : decode cX5_sector 89 = .ok (.getfield 139, 3) := by decide +kernel
theorem dX5_sector_92 : decode cX5_sector 92 = .ok (.iload_n 1, 1) := by decide +kernel
theorem dX5_sector_93 : decode cX5_sector 93 = .ok (.if_icmp .ne 7, 3) := by decide +kernel
theorem dX5_sector_96 : decode cX5_sector 96 = .ok (.iconst 1, 1) := by decide +kernel
theorem dX5_sector_97 : decode cX5_sector 97 = .ok (.goto 4, 3) := by decide +kernel
theorem dX5_sector_100 : decode cX5_sector 100 = .ok (.iconst 0, 1) := by decide +kernel
theorem dX5_sector_101 : decode cX5_sector 101 = .ok (.ireturn, 1) := by decide +kernel
theorem dX5_sector_102 : decode cX5_sector 102 = .ok (.iconst (-1), 1) := by decide +kernel
theorem dX5_sector_103 : decode cX5_sector 103 = .ok (.ireturn, 1) := by decide +kernel
theorem dX5_entry_0 : decode cX5_entry 0 = .ok (.aload_n 0, 1) := by decide +kernel
theorem dX5_entry_1 : decode cX5_entry 1 = .ok (.getfield 12, 3) := by decide +kernel
theorem dX5_entry_4 : decode cX5_entry 4 = .ok (.getfield 38, 3) := by decide +kernel
theorem dX5_entry_7 : decode cX5_entry 7 = .ok (.iload_n 1, 1) := by decide +kernel
theorem dX5_entry_8 : decode cX5_entry 8 = .ok (.invokevirtual 127, 3) := by decide +kernel
theorem dX5_entry_11 : decode cX5_entry 11 = .ok (.ifCond .ne 5, 3) := by decide +kernel
theorem dX5_entry_14 : decode cX5_entry 14 = .ok (.iconst (-1), 1) := by decide +kernel
theorem dX5_entry_15 : decode cX5_entry 15 = .ok (.ireturn, 1) := by decide +kernel
theorem dX5_entry_16 : decode cX5_entry 16 = .ok (.aload_n 0, 1) := by decide +kernel
theorem dX5_entry_17 : decode cX5_entry 17 = .ok (.getfield 12, 3) := by decide +kernel
theorem dX5_entry_20 : decode cX5_entry 20 = .ok (.getfield 142, 3) := by decide +kernel
theorem dX5_entry_23 : decode cX5_entry 23 = .ok (.astore 4, 2) := by decide +kernel
theorem dX5_entry_25 : decode cX5_entry 25 = .ok (.aload 4, 2) := by decide +kernel
theorem dX5_entry_27 : decode cX5_entry 27 = .ok (.aload_n 0, 1) := by decide +kernel
theorem dX5_entry_28 : decode cX5_entry 28 = .ok (.getfield 12, 3) := by decide +kernel
theorem dX5_entry_31 : decode cX5_entry 31 = .ok (.getfield 38, 3) := by decide +kernel
theorem dX5_entry_34 : decode cX5_entry 34 = .ok (.iload_n 1, 1) := by decide +kernel
theorem dX5_entry_35 : decode cX5_entry 35 = .ok (.invokevirtual 146, 3) := by decide +kernel
theorem dX5_entry_38 : decode cX5_entry 38 = .ok (.iload_n 2, 1) := by decide +kernel
theorem dX5_entry_39 : decode cX5_entry 39 = .ok (.iconst (-1), 1) := by decide +kernel
theorem dX5_entry_40 : decode cX5_entry 40 = .ok (.if_icmp .ne 9, 3) := by decide +kernel
theorem dX5_entry_43 : decode cX5_entry 43 = .ok (.aload 4, 2) := by decide +kernel
theorem dX5_entry_45 : decode cX5_entry 45 = .ok (.getfield 150, 3) := by decide +kernel
theorem dX5_entry_48 : decode cX5_entry 48 = .ok (.ireturn, 1) := by decide +kernel
theorem dX5_entry_49 : decode cX5_entry 49 = .ok (.aload 4, 2) := by decide +kernel
theorem dX5_entry_51 : decode cX5_entry 51 = .ok (.iload_n 2, 1) := by decide +kernel
theorem dX5_entry_52 : decode cX5_entry 52 = .ok (.iload_n 3, 1) := by decide +kernel
theorem dX5_entry_53 : decode cX5_entry 53 = .ok (.invokevirtual 153, 3) := by decide +kernel
theorem dX5_entry_56 : decode cX5_entry 56 = .ok (.ireturn, 1) := by decide +kernel
theorem dX5_space_0 : decode cX5_space 0 = .ok (.aload_n 0, 1) := by decide +kernel
theorem dX5_space_1 : decode cX5_space 1 = .ok (.getfield 12, 3) := by decide +kernel
theorem dX5_space_4 : decode cX5_space 4 = .ok (.getfield 38, 3) := by decide +kernel
theorem dX5_space_7 : decode cX5_space 7 = .ok (.iload_n 1, 1) := by decide +kernel
theorem dX5_space_8 : decode cX5_space 8 = .ok (.invokevirtual 127, 3) := by decide +kernel
theorem dX5_space_11 : decode cX5_space 11 = .ok (.ifCond .ne 5, 3) := by decide +kernel
theorem dX5_space_14 : decode cX5_space 14 = .ok (.iconst (-1), 1) := by decide +kernel
theorem dX5_space_15 : decode cX5_space 15 = .ok (.ireturn, 1) := by decide +kernel
theorem dX5_space_16 : decode cX5_space 16 = .ok (.aload_n 0, 1) := by decide +kernel
theorem dX5_space_17 : decode cX5_space 17 = .ok (.getfield 12, 3) := by decide +kernel
theorem dX5_space_20 : decode cX5_space 20 = .ok (.getfield 142, 3) := by decide +kernel
theorem dX5_space_23 : decode cX5_space 23 = .ok (.astore_n 3, 1) := by decide +kernel
theorem dX5_space_24 : decode cX5_space 24 = .ok (.aload_n 3, 1) := by decide +kernel
theorem dX5_space_25 : decode cX5_space 25 = .ok (.aload_n 0, 1) := by decide +kernel
theorem dX5_space_26 : decode cX5_space 26 = .ok (.getfield 12, 3) := by decide +kernel
theorem dX5_space_29 : decode cX5_space 29 = .ok (.getfield 38, 3) := by decide +kernel
theorem dX5_space_32 : decode cX5_space 32 = .ok (.iload_n 1, 1) := by decide +kernel
theorem dX5_space_33 : decode cX5_space 33 = .ok (.invokevirtual 146, 3) := by decide +kernel
theorem dX5_space_36 : decode cX5_space 36 = .ok (.iload_n 2, 1) := by decide +kernel
theorem dX5_space_37 : decode cX5_space 37 = .ok (.tableswitch 56 0 3 #[31, 36, 41, 46], 31) := by decide +kernel
theorem dX5_space_68 : decode cX5_space 68 = .ok (.aload_n 3, 1) := by decide +kernel
theorem dX5_space_69 : decode cX5_space 69 = .ok (.getfield 155, 3) := by decide +kernel
theorem dX5_space_72 : decode cX5_space 72 = .ok (.ireturn, 1) := by decide +kernel
theorem dX5_space_73 : decode cX5_space 73 = .ok (.aload_n 3, 1) := by decide +kernel
theorem dX5_space_74 : decode cX5_space 74 = .ok (.getfield 158, 3) := by decide +kernel
theorem dX5_space_77 : decode cX5_space 77 = .ok (.ireturn, 1) := by decide +kernel
theorem dX5_space_78 : decode cX5_space 78 = .ok (.aload_n 3, 1) := by decide +kernel
theorem dX5_space_79 : decode cX5_space 79 = .ok (.invokevirtual 161, 3) := by decide +kernel
theorem dX5_space_82 : decode cX5_space 82 = .ok (.ireturn, 1) := by decide +kernel
theorem dX5_space_83 : decode cX5_space 83 = .ok (.aload_n 3, 1) := by decide +kernel
theorem dX5_space_84 : decode cX5_space 84 = .ok (.invokevirtual 164, 3) := by decide +kernel
theorem dX5_space_87 : decode cX5_space 87 = .ok (.aload_n 3, 1) := by decide +kernel
theorem dX5_space_88 : decode cX5_space 88 = .ok (.invokevirtual 161, 3) := by decide +kernel
theorem dX5_space_91 : decode cX5_space 91 = .ok (.isub, 1) := by decide +kernel
theorem dX5_space_92 : decode cX5_space 92 = .ok (.ireturn, 1) := by decide +kernel
theorem dX5_space_93 : decode cX5_space 93 = .ok (.iconst (-1), 1) := by decide +kernel
theorem dX5_space_94 : decode cX5_space 94 = .ok (.ireturn, 1) := by decide +kernel
theorem dX5_until_0 : decode cX5_until 0 = .ok (.aload_n 0, 1) := by decide +kernel
theorem dX5_until_1 : decode cX5_until 1 = .ok (.getfield 12, 3) := by decide +kernel
theorem dX5_until_4 : decode cX5_until 4 = .ok (.invokevirtual 27, 3) := by decide +kernel
theorem dX5_until_7 : decode cX5_until 7 = .ok (.ifCond .eq 12, 3) := by decide +kernel
theorem dX5_until_10 : decode cX5_until 10 = .ok (.iload_n 1, 1) := by decide +kernel
theorem dX5_until_11 : decode cX5_until 11 = .ok (.iconst 1, 1) := by decide +kernel
theorem dX5_until_12 : decode cX5_until 12 = .ok (.iconst 4, 1) := by decide +kernel
theorem dX5_until_13 : decode cX5_until 13 = .ok (.invokestatic 19, 3) := by decide +kernel
theorem dX5_until_16 : decode cX5_until 16 = .ok (.ifCond .ne 5, 3) := by decide +kernel
theorem dX5_until_19 : decode cX5_until 19 = .ok (.iconst (-1), 1) := by decide +kernel
theorem dX5_until_20 : decode cX5_until 20 = .ok (.ireturn, 1) := by decide +kernel
theorem dX5_until_21 : decode cX5_until 21 = .ok (.aload_n 0, 1) := by decide +kernel
theorem dX5_until_22 : decode cX5_until 22 = .ok (.getfield 12, 3) := by decide +kernel
theorem dX5_until_25 : decode cX5_until 25 = .ok (.invokevirtual 100, 3) := by decide +kernel
theorem dX5_until_28 : decode cX5_until 28 = .ok (.invokevirtual 167, 3) := by decide +kernel
theorem dX5_until_31 : decode cX5_until 31 = .ok (.iconst 3, 1) := by decide +kernel
theorem dX5_until_32 : decode cX5_until 32 = .ok (.iload_n 1, 1) := by decide +kernel
theorem dX5_until_33 : decode cX5_until 33 = .ok (.iadd, 1) := by decide +kernel
theorem dX5_until_34 : decode cX5_until 34 = .ok (.idiv, 1) := by decide +kernel
theorem dX5_until_35 : decode cX5_until 35 = .ok (.ireturn, 1) := by decide +kernel
theorem dX5_after_0 : decode cX5_after 0 = .ok (.aload_n 0, 1) := by decide +kernel
theorem dX5_after_1 : decode cX5_after 1 = .ok (.getfield 12, 3) := by decide +kernel
theorem dX5_after_4 : decode cX5_after 4 = .ok (.invokevirtual 27, 3) := by decide +kernel
theorem dX5_after_7 : decode cX5_after 7 = .ok (.ifCond .eq 16, 3) := by decide +kernel
theorem dX5_after_10 : decode cX5_after 10 = .ok (.aload_n 0, 1) := by decide +kernel
theorem dX5_after_11 : decode cX5_after 11 = .ok (.getfield 12, 3) := by decide +kernel
theorem dX5_after_14 : decode cX5_after 14 = .ok (.invokevirtual 100, 3) := by decide +kernel
theorem dX5_after_17 : decode cX5_after 17 = .ok (.invokevirtual 170, 3) := by decide +kernel
theorem dX5_after_20 : decode cX5_after 20 = .ok (.goto 4, 3) := by decide +kernel
theorem dX5_after_23 : decode cX5_after 23 = .ok (.iconst (-1), 1) := by decide +kernel
theorem dX5_after_24 : decode cX5_after 24 = .ok (.ireturn, 1) := by decide +kernel
theorem dX5_costs_0 : decode cX5_costs 0 = .ok (.aload_n 0, 1) := by decide +kernel
theorem dX5_costs_1 : decode cX5_costs 1 = .ok (.getfield 12, 3) := by decide +kernel
theorem dX5_costs_4 : decode cX5_costs 4 = .ok (.invokevirtual 27, 3) := by decide +kernel
theorem dX5_costs_7 : decode cX5_costs 7 = .ok (.ifCond .eq 25, 3) := by decide +kernel
theorem dX5_costs_10 : decode cX5_costs 10 = .ok (.aload_n 0, 1) := by decide +kernel
theorem dX5_costs_11 : decode cX5_costs 11 = .ok (.getfield 12, 3) := by decide +kernel
theorem dX5_costs_14 : decode cX5_costs 14 = .ok (.getfield 58, 3) := by decide +kernel
theorem dX5_costs_17 : decode cX5_costs 17 = .ok (.getfield 62, 3) := by decide +kernel
theorem dX5_costs_20 : decode cX5_costs 20 = .ok (.ifCond .ne 12, 3) := by decide +kernel
theorem dX5_costs_23 : decode cX5_costs 23 = .ok (.iload_n 1, 1) := by decide +kernel
theorem dX5_costs_24 : decode cX5_costs 24 = .ok (.iconst 1, 1) := by decide +kernel
theorem dX5_costs_25 : decode cX5_costs 25 = .ok (.iconst 4, 1) := by decide +kernel
theorem dX5_costs_26 : decode cX5_costs 26 = .ok (.invokestatic 19, 3) := by decide +kernel
theorem dX5_costs_29 : decode cX5_costs 29 = .ok (.ifCond .ne 5, 3) := by decide +kernel
theorem dX5_costs_32 : decode cX5_costs 32 = .ok (.iconst (-1), 1) := by decide +kernel
theorem dX5_costs_33 : decode cX5_costs 33 = .ok (.ireturn, 1) := by decide +kernel
theorem dX5_costs_34 : decode cX5_costs 34 = .ok (.aload_n 0, 1) := by decide +kernel
theorem dX5_costs_35 : decode cX5_costs 35 = .ok (.getfield 12, 3) := by decide +kernel
theorem dX5_costs_38 : decode cX5_costs 38 = .ok (.iconst 3, 1) := by decide +kernel
theorem dX5_costs_39 : decode cX5_costs 39 = .ok (.iload_n 1, 1) := by decide +kernel
theorem dX5_costs_40 : decode cX5_costs 40 = .ok (.iadd, 1) := by decide +kernel
theorem dX5_costs_41 : decode cX5_costs 41 = .ok (.invokevirtual 173, 3) := by decide +kernel
theorem dX5_costs_44 : decode cX5_costs 44 = .ok (.ireturn, 1) := by decide +kernel
theorem dX5_torn_0 : decode cX5_torn 0 = .ok (.aload_n 0, 1) := by decide +kernel
theorem dX5_torn_1 : decode cX5_torn 1 = .ok (.getfield 12, 3) := by decide +kernel
theorem dX5_torn_4 : decode cX5_torn 4 = .ok (.invokevirtual 27, 3) := by decide +kernel
theorem dX5_torn_7 : decode cX5_torn 7 = .ok (.ifCond .eq 24, 3) := by decide +kernel
theorem dX5_torn_10 : decode cX5_torn 10 = .ok (.aload_n 0, 1) := by decide +kernel
theorem dX5_torn_11 : decode cX5_torn 11 = .ok (.getfield 12, 3) := by decide +kernel
theorem dX5_torn_14 : decode cX5_torn 14 = .ok (.getfield 58, 3) := by decide +kernel
theorem dX5_torn_17 : decode cX5_torn 17 = .ok (.getfield 62, 3) := by decide +kernel
theorem dX5_torn_20 : decode cX5_torn 20 = .ok (.ifCond .ne 11, 3) := by decide +kernel
theorem dX5_torn_23 : decode cX5_torn 23 = .ok (.iload_n 1, 1) := by decide +kernel
theorem dX5_torn_24 : decode cX5_torn 24 = .ok (.iload_n 3, 1) := by decide +kernel
theorem dX5_torn_25 : decode cX5_torn 25 = .ok (.invokestatic 55, 3) := by decide +kernel
theorem dX5_torn_28 : decode cX5_torn 28 = .ok (.ifCond .ne 7, 3) := by decide +kernel
theorem dX5_torn_31 : decode cX5_torn 31 = .ok (.ldc2_w 98, 3) := by decide +kernel
theorem dX5_torn_34 : decode cX5_torn 34 = .ok (.lreturn, 1) := by decide +kernel
theorem dX5_torn_35 : decode cX5_torn 35 = .ok (.iload 4, 2) := by decide +kernel
theorem dX5_torn_37 : decode cX5_torn 37 = .ok (.iconst 1, 1) := by decide +kernel
theorem dX5_torn_38 : decode cX5_torn 38 = .ok (.aload_n 0, 1) := by decide +kernel
theorem dX5_torn_39 : decode cX5_torn 39 = .ok (.getfield 12, 3) := by decide +kernel
theorem dX5_torn_42 : decode cX5_torn 42 = .ok (.iconst 3, 1) := by decide +kernel
theorem dX5_torn_43 : decode cX5_torn 43 = .ok (.iload_n 3, 1) := by decide +kernel
theorem dX5_torn_44 : decode cX5_torn 44 = .ok (.iadd, 1) := by decide +kernel
theorem dX5_torn_45 : decode cX5_torn 45 = .ok (.invokevirtual 173, 3) := by decide +kernel
theorem dX5_torn_48 : decode cX5_torn 48 = .ok (.invokestatic 19, 3) := by decide +kernel
theorem dX5_torn_51 : decode cX5_torn 51 = .ok (.ifCond .eq 25, 3) := by decide +kernel
theorem dX5_torn_54 : decode cX5_torn 54 = .ok (.iload 5, 2) := by decide +kernel
theorem dX5_torn_56 : decode cX5_torn 56 = .ok (.iconst 0, 1) := by decide +kernel
theorem dX5_torn_57 : decode cX5_torn 57 = .ok (.sipush 255, 3) := by decide +kernel
theorem dX5_torn_60 : decode cX5_torn 60 = .ok (.invokestatic 19, 3) := by decide +kernel
theorem dX5_torn_63 : decode cX5_torn 63 = .ok (.ifCond .eq 13, 3) := by decide +kernel
theorem dX5_torn_66 : decode cX5_torn 66 = .ok (.iload 6, 2) := by decide +kernel
theorem dX5_torn_68 : decode cX5_torn 68 = .ok (.iconst 0, 1) := by decide +kernel
theorem dX5_torn_69 : decode cX5_torn 69 = .ok (.iconst 3, 1) := by decide +kernel
theorem dX5_torn_70 : decode cX5_torn 70 = .ok (.invokestatic 19, 3) := by decide +kernel
theorem dX5_torn_73 : decode cX5_torn 73 = .ok (.ifCond .ne 7, 3) := by decide +kernel
theorem dX5_torn_76 : decode cX5_torn 76 = .ok (.ldc2_w 98, 3) := by decide +kernel
theorem dX5_torn_79 : decode cX5_torn 79 = .ok (.lreturn, 1) := by decide +kernel
theorem dX5_torn_80 : decode cX5_torn 80 = .ok (.aload_n 0, 1) := by decide +kernel
theorem dX5_torn_81 : decode cX5_torn 81 = .ok (.getfield 16, 3) := by decide +kernel
theorem dX5_torn_84 : decode cX5_torn 84 = .ok (.aload_n 0, 1) := by decide +kernel
theorem dX5_torn_85 : decode cX5_torn 85 = .ok (.getfield 12, 3) := by decide +kernel
theorem dX5_torn_88 : decode cX5_torn 88 = .ok (.invokevirtual 176, 3) := by decide +kernel
theorem dX5_torn_91 : decode cX5_torn 91 = .ok (.aload_n 0, 1) := by decide +kernel
theorem dX5_torn_92 : decode cX5_torn 92 = .ok (.getfield 16, 3) := by decide +kernel
theorem dX5_torn_95 : decode cX5_torn 95 = .ok (.getfield 38, 3) := by decide +kernel
theorem dX5_torn_98 : decode cX5_torn 98 = .ok (.iload 4, 2) := by decide +kernel
theorem dX5_torn_100 : decode cX5_torn 100 = .ok (.iload 5, 2) := by decide +kernel
theorem dX5_torn_102 : decode cX5_torn 102 = .ok (.invokevirtual 42, 3) := by decide +kernel
theorem dX5_torn_105 : decode cX5_torn 105 = .ok (.aload_n 0, 1) := by decide +kernel
theorem dX5_torn_106 : decode cX5_torn 106 = .ok (.getfield 16, 3) := by decide +kernel
theorem dX5_torn_109 : decode cX5_torn 109 = .ok (.iload_n 1, 1) := by decide +kernel
theorem dX5_torn_110 : decode cX5_torn 110 = .ok (.iload_n 2, 1) := by decide +kernel
theorem dX5_torn_111 : decode cX5_torn 111 = .ok (.iload_n 3, 1) := by decide +kernel
theorem dX5_torn_112 : decode cX5_torn 112 = .ok (.invokevirtual 71, 3) := by decide +kernel
theorem dX5_torn_115 : decode cX5_torn 115 = .ok (.pop, 1) := by decide +kernel
theorem dX5_torn_116 : decode cX5_torn 116 = .ok (.aload_n 0, 1) := by decide +kernel
theorem dX5_torn_117 : decode cX5_torn 117 = .ok (.getfield 16, 3) := by decide +kernel
theorem dX5_torn_120 : decode cX5_torn 120 = .ok (.invokevirtual 31, 3) := by decide +kernel
theorem dX5_torn_123 : decode cX5_torn 123 = .ok (.istore 7, 2) := by decide +kernel
theorem dX5_torn_125 : decode cX5_torn 125 = .ok (.iload 6, 2) := by decide +kernel
theorem dX5_torn_127 : decode cX5_torn 127 = .ok (.tableswitch 61 0 2 #[25, 37, 49], 25) := by decide +kernel
theorem dX5_torn_152 : decode cX5_torn 152 = .ok (.aload_n 0, 1) := by decide +kernel
theorem dX5_torn_153 : decode cX5_torn 153 = .ok (.getfield 16, 3) := by decide +kernel
theorem dX5_torn_156 : decode cX5_torn 156 = .ok (.invokevirtual 100, 3) := by decide +kernel
theorem dX5_torn_159 : decode cX5_torn 159 = .ok (.iload_n 1, 1) := by decide +kernel
theorem dX5_torn_160 : decode cX5_torn 160 = .ok (.invokevirtual 104, 3) := by decide +kernel
theorem dX5_torn_163 : decode cX5_torn 163 = .ok (.lreturn, 1) := by decide +kernel
theorem dX5_torn_164 : decode cX5_torn 164 = .ok (.aload_n 0, 1) := by decide +kernel
theorem dX5_torn_165 : decode cX5_torn 165 = .ok (.getfield 16, 3) := by decide +kernel
theorem dX5_torn_168 : decode cX5_torn 168 = .ok (.invokevirtual 100, 3) := by decide +kernel
theorem dX5_torn_171 : decode cX5_torn 171 = .ok (.invokevirtual 167, 3) := by decide +kernel
theorem dX5_torn_174 : decode cX5_torn 174 = .ok (.i2l, 1) := by decide +kernel
theorem dX5_torn_175 : decode cX5_torn 175 = .ok (.lreturn, 1) := by decide +kernel
theorem dX5_torn_176 : decode cX5_torn 176 = .ok (.aload_n 0, 1) := by decide +kernel
theorem dX5_torn_177 : decode cX5_torn 177 = .ok (.getfield 16, 3) := by decide +kernel
theorem dX5_torn_180 : decode cX5_torn 180 = .ok (.getfield 38, 3) := by decide +kernel
theorem dX5_torn_183 : decode cX5_torn 183 = .ok (.getfield 180, 3) := by decide +kernel
theorem dX5_torn_186 : decode cX5_torn 186 = .ok (.i2l, 1) := by decide +kernel
theorem dX5_torn_187 : decode cX5_torn 187 = .ok (.lreturn, 1) := by decide +kernel
theorem dX5_torn_188 : decode cX5_torn 188 = .ok (.iload 7, 2) := by decide +kernel
theorem dX5_torn_190 : decode cX5_torn 190 = .ok (.i2l, 1) := by decide +kernel
theorem dX5_torn_191 : decode cX5_torn 191 = .ok (.lreturn, 1) := by decide +kernel
theorem dX5_history_0 : decode cX5_history 0 = .ok (.aload_n 0, 1) := by decide +kernel
theorem dX5_history_1 : decode cX5_history 1 = .ok (.getfield 12, 3) := by decide +kernel
theorem dX5_history_4 : decode cX5_history 4 = .ok (.invokevirtual 27, 3) := by decide +kernel
theorem dX5_history_7 : decode cX5_history 7 = .ok (.ifCond .eq 15, 3) := by decide +kernel
theorem dX5_history_10 : decode cX5_history 10 = .ok (.iload_n 1, 1) := by decide +kernel
theorem dX5_history_11 : decode cX5_history 11 = .ok (.invokestatic 95, 3) := by decide +kernel
theorem dX5_history_14 : decode cX5_history 14 = .ok (.ifCond .eq 8, 3) := by decide +kernel
theorem dX5_history_17 : decode cX5_history 17 = .ok (.iload_n 2, 1) := by decide +kernel
theorem dX5_history_18 : decode cX5_history 18 = .ok (.iconst (-1), 1) := by decide +kernel
theorem dX5_history_19 : decode cX5_history 19 = .ok (.if_icmp .ge 7, 3) := by decide +kernel
theorem dX5_history_22 : decode cX5_history 22 = .ok (.ldc2_w 98, 3) := by decide +kernel
theorem dX5_history_25 : decode cX5_history 25 = .ok (.lreturn, 1) := by decide +kernel
theorem dX5_history_26 : decode cX5_history 26 = .ok (.aload_n 0, 1) := by decide +kernel
theorem dX5_history_27 : decode cX5_history 27 = .ok (.getfield 12, 3) := by decide +kernel
theorem dX5_history_30 : decode cX5_history 30 = .ok (.invokevirtual 100, 3) := by decide +kernel
theorem dX5_history_33 : decode cX5_history 33 = .ok (.astore_n 3, 1) := by decide +kernel
theorem dX5_history_34 : decode cX5_history 34 = .ok (.iload_n 2, 1) := by decide +kernel
theorem dX5_history_35 : decode cX5_history 35 = .ok (.iconst (-1), 1) := by decide +kernel
theorem dX5_history_36 : decode cX5_history 36 = .ok (.if_icmp .ne 10, 3) := by decide +kernel
theorem dX5_history_39 : decode cX5_history 39 = .ok (.aload_n 3, 1) := by decide +kernel
theorem dX5_history_40 : decode cX5_history 40 = .ok (.iload_n 1, 1) := by decide +kernel
theorem dX5_history_41 : decode cX5_history 41 = .ok (.invokevirtual 183, 3) := by decide +kernel
theorem dX5_history_44 : decode cX5_history 44 = .ok (.i2l, 1) := by decide +kernel
theorem dX5_history_45 : decode cX5_history 45 = .ok (.lreturn, 1) := by decide +kernel
theorem dX5_history_46 : decode cX5_history 46 = .ok (.aload_n 3, 1) := by decide +kernel
theorem dX5_history_47 : decode cX5_history 47 = .ok (.iload_n 1, 1) := by decide +kernel
theorem dX5_history_48 : decode cX5_history 48 = .ok (.iload_n 2, 1) := by decide +kernel
theorem dX5_history_49 : decode cX5_history 49 = .ok (.invokevirtual 186, 3) := by decide +kernel
theorem dX5_history_52 : decode cX5_history 52 = .ok (.lreturn, 1) := by decide +kernel
theorem dX5_wears_0 : decode cX5_wears 0 = .ok (.aload_n 0, 1) := by decide +kernel
theorem dX5_wears_1 : decode cX5_wears 1 = .ok (.getfield 12, 3) := by decide +kernel
theorem dX5_wears_4 : decode cX5_wears 4 = .ok (.invokevirtual 27, 3) := by decide +kernel
theorem dX5_wears_7 : decode cX5_wears 7 = .ok (.ifCond .eq 23, 3) := by decide +kernel
theorem dX5_wears_10 : decode cX5_wears 10 = .ok (.iload_n 1, 1) := by decide +kernel
theorem dX5_wears_11 : decode cX5_wears 11 = .ok (.iconst 0, 1) := by decide +kernel
theorem dX5_wears_12 : decode cX5_wears 12 = .ok (.sipush 1000, 3) := by decide +kernel
theorem dX5_wears_15 : decode cX5_wears 15 = .ok (.invokestatic 19, 3) := by decide +kernel
theorem dX5_wears_18 : decode cX5_wears 18 = .ok (.ifCond .eq 12, 3) := by decide +kernel
theorem dX5_wears_21 : decode cX5_wears 21 = .ok (.iload_n 2, 1) := by decide +kernel
theorem dX5_wears_22 : decode cX5_wears 22 = .ok (.iconst 0, 1) := by decide +kernel
theorem dX5_wears_23 : decode cX5_wears 23 = .ok (.iconst 2, 1) := by decide +kernel
theorem dX5_wears_24 : decode cX5_wears 24 = .ok (.invokestatic 19, 3) := by decide +kernel
theorem dX5_wears_27 : decode cX5_wears 27 = .ok (.ifCond .ne 5, 3) := by decide +kernel
theorem dX5_wears_30 : decode cX5_wears 30 = .ok (.iconst (-1), 1) := by decide +kernel
theorem dX5_wears_31 : decode cX5_wears 31 = .ok (.ireturn, 1) := by decide +kernel
theorem dX5_wears_32 : decode cX5_wears 32 = .ok (.aload_n 0, 1) := by decide +kernel
theorem dX5_wears_33 : decode cX5_wears 33 = .ok (.getfield 16, 3) := by decide +kernel
theorem dX5_wears_36 : decode cX5_wears 36 = .ok (.aload_n 0, 1) := by decide +kernel
theorem dX5_wears_37 : decode cX5_wears 37 = .ok (.getfield 12, 3) := by decide +kernel
theorem dX5_wears_40 : decode cX5_wears 40 = .ok (.invokevirtual 176, 3) := by decide +kernel
theorem dX5_wears_43 : decode cX5_wears 43 = .ok (.aload_n 0, 1) := by decide +kernel
theorem dX5_wears_44 : decode cX5_wears 44 = .ok (.getfield 16, 3) := by decide +kernel
theorem dX5_wears_47 : decode cX5_wears 47 = .ok (.iload_n 1, 1) := by decide +kernel
theorem dX5_wears_48 : decode cX5_wears 48 = .ok (.invokevirtual 190, 3) := by decide +kernel
theorem dX5_wears_51 : decode cX5_wears 51 = .ok (.iload_n 2, 1) := by decide +kernel
theorem dX5_wears_52 : decode cX5_wears 52 = .ok (.iconst 2, 1) := by decide +kernel
theorem dX5_wears_53 : decode cX5_wears 53 = .ok (.if_icmp .ne 11, 3) := by decide +kernel
theorem dX5_wears_56 : decode cX5_wears 56 = .ok (.aload_n 0, 1) := by decide +kernel
theorem dX5_wears_57 : decode cX5_wears 57 = .ok (.getfield 16, 3) := by decide +kernel
theorem dX5_wears_60 : decode cX5_wears 60 = .ok (.getfield 139, 3) := by decide +kernel
theorem dX5_wears_63 : decode cX5_wears 63 = .ok (.ireturn, 1) := by decide +kernel
theorem dX5_wears_64 : decode cX5_wears 64 = .ok (.iload_n 2, 1) := by decide +kernel
theorem dX5_wears_65 : decode cX5_wears 65 = .ok (.ifCond .ne 16, 3) := by decide +kernel
theorem dX5_wears_68 : decode cX5_wears 68 = .ok (.aload_n 0, 1) := by decide +kernel
theorem dX5_wears_69 : decode cX5_wears 69 = .ok (.getfield 16, 3) := by decide +kernel
theorem dX5_wears_72 : decode cX5_wears 72 = .ok (.getfield 38, 3) := by decide +kernel
theorem dX5_wears_75 : decode cX5_wears 75 = .ok (.invokevirtual 194, 3) := by decide +kernel
theorem dX5_wears_78 : decode cX5_wears 78 = .ok (.goto 13, 3) := by decide +kernel
theorem dX5_wears_81 : decode cX5_wears 81 = .ok (.aload_n 0, 1) := by decide +kernel
theorem dX5_wears_82 : decode cX5_wears 82 = .ok (.getfield 16, 3) := by decide +kernel
theorem dX5_wears_85 : decode cX5_wears 85 = .ok (.getfield 38, 3) := by decide +kernel
theorem dX5_wears_88 : decode cX5_wears 88 = .ok (.invokevirtual 197, 3) := by decide +kernel
theorem dX5_wears_91 : decode cX5_wears 91 = .ok (.ireturn, 1) := by decide +kernel
theorem dX5_wear_0 : decode cX5_wear 0 = .ok (.aload_n 0, 1) := by decide +kernel
theorem dX5_wear_1 : decode cX5_wear 1 = .ok (.getfield 12, 3) := by decide +kernel
theorem dX5_wear_4 : decode cX5_wear 4 = .ok (.getfield 38, 3) := by decide +kernel
theorem dX5_wear_7 : decode cX5_wear 7 = .ok (.astore_n 2, 1) := by decide +kernel
theorem dX5_wear_8 : decode cX5_wear 8 = .ok (.iload_n 1, 1) := by decide +kernel
theorem dX5_wear_9 : decode cX5_wear 9 = .ok (.tableswitch 60 0 4 #[35, 40, 45, 50, 55], 35) := by decide +kernel
theorem dX5_wear_44 : decode cX5_wear 44 = .ok (.aload_n 2, 1) := by decide +kernel
theorem dX5_wear_45 : decode cX5_wear 45 = .ok (.invokevirtual 194, 3) := by decide +kernel
theorem dX5_wear_48 : decode cX5_wear 48 = .ok (.ireturn, 1) := by decide +kernel
theorem dX5_wear_49 : decode cX5_wear 49 = .ok (.aload_n 2, 1) := by decide +kernel
theorem dX5_wear_50 : decode cX5_wear 50 = .ok (.invokevirtual 197, 3) := by decide +kernel
theorem dX5_wear_53 : decode cX5_wear 53 = .ok (.ireturn, 1) := by decide +kernel
theorem dX5_wear_54 : decode cX5_wear 54 = .ok (.aload_n 2, 1) := by decide +kernel
theorem dX5_wear_55 : decode cX5_wear 55 = .ok (.invokevirtual 200, 3) := by decide +kernel
theorem dX5_wear_58 : decode cX5_wear 58 = .ok (.ireturn, 1) := by decide +kernel
theorem dX5_wear_59 : decode cX5_wear 59 = .ok (.aload_n 2, 1) := by decide +kernel
theorem dX5_wear_60 : decode cX5_wear 60 = .ok (.getfield 203, 3) := by decide +kernel
theorem dX5_wear_63 : decode cX5_wear 63 = .ok (.ireturn, 1) := by decide +kernel
theorem dX5_wear_64 : decode cX5_wear 64 = .ok (.aload_n 2, 1) := by decide +kernel
theorem dX5_wear_65 : decode cX5_wear 65 = .ok (.invokestatic 206, 3) := by decide +kernel
theorem dX5_wear_68 : decode cX5_wear 68 = .ok (.ireturn, 1) := by decide +kernel
theorem dX5_wear_69 : decode cX5_wear 69 = .ok (.iconst (-1), 1) := by decide +kernel
theorem dX5_wear_70 : decode cX5_wear 70 = .ok (.ireturn, 1) := by decide +kernel
theorem dX5_tags_0 : decode cX5_tags 0 = .ok (.aload_n 0, 1) := by decide +kernel
theorem dX5_tags_1 : decode cX5_tags 1 = .ok (.getfield 12, 3) := by decide +kernel
theorem dX5_tags_4 : decode cX5_tags 4 = .ok (.invokevirtual 27, 3) := by decide +kernel
theorem dX5_tags_7 : decode cX5_tags 7 = .ok (.ifCond .eq 16, 3) := by decide +kernel
theorem dX5_tags_10 : decode cX5_tags 10 = .ok (.aload_n 0, 1) := by decide +kernel
theorem dX5_tags_11 : decode cX5_tags 11 = .ok (.getfield 12, 3) := by decide +kernel
theorem dX5_tags_14 : decode cX5_tags 14 = .ok (.invokevirtual 100, 3) := by decide +kernel
theorem dX5_tags_17 : decode cX5_tags 17 = .ok (.invokevirtual 210, 3) := by decide +kernel
theorem dX5_tags_20 : decode cX5_tags 20 = .ok (.goto 6, 3) := by decide +kernel
theorem dX5_tags_23 : decode cX5_tags 23 = .ok (.ldc2_w 98, 3) := by decide +kernel
theorem dX5_tags_26 : decode cX5_tags 26 = .ok (.lreturn, 1) := by decide +kernel
theorem dX5_count_0 : decode cX5_count 0 = .ok (.iload_n 1, 1) := by decide +kernel
theorem dX5_count_1 : decode cX5_count 1 = .ok (.tableswitch 151 0 7 #[47, 58, 69, 85, 93, 121, 132, 143], 47) := by decide +kernel
theorem dX5_count_48 : decode cX5_count 48 = .ok (.aload_n 0, 1) := by decide +kernel
theorem dX5_count_49 : decode cX5_count 49 = .ok (.getfield 12, 3) := by decide +kernel
theorem dX5_count_52 : decode cX5_count 52 = .ok (.getfield 38, 3) := by decide +kernel
theorem dX5_count_55 : decode cX5_count 55 = .ok (.getfield 214, 3) := by decide +kernel
theorem dX5_count_58 : decode cX5_count 58 = .ok (.ireturn, 1) := by decide +kernel
theorem dX5_count_59 : decode cX5_count 59 = .ok (.aload_n 0, 1) := by decide +kernel
theorem dX5_count_60 : decode cX5_count 60 = .ok (.getfield 12, 3) := by decide +kernel
theorem dX5_count_63 : decode cX5_count 63 = .ok (.getfield 38, 3) := by decide +kernel
theorem dX5_count_66 : decode cX5_count 66 = .ok (.getfield 217, 3) := by decide +kernel
theorem dX5_count_69 : decode cX5_count 69 = .ok (.ireturn, 1) := by decide +kernel
theorem dX5_count_70 : decode cX5_count 70 = .ok (.aload_n 0, 1) := by decide +kernel
theorem dX5_count_71 : decode cX5_count 71 = .ok (.getfield 12, 3) := by decide +kernel
theorem dX5_count_74 : decode cX5_count 74 = .ok (.invokevirtual 27, 3) := by decide +kernel
theorem dX5_count_77 : decode cX5_count 77 = .ok (.ifCond .eq 7, 3) := by decide +kernel
theorem dX5_count_80 : decode cX5_count 80 = .ok (.iconst 1, 1) := by decide +kernel
theorem dX5_count_81 : decode cX5_count 81 = .ok (.goto 4, 3) := by decide +kernel
theorem dX5_count_84 : decode cX5_count 84 = .ok (.iconst 0, 1) := by decide +kernel
theorem dX5_count_85 : decode cX5_count 85 = .ok (.ireturn, 1) := by decide +kernel
theorem dX5_count_86 : decode cX5_count 86 = .ok (.aload_n 0, 1) := by decide +kernel
theorem dX5_count_87 : decode cX5_count 87 = .ok (.getfield 12, 3) := by decide +kernel
theorem dX5_count_90 : decode cX5_count 90 = .ok (.getfield 139, 3) := by decide +kernel
theorem dX5_count_93 : decode cX5_count 93 = .ok (.ireturn, 1) := by decide +kernel
theorem dX5_count_94 : decode cX5_count 94 = .ok (.aload_n 0, 1) := by decide +kernel
theorem dX5_count_95 : decode cX5_count 95 = .ok (.getfield 12, 3) := by decide +kernel
theorem dX5_count_98 : decode cX5_count 98 = .ok (.getfield 58, 3) := by decide +kernel
theorem dX5_count_101 : decode cX5_count 101 = .ok (.getfield 62, 3) := by decide +kernel
theorem dX5_count_104 : decode cX5_count 104 = .ok (.ifCond .eq 16, 3) := by decide +kernel
theorem dX5_count_107 : decode cX5_count 107 = .ok (.aload_n 0, 1) := by decide +kernel
theorem dX5_count_108 : decode cX5_count 108 = .ok (.getfield 12, 3) := by decide +kernel
theorem dX5_count_111 : decode cX5_count 111 = .ok (.getfield 58, 3) := by decide +kernel
theorem dX5_count_114 : decode cX5_count 114 = .ok (.getfield 85, 3) := by decide +kernel
theorem dX5_count_117 : decode cX5_count 117 = .ok (.goto 4, 3) := by decide +kernel
theorem dX5_count_120 : decode cX5_count 120 = .ok (.iconst (-1), 1) := by decide +kernel
theorem dX5_count_121 : decode cX5_count 121 = .ok (.ireturn, 1) := by decide +kernel
theorem dX5_count_122 : decode cX5_count 122 = .ok (.aload_n 0, 1) := by decide +kernel
theorem dX5_count_123 : decode cX5_count 123 = .ok (.getfield 12, 3) := by decide +kernel
theorem dX5_count_126 : decode cX5_count 126 = .ok (.getfield 38, 3) := by decide +kernel
theorem dX5_count_129 : decode cX5_count 129 = .ok (.getfield 220, 3) := by decide +kernel
theorem dX5_count_132 : decode cX5_count 132 = .ok (.ireturn, 1) := by decide +kernel
theorem dX5_count_133 : decode cX5_count 133 = .ok (.aload_n 0, 1) := by decide +kernel
theorem dX5_count_134 : decode cX5_count 134 = .ok (.getfield 12, 3) := by decide +kernel
theorem dX5_count_137 : decode cX5_count 137 = .ok (.getfield 38, 3) := by decide +kernel
theorem dX5_count_140 : decode cX5_count 140 = .ok (.getfield 223, 3) := by decide +kernel
theorem dX5_count_143 : decode cX5_count 143 = .ok (.ireturn, 1) := by decide +kernel
theorem dX5_count_144 : decode cX5_count 144 = .ok (.aload_n 0, 1) := by decide +kernel
theorem dX5_count_145 : decode cX5_count 145 = .ok (.getfield 12, 3) := by decide +kernel
theorem dX5_count_148 : decode cX5_count 148 = .ok (.getfield 226, 3) := by decide +kernel
theorem dX5_count_151 : decode cX5_count 151 = .ok (.ireturn, 1) := by decide +kernel
theorem dX5_count_152 : decode cX5_count 152 = .ok (.iconst (-1), 1) := by decide +kernel
theorem dX5_count_153 : decode cX5_count 153 = .ok (.ireturn, 1) := by decide +kernel
theorem dX5_within_0 : decode cX5_within 0 = .ok (.iload_n 0, 1) := by decide +kernel
theorem dX5_within_1 : decode cX5_within 1 = .ok (.iload_n 1, 1) := by decide +kernel
theorem dX5_within_2 : decode cX5_within 2 = .ok (.if_icmp .lt 12, 3) := by decide +kernel
theorem dX5_within_5 : decode cX5_within 5 = .ok (.iload_n 0, 1) := by decide +kernel
theorem dX5_within_6 : decode cX5_within 6 = .ok (.iload_n 2, 1) := by decide +kernel
theorem dX5_within_7 : decode cX5_within 7 = .ok (.if_icmp .gt 7, 3) := by decide +kernel
theorem dX5_within_10 : decode cX5_within 10 = .ok (.iconst 1, 1) := by decide +kernel
theorem dX5_within_11 : decode cX5_within 11 = .ok (.goto 4, 3) := by decide +kernel
theorem dX5_within_14 : decode cX5_within 14 = .ok (.iconst 0, 1) := by decide +kernel
theorem dX5_within_15 : decode cX5_within 15 = .ok (.ireturn, 1) := by decide +kernel
theorem dX5_isTag_0 : decode cX5_isTag 0 = .ok (.iload_n 0, 1) := by decide +kernel
theorem dX5_isTag_1 : decode cX5_isTag 1 = .ok (.ifCond .lt 13, 3) := by decide +kernel
theorem dX5_isTag_4 : decode cX5_isTag 4 = .ok (.iload_n 0, 1) := by decide +kernel
theorem dX5_isTag_5 : decode cX5_isTag 5 = .ok (.bipush 48, 2) := by decide +kernel
theorem dX5_isTag_7 : decode cX5_isTag 7 = .ok (.if_icmp .ge 7, 3) := by decide +kernel
theorem dX5_isTag_10 : decode cX5_isTag 10 = .ok (.iconst 1, 1) := by decide +kernel
theorem dX5_isTag_11 : decode cX5_isTag 11 = .ok (.goto 4, 3) := by decide +kernel
theorem dX5_isTag_14 : decode cX5_isTag 14 = .ok (.iconst 0, 1) := by decide +kernel
theorem dX5_isTag_15 : decode cX5_isTag 15 = .ok (.ireturn, 1) := by decide +kernel
theorem dX5_isSetting_0 : decode cX5_isSetting 0 = .ok (.iload_n 0, 1) := by decide +kernel
theorem dX5_isSetting_1 : decode cX5_isSetting 1 = .ok (.iconst 0, 1) := by decide +kernel
theorem dX5_isSetting_2 : decode cX5_isSetting 2 = .ok (.bipush 31, 2) := by decide +kernel
theorem dX5_isSetting_4 : decode cX5_isSetting 4 = .ok (.invokestatic 19, 3) := by decide +kernel
theorem dX5_isSetting_7 : decode cX5_isSetting 7 = .ok (.ifCond .eq 16, 3) := by decide +kernel
theorem dX5_isSetting_10 : decode cX5_isSetting 10 = .ok (.iload_n 1, 1) := by decide +kernel
theorem dX5_isSetting_11 : decode cX5_isSetting 11 = .ok (.iconst 1, 1) := by decide +kernel
theorem dX5_isSetting_12 : decode cX5_isSetting 12 = .ok (.iconst 4, 1) := by decide +kernel
theorem dX5_isSetting_13 : decode cX5_isSetting 13 = .ok (.invokestatic 19, 3) := by decide +kernel
theorem dX5_isSetting_16 : decode cX5_isSetting 16 = .ok (.ifCond .eq 7, 3) := by decide +kernel
theorem dX5_isSetting_19 : decode cX5_isSetting 19 = .ok (.iconst 1, 1) := by decide +kernel
theorem dX5_isSetting_20 : decode cX5_isSetting 20 = .ok (.goto 4, 3) := by decide +kernel
theorem dX5_isSetting_23 : decode cX5_isSetting 23 = .ok (.iconst 0, 1) := by decide +kernel
theorem dX5_isSetting_24 : decode cX5_isSetting 24 = .ok (.ireturn, 1) := by decide +kernel
theorem dX5_checkOf_0 : decode cX5_checkOf 0 = .ok (.iload_n 0, 1) := by decide +kernel
theorem dX5_checkOf_1 : decode cX5_checkOf 1 = .ok (.bipush 85, 2) := by decide +kernel
theorem dX5_checkOf_3 : decode cX5_checkOf 3 = .ok (.iadd, 1) := by decide +kernel
theorem dX5_checkOf_4 : decode cX5_checkOf 4 = .ok (.sipush 251, 3) := by decide +kernel
theorem dX5_checkOf_7 : decode cX5_checkOf 7 = .ok (.irem, 1) := by decide +kernel
theorem dX5_checkOf_8 : decode cX5_checkOf 8 = .ok (.ireturn, 1) := by decide +kernel
theorem dX5_unevenness_0 : decode cX5_unevenness 0 = .ok (.aload_n 0, 1) := by decide +kernel
theorem dX5_unevenness_1 : decode cX5_unevenness 1 = .ok (.invokevirtual 200, 3) := by decide +kernel
theorem dX5_unevenness_4 : decode cX5_unevenness 4 = .ok (.istore_n 1, 1) := by decide +kernel
theorem dX5_unevenness_5 : decode cX5_unevenness 5 = .ok (.iload_n 1, 1) := by decide +kernel
theorem dX5_unevenness_6 : decode cX5_unevenness 6 = .ok (.ifCond .le 10, 3) := by decide +kernel
theorem dX5_unevenness_9 : decode cX5_unevenness 9 = .ok (.aload_n 0, 1) := by decide +kernel
theorem dX5_unevenness_10 : decode cX5_unevenness 10 = .ok (.getfield 214, 3) := by decide +kernel
theorem dX5_unevenness_13 : decode cX5_unevenness 13 = .ok (.ifCond .gt 5, 3) := by decide +kernel
theorem dX5_unevenness_16 : decode cX5_unevenness 16 = .ok (.iconst 0, 1) := by decide +kernel
theorem dX5_unevenness_17 : decode cX5_unevenness 17 = .ok (.ireturn, 1) := by decide +kernel
theorem dX5_unevenness_18 : decode cX5_unevenness 18 = .ok (.iload_n 1, 1) := by decide +kernel
theorem dX5_unevenness_19 : decode cX5_unevenness 19 = .ok (.i2f, 1) := by decide +kernel
theorem dX5_unevenness_20 : decode cX5_unevenness 20 = .ok (.aload_n 0, 1) := by decide +kernel
theorem dX5_unevenness_21 : decode cX5_unevenness 21 = .ok (.getfield 214, 3) := by decide +kernel
theorem dX5_unevenness_24 : decode cX5_unevenness 24 = .ok (.i2f, 1) := by decide +kernel
theorem dX5_unevenness_25 : decode cX5_unevenness 25 = .ok (.fdiv, 1) := by decide +kernel
theorem dX5_unevenness_26 : decode cX5_unevenness 26 = .ok (.fstore_n 2, 1) := by decide +kernel
theorem dX5_unevenness_27 : decode cX5_unevenness 27 = .ok (.aload_n 0, 1) := by decide +kernel
theorem dX5_unevenness_28 : decode cX5_unevenness 28 = .ok (.invokevirtual 194, 3) := by decide +kernel
theorem dX5_unevenness_31 : decode cX5_unevenness 31 = .ok (.i2f, 1) := by decide +kernel
theorem dX5_unevenness_32 : decode cX5_unevenness 32 = .ok (.fload_n 2, 1) := by decide +kernel
theorem dX5_unevenness_33 : decode cX5_unevenness 33 = .ok (.fdiv, 1) := by decide +kernel
theorem dX5_unevenness_34 : decode cX5_unevenness 34 = .ok (.invokestatic 229, 3) := by decide +kernel
theorem dX5_unevenness_37 : decode cX5_unevenness 37 = .ok (.ireturn, 1) := by decide +kernel
theorem dX5_bitsOf_0 : decode cX5_bitsOf 0 = .ok (.fload_n 0, 1) := by decide +kernel
theorem dX5_bitsOf_1 : decode cX5_bitsOf 1 = .ok (.fstore_n 1, 1) := by decide +kernel
theorem dX5_bitsOf_2 : decode cX5_bitsOf 2 = .ok (.bipush 127, 2) := by decide +kernel
theorem dX5_bitsOf_4 : decode cX5_bitsOf 4 = .ok (.istore_n 2, 1) := by decide +kernel
theorem dX5_bitsOf_5 : decode cX5_bitsOf 5 = .ok (.iconst 0, 1) := by decide +kernel
theorem dX5_bitsOf_6 : decode cX5_bitsOf 6 = .ok (.istore_n 3, 1) := by decide +kernel
theorem dX5_bitsOf_7 : decode cX5_bitsOf 7 = .ok (.iload_n 3, 1) := by decide +kernel
theorem dX5_bitsOf_8 : decode cX5_bitsOf 8 = .ok (.bipush 126, 2) := by decide +kernel
theorem dX5_bitsOf_10 : decode cX5_bitsOf 10 = .ok (.if_icmp .ge 22, 3) := by decide +kernel
theorem dX5_bitsOf_13 : decode cX5_bitsOf 13 = .ok (.fload_n 1, 1) := by decide +kernel
theorem dX5_bitsOf_14 : decode cX5_bitsOf 14 = .ok (.fconst 2, 1) := by decide +kernel
theorem dX5_bitsOf_15 : decode cX5_bitsOf 15 = .ok (.fcmp .l, 1) := by decide +kernel
theorem dX5_bitsOf_16 : decode cX5_bitsOf 16 = .ok (.ifCond .lt 16, 3) := by decide +kernel
theorem dX5_bitsOf_19 : decode cX5_bitsOf 19 = .ok (.fload_n 1, 1) := by decide +kernel
theorem dX5_bitsOf_20 : decode cX5_bitsOf 20 = .ok (.fconst 2, 1) := by decide +kernel
theorem dX5_bitsOf_21 : decode cX5_bitsOf 21 = .ok (.fdiv, 1) := by decide +kernel
theorem dX5_bitsOf_22 : decode cX5_bitsOf 22 = .ok (.fstore_n 1, 1) := by decide +kernel
theorem dX5_bitsOf_23 : decode cX5_bitsOf 23 = .ok (.iinc 2 1, 3) := by decide +kernel
theorem dX5_bitsOf_26 : decode cX5_bitsOf 26 = .ok (.iinc 3 1, 3) := by decide +kernel
theorem dX5_bitsOf_29 : decode cX5_bitsOf 29 = .ok (.goto (-22), 3) := by decide +kernel
theorem dX5_bitsOf_32 : decode cX5_bitsOf 32 = .ok (.iconst 0, 1) := by decide +kernel
theorem dX5_bitsOf_33 : decode cX5_bitsOf 33 = .ok (.istore_n 3, 1) := by decide +kernel
theorem dX5_bitsOf_34 : decode cX5_bitsOf 34 = .ok (.iload_n 3, 1) := by decide +kernel
theorem dX5_bitsOf_35 : decode cX5_bitsOf 35 = .ok (.bipush 126, 2) := by decide +kernel
theorem dX5_bitsOf_37 : decode cX5_bitsOf 37 = .ok (.if_icmp .ge 22, 3) := by decide +kernel
theorem dX5_bitsOf_40 : decode cX5_bitsOf 40 = .ok (.fload_n 1, 1) := by decide +kernel
theorem dX5_bitsOf_41 : decode cX5_bitsOf 41 = .ok (.fconst 1, 1) := by decide +kernel
theorem dX5_bitsOf_42 : decode cX5_bitsOf 42 = .ok (.fcmp .g, 1) := by decide +kernel
theorem dX5_bitsOf_43 : decode cX5_bitsOf 43 = .ok (.ifCond .ge 16, 3) := by decide +kernel
theorem dX5_bitsOf_46 : decode cX5_bitsOf 46 = .ok (.fload_n 1, 1) := by decide +kernel
theorem dX5_bitsOf_47 : decode cX5_bitsOf 47 = .ok (.fconst 2, 1) := by decide +kernel
theorem dX5_bitsOf_48 : decode cX5_bitsOf 48 = .ok (.fmul, 1) := by decide +kernel
theorem dX5_bitsOf_49 : decode cX5_bitsOf 49 = .ok (.fstore_n 1, 1) := by decide +kernel
theorem dX5_bitsOf_50 : decode cX5_bitsOf 50 = .ok (.iinc 2 (-1), 3) := by decide +kernel
theorem dX5_bitsOf_53 : decode cX5_bitsOf 53 = .ok (.iinc 3 1, 3) := by decide +kernel
theorem dX5_bitsOf_56 : decode cX5_bitsOf 56 = .ok (.goto (-22), 3) := by decide +kernel
theorem dX5_bitsOf_59 : decode cX5_bitsOf 59 = .ok (.iload_n 2, 1) := by decide +kernel
theorem dX5_bitsOf_60 : decode cX5_bitsOf 60 = .ok (.bipush 23, 2) := by decide +kernel
theorem dX5_bitsOf_62 : decode cX5_bitsOf 62 = .ok (.ishl, 1) := by decide +kernel
theorem dX5_bitsOf_63 : decode cX5_bitsOf 63 = .ok (.fload_n 1, 1) := by decide +kernel
theorem dX5_bitsOf_64 : decode cX5_bitsOf 64 = .ok (.fconst 1, 1) := by decide +kernel
theorem dX5_bitsOf_65 : decode cX5_bitsOf 65 = .ok (.fsub, 1) := by decide +kernel
theorem dX5_bitsOf_66 : decode cX5_bitsOf 66 = .ok (.ldc 233, 2) := by decide +kernel
theorem dX5_bitsOf_68 : decode cX5_bitsOf 68 = .ok (.fmul, 1) := by decide +kernel
theorem dX5_bitsOf_69 : decode cX5_bitsOf 69 = .ok (.f2i, 1) := by decide +kernel
theorem dX5_bitsOf_70 : decode cX5_bitsOf 70 = .ok (.iadd, 1) := by decide +kernel
theorem dX5_bitsOf_71 : decode cX5_bitsOf 71 = .ok (.ireturn, 1) := by decide +kernel
