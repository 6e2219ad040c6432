theorem dX2_init_0 : decode cX2_init 0 = .ok (.aload_n 0, 1) := by decide +kernel
theorem dX2_init_1 : decode cX2_init 1 = .ok (.invokespecial 3, 3) := by decide +kernel
theorem dX2_init_4 : decode cX2_init 4 = .ok (.aload_n 0, 1) := by decide +kernel
theorem dX2_init_5 : decode cX2_init 5 = .ok (.bipush 7, 2) := by decide +kernel
theorem dX2_init_7 : decode cX2_init 7 = .ok (.newarray .int, 2) := by decide +kernel
theorem dX2_init_9 : decode cX2_init 9 = .ok (.putfield 9, 3) := by decide +kernel
theorem dX2_init_12 : decode cX2_init 12 = .ok (.return_, 1) := by decide +kernel
theorem dX2_fillSetting_0 : decode cX2_fillSetting 0 = .ok (.aload_n 0, 1) := by decide +kernel
theorem dX2_fillSetting_1 : decode cX2_fillSetting 1 = .ok (.iload_n 1, 1) := by decide +kernel
theorem dX2_fillSetting_2 : decode cX2_fillSetting 2 = .ok (.iload_n 2, 1) := by decide +kernel
theorem dX2_fillSetting_3 : decode cX2_fillSetting 3 = .ok (.iload 4, 2) := by decide +kernel
theorem dX2_fillSetting_5 : decode cX2_fillSetting 5 = .ok (.iadd, 1) := by decide +kernel
theorem dX2_fillSetting_6 : decode cX2_fillSetting 6 = .ok (.invokevirtual 15, 3) := by decide +kernel
theorem dX2_fillSetting_9 : decode cX2_fillSetting 9 = .ok (.aload_n 0, 1) := by decide +kernel
theorem dX2_fillSetting_10 : decode cX2_fillSetting 10 = .ok (.iload_n 3, 1) := by decide +kernel
theorem dX2_fillSetting_11 : decode cX2_fillSetting 11 = .ok (.iload 4, 2) := by decide +kernel
theorem dX2_fillSetting_13 : decode cX2_fillSetting 13 = .ok (.invokevirtual 19, 3) := by decide +kernel
theorem dX2_fillSetting_16 : decode cX2_fillSetting 16 = .ok (.aload_n 0, 1) := by decide +kernel
theorem dX2_fillSetting_17 : decode cX2_fillSetting 17 = .ok (.aload_n 0, 1) := by decide +kernel
theorem dX2_fillSetting_18 : decode cX2_fillSetting 18 = .ok (.getfield 22, 3) := by decide +kernel
theorem dX2_fillSetting_21 : decode cX2_fillSetting 21 = .ok (.invokestatic 26, 3) := by decide +kernel
theorem dX2_fillSetting_24 : decode cX2_fillSetting 24 = .ok (.invokevirtual 30, 3) := by decide +kernel
theorem dX2_fillSetting_27 : decode cX2_fillSetting 27 = .ok (.return_, 1) := by decide +kernel
theorem dX2_fillCounter_0 : decode cX2_fillCounter 0 = .ok (.aload_n 0, 1) := by decide +kernel
theorem dX2_fillCounter_1 : decode cX2_fillCounter 1 = .ok (.iload_n 1, 1) := by decide +kernel
theorem dX2_fillCounter_2 : decode cX2_fillCounter 2 = .ok (.bipush 43, 2) := by decide +kernel
theorem dX2_fillCounter_4 : decode cX2_fillCounter 4 = .ok (.invokevirtual 15, 3) := by decide +kernel
theorem dX2_fillCounter_7 : decode cX2_fillCounter 7 = .ok (.aload_n 0, 1) := by decide +kernel
theorem dX2_fillCounter_8 : decode cX2_fillCounter 8 = .ok (.iload_n 2, 1) := by decide +kernel
theorem dX2_fillCounter_9 : decode cX2_fillCounter 9 = .ok (.iconst 3, 1) := by decide +kernel
theorem dX2_fillCounter_10 : decode cX2_fillCounter 10 = .ok (.invokevirtual 19, 3) := by decide +kernel
theorem dX2_fillCounter_13 : decode cX2_fillCounter 13 = .ok (.aload_n 0, 1) := by decide +kernel
theorem dX2_fillCounter_14 : decode cX2_fillCounter 14 = .ok (.aload_n 0, 1) := by decide +kernel
theorem dX2_fillCounter_15 : decode cX2_fillCounter 15 = .ok (.getfield 22, 3) := by decide +kernel
theorem dX2_fillCounter_18 : decode cX2_fillCounter 18 = .ok (.invokestatic 26, 3) := by decide +kernel
theorem dX2_fillCounter_21 : decode cX2_fillCounter 21 = .ok (.invokevirtual 30, 3) := by decide +kernel
theorem dX2_fillCounter_24 : decode cX2_fillCounter 24 = .ok (.return_, 1) := by decide +kernel
theorem dX2_fillCommit_0 : decode cX2_fillCommit 0 = .ok (.aload_n 0, 1) := by decide +kernel
theorem dX2_fillCommit_1 : decode cX2_fillCommit 1 = .ok (.bipush 63, 2) := by decide +kernel
theorem dX2_fillCommit_3 : decode cX2_fillCommit 3 = .ok (.bipush 65, 2) := by decide +kernel
theorem dX2_fillCommit_5 : decode cX2_fillCommit 5 = .ok (.invokevirtual 15, 3) := by decide +kernel
theorem dX2_fillCommit_8 : decode cX2_fillCommit 8 = .ok (.aload_n 0, 1) := by decide +kernel
theorem dX2_fillCommit_9 : decode cX2_fillCommit 9 = .ok (.iload_n 1, 1) := by decide +kernel
theorem dX2_fillCommit_10 : decode cX2_fillCommit 10 = .ok (.invokevirtual 30, 3) := by decide +kernel
theorem dX2_fillCommit_13 : decode cX2_fillCommit 13 = .ok (.aload_n 0, 1) := by decide +kernel
theorem dX2_fillCommit_14 : decode cX2_fillCommit 14 = .ok (.aload_n 0, 1) := by decide +kernel
theorem dX2_fillCommit_15 : decode cX2_fillCommit 15 = .ok (.getfield 22, 3) := by decide +kernel
theorem dX2_fillCommit_18 : decode cX2_fillCommit 18 = .ok (.invokestatic 26, 3) := by decide +kernel
theorem dX2_fillCommit_21 : decode cX2_fillCommit 21 = .ok (.invokevirtual 30, 3) := by decide +kernel
theorem dX2_fillCommit_24 : decode cX2_fillCommit 24 = .ok (.return_, 1) := by decide +kernel
theorem dX2_start_0 : decode cX2_start 0 = .ok (.aload_n 0, 1) := by decide +kernel
theorem dX2_start_1 : decode cX2_start 1 = .ok (.iconst 0, 1) := by decide +kernel
theorem dX2_start_2 : decode cX2_start 2 = .ok (.putfield 34, 3) := by decide +kernel
theorem dX2_start_5 : decode cX2_start 5 = .ok (.aload_n 0, 1) := by decide +kernel
theorem dX2_start_6 : decode cX2_start 6 = .ok (.iconst 0, 1) := by decide +kernel
theorem dX2_start_7 : decode cX2_start 7 = .ok (.putfield 22, 3) := by decide +kernel
theorem dX2_start_10 : decode cX2_start 10 = .ok (.aload_n 0, 1) := by decide +kernel
theorem dX2_start_11 : decode cX2_start 11 = .ok (.iload_n 1, 1) := by decide +kernel
theorem dX2_start_12 : decode cX2_start 12 = .ok (.invokevirtual 30, 3) := by decide +kernel
theorem dX2_start_15 : decode cX2_start 15 = .ok (.aload_n 0, 1) := by decide +kernel
theorem dX2_start_16 : decode cX2_start 16 = .ok (.iload_n 2, 1) := by decide +kernel
theorem dX2_start_17 : decode cX2_start 17 = .ok (.invokevirtual 30, 3) := by decide +kernel
theorem dX2_start_20 : decode cX2_start 20 = .ok (.return_, 1) := by decide +kernel
theorem dX2_putBytes_0 : decode cX2_putBytes 0 = .ok (.iload_n 2, 1) := by decide +kernel
theorem dX2_putBytes_1 : decode cX2_putBytes 1 = .ok (.iconst 1, 1) := by decide +kernel
theorem dX2_putBytes_2 : decode cX2_putBytes 2 = .ok (.isub, 1) := by decide +kernel
theorem dX2_putBytes_3 : decode cX2_putBytes 3 = .ok (.istore_n 3, 1) := by decide +kernel
theorem dX2_putBytes_4 : decode cX2_putBytes 4 = .ok (.iload_n 3, 1) := by decide +kernel
theorem dX2_putBytes_5 : decode cX2_putBytes 5 = .ok (.ifCond .lt 23, 3) := by decide +kernel
theorem dX2_putBytes_8 : decode cX2_putBytes 8 = .ok (.aload_n 0, 1) := by decide +kernel
theorem dX2_putBytes_9 : decode cX2_putBytes 9 = .ok (.iload_n 1, 1) := by decide +kernel
theorem dX2_putBytes_10 : decode cX2_putBytes 10 = .ok (.bipush 8, 2) := by decide +kernel
theorem dX2_putBytes_12 : decode cX2_putBytes 12 = .ok (.iload_n 3, 1) := by decide +kernel
theorem dX2_putBytes_13 : decode cX2_putBytes 13 = .ok (.imul, 1) := by decide +kernel
theorem dX2_putBytes_14 : decode cX2_putBytes 14 = .ok (.ishr, 1) := by decide +kernel
theorem dX2_putBytes_15 : decode cX2_putBytes 15 = .ok (.sipush 255, 3) := by decide +kernel
theorem dX2_putBytes_18 : decode cX2_putBytes 18 = .ok (.iand, 1) := by decide +kernel
theorem dX2_putBytes_19 : decode cX2_putBytes 19 = .ok (.invokevirtual 30, 3) := by decide +kernel
theorem dX2_putBytes_22 : decode cX2_putBytes 22 = .ok (.iinc 3 (-1), 3) := by decide +kernel
theorem dX2_putBytes_25 : decode cX2_putBytes 25 = .ok (.goto (-21), 3) := by decide +kernel
theorem dX2_putBytes_28 : decode cX2_putBytes 28 = .ok (.return_, 1) := by decide +kernel
theorem dX2_put_0 : decode cX2_put 0 = .ok (.aload_n 0, 1) := by decide +kernel
theorem dX2_put_1 : decode cX2_put 1 = .ok (.getfield 34, 3) := by decide +kernel
theorem dX2_put_4 : decode cX2_put 4 = .ok (.aload_n 0, 1) := by decide +kernel
theorem dX2_put_5 : decode cX2_put 5 = .ok (.getfield 9, 3) := by decide +kernel
theorem dX2_put_8 : decode cX2_put 8 = .ok (.arraylength, 1) := by decide +kernel
theorem dX2_put_9 : decode cX2_put 9 = .ok (.if_icmp .ge 33, 3) := by decide +kernel
theorem dX2_put_12 : decode cX2_put 12 = .ok (.aload_n 0, 1) := by decide +kernel
theorem dX2_put_13 : decode cX2_put 13 = .ok (.getfield 9, 3) := by decide +kernel
theorem dX2_put_16 : decode cX2_put 16 = .ok (.aload_n 0, 1) := by decide +kernel
theorem dX2_put_17 : decode cX2_put 17 = .ok (.getfield 34, 3) := by decide +kernel
theorem dX2_put_20 : decode cX2_put 20 = .ok (.iload_n 1, 1) := by decide +kernel
theorem dX2_put_21 : decode cX2_put 21 = .ok (.iastore, 1) := by decide +kernel
theorem dX2_put_22 : decode cX2_put 22 = .ok (.aload_n 0, 1) := by decide +kernel
theorem dX2_put_23 : decode cX2_put 23 = .ok (.dup, 1) := by decide +kernel
theorem dX2_put_24 : decode cX2_put 24 = .ok (.getfield 34, 3) := by decide +kernel
theorem dX2_put_27 : decode cX2_put 27 = .ok (.iconst 1, 1) := by decide +kernel
theorem dX2_put_28 : decode cX2_put 28 = .ok (.iadd, 1) := by decide +kernel
theorem dX2_put_29 : decode cX2_put 29 = .ok (.putfield 34, 3) := by decide +kernel
theorem dX2_put_32 : decode cX2_put 32 = .ok (.aload_n 0, 1) := by decide +kernel
theorem dX2_put_33 : decode cX2_put 33 = .ok (.dup, 1) := by decide +kernel
theorem dX2_put_34 : decode cX2_put 34 = .ok (.getfield 22, 3) := by decide +kernel
theorem dX2_put_37 : decode cX2_put 37 = .ok (.iload_n 1, 1) := by decide +kernel
theorem dX2_put_38 : decode cX2_put 38 = .ok (.iadd, 1) := by decide +kernel
theorem dX2_put_39 : decode cX2_put 39 = .ok (.putfield 22, 3) := by decide +kernel
theorem dX2_put_42 : decode cX2_put 42 = .ok (.return_, 1) := by decide +kernel
