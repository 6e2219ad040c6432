theorem dX6_init_0 : decode cX6_init 0 = .ok (.aload_n 0, 1) := by decide +kernel
theorem dX6_init_1 : decode cX6_init 1 = .ok (.invokespecial 1, 3) := by decide +kernel
theorem dX6_init_4 : decode cX6_init 4 = .ok (.aload_n 0, 1) := by decide +kernel
theorem dX6_init_5 : decode cX6_init 5 = .ok (.sipush 810, 3) := by decide +kernel
theorem dX6_init_8 : decode cX6_init 8 = .ok (.newarray .int, 2) := by decide +kernel
theorem dX6_init_10 : decode cX6_init 10 = .ok (.putfield 7, 3) := by decide +kernel
theorem dX6_init_13 : decode cX6_init 13 = .ok (.aload_n 0, 1) := by decide +kernel
theorem dX6_init_14 : decode cX6_init 14 = .ok (.sipush 810, 3) := by decide +kernel
theorem dX6_init_17 : decode cX6_init 17 = .ok (.newarray .int, 2) := by decide +kernel
theorem dX6_init_19 : decode cX6_init 19 = .ok (.putfield 13, 3) := by decide +kernel
theorem dX6_init_22 : decode cX6_init 22 = .ok (.aload_n 0, 1) := by decide +kernel
theorem dX6_init_23 : decode cX6_init 23 = .ok (.bipush 64, 2) := by decide +kernel
theorem dX6_init_25 : decode cX6_init 25 = .ok (.newarray .int, 2) := by decide +kernel
theorem dX6_init_27 : decode cX6_init 27 = .ok (.putfield 16, 3) := by decide +kernel
theorem dX6_init_30 : decode cX6_init 30 = .ok (.aload_n 0, 1) := by decide +kernel
theorem dX6_init_31 : decode cX6_init 31 = .ok (.bipush 64, 2) := by decide +kernel
theorem dX6_init_33 : decode cX6_init 33 = .ok (.newarray .int, 2) := by decide +kernel
theorem dX6_init_35 : decode cX6_init 35 = .ok (.putfield 19, 3) := by decide +kernel
theorem dX6_init_38 : decode cX6_init 38 = .ok (.aload_n 0, 1) := by decide +kernel
theorem dX6_init_39 : decode cX6_init 39 = .ok (.bipush 64, 2) := by decide +kernel
theorem dX6_init_41 : decode cX6_init 41 = .ok (.newarray .int, 2) := by decide +kernel
theorem dX6_init_43 : decode cX6_init 43 = .ok (.putfield 22, 3) := by decide +kernel
theorem dX6_init_46 : decode cX6_init 46 = .ok (.aload_n 0, 1) := by decide +kernel
theorem dX6_init_47 : decode cX6_init 47 = .ok (.bipush 64, 2) := by decide +kernel
theorem dX6_init_49 : decode cX6_init 49 = .ok (.newarray .int, 2) := by decide +kernel
theorem dX6_init_51 : decode cX6_init 51 = .ok (.putfield 25, 3) := by decide +kernel
theorem dX6_init_54 : decode cX6_init 54 = .ok (.aload_n 0, 1) := by decide +kernel
theorem dX6_init_55 : decode cX6_init 55 = .ok (.bipush 48, 2) := by decide +kernel
theorem dX6_init_57 : decode cX6_init 57 = .ok (.newarray .int, 2) := by decide +kernel
theorem dX6_init_59 : decode cX6_init 59 = .ok (.putfield 28, 3) := by decide +kernel
theorem dX6_init_62 : decode cX6_init 62 = .ok (.aload_n 0, 1) := by decide +kernel
theorem dX6_init_63 : decode cX6_init 63 = .ok (.iconst 3, 1) := by decide +kernel
theorem dX6_init_64 : decode cX6_init 64 = .ok (.bipush 64, 2) := by decide +kernel
theorem dX6_init_66 : decode cX6_init 66 = .ok (.invokevirtual 31, 3) := by decide +kernel
theorem dX6_init_69 : decode cX6_init 69 = .ok (.return_, 1) := by decide +kernel
theorem dX6_within_0 : decode cX6_within 0 = .ok (.iload_n 0, 1) := by decide +kernel
theorem dX6_within_1 : decode cX6_within 1 = .ok (.iload_n 1, 1) := by decide +kernel
theorem dX6_within_2 : decode cX6_within 2 = .ok (.if_icmp .lt 12, 3) := by decide +kernel
theorem dX6_within_5 : decode cX6_within 5 = .ok (.iload_n 0, 1) := by decide +kernel
theorem dX6_within_6 : decode cX6_within 6 = .ok (.iload_n 2, 1) := by decide +kernel
theorem dX6_within_7 : decode cX6_within 7 = .ok (.if_icmp .gt 7, 3) := by decide +kernel
theorem dX6_within_10 : decode cX6_within 10 = .ok (.iconst 1, 1) := by decide +kernel
theorem dX6_within_11 : decode cX6_within 11 = .ok (.goto 4, 3) := by decide +kernel
theorem dX6_within_14 : decode cX6_within 14 = .ok (.iconst 0, 1) := by decide +kernel
theorem dX6_within_15 : decode cX6_within 15 = .ok (.ireturn, 1) := by decide +kernel
theorem dX6_isOn_0 : decode cX6_isOn 0 = .ok (.aload_n 0, 1) := by decide +kernel
theorem dX6_isOn_1 : decode cX6_isOn 1 = .ok (.getfield 7, 3) := by decide +kernel
theorem dX6_isOn_4 : decode cX6_isOn 4 = .ok (.iconst 2, 1) := by decide +kernel
theorem dX6_isOn_5 : decode cX6_isOn 5 = .ok (.iaload, 1) := by decide +kernel
theorem dX6_isOn_6 : decode cX6_isOn 6 = .ok (.iconst 1, 1) := by decide +kernel
theorem dX6_isOn_7 : decode cX6_isOn 7 = .ok (.if_icmp .ne 7, 3) := by decide +kernel
theorem dX6_isOn_10 : decode cX6_isOn 10 = .ok (.iconst 1, 1) := by decide +kernel
theorem dX6_isOn_11 : decode cX6_isOn 11 = .ok (.goto 4, 3) := by decide +kernel
theorem dX6_isOn_14 : decode cX6_isOn 14 = .ok (.iconst 0, 1) := by decide +kernel
theorem dX6_isOn_15 : decode cX6_isOn 15 = .ok (.ireturn, 1) := by decide +kernel
theorem dX6_isSector_0 : decode cX6_isSector 0 = .ok (.iload_n 1, 1) := by decide +kernel
theorem dX6_isSector_1 : decode cX6_isSector 1 = .ok (.iconst 0, 1) := by decide +kernel
theorem dX6_isSector_2 : decode cX6_isSector 2 = .ok (.aload_n 0, 1) := by decide +kernel
theorem dX6_isSector_3 : decode cX6_isSector 3 = .ok (.getfield 7, 3) := by decide +kernel
theorem dX6_isSector_6 : decode cX6_isSector 6 = .ok (.iconst 0, 1) := by decide +kernel
theorem dX6_isSector_7 : decode cX6_isSector 7 = .ok (.iaload, 1) := by decide +kernel
theorem dX6_isSector_8 : decode cX6_isSector 8 = .ok (.iconst 1, 1) := by decide +kernel
theorem dX6_isSector_9 : decode cX6_isSector 9 = .ok (.isub, 1) := by decide +kernel
theorem dX6_isSector_10 : decode cX6_isSector 10 = .ok (.invokestatic 39, 3) := by decide +kernel
theorem dX6_isSector_13 : decode cX6_isSector 13 = .ok (.ireturn, 1) := by decide +kernel
theorem dX6_byteAt_0 : decode cX6_byteAt 0 = .ok (.aload_n 0, 1) := by decide +kernel
theorem dX6_byteAt_1 : decode cX6_byteAt 1 = .ok (.getfield 7, 3) := by decide +kernel
theorem dX6_byteAt_4 : decode cX6_byteAt 4 = .ok (.bipush 42, 2) := by decide +kernel
theorem dX6_byteAt_6 : decode cX6_byteAt 6 = .ok (.sipush 128, 3) := by decide +kernel
theorem dX6_byteAt_9 : decode cX6_byteAt 9 = .ok (.iload_n 1, 1) := by decide +kernel
theorem dX6_byteAt_10 : decode cX6_byteAt 10 = .ok (.imul, 1) := by decide +kernel
theorem dX6_byteAt_11 : decode cX6_byteAt 11 = .ok (.iadd, 1) := by decide +kernel
theorem dX6_byteAt_12 : decode cX6_byteAt 12 = .ok (.iload_n 2, 1) := by decide +kernel
theorem dX6_byteAt_13 : decode cX6_byteAt 13 = .ok (.iadd, 1) := by decide +kernel
theorem dX6_byteAt_14 : decode cX6_byteAt 14 = .ok (.iaload, 1) := by decide +kernel
theorem dX6_byteAt_15 : decode cX6_byteAt 15 = .ok (.ireturn, 1) := by decide +kernel
theorem dX6_makes_0 : decode cX6_makes 0 = .ok (.iconst 0, 1) := by decide +kernel
theorem dX6_makes_1 : decode cX6_makes 1 = .ok (.istore_n 3, 1) := by decide +kernel
theorem dX6_makes_2 : decode cX6_makes 2 = .ok (.iload_n 3, 1) := by decide +kernel
theorem dX6_makes_3 : decode cX6_makes 3 = .ok (.sipush 810, 3) := by decide +kernel
theorem dX6_makes_6 : decode cX6_makes 6 = .ok (.if_icmp .ge 16, 3) := by decide +kernel
theorem dX6_makes_9 : decode cX6_makes 9 = .ok (.aload_n 0, 1) := by decide +kernel
theorem dX6_makes_10 : decode cX6_makes 10 = .ok (.getfield 7, 3) := by decide +kernel
theorem dX6_makes_13 : decode cX6_makes 13 = .ok (.iload_n 3, 1) := by decide +kernel
theorem dX6_makes_14 : decode cX6_makes 14 = .ok (.iconst 0, 1) := by decide +kernel
theorem dX6_makes_15 : decode cX6_makes 15 = .ok (.iastore, 1) := by decide +kernel
theorem dX6_makes_16 : decode cX6_makes 16 = .ok (.iinc 3 1, 3) := by decide +kernel
theorem dX6_makes_19 : decode cX6_makes 19 = .ok (.goto (-17), 3) := by decide +kernel
theorem dX6_makes_22 : decode cX6_makes 22 = .ok (.aload_n 0, 1) := by decide +kernel
theorem dX6_makes_23 : decode cX6_makes 23 = .ok (.getfield 7, 3) := by decide +kernel
theorem dX6_makes_26 : decode cX6_makes 26 = .ok (.iconst 0, 1) := by decide +kernel
theorem dX6_makes_27 : decode cX6_makes 27 = .ok (.iload_n 1, 1) := by decide +kernel
theorem dX6_makes_28 : decode cX6_makes 28 = .ok (.iastore, 1) := by decide +kernel
theorem dX6_makes_29 : decode cX6_makes 29 = .ok (.aload_n 0, 1) := by decide +kernel
theorem dX6_makes_30 : decode cX6_makes 30 = .ok (.getfield 7, 3) := by decide +kernel
theorem dX6_makes_33 : decode cX6_makes 33 = .ok (.iconst 1, 1) := by decide +kernel
theorem dX6_makes_34 : decode cX6_makes 34 = .ok (.iload_n 2, 1) := by decide +kernel
theorem dX6_makes_35 : decode cX6_makes 35 = .ok (.iastore, 1) := by decide +kernel
theorem dX6_makes_36 : decode cX6_makes 36 = .ok (.bipush 42, 2) := by decide +kernel
theorem dX6_makes_38 : decode cX6_makes 38 = .ok (.istore_n 3, 1) := by decide +kernel
theorem dX6_makes_39 : decode cX6_makes 39 = .ok (.iload_n 3, 1) := by decide +kernel
theorem dX6_makes_40 : decode cX6_makes 40 = .ok (.sipush 810, 3) := by decide +kernel
theorem dX6_makes_43 : decode cX6_makes 43 = .ok (.if_icmp .ge 18, 3) := by decide +kernel
theorem dX6_makes_46 : decode cX6_makes 46 = .ok (.aload_n 0, 1) := by decide +kernel
theorem dX6_makes_47 : decode cX6_makes 47 = .ok (.getfield 7, 3) := by decide +kernel
theorem dX6_makes_50 : decode cX6_makes 50 = .ok (.iload_n 3, 1) := by decide +kernel
theorem dX6_makes_51 : decode cX6_makes 51 = .ok (.sipush 255, 3) := by decide +kernel
theorem dX6_makes_54 : decode cX6_makes 54 = .ok (.iastore, 1) := by decide +kernel
theorem dX6_makes_55 : decode cX6_makes 55 = .ok (.iinc 3 1, 3) := by decide +kernel
theorem dX6_makes_58 : decode cX6_makes 58 = .ok (.goto (-19), 3) := by decide +kernel
theorem dX6_makes_61 : decode cX6_makes 61 = .ok (.return_, 1) := by decide +kernel
theorem dX6_chip_0 : decode cX6_chip 0 = .ok (.aload_n 0, 1) := by decide +kernel
theorem dX6_chip_1 : decode cX6_chip 1 = .ok (.iconst 0, 1) := by decide +kernel
theorem dX6_chip_2 : decode cX6_chip 2 = .ok (.putfield 35, 3) := by decide +kernel
theorem dX6_chip_5 : decode cX6_chip 5 = .ok (.iload_n 1, 1) := by decide +kernel
theorem dX6_chip_6 : decode cX6_chip 6 = .ok (.iconst 2, 1) := by decide +kernel
theorem dX6_chip_7 : decode cX6_chip 7 = .ok (.bipush 6, 2) := by decide +kernel
theorem dX6_chip_9 : decode cX6_chip 9 = .ok (.invokestatic 39, 3) := by decide +kernel
theorem dX6_chip_12 : decode cX6_chip 12 = .ok (.ifCond .eq 15, 3) := by decide +kernel
theorem dX6_chip_15 : decode cX6_chip 15 = .ok (.iload_n 2, 1) := by decide +kernel
theorem dX6_chip_16 : decode cX6_chip 16 = .ok (.bipush 32, 2) := by decide +kernel
theorem dX6_chip_18 : decode cX6_chip 18 = .ok (.sipush 128, 3) := by decide +kernel
theorem dX6_chip_21 : decode cX6_chip 21 = .ok (.invokestatic 39, 3) := by decide +kernel
theorem dX6_chip_24 : decode cX6_chip 24 = .ok (.ifCond .ne 5, 3) := by decide +kernel
theorem dX6_chip_27 : decode cX6_chip 27 = .ok (.iconst 0, 1) := by decide +kernel
theorem dX6_chip_28 : decode cX6_chip 28 = .ok (.ireturn, 1) := by decide +kernel
theorem dX6_chip_29 : decode cX6_chip 29 = .ok (.aload_n 0, 1) := by decide +kernel
theorem dX6_chip_30 : decode cX6_chip 30 = .ok (.iload_n 1, 1) := by decide +kernel
theorem dX6_chip_31 : decode cX6_chip 31 = .ok (.iload_n 2, 1) := by decide +kernel
theorem dX6_chip_32 : decode cX6_chip 32 = .ok (.invokevirtual 31, 3) := by decide +kernel
theorem dX6_chip_35 : decode cX6_chip 35 = .ok (.iconst 1, 1) := by decide +kernel
theorem dX6_chip_36 : decode cX6_chip 36 = .ok (.ireturn, 1) := by decide +kernel
theorem dX6_putsAside_0 : decode cX6_putsAside 0 = .ok (.iconst 0, 1) := by decide +kernel
theorem dX6_putsAside_1 : decode cX6_putsAside 1 = .ok (.istore_n 1, 1) := by decide +kernel
theorem dX6_putsAside_2 : decode cX6_putsAside 2 = .ok (.iload_n 1, 1) := by decide +kernel
theorem dX6_putsAside_3 : decode cX6_putsAside 3 = .ok (.sipush 810, 3) := by decide +kernel
theorem dX6_putsAside_6 : decode cX6_putsAside 6 = .ok (.if_icmp .ge 21, 3) := by decide +kernel
theorem dX6_putsAside_9 : decode cX6_putsAside 9 = .ok (.aload_n 0, 1) := by decide +kernel
theorem dX6_putsAside_10 : decode cX6_putsAside 10 = .ok (.getfield 13, 3) := by decide +kernel
theorem dX6_putsAside_13 : decode cX6_putsAside 13 = .ok (.iload_n 1, 1) := by decide +kernel
theorem dX6_putsAside_14 : decode cX6_putsAside 14 = .ok (.aload_n 0, 1) := by decide +kernel
theorem dX6_putsAside_15 : decode cX6_putsAside 15 = .ok (.getfield 7, 3) := by decide +kernel
theorem dX6_putsAside_18 : decode cX6_putsAside 18 = .ok (.iload_n 1, 1) := by decide +kernel
theorem dX6_putsAside_19 : decode cX6_putsAside 19 = .ok (.iaload, 1) := by decide +kernel
theorem dX6_putsAside_20 : decode cX6_putsAside 20 = .ok (.iastore, 1) := by decide +kernel
theorem dX6_putsAside_21 : decode cX6_putsAside 21 = .ok (.iinc 1 1, 3) := by decide +kernel
theorem dX6_putsAside_24 : decode cX6_putsAside 24 = .ok (.goto (-22), 3) := by decide +kernel
theorem dX6_putsAside_27 : decode cX6_putsAside 27 = .ok (.return_, 1) := by decide +kernel
theorem dX6_putsBack_0 : decode cX6_putsBack 0 = .ok (.iconst 0, 1) := by decide +kernel
theorem dX6_putsBack_1 : decode cX6_putsBack 1 = .ok (.istore_n 1, 1) := by decide +kernel
theorem dX6_putsBack_2 : decode cX6_putsBack 2 = .ok (.iload_n 1, 1) := by decide +kernel
theorem dX6_putsBack_3 : decode cX6_putsBack 3 = .ok (.sipush 810, 3) := by decide +kernel
theorem dX6_putsBack_6 : decode cX6_putsBack 6 = .ok (.if_icmp .ge 21, 3) := by decide +kernel
theorem dX6_putsBack_9 : decode cX6_putsBack 9 = .ok (.aload_n 0, 1) := by decide +kernel
theorem dX6_putsBack_10 : decode cX6_putsBack 10 = .ok (.getfield 7, 3) := by decide +kernel
theorem dX6_putsBack_13 : decode cX6_putsBack 13 = .ok (.iload_n 1, 1) := by decide +kernel
theorem dX6_putsBack_14 : decode cX6_putsBack 14 = .ok (.aload_n 0, 1) := by decide +kernel
theorem dX6_putsBack_15 : decode cX6_putsBack 15 = .ok (.getfield 13, 3) := by decide +kernel
theorem dX6_putsBack_18 : decode cX6_putsBack 18 = .ok (.iload_n 1, 1) := by decide +kernel
theorem dX6_putsBack_19 : decode cX6_putsBack 19 = .ok (.iaload, 1) := by decide +kernel
theorem dX6_putsBack_20 : decode cX6_putsBack 20 = .ok (.iastore, 1) := by decide +kernel
theorem dX6_putsBack_21 : decode cX6_putsBack 21 = .ok (.iinc 1 1, 3) := by decide +kernel
theorem dX6_putsBack_24 : decode cX6_putsBack 24 = .ok (.goto (-22), 3) := by decide +kernel
theorem dX6_putsBack_27 : decode cX6_putsBack 27 = .ok (.return_, 1) := by decide +kernel
theorem dX6_goes_0 : decode cX6_goes 0 = .ok (.aload_n 0, 1) := by decide +kernel
theorem dX6_goes_1 : decode cX6_goes 1 = .ok (.getfield 7, 3) := by decide +kernel
theorem dX6_goes_4 : decode cX6_goes 4 = .ok (.bipush 8, 2) := by decide +kernel
theorem dX6_goes_6 : decode cX6_goes 6 = .ok (.dup2, 1) := by decide +kernel
theorem dX6_goes_7 : decode cX6_goes 7 = .ok (.iaload, 1) := by decide +kernel
theorem dX6_goes_8 : decode cX6_goes 8 = .ok (.iconst 1, 1) := by decide +kernel
theorem dX6_goes_9 : decode cX6_goes 9 = .ok (.iadd, 1) := by decide +kernel
theorem dX6_goes_10 : decode cX6_goes 10 = .ok (.iastore, 1) := by decide +kernel
theorem dX6_goes_11 : decode cX6_goes 11 = .ok (.aload_n 0, 1) := by decide +kernel
theorem dX6_goes_12 : decode cX6_goes 12 = .ok (.getfield 7, 3) := by decide +kernel
theorem dX6_goes_15 : decode cX6_goes 15 = .ok (.iconst 4, 1) := by decide +kernel
theorem dX6_goes_16 : decode cX6_goes 16 = .ok (.iaload, 1) := by decide +kernel
theorem dX6_goes_17 : decode cX6_goes 17 = .ok (.ifCond .ne 5, 3) := by decide +kernel
theorem dX6_goes_20 : decode cX6_goes 20 = .ok (.iconst 0, 1) := by decide +kernel
theorem dX6_goes_21 : decode cX6_goes 21 = .ok (.ireturn, 1) := by decide +kernel
theorem dX6_goes_22 : decode cX6_goes 22 = .ok (.aload_n 0, 1) := by decide +kernel
theorem dX6_goes_23 : decode cX6_goes 23 = .ok (.getfield 7, 3) := by decide +kernel
theorem dX6_goes_26 : decode cX6_goes 26 = .ok (.iconst 4, 1) := by decide +kernel
theorem dX6_goes_27 : decode cX6_goes 27 = .ok (.dup2, 1) := by decide +kernel
theorem dX6_goes_28 : decode cX6_goes 28 = .ok (.iaload, 1) := by decide +kernel
theorem dX6_goes_29 : decode cX6_goes 29 = .ok (.iconst 1, 1) := by decide +kernel
theorem dX6_goes_30 : decode cX6_goes 30 = .ok (.isub, 1) := by decide +kernel
theorem dX6_goes_31 : decode cX6_goes 31 = .ok (.iastore, 1) := by decide +kernel
theorem dX6_goes_32 : decode cX6_goes 32 = .ok (.aload_n 0, 1) := by decide +kernel
theorem dX6_goes_33 : decode cX6_goes 33 = .ok (.getfield 7, 3) := by decide +kernel
theorem dX6_goes_36 : decode cX6_goes 36 = .ok (.iconst 4, 1) := by decide +kernel
theorem dX6_goes_37 : decode cX6_goes 37 = .ok (.iaload, 1) := by decide +kernel
theorem dX6_goes_38 : decode cX6_goes 38 = .ok (.ifCond .le 5, 3) := by decide +kernel
theorem dX6_goes_41 : decode cX6_goes 41 = .ok (.iconst 0, 1) := by decide +kernel
theorem dX6_goes_42 : decode cX6_goes 42 = .ok (.ireturn, 1) := by decide +kernel
theorem dX6_goes_43 : decode cX6_goes 43 = .ok (.aload_n 0, 1) := by decide +kernel
theorem dX6_goes_44 : decode cX6_goes 44 = .ok (.getfield 7, 3) := by decide +kernel
theorem dX6_goes_47 : decode cX6_goes 47 = .ok (.bipush 6, 2) := by decide +kernel
theorem dX6_goes_49 : decode cX6_goes 49 = .ok (.dup2, 1) := by decide +kernel
theorem dX6_goes_50 : decode cX6_goes 50 = .ok (.iaload, 1) := by decide +kernel
theorem dX6_goes_51 : decode cX6_goes 51 = .ok (.iconst 1, 1) := by decide +kernel
theorem dX6_goes_52 : decode cX6_goes 52 = .ok (.iadd, 1) := by decide +kernel
theorem dX6_goes_53 : decode cX6_goes 53 = .ok (.iastore, 1) := by decide +kernel
theorem dX6_goes_54 : decode cX6_goes 54 = .ok (.aload_n 0, 1) := by decide +kernel
theorem dX6_goes_55 : decode cX6_goes 55 = .ok (.getfield 7, 3) := by decide +kernel
theorem dX6_goes_58 : decode cX6_goes 58 = .ok (.iconst 2, 1) := by decide +kernel
theorem dX6_goes_59 : decode cX6_goes 59 = .ok (.iconst 0, 1) := by decide +kernel
theorem dX6_goes_60 : decode cX6_goes 60 = .ok (.iastore, 1) := by decide +kernel
theorem dX6_goes_61 : decode cX6_goes 61 = .ok (.aload_n 0, 1) := by decide +kernel
theorem dX6_goes_62 : decode cX6_goes 62 = .ok (.getfield 7, 3) := by decide +kernel
theorem dX6_goes_65 : decode cX6_goes 65 = .ok (.bipush 10, 2) := by decide +kernel
theorem dX6_goes_67 : decode cX6_goes 67 = .ok (.iconst 0, 1) := by decide +kernel
theorem dX6_goes_68 : decode cX6_goes 68 = .ok (.iastore, 1) := by decide +kernel
theorem dX6_goes_69 : decode cX6_goes 69 = .ok (.aload_n 0, 1) := by decide +kernel
theorem dX6_goes_70 : decode cX6_goes 70 = .ok (.iconst 1, 1) := by decide +kernel
theorem dX6_goes_71 : decode cX6_goes 71 = .ok (.putfield 43, 3) := by decide +kernel
theorem dX6_goes_74 : decode cX6_goes 74 = .ok (.iconst 1, 1) := by decide +kernel
theorem dX6_goes_75 : decode cX6_goes 75 = .ok (.ireturn, 1) := by decide +kernel
theorem dX6_writes_0 : decode cX6_writes 0 = .ok (.aload_n 0, 1) := by decide +kernel
theorem dX6_writes_1 : decode cX6_writes 1 = .ok (.getfield 43, 3) := by decide +kernel
theorem dX6_writes_4 : decode cX6_writes 4 = .ok (.ifCond .eq 4, 3) := by decide +kernel
theorem dX6_writes_7 : decode cX6_writes 7 = .ok (.return_, 1) := by decide +kernel
theorem dX6_writes_8 : decode cX6_writes 8 = .ok (.aload_n 0, 1) := by decide +kernel
theorem dX6_writes_9 : decode cX6_writes 9 = .ok (.getfield 7, 3) := by decide +kernel
theorem dX6_writes_12 : decode cX6_writes 12 = .ok (.bipush 9, 2) := by decide +kernel
theorem dX6_writes_14 : decode cX6_writes 14 = .ok (.dup2, 1) := by decide +kernel
theorem dX6_writes_15 : decode cX6_writes 15 = .ok (.iaload, 1) := by decide +kernel
theorem dX6_writes_16 : decode cX6_writes 16 = .ok (.iconst 1, 1) := by decide +kernel
theorem dX6_writes_17 : decode cX6_writes 17 = .ok (.iadd, 1) := by decide +kernel
theorem dX6_writes_18 : decode cX6_writes 18 = .ok (.iastore, 1) := by decide +kernel
theorem dX6_writes_19 : decode cX6_writes 19 = .ok (.aload_n 0, 1) := by decide +kernel
theorem dX6_writes_20 : decode cX6_writes 20 = .ok (.invokevirtual 47, 3) := by decide +kernel
theorem dX6_writes_23 : decode cX6_writes 23 = .ok (.ifCond .eq 20, 3) := by decide +kernel
theorem dX6_writes_26 : decode cX6_writes 26 = .ok (.iload_n 3, 1) := by decide +kernel
theorem dX6_writes_27 : decode cX6_writes 27 = .ok (.sipush 255, 3) := by decide +kernel
theorem dX6_writes_30 : decode cX6_writes 30 = .ok (.aload_n 0, 1) := by decide +kernel
theorem dX6_writes_31 : decode cX6_writes 31 = .ok (.getfield 7, 3) := by decide +kernel
theorem dX6_writes_34 : decode cX6_writes 34 = .ok (.iconst 5, 1) := by decide +kernel
theorem dX6_writes_35 : decode cX6_writes 35 = .ok (.iaload, 1) := by decide +kernel
theorem dX6_writes_36 : decode cX6_writes 36 = .ok (.iconst (-1), 1) := by decide +kernel
theorem dX6_writes_37 : decode cX6_writes 37 = .ok (.ixor, 1) := by decide +kernel
theorem dX6_writes_38 : decode cX6_writes 38 = .ok (.iand, 1) := by decide +kernel
theorem dX6_writes_39 : decode cX6_writes 39 = .ok (.ior, 1) := by decide +kernel
theorem dX6_writes_40 : decode cX6_writes 40 = .ok (.goto 4, 3) := by decide +kernel
theorem dX6_writes_43 : decode cX6_writes 43 = .ok (.iload_n 3, 1) := by decide +kernel
theorem dX6_writes_44 : decode cX6_writes 44 = .ok (.istore 4, 2) := by decide +kernel
theorem dX6_writes_46 : decode cX6_writes 46 = .ok (.aload_n 0, 1) := by decide +kernel
theorem dX6_writes_47 : decode cX6_writes 47 = .ok (.getfield 7, 3) := by decide +kernel
theorem dX6_writes_50 : decode cX6_writes 50 = .ok (.bipush 42, 2) := by decide +kernel
theorem dX6_writes_52 : decode cX6_writes 52 = .ok (.sipush 128, 3) := by decide +kernel
theorem dX6_writes_55 : decode cX6_writes 55 = .ok (.iload_n 1, 1) := by decide +kernel
theorem dX6_writes_56 : decode cX6_writes 56 = .ok (.imul, 1) := by decide +kernel
theorem dX6_writes_57 : decode cX6_writes 57 = .ok (.iadd, 1) := by decide +kernel
theorem dX6_writes_58 : decode cX6_writes 58 = .ok (.iload_n 2, 1) := by decide +kernel
theorem dX6_writes_59 : decode cX6_writes 59 = .ok (.iadd, 1) := by decide +kernel
theorem dX6_writes_60 : decode cX6_writes 60 = .ok (.dup2, 1) := by decide +kernel
theorem dX6_writes_61 : decode cX6_writes 61 = .ok (.iaload, 1) := by decide +kernel
theorem dX6_writes_62 : decode cX6_writes 62 = .ok (.iload 4, 2) := by decide +kernel
theorem dX6_writes_64 : decode cX6_writes 64 = .ok (.iand, 1) := by decide +kernel
theorem dX6_writes_65 : decode cX6_writes 65 = .ok (.iastore, 1) := by decide +kernel
theorem dX6_writes_66 : decode cX6_writes 66 = .ok (.return_, 1) := by decide +kernel
theorem dX6_erases_0 : decode cX6_erases 0 = .ok (.aload_n 0, 1) := by decide +kernel
theorem dX6_erases_1 : decode cX6_erases 1 = .ok (.getfield 43, 3) := by decide +kernel
theorem dX6_erases_4 : decode cX6_erases 4 = .ok (.ifCond .eq 4, 3) := by decide +kernel
theorem dX6_erases_7 : decode cX6_erases 7 = .ok (.return_, 1) := by decide +kernel
theorem dX6_erases_8 : decode cX6_erases 8 = .ok (.aload_n 0, 1) := by decide +kernel
theorem dX6_erases_9 : decode cX6_erases 9 = .ok (.getfield 7, 3) := by decide +kernel
theorem dX6_erases_12 : decode cX6_erases 12 = .ok (.bipush 36, 2) := by decide +kernel
theorem dX6_erases_14 : decode cX6_erases 14 = .ok (.iload_n 1, 1) := by decide +kernel
theorem dX6_erases_15 : decode cX6_erases 15 = .ok (.iadd, 1) := by decide +kernel
theorem dX6_erases_16 : decode cX6_erases 16 = .ok (.dup2, 1) := by decide +kernel
theorem dX6_erases_17 : decode cX6_erases 17 = .ok (.iaload, 1) := by decide +kernel
theorem dX6_erases_18 : decode cX6_erases 18 = .ok (.iconst 1, 1) := by decide +kernel
theorem dX6_erases_19 : decode cX6_erases 19 = .ok (.iadd, 1) := by decide +kernel
theorem dX6_erases_20 : decode cX6_erases 20 = .ok (.iastore, 1) := by decide +kernel
theorem dX6_erases_21 : decode cX6_erases 21 = .ok (.aload_n 0, 1) := by decide +kernel
theorem dX6_erases_22 : decode cX6_erases 22 = .ok (.invokevirtual 47, 3) := by decide +kernel
theorem dX6_erases_25 : decode cX6_erases 25 = .ok (.ifCond .eq 14, 3) := by decide +kernel
theorem dX6_erases_28 : decode cX6_erases 28 = .ok (.aload_n 0, 1) := by decide +kernel
theorem dX6_erases_29 : decode cX6_erases 29 = .ok (.getfield 7, 3) := by decide +kernel
theorem dX6_erases_32 : decode cX6_erases 32 = .ok (.iconst 1, 1) := by decide +kernel
theorem dX6_erases_33 : decode cX6_erases 33 = .ok (.iaload, 1) := by decide +kernel
theorem dX6_erases_34 : decode cX6_erases 34 = .ok (.iconst 2, 1) := by decide +kernel
theorem dX6_erases_35 : decode cX6_erases 35 = .ok (.idiv, 1) := by decide +kernel
theorem dX6_erases_36 : decode cX6_erases 36 = .ok (.goto 9, 3) := by decide +kernel
theorem dX6_erases_39 : decode cX6_erases 39 = .ok (.aload_n 0, 1) := by decide +kernel
theorem dX6_erases_40 : decode cX6_erases 40 = .ok (.getfield 7, 3) := by decide +kernel
theorem dX6_erases_43 : decode cX6_erases 43 = .ok (.iconst 1, 1) := by decide +kernel
theorem dX6_erases_44 : decode cX6_erases 44 = .ok (.iaload, 1) := by decide +kernel
theorem dX6_erases_45 : decode cX6_erases 45 = .ok (.istore_n 2, 1) := by decide +kernel
theorem dX6_erases_46 : decode cX6_erases 46 = .ok (.iconst 0, 1) := by decide +kernel
theorem dX6_erases_47 : decode cX6_erases 47 = .ok (.istore_n 3, 1) := by decide +kernel
theorem dX6_erases_48 : decode cX6_erases 48 = .ok (.iload_n 3, 1) := by decide +kernel
theorem dX6_erases_49 : decode cX6_erases 49 = .ok (.iload_n 2, 1) := by decide +kernel
theorem dX6_erases_50 : decode cX6_erases 50 = .ok (.if_icmp .ge 27, 3) := by decide +kernel
theorem dX6_erases_53 : decode cX6_erases 53 = .ok (.aload_n 0, 1) := by decide +kernel
theorem dX6_erases_54 : decode cX6_erases 54 = .ok (.getfield 7, 3) := by decide +kernel
theorem dX6_erases_57 : decode cX6_erases 57 = .ok (.bipush 42, 2) := by decide +kernel
theorem dX6_erases_59 : decode cX6_erases 59 = .ok (.sipush 128, 3) := by decide +kernel
theorem dX6_erases_62 : decode cX6_erases 62 = .ok (.iload_n 1, 1) := by decide +kernel
theorem dX6_erases_63 : decode cX6_erases 63 = .ok (.imul, 1) := by decide +kernel
theorem dX6_erases_64 : decode cX6_erases 64 = .ok (.iadd, 1) := by decide +kernel
theorem dX6_erases_65 : decode cX6_erases 65 = .ok (.iload_n 3, 1) := by decide +kernel
theorem dX6_erases_66 : decode cX6_erases 66 = .ok (.iadd, 1) := by decide +kernel
theorem dX6_erases_67 : decode cX6_erases 67 = .ok (.sipush 255, 3) := by decide +kernel
theorem dX6_erases_70 : decode cX6_erases 70 = .ok (.iastore, 1) := by decide +kernel
theorem dX6_erases_71 : decode cX6_erases 71 = .ok (.iinc 3 1, 3) := by decide +kernel
theorem dX6_erases_74 : decode cX6_erases 74 = .ok (.goto (-26), 3) := by decide +kernel
theorem dX6_erases_77 : decode cX6_erases 77 = .ok (.return_, 1) := by decide +kernel
theorem dX6_begins_0 : decode cX6_begins 0 = .ok (.aload_n 0, 1) := by decide +kernel
theorem dX6_begins_1 : decode cX6_begins 1 = .ok (.iconst 0, 1) := by decide +kernel
theorem dX6_begins_2 : decode cX6_begins 2 = .ok (.putfield 43, 3) := by decide +kernel
theorem dX6_begins_5 : decode cX6_begins 5 = .ok (.aload_n 0, 1) := by decide +kernel
theorem dX6_begins_6 : decode cX6_begins 6 = .ok (.getfield 7, 3) := by decide +kernel
theorem dX6_begins_9 : decode cX6_begins 9 = .ok (.bipush 8, 2) := by decide +kernel
theorem dX6_begins_11 : decode cX6_begins 11 = .ok (.iconst 0, 1) := by decide +kernel
theorem dX6_begins_12 : decode cX6_begins 12 = .ok (.iastore, 1) := by decide +kernel
theorem dX6_begins_13 : decode cX6_begins 13 = .ok (.return_, 1) := by decide +kernel
theorem dX6_told_0 : decode cX6_told 0 = .ok (.aload_n 0, 1) := by decide +kernel
theorem dX6_told_1 : decode cX6_told 1 = .ok (.getfield 43, 3) := by decide +kernel
theorem dX6_told_4 : decode cX6_told 4 = .ok (.ifCond .eq 8, 3) := by decide +kernel
theorem dX6_told_7 : decode cX6_told 7 = .ok (.bipush (-3), 2) := by decide +kernel
theorem dX6_told_9 : decode cX6_told 9 = .ok (.goto 10, 3) := by decide +kernel
theorem dX6_told_12 : decode cX6_told 12 = .ok (.aload_n 0, 1) := by decide +kernel
theorem dX6_told_13 : decode cX6_told 13 = .ok (.getfield 7, 3) := by decide +kernel
theorem dX6_told_16 : decode cX6_told 16 = .ok (.bipush 8, 2) := by decide +kernel
theorem dX6_told_18 : decode cX6_told 18 = .ok (.iaload, 1) := by decide +kernel
theorem dX6_told_19 : decode cX6_told 19 = .ok (.ireturn, 1) := by decide +kernel
theorem dX6_isBlank_0 : decode cX6_isBlank 0 = .ok (.iload_n 2, 1) := by decide +kernel
theorem dX6_isBlank_1 : decode cX6_isBlank 1 = .ok (.istore_n 3, 1) := by decide +kernel
theorem dX6_isBlank_2 : decode cX6_isBlank 2 = .ok (.iload_n 3, 1) := by decide +kernel
theorem dX6_isBlank_3 : decode cX6_isBlank 3 = .ok (.aload_n 0, 1) := by decide +kernel
theorem dX6_isBlank_4 : decode cX6_isBlank 4 = .ok (.getfield 7, 3) := by decide +kernel
theorem dX6_isBlank_7 : decode cX6_isBlank 7 = .ok (.iconst 1, 1) := by decide +kernel
theorem dX6_isBlank_8 : decode cX6_isBlank 8 = .ok (.iaload, 1) := by decide +kernel
theorem dX6_isBlank_9 : decode cX6_isBlank 9 = .ok (.if_icmp .ge 23, 3) := by decide +kernel
theorem dX6_isBlank_12 : decode cX6_isBlank 12 = .ok (.aload_n 0, 1) := by decide +kernel
theorem dX6_isBlank_13 : decode cX6_isBlank 13 = .ok (.iload_n 1, 1) := by decide +kernel
theorem dX6_isBlank_14 : decode cX6_isBlank 14 = .ok (.iload_n 3, 1) := by decide +kernel
theorem dX6_isBlank_15 : decode cX6_isBlank 15 = .ok (.invokevirtual 51, 3) := by decide +kernel
theorem dX6_isBlank_18 : decode cX6_isBlank 18 = .ok (.sipush 255, 3) := by decide +kernel
theorem dX6_isBlank_21 : decode cX6_isBlank 21 = .ok (.if_icmp .eq 5, 3) := by decide +kernel
theorem dX6_isBlank_24 : decode cX6_isBlank 24 = .ok (.iconst 0, 1) := by decide +kernel
theorem dX6_isBlank_25 : decode cX6_isBlank 25 = .ok (.ireturn, 1) := by decide +kernel
theorem dX6_isBlank_26 : decode cX6_isBlank 26 = .ok (.iinc 3 1, 3) := by decide +kernel
theorem dX6_isBlank_29 : decode cX6_isBlank 29 = .ok (.goto (-27), 3) := by decide +kernel
theorem dX6_isBlank_32 : decode cX6_isBlank 32 = .ok (.iconst 1, 1) := by decide +kernel
theorem dX6_isBlank_33 : decode cX6_isBlank 33 = .ok (.ireturn, 1) := by decide +kernel
theorem dX6_check_0 : decode cX6_check 0 = .ok (.iload_n 0, 1) := by decide +kernel
theorem dX6_check_1 : decode cX6_check 1 = .ok (.bipush 85, 2) := by decide +kernel
theorem dX6_check_3 : decode cX6_check 3 = .ok (.iadd, 1) := by decide +kernel
theorem dX6_check_4 : decode cX6_check 4 = .ok (.sipush 251, 3) := by decide +kernel
theorem dX6_check_7 : decode cX6_check 7 = .ok (.irem, 1) := by decide +kernel
theorem dX6_check_8 : decode cX6_check 8 = .ok (.ireturn, 1) := by decide +kernel
theorem dX6_sumOf_0 : decode cX6_sumOf 0 = .ok (.iconst 0, 1) := by decide +kernel
theorem dX6_sumOf_1 : decode cX6_sumOf 1 = .ok (.istore 4, 2) := by decide +kernel
theorem dX6_sumOf_3 : decode cX6_sumOf 3 = .ok (.iload_n 2, 1) := by decide +kernel
theorem dX6_sumOf_4 : decode cX6_sumOf 4 = .ok (.istore 5, 2) := by decide +kernel
theorem dX6_sumOf_6 : decode cX6_sumOf 6 = .ok (.iload 5, 2) := by decide +kernel
theorem dX6_sumOf_8 : decode cX6_sumOf 8 = .ok (.iload_n 2, 1) := by decide +kernel
theorem dX6_sumOf_9 : decode cX6_sumOf 9 = .ok (.iload_n 3, 1) := by decide +kernel
theorem dX6_sumOf_10 : decode cX6_sumOf 10 = .ok (.iadd, 1) := by decide +kernel
theorem dX6_sumOf_11 : decode cX6_sumOf 11 = .ok (.if_icmp .ge 21, 3) := by decide +kernel
theorem dX6_sumOf_14 : decode cX6_sumOf 14 = .ok (.iload 4, 2) := by decide +kernel
theorem dX6_sumOf_16 : decode cX6_sumOf 16 = .ok (.aload_n 0, 1) := by decide +kernel
theorem dX6_sumOf_17 : decode cX6_sumOf 17 = .ok (.iload_n 1, 1) := by decide +kernel
theorem dX6_sumOf_18 : decode cX6_sumOf 18 = .ok (.iload 5, 2) := by decide +kernel
theorem dX6_sumOf_20 : decode cX6_sumOf 20 = .ok (.invokevirtual 51, 3) := by decide +kernel
theorem dX6_sumOf_23 : decode cX6_sumOf 23 = .ok (.iadd, 1) := by decide +kernel
theorem dX6_sumOf_24 : decode cX6_sumOf 24 = .ok (.istore 4, 2) := by decide +kernel
theorem dX6_sumOf_26 : decode cX6_sumOf 26 = .ok (.iinc 5 1, 3) := by decide +kernel
theorem dX6_sumOf_29 : decode cX6_sumOf 29 = .ok (.goto (-23), 3) := by decide +kernel
theorem dX6_sumOf_32 : decode cX6_sumOf 32 = .ok (.iload 4, 2) := by decide +kernel
theorem dX6_sumOf_34 : decode cX6_sumOf 34 = .ok (.ireturn, 1) := by decide +kernel
theorem dX6_sortAt_0 : decode cX6_sortAt 0 = .ok (.aload_n 0, 1) := by decide +kernel
theorem dX6_sortAt_1 : decode cX6_sortAt 1 = .ok (.iload_n 1, 1) := by decide +kernel
theorem dX6_sortAt_2 : decode cX6_sortAt 2 = .ok (.iload_n 2, 1) := by decide +kernel
theorem dX6_sortAt_3 : decode cX6_sortAt 3 = .ok (.invokevirtual 51, 3) := by decide +kernel
theorem dX6_sortAt_6 : decode cX6_sortAt 6 = .ok (.istore_n 3, 1) := by decide +kernel
theorem dX6_sortAt_7 : decode cX6_sortAt 7 = .ok (.aload_n 0, 1) := by decide +kernel
theorem dX6_sortAt_8 : decode cX6_sortAt 8 = .ok (.iload_n 1, 1) := by decide +kernel
theorem dX6_sortAt_9 : decode cX6_sortAt 9 = .ok (.iload_n 2, 1) := by decide +kernel
theorem dX6_sortAt_10 : decode cX6_sortAt 10 = .ok (.iconst 1, 1) := by decide +kernel
theorem dX6_sortAt_11 : decode cX6_sortAt 11 = .ok (.iadd, 1) := by decide +kernel
theorem dX6_sortAt_12 : decode cX6_sortAt 12 = .ok (.invokevirtual 51, 3) := by decide +kernel
theorem dX6_sortAt_15 : decode cX6_sortAt 15 = .ok (.istore 4, 2) := by decide +kernel
theorem dX6_sortAt_17 : decode cX6_sortAt 17 = .ok (.iload_n 3, 1) := by decide +kernel
theorem dX6_sortAt_18 : decode cX6_sortAt 18 = .ok (.bipush 32, 2) := by decide +kernel
theorem dX6_sortAt_20 : decode cX6_sortAt 20 = .ok (.if_icmp .ge 17, 3) := by decide +kernel
theorem dX6_sortAt_23 : decode cX6_sortAt 23 = .ok (.iload 4, 2) := by decide +kernel
theorem dX6_sortAt_25 : decode cX6_sortAt 25 = .ok (.bipush 16, 2) := by decide +kernel
theorem dX6_sortAt_27 : decode cX6_sortAt 27 = .ok (.bipush 20, 2) := by decide +kernel
theorem dX6_sortAt_29 : decode cX6_sortAt 29 = .ok (.invokestatic 39, 3) := by decide +kernel
theorem dX6_sortAt_32 : decode cX6_sortAt 32 = .ok (.ifCond .eq 5, 3) := by decide +kernel
theorem dX6_sortAt_35 : decode cX6_sortAt 35 = .ok (.iconst 0, 1) := by decide +kernel
theorem dX6_sortAt_36 : decode cX6_sortAt 36 = .ok (.ireturn, 1) := by decide +kernel
theorem dX6_sortAt_37 : decode cX6_sortAt 37 = .ok (.iload_n 3, 1) := by decide +kernel
theorem dX6_sortAt_38 : decode cX6_sortAt 38 = .ok (.bipush 32, 2) := by decide +kernel
theorem dX6_sortAt_40 : decode cX6_sortAt 40 = .ok (.if_icmp .ge 17, 3) := by decide +kernel
theorem dX6_sortAt_43 : decode cX6_sortAt 43 = .ok (.iload 4, 2) := by decide +kernel
theorem dX6_sortAt_45 : decode cX6_sortAt 45 = .ok (.bipush 48, 2) := by decide +kernel
theorem dX6_sortAt_47 : decode cX6_sortAt 47 = .ok (.bipush 52, 2) := by decide +kernel
theorem dX6_sortAt_49 : decode cX6_sortAt 49 = .ok (.invokestatic 39, 3) := by decide +kernel
theorem dX6_sortAt_52 : decode cX6_sortAt 52 = .ok (.ifCond .eq 5, 3) := by decide +kernel
theorem dX6_sortAt_55 : decode cX6_sortAt 55 = .ok (.iconst 2, 1) := by decide +kernel
theorem dX6_sortAt_56 : decode cX6_sortAt 56 = .ok (.ireturn, 1) := by decide +kernel
theorem dX6_sortAt_57 : decode cX6_sortAt 57 = .ok (.iload_n 3, 1) := by decide +kernel
theorem dX6_sortAt_58 : decode cX6_sortAt 58 = .ok (.bipush 32, 2) := by decide +kernel
theorem dX6_sortAt_60 : decode cX6_sortAt 60 = .ok (.bipush 47, 2) := by decide +kernel
theorem dX6_sortAt_62 : decode cX6_sortAt 62 = .ok (.invokestatic 39, 3) := by decide +kernel
theorem dX6_sortAt_65 : decode cX6_sortAt 65 = .ok (.ifCond .eq 12, 3) := by decide +kernel
theorem dX6_sortAt_68 : decode cX6_sortAt 68 = .ok (.iload 4, 2) := by decide +kernel
theorem dX6_sortAt_70 : decode cX6_sortAt 70 = .ok (.bipush 43, 2) := by decide +kernel
theorem dX6_sortAt_72 : decode cX6_sortAt 72 = .ok (.if_icmp .ne 5, 3) := by decide +kernel
theorem dX6_sortAt_75 : decode cX6_sortAt 75 = .ok (.iconst 1, 1) := by decide +kernel
theorem dX6_sortAt_76 : decode cX6_sortAt 76 = .ok (.ireturn, 1) := by decide +kernel
theorem dX6_sortAt_77 : decode cX6_sortAt 77 = .ok (.iload_n 3, 1) := by decide +kernel
theorem dX6_sortAt_78 : decode cX6_sortAt 78 = .ok (.bipush 63, 2) := by decide +kernel
theorem dX6_sortAt_80 : decode cX6_sortAt 80 = .ok (.if_icmp .ne 14, 3) := by decide +kernel
theorem dX6_sortAt_83 : decode cX6_sortAt 83 = .ok (.iload 4, 2) := by decide +kernel
theorem dX6_sortAt_85 : decode cX6_sortAt 85 = .ok (.bipush 65, 2) := by decide +kernel
theorem dX6_sortAt_87 : decode cX6_sortAt 87 = .ok (.if_icmp .ne 7, 3) := by decide +kernel
theorem dX6_sortAt_90 : decode cX6_sortAt 90 = .ok (.iconst 3, 1) := by decide +kernel
theorem dX6_sortAt_91 : decode cX6_sortAt 91 = .ok (.goto 4, 3) := by decide +kernel
theorem dX6_sortAt_94 : decode cX6_sortAt 94 = .ok (.iconst (-1), 1) := by decide +kernel
theorem dX6_sortAt_95 : decode cX6_sortAt 95 = .ok (.ireturn, 1) := by decide +kernel
theorem dX6_sizeBy_0 : decode cX6_sizeBy 0 = .ok (.iload_n 1, 1) := by decide +kernel
theorem dX6_sizeBy_1 : decode cX6_sizeBy 1 = .ok (.iconst 1, 1) := by decide +kernel
theorem dX6_sizeBy_2 : decode cX6_sizeBy 2 = .ok (.if_icmp .ne 8, 3) := by decide +kernel
theorem dX6_sizeBy_5 : decode cX6_sizeBy 5 = .ok (.bipush 14, 2) := by decide +kernel
theorem dX6_sizeBy_7 : decode cX6_sizeBy 7 = .ok (.goto 18, 3) := by decide +kernel
theorem dX6_sizeBy_10 : decode cX6_sizeBy 10 = .ok (.iload_n 1, 1) := by decide +kernel
theorem dX6_sizeBy_11 : decode cX6_sizeBy 11 = .ok (.iconst 3, 1) := by decide +kernel
theorem dX6_sizeBy_12 : decode cX6_sizeBy 12 = .ok (.if_icmp .ne 7, 3) := by decide +kernel
theorem dX6_sizeBy_15 : decode cX6_sizeBy 15 = .ok (.iconst 4, 1) := by decide +kernel
theorem dX6_sizeBy_16 : decode cX6_sizeBy 16 = .ok (.goto 9, 3) := by decide +kernel
theorem dX6_sizeBy_19 : decode cX6_sizeBy 19 = .ok (.iconst 3, 1) := by decide +kernel
theorem dX6_sizeBy_20 : decode cX6_sizeBy 20 = .ok (.iload_n 2, 1) := by decide +kernel
theorem dX6_sizeBy_21 : decode cX6_sizeBy 21 = .ok (.bipush 16, 2) := by decide +kernel
theorem dX6_sizeBy_23 : decode cX6_sizeBy 23 = .ok (.irem, 1) := by decide +kernel
theorem dX6_sizeBy_24 : decode cX6_sizeBy 24 = .ok (.iadd, 1) := by decide +kernel
theorem dX6_sizeBy_25 : decode cX6_sizeBy 25 = .ok (.ireturn, 1) := by decide +kernel
theorem dX6_checked_0 : decode cX6_checked 0 = .ok (.aload_n 0, 1) := by decide +kernel
theorem dX6_checked_1 : decode cX6_checked 1 = .ok (.getfield 19, 3) := by decide +kernel
theorem dX6_checked_4 : decode cX6_checked 4 = .ok (.iload_n 1, 1) := by decide +kernel
theorem dX6_checked_5 : decode cX6_checked 5 = .ok (.iaload, 1) := by decide +kernel
theorem dX6_checked_6 : decode cX6_checked 6 = .ok (.iconst 1, 1) := by decide +kernel
theorem dX6_checked_7 : decode cX6_checked 7 = .ok (.if_icmp .ne 7, 3) := by decide +kernel
theorem dX6_checked_10 : decode cX6_checked 10 = .ok (.iconst 5, 1) := by decide +kernel
theorem dX6_checked_11 : decode cX6_checked 11 = .ok (.goto 11, 3) := by decide +kernel
theorem dX6_checked_14 : decode cX6_checked 14 = .ok (.aload_n 0, 1) := by decide +kernel
theorem dX6_checked_15 : decode cX6_checked 15 = .ok (.getfield 22, 3) := by decide +kernel
theorem dX6_checked_18 : decode cX6_checked 18 = .ok (.iload_n 1, 1) := by decide +kernel
theorem dX6_checked_19 : decode cX6_checked 19 = .ok (.iaload, 1) := by decide +kernel
theorem dX6_checked_20 : decode cX6_checked 20 = .ok (.iconst 1, 1) := by decide +kernel
theorem dX6_checked_21 : decode cX6_checked 21 = .ok (.isub, 1) := by decide +kernel
theorem dX6_checked_22 : decode cX6_checked 22 = .ok (.ireturn, 1) := by decide +kernel
theorem dX6_reads_0 : decode cX6_reads 0 = .ok (.aload_n 0, 1) := by decide +kernel
theorem dX6_reads_1 : decode cX6_reads 1 = .ok (.iconst 0, 1) := by decide +kernel
theorem dX6_reads_2 : decode cX6_reads 2 = .ok (.putfield 55, 3) := by decide +kernel
theorem dX6_reads_5 : decode cX6_reads 5 = .ok (.aload_n 0, 1) := by decide +kernel
theorem dX6_reads_6 : decode cX6_reads 6 = .ok (.iconst 0, 1) := by decide +kernel
theorem dX6_reads_7 : decode cX6_reads 7 = .ok (.putfield 58, 3) := by decide +kernel
theorem dX6_reads_10 : decode cX6_reads 10 = .ok (.iconst 4, 1) := by decide +kernel
theorem dX6_reads_11 : decode cX6_reads 11 = .ok (.istore_n 2, 1) := by decide +kernel
theorem dX6_reads_12 : decode cX6_reads 12 = .ok (.iload_n 2, 1) := by decide +kernel
theorem dX6_reads_13 : decode cX6_reads 13 = .ok (.aload_n 0, 1) := by decide +kernel
theorem dX6_reads_14 : decode cX6_reads 14 = .ok (.getfield 7, 3) := by decide +kernel
theorem dX6_reads_17 : decode cX6_reads 17 = .ok (.iconst 1, 1) := by decide +kernel
theorem dX6_reads_18 : decode cX6_reads 18 = .ok (.iaload, 1) := by decide +kernel
theorem dX6_reads_19 : decode cX6_reads 19 = .ok (.if_icmp .ge 202, 3) := by decide +kernel
theorem dX6_reads_22 : decode cX6_reads 22 = .ok (.aload_n 0, 1) := by decide +kernel
theorem dX6_reads_23 : decode cX6_reads 23 = .ok (.iload_n 1, 1) := by decide +kernel
theorem dX6_reads_24 : decode cX6_reads 24 = .ok (.iload_n 2, 1) := by decide +kernel
theorem dX6_reads_25 : decode cX6_reads 25 = .ok (.invokevirtual 61, 3) := by decide +kernel
theorem dX6_reads_28 : decode cX6_reads 28 = .ok (.ifCond .ne 193, 3) := by decide +kernel
theorem dX6_reads_31 : decode cX6_reads 31 = .ok (.iload_n 2, 1) := by decide +kernel
theorem dX6_reads_32 : decode cX6_reads 32 = .ok (.iconst 1, 1) := by decide +kernel
theorem dX6_reads_33 : decode cX6_reads 33 = .ok (.iadd, 1) := by decide +kernel
theorem dX6_reads_34 : decode cX6_reads 34 = .ok (.aload_n 0, 1) := by decide +kernel
theorem dX6_reads_35 : decode cX6_reads 35 = .ok (.getfield 7, 3) := by decide +kernel
theorem dX6_reads_38 : decode cX6_reads 38 = .ok (.iconst 1, 1) := by decide +kernel
theorem dX6_reads_39 : decode cX6_reads 39 = .ok (.iaload, 1) := by decide +kernel
theorem dX6_reads_40 : decode cX6_reads 40 = .ok (.if_icmp .ge 12, 3) := by decide +kernel
theorem dX6_reads_43 : decode cX6_reads 43 = .ok (.aload_n 0, 1) := by decide +kernel
theorem dX6_reads_44 : decode cX6_reads 44 = .ok (.iload_n 1, 1) := by decide +kernel
theorem dX6_reads_45 : decode cX6_reads 45 = .ok (.iload_n 2, 1) := by decide +kernel
theorem dX6_reads_46 : decode cX6_reads 46 = .ok (.invokevirtual 65, 3) := by decide +kernel
theorem dX6_reads_49 : decode cX6_reads 49 = .ok (.goto 4, 3) := by decide +kernel
theorem dX6_reads_52 : decode cX6_reads 52 = .ok (.iconst (-1), 1) := by decide +kernel
theorem dX6_reads_53 : decode cX6_reads 53 = .ok (.istore_n 3, 1) := by decide +kernel
theorem dX6_reads_54 : decode cX6_reads 54 = .ok (.iload_n 3, 1) := by decide +kernel
theorem dX6_reads_55 : decode cX6_reads 55 = .ok (.ifCond .ge 7, 3) := by decide +kernel
theorem dX6_reads_58 : decode cX6_reads 58 = .ok (.iconst 0, 1) := by decide +kernel
theorem dX6_reads_59 : decode cX6_reads 59 = .ok (.goto 16, 3) := by decide +kernel
theorem dX6_reads_62 : decode cX6_reads 62 = .ok (.aload_n 0, 1) := by decide +kernel
theorem dX6_reads_63 : decode cX6_reads 63 = .ok (.iload_n 3, 1) := by decide +kernel
theorem dX6_reads_64 : decode cX6_reads 64 = .ok (.aload_n 0, 1) := by decide +kernel
theorem dX6_reads_65 : decode cX6_reads 65 = .ok (.iload_n 1, 1) := by decide +kernel
theorem dX6_reads_66 : decode cX6_reads 66 = .ok (.iload_n 2, 1) := by decide +kernel
theorem dX6_reads_67 : decode cX6_reads 67 = .ok (.iconst 1, 1) := by decide +kernel
theorem dX6_reads_68 : decode cX6_reads 68 = .ok (.iadd, 1) := by decide +kernel
theorem dX6_reads_69 : decode cX6_reads 69 = .ok (.invokevirtual 51, 3) := by decide +kernel
theorem dX6_reads_72 : decode cX6_reads 72 = .ok (.invokevirtual 68, 3) := by decide +kernel
theorem dX6_reads_75 : decode cX6_reads 75 = .ok (.istore 4, 2) := by decide +kernel
theorem dX6_reads_77 : decode cX6_reads 77 = .ok (.iload_n 3, 1) := by decide +kernel
theorem dX6_reads_78 : decode cX6_reads 78 = .ok (.ifCond .lt 16, 3) := by decide +kernel
theorem dX6_reads_81 : decode cX6_reads 81 = .ok (.iload_n 2, 1) := by decide +kernel
theorem dX6_reads_82 : decode cX6_reads 82 = .ok (.iload 4, 2) := by decide +kernel
theorem dX6_reads_84 : decode cX6_reads 84 = .ok (.iadd, 1) := by decide +kernel
theorem dX6_reads_85 : decode cX6_reads 85 = .ok (.aload_n 0, 1) := by decide +kernel
theorem dX6_reads_86 : decode cX6_reads 86 = .ok (.getfield 7, 3) := by decide +kernel
theorem dX6_reads_89 : decode cX6_reads 89 = .ok (.iconst 1, 1) := by decide +kernel
theorem dX6_reads_90 : decode cX6_reads 90 = .ok (.iaload, 1) := by decide +kernel
theorem dX6_reads_91 : decode cX6_reads 91 = .ok (.if_icmp .le 25, 3) := by decide +kernel
theorem dX6_reads_94 : decode cX6_reads 94 = .ok (.aload_n 0, 1) := by decide +kernel
theorem dX6_reads_95 : decode cX6_reads 95 = .ok (.aload_n 0, 1) := by decide +kernel
theorem dX6_reads_96 : decode cX6_reads 96 = .ok (.getfield 7, 3) := by decide +kernel
theorem dX6_reads_99 : decode cX6_reads 99 = .ok (.iconst 1, 1) := by decide +kernel
theorem dX6_reads_100 : decode cX6_reads 100 = .ok (.iaload, 1) := by decide +kernel
theorem dX6_reads_101 : decode cX6_reads 101 = .ok (.iload_n 2, 1) := by decide +kernel
theorem dX6_reads_102 : decode cX6_reads 102 = .ok (.isub, 1) := by decide +kernel
theorem dX6_reads_103 : decode cX6_reads 103 = .ok (.putfield 58, 3) := by decide +kernel
theorem dX6_reads_106 : decode cX6_reads 106 = .ok (.aload_n 0, 1) := by decide +kernel
theorem dX6_reads_107 : decode cX6_reads 107 = .ok (.getfield 7, 3) := by decide +kernel
theorem dX6_reads_110 : decode cX6_reads 110 = .ok (.iconst 1, 1) := by decide +kernel
theorem dX6_reads_111 : decode cX6_reads 111 = .ok (.iaload, 1) := by decide +kernel
theorem dX6_reads_112 : decode cX6_reads 112 = .ok (.istore_n 2, 1) := by decide +kernel
theorem dX6_reads_113 : decode cX6_reads 113 = .ok (.goto (-101), 3) := by decide +kernel
theorem dX6_reads_116 : decode cX6_reads 116 = .ok (.aload_n 0, 1) := by decide +kernel
theorem dX6_reads_117 : decode cX6_reads 117 = .ok (.getfield 16, 3) := by decide +kernel
theorem dX6_reads_120 : decode cX6_reads 120 = .ok (.aload_n 0, 1) := by decide +kernel
theorem dX6_reads_121 : decode cX6_reads 121 = .ok (.getfield 55, 3) := by decide +kernel
theorem dX6_reads_124 : decode cX6_reads 124 = .ok (.iload_n 2, 1) := by decide +kernel
theorem dX6_reads_125 : decode cX6_reads 125 = .ok (.iastore, 1) := by decide +kernel
theorem dX6_reads_126 : decode cX6_reads 126 = .ok (.aload_n 0, 1) := by decide +kernel
theorem dX6_reads_127 : decode cX6_reads 127 = .ok (.getfield 19, 3) := by decide +kernel
theorem dX6_reads_130 : decode cX6_reads 130 = .ok (.aload_n 0, 1) := by decide +kernel
theorem dX6_reads_131 : decode cX6_reads 131 = .ok (.getfield 55, 3) := by decide +kernel
theorem dX6_reads_134 : decode cX6_reads 134 = .ok (.iload_n 3, 1) := by decide +kernel
theorem dX6_reads_135 : decode cX6_reads 135 = .ok (.iastore, 1) := by decide +kernel
theorem dX6_reads_136 : decode cX6_reads 136 = .ok (.aload_n 0, 1) := by decide +kernel
theorem dX6_reads_137 : decode cX6_reads 137 = .ok (.getfield 22, 3) := by decide +kernel
theorem dX6_reads_140 : decode cX6_reads 140 = .ok (.aload_n 0, 1) := by decide +kernel
theorem dX6_reads_141 : decode cX6_reads 141 = .ok (.getfield 55, 3) := by decide +kernel
theorem dX6_reads_144 : decode cX6_reads 144 = .ok (.iload 4, 2) := by decide +kernel
theorem dX6_reads_146 : decode cX6_reads 146 = .ok (.iastore, 1) := by decide +kernel
theorem dX6_reads_147 : decode cX6_reads 147 = .ok (.aload_n 0, 1) := by decide +kernel
theorem dX6_reads_148 : decode cX6_reads 148 = .ok (.aload_n 0, 1) := by decide +kernel
theorem dX6_reads_149 : decode cX6_reads 149 = .ok (.getfield 55, 3) := by decide +kernel
theorem dX6_reads_152 : decode cX6_reads 152 = .ok (.invokevirtual 71, 3) := by decide +kernel
theorem dX6_reads_155 : decode cX6_reads 155 = .ok (.istore 5, 2) := by decide +kernel
theorem dX6_reads_157 : decode cX6_reads 157 = .ok (.aload_n 0, 1) := by decide +kernel
theorem dX6_reads_158 : decode cX6_reads 158 = .ok (.getfield 25, 3) := by decide +kernel
theorem dX6_reads_161 : decode cX6_reads 161 = .ok (.aload_n 0, 1) := by decide +kernel
theorem dX6_reads_162 : decode cX6_reads 162 = .ok (.getfield 55, 3) := by decide +kernel
theorem dX6_reads_165 : decode cX6_reads 165 = .ok (.aload_n 0, 1) := by decide +kernel
theorem dX6_reads_166 : decode cX6_reads 166 = .ok (.iload_n 1, 1) := by decide +kernel
theorem dX6_reads_167 : decode cX6_reads 167 = .ok (.iload_n 2, 1) := by decide +kernel
theorem dX6_reads_168 : decode cX6_reads 168 = .ok (.iload 5, 2) := by decide +kernel
theorem dX6_reads_170 : decode cX6_reads 170 = .ok (.invokevirtual 75, 3) := by decide +kernel
theorem dX6_reads_173 : decode cX6_reads 173 = .ok (.invokestatic 79, 3) := by decide +kernel
theorem dX6_reads_176 : decode cX6_reads 176 = .ok (.aload_n 0, 1) := by decide +kernel
theorem dX6_reads_177 : decode cX6_reads 177 = .ok (.iload_n 1, 1) := by decide +kernel
theorem dX6_reads_178 : decode cX6_reads 178 = .ok (.iload_n 2, 1) := by decide +kernel
theorem dX6_reads_179 : decode cX6_reads 179 = .ok (.iload 5, 2) := by decide +kernel
theorem dX6_reads_181 : decode cX6_reads 181 = .ok (.iadd, 1) := by decide +kernel
theorem dX6_reads_182 : decode cX6_reads 182 = .ok (.invokevirtual 51, 3) := by decide +kernel
theorem dX6_reads_185 : decode cX6_reads 185 = .ok (.if_icmp .eq 7, 3) := by decide +kernel
theorem dX6_reads_188 : decode cX6_reads 188 = .ok (.iconst 2, 1) := by decide +kernel
theorem dX6_reads_189 : decode cX6_reads 189 = .ok (.goto 13, 3) := by decide +kernel
theorem dX6_reads_192 : decode cX6_reads 192 = .ok (.iload_n 3, 1) := by decide +kernel
theorem dX6_reads_193 : decode cX6_reads 193 = .ok (.iconst 2, 1) := by decide +kernel
theorem dX6_reads_194 : decode cX6_reads 194 = .ok (.if_icmp .ge 7, 3) := by decide +kernel
theorem dX6_reads_197 : decode cX6_reads 197 = .ok (.iconst 1, 1) := by decide +kernel
theorem dX6_reads_198 : decode cX6_reads 198 = .ok (.goto 4, 3) := by decide +kernel
theorem dX6_reads_201 : decode cX6_reads 201 = .ok (.iconst 3, 1) := by decide +kernel
theorem dX6_reads_202 : decode cX6_reads 202 = .ok (.iastore, 1) := by decide +kernel
theorem dX6_reads_203 : decode cX6_reads 203 = .ok (.aload_n 0, 1) := by decide +kernel
theorem dX6_reads_204 : decode cX6_reads 204 = .ok (.dup, 1) := by decide +kernel
theorem dX6_reads_205 : decode cX6_reads 205 = .ok (.getfield 55, 3) := by decide +kernel
theorem dX6_reads_208 : decode cX6_reads 208 = .ok (.iconst 1, 1) := by decide +kernel
theorem dX6_reads_209 : decode cX6_reads 209 = .ok (.iadd, 1) := by decide +kernel
theorem dX6_reads_210 : decode cX6_reads 210 = .ok (.putfield 55, 3) := by decide +kernel
theorem dX6_reads_213 : decode cX6_reads 213 = .ok (.iload_n 2, 1) := by decide +kernel
theorem dX6_reads_214 : decode cX6_reads 214 = .ok (.iload 4, 2) := by decide +kernel
theorem dX6_reads_216 : decode cX6_reads 216 = .ok (.iadd, 1) := by decide +kernel
theorem dX6_reads_217 : decode cX6_reads 217 = .ok (.istore_n 2, 1) := by decide +kernel
theorem dX6_reads_218 : decode cX6_reads 218 = .ok (.goto (-206), 3) := by decide +kernel
theorem dX6_reads_221 : decode cX6_reads 221 = .ok (.aload_n 0, 1) := by decide +kernel
theorem dX6_reads_222 : decode cX6_reads 222 = .ok (.iload_n 2, 1) := by decide +kernel
theorem dX6_reads_223 : decode cX6_reads 223 = .ok (.putfield 82, 3) := by decide +kernel
theorem dX6_reads_226 : decode cX6_reads 226 = .ok (.aload_n 0, 1) := by decide +kernel
theorem dX6_reads_227 : decode cX6_reads 227 = .ok (.iload_n 1, 1) := by decide +kernel
theorem dX6_reads_228 : decode cX6_reads 228 = .ok (.invokevirtual 85, 3) := by decide +kernel
theorem dX6_reads_231 : decode cX6_reads 231 = .ok (.iconst 0, 1) := by decide +kernel
theorem dX6_reads_232 : decode cX6_reads 232 = .ok (.istore_n 3, 1) := by decide +kernel
theorem dX6_reads_233 : decode cX6_reads 233 = .ok (.iload_n 3, 1) := by decide +kernel
theorem dX6_reads_234 : decode cX6_reads 234 = .ok (.bipush 48, 2) := by decide +kernel
theorem dX6_reads_236 : decode cX6_reads 236 = .ok (.if_icmp .ge 16, 3) := by decide +kernel
theorem dX6_reads_239 : decode cX6_reads 239 = .ok (.aload_n 0, 1) := by decide +kernel
theorem dX6_reads_240 : decode cX6_reads 240 = .ok (.getfield 28, 3) := by decide +kernel
theorem dX6_reads_243 : decode cX6_reads 243 = .ok (.iload_n 3, 1) := by decide +kernel
theorem dX6_reads_244 : decode cX6_reads 244 = .ok (.iconst (-1), 1) := by decide +kernel
theorem dX6_reads_245 : decode cX6_reads 245 = .ok (.iastore, 1) := by decide +kernel
theorem dX6_reads_246 : decode cX6_reads 246 = .ok (.iinc 3 1, 3) := by decide +kernel
theorem dX6_reads_249 : decode cX6_reads 249 = .ok (.goto (-16), 3) := by decide +kernel
theorem dX6_reads_252 : decode cX6_reads 252 = .ok (.iconst 0, 1) := by decide +kernel
theorem dX6_reads_253 : decode cX6_reads 253 = .ok (.istore_n 3, 1) := by decide +kernel
theorem dX6_reads_254 : decode cX6_reads 254 = .ok (.iload_n 3, 1) := by decide +kernel
theorem dX6_reads_255 : decode cX6_reads 255 = .ok (.aload_n 0, 1) := by decide +kernel
theorem dX6_reads_256 : decode cX6_reads 256 = .ok (.getfield 55, 3) := by decide +kernel
theorem dX6_reads_259 : decode cX6_reads 259 = .ok (.if_icmp .ge 46, 3) := by decide +kernel
theorem dX6_reads_262 : decode cX6_reads 262 = .ok (.aload_n 0, 1) := by decide +kernel
theorem dX6_reads_263 : decode cX6_reads 263 = .ok (.getfield 19, 3) := by decide +kernel
theorem dX6_reads_266 : decode cX6_reads 266 = .ok (.iload_n 3, 1) := by decide +kernel
theorem dX6_reads_267 : decode cX6_reads 267 = .ok (.iaload, 1) := by decide +kernel
theorem dX6_reads_268 : decode cX6_reads 268 = .ok (.iconst 3, 1) := by decide +kernel
theorem dX6_reads_269 : decode cX6_reads 269 = .ok (.if_icmp .eq 30, 3) := by decide +kernel
theorem dX6_reads_272 : decode cX6_reads 272 = .ok (.aload_n 0, 1) := by decide +kernel
theorem dX6_reads_273 : decode cX6_reads 273 = .ok (.getfield 25, 3) := by decide +kernel
theorem dX6_reads_276 : decode cX6_reads 276 = .ok (.iload_n 3, 1) := by decide +kernel
theorem dX6_reads_277 : decode cX6_reads 277 = .ok (.iaload, 1) := by decide +kernel
theorem dX6_reads_278 : decode cX6_reads 278 = .ok (.iconst 1, 1) := by decide +kernel
theorem dX6_reads_279 : decode cX6_reads 279 = .ok (.if_icmp .ne 20, 3) := by decide +kernel
theorem dX6_reads_282 : decode cX6_reads 282 = .ok (.aload_n 0, 1) := by decide +kernel
theorem dX6_reads_283 : decode cX6_reads 283 = .ok (.getfield 28, 3) := by decide +kernel
theorem dX6_reads_286 : decode cX6_reads 286 = .ok (.aload_n 0, 1) := by decide +kernel
theorem dX6_reads_287 : decode cX6_reads 287 = .ok (.iload_n 1, 1) := by decide +kernel
theorem dX6_reads_288 : decode cX6_reads 288 = .ok (.aload_n 0, 1) := by decide +kernel
theorem dX6_reads_289 : decode cX6_reads 289 = .ok (.getfield 16, 3) := by decide +kernel
theorem dX6_reads_292 : decode cX6_reads 292 = .ok (.iload_n 3, 1) := by decide +kernel
theorem dX6_reads_293 : decode cX6_reads 293 = .ok (.iaload, 1) := by decide +kernel
theorem dX6_reads_294 : decode cX6_reads 294 = .ok (.invokevirtual 51, 3) := by decide +kernel
theorem dX6_reads_297 : decode cX6_reads 297 = .ok (.iload_n 3, 1) := by decide +kernel
theorem dX6_reads_298 : decode cX6_reads 298 = .ok (.iastore, 1) := by decide +kernel
theorem dX6_reads_299 : decode cX6_reads 299 = .ok (.iinc 3 1, 3) := by decide +kernel
theorem dX6_reads_302 : decode cX6_reads 302 = .ok (.goto (-48), 3) := by decide +kernel
theorem dX6_reads_305 : decode cX6_reads 305 = .ok (.iconst 0, 1) := by decide +kernel
theorem dX6_reads_306 : decode cX6_reads 306 = .ok (.istore_n 3, 1) := by decide +kernel
theorem dX6_reads_307 : decode cX6_reads 307 = .ok (.iload_n 3, 1) := by decide +kernel
theorem dX6_reads_308 : decode cX6_reads 308 = .ok (.bipush 48, 2) := by decide +kernel
theorem dX6_reads_310 : decode cX6_reads 310 = .ok (.if_icmp .ge 30, 3) := by decide +kernel
theorem dX6_reads_313 : decode cX6_reads 313 = .ok (.aload_n 0, 1) := by decide +kernel
theorem dX6_reads_314 : decode cX6_reads 314 = .ok (.getfield 28, 3) := by decide +kernel
theorem dX6_reads_317 : decode cX6_reads 317 = .ok (.iload_n 3, 1) := by decide +kernel
theorem dX6_reads_318 : decode cX6_reads 318 = .ok (.iaload, 1) := by decide +kernel
theorem dX6_reads_319 : decode cX6_reads 319 = .ok (.ifCond .lt 15, 3) := by decide +kernel
theorem dX6_reads_322 : decode cX6_reads 322 = .ok (.aload_n 0, 1) := by decide +kernel
theorem dX6_reads_323 : decode cX6_reads 323 = .ok (.getfield 25, 3) := by decide +kernel
theorem dX6_reads_326 : decode cX6_reads 326 = .ok (.aload_n 0, 1) := by decide +kernel
theorem dX6_reads_327 : decode cX6_reads 327 = .ok (.getfield 28, 3) := by decide +kernel
theorem dX6_reads_330 : decode cX6_reads 330 = .ok (.iload_n 3, 1) := by decide +kernel
theorem dX6_reads_331 : decode cX6_reads 331 = .ok (.iaload, 1) := by decide +kernel
theorem dX6_reads_332 : decode cX6_reads 332 = .ok (.iconst 0, 1) := by decide +kernel
theorem dX6_reads_333 : decode cX6_reads 333 = .ok (.iastore, 1) := by decide +kernel
theorem dX6_reads_334 : decode cX6_reads 334 = .ok (.iinc 3 1, 3) := by decide +kernel
theorem dX6_reads_337 : decode cX6_reads 337 = .ok (.goto (-30), 3) := by decide +kernel
theorem dX6_reads_340 : decode cX6_reads 340 = .ok (.return_, 1) := by decide +kernel
theorem dX6_commits_0 : decode cX6_commits 0 = .ok (.iconst 0, 1) := by decide +kernel
theorem dX6_commits_1 : decode cX6_commits 1 = .ok (.istore_n 2, 1) := by decide +kernel
theorem dX6_commits_2 : decode cX6_commits 2 = .ok (.iload_n 2, 1) := by decide +kernel
theorem dX6_commits_3 : decode cX6_commits 3 = .ok (.aload_n 0, 1) := by decide +kernel
theorem dX6_commits_4 : decode cX6_commits 4 = .ok (.getfield 55, 3) := by decide +kernel
theorem dX6_commits_7 : decode cX6_commits 7 = .ok (.if_icmp .ge 159, 3) := by decide +kernel
theorem dX6_commits_10 : decode cX6_commits 10 = .ok (.aload_n 0, 1) := by decide +kernel
theorem dX6_commits_11 : decode cX6_commits 11 = .ok (.getfield 19, 3) := by decide +kernel
theorem dX6_commits_14 : decode cX6_commits 14 = .ok (.iload_n 2, 1) := by decide +kernel
theorem dX6_commits_15 : decode cX6_commits 15 = .ok (.iaload, 1) := by decide +kernel
theorem dX6_commits_16 : decode cX6_commits 16 = .ok (.iconst 3, 1) := by decide +kernel
theorem dX6_commits_17 : decode cX6_commits 17 = .ok (.if_icmp .ne 143, 3) := by decide +kernel
theorem dX6_commits_20 : decode cX6_commits 20 = .ok (.aload_n 0, 1) := by decide +kernel
theorem dX6_commits_21 : decode cX6_commits 21 = .ok (.getfield 25, 3) := by decide +kernel
theorem dX6_commits_24 : decode cX6_commits 24 = .ok (.iload_n 2, 1) := by decide +kernel
theorem dX6_commits_25 : decode cX6_commits 25 = .ok (.iaload, 1) := by decide +kernel
theorem dX6_commits_26 : decode cX6_commits 26 = .ok (.iconst 2, 1) := by decide +kernel
theorem dX6_commits_27 : decode cX6_commits 27 = .ok (.if_icmp .ne 6, 3) := by decide +kernel
theorem dX6_commits_30 : decode cX6_commits 30 = .ok (.goto 130, 3) := by decide +kernel
theorem dX6_commits_33 : decode cX6_commits 33 = .ok (.aload_n 0, 1) := by decide +kernel
theorem dX6_commits_34 : decode cX6_commits 34 = .ok (.iload_n 1, 1) := by decide +kernel
theorem dX6_commits_35 : decode cX6_commits 35 = .ok (.aload_n 0, 1) := by decide +kernel
theorem dX6_commits_36 : decode cX6_commits 36 = .ok (.getfield 16, 3) := by decide +kernel
theorem dX6_commits_39 : decode cX6_commits 39 = .ok (.iload_n 2, 1) := by decide +kernel
theorem dX6_commits_40 : decode cX6_commits 40 = .ok (.iaload, 1) := by decide +kernel
theorem dX6_commits_41 : decode cX6_commits 41 = .ok (.iconst 2, 1) := by decide +kernel
theorem dX6_commits_42 : decode cX6_commits 42 = .ok (.iadd, 1) := by decide +kernel
theorem dX6_commits_43 : decode cX6_commits 43 = .ok (.invokevirtual 51, 3) := by decide +kernel
theorem dX6_commits_46 : decode cX6_commits 46 = .ok (.istore_n 3, 1) := by decide +kernel
theorem dX6_commits_47 : decode cX6_commits 47 = .ok (.iload_n 3, 1) := by decide +kernel
theorem dX6_commits_48 : decode cX6_commits 48 = .ok (.iconst 1, 1) := by decide +kernel
theorem dX6_commits_49 : decode cX6_commits 49 = .ok (.bipush 8, 2) := by decide +kernel
theorem dX6_commits_51 : decode cX6_commits 51 = .ok (.invokestatic 39, 3) := by decide +kernel
theorem dX6_commits_54 : decode cX6_commits 54 = .ok (.ifCond .eq 12, 3) := by decide +kernel
theorem dX6_commits_57 : decode cX6_commits 57 = .ok (.iload_n 3, 1) := by decide +kernel
theorem dX6_commits_58 : decode cX6_commits 58 = .ok (.iload_n 2, 1) := by decide +kernel
theorem dX6_commits_59 : decode cX6_commits 59 = .ok (.if_icmp .gt 7, 3) := by decide +kernel
theorem dX6_commits_62 : decode cX6_commits 62 = .ok (.iconst 1, 1) := by decide +kernel
theorem dX6_commits_63 : decode cX6_commits 63 = .ok (.goto 4, 3) := by decide +kernel
theorem dX6_commits_66 : decode cX6_commits 66 = .ok (.iconst 0, 1) := by decide +kernel
theorem dX6_commits_67 : decode cX6_commits 67 = .ok (.istore 4, 2) := by decide +kernel
theorem dX6_commits_69 : decode cX6_commits 69 = .ok (.iload_n 2, 1) := by decide +kernel
theorem dX6_commits_70 : decode cX6_commits 70 = .ok (.iload_n 3, 1) := by decide +kernel
theorem dX6_commits_71 : decode cX6_commits 71 = .ok (.isub, 1) := by decide +kernel
theorem dX6_commits_72 : decode cX6_commits 72 = .ok (.istore 5, 2) := by decide +kernel
theorem dX6_commits_74 : decode cX6_commits 74 = .ok (.iload 5, 2) := by decide +kernel
theorem dX6_commits_76 : decode cX6_commits 76 = .ok (.iload_n 2, 1) := by decide +kernel
theorem dX6_commits_77 : decode cX6_commits 77 = .ok (.if_icmp .ge 43, 3) := by decide +kernel
theorem dX6_commits_80 : decode cX6_commits 80 = .ok (.iload 4, 2) := by decide +kernel
theorem dX6_commits_82 : decode cX6_commits 82 = .ok (.ifCond .eq 38, 3) := by decide +kernel
theorem dX6_commits_85 : decode cX6_commits 85 = .ok (.aload_n 0, 1) := by decide +kernel
theorem dX6_commits_86 : decode cX6_commits 86 = .ok (.getfield 19, 3) := by decide +kernel
theorem dX6_commits_89 : decode cX6_commits 89 = .ok (.iload 5, 2) := by decide +kernel
theorem dX6_commits_91 : decode cX6_commits 91 = .ok (.iaload, 1) := by decide +kernel
theorem dX6_commits_92 : decode cX6_commits 92 = .ok (.iconst 2, 1) := by decide +kernel
theorem dX6_commits_93 : decode cX6_commits 93 = .ok (.if_icmp .ne 18, 3) := by decide +kernel
theorem dX6_commits_96 : decode cX6_commits 96 = .ok (.aload_n 0, 1) := by decide +kernel
theorem dX6_commits_97 : decode cX6_commits 97 = .ok (.getfield 25, 3) := by decide +kernel
theorem dX6_commits_100 : decode cX6_commits 100 = .ok (.iload 5, 2) := by decide +kernel
theorem dX6_commits_102 : decode cX6_commits 102 = .ok (.iaload, 1) := by decide +kernel
theorem dX6_commits_103 : decode cX6_commits 103 = .ok (.iconst 2, 1) := by decide +kernel
theorem dX6_commits_104 : decode cX6_commits 104 = .ok (.if_icmp .eq 7, 3) := by decide +kernel
theorem dX6_commits_107 : decode cX6_commits 107 = .ok (.iconst 1, 1) := by decide +kernel
theorem dX6_commits_108 : decode cX6_commits 108 = .ok (.goto 4, 3) := by decide +kernel
theorem dX6_commits_111 : decode cX6_commits 111 = .ok (.iconst 0, 1) := by decide +kernel
theorem dX6_commits_112 : decode cX6_commits 112 = .ok (.istore 4, 2) := by decide +kernel
theorem dX6_commits_114 : decode cX6_commits 114 = .ok (.iinc 5 1, 3) := by decide +kernel
theorem dX6_commits_117 : decode cX6_commits 117 = .ok (.goto (-43), 3) := by decide +kernel
theorem dX6_commits_120 : decode cX6_commits 120 = .ok (.iload 4, 2) := by decide +kernel
theorem dX6_commits_122 : decode cX6_commits 122 = .ok (.ifCond .ne 6, 3) := by decide +kernel
theorem dX6_commits_125 : decode cX6_commits 125 = .ok (.goto 35, 3) := by decide +kernel
theorem dX6_commits_128 : decode cX6_commits 128 = .ok (.aload_n 0, 1) := by decide +kernel
theorem dX6_commits_129 : decode cX6_commits 129 = .ok (.getfield 25, 3) := by decide +kernel
theorem dX6_commits_132 : decode cX6_commits 132 = .ok (.iload_n 2, 1) := by decide +kernel
theorem dX6_commits_133 : decode cX6_commits 133 = .ok (.iconst 0, 1) := by decide +kernel
theorem dX6_commits_134 : decode cX6_commits 134 = .ok (.iastore, 1) := by decide +kernel
theorem dX6_commits_135 : decode cX6_commits 135 = .ok (.iload_n 2, 1) := by decide +kernel
theorem dX6_commits_136 : decode cX6_commits 136 = .ok (.iload_n 3, 1) := by decide +kernel
theorem dX6_commits_137 : decode cX6_commits 137 = .ok (.isub, 1) := by decide +kernel
theorem dX6_commits_138 : decode cX6_commits 138 = .ok (.istore 5, 2) := by decide +kernel
theorem dX6_commits_140 : decode cX6_commits 140 = .ok (.iload 5, 2) := by decide +kernel
theorem dX6_commits_142 : decode cX6_commits 142 = .ok (.iload_n 2, 1) := by decide +kernel
theorem dX6_commits_143 : decode cX6_commits 143 = .ok (.if_icmp .ge 17, 3) := by decide +kernel
theorem dX6_commits_146 : decode cX6_commits 146 = .ok (.aload_n 0, 1) := by decide +kernel
theorem dX6_commits_147 : decode cX6_commits 147 = .ok (.getfield 25, 3) := by decide +kernel
theorem dX6_commits_150 : decode cX6_commits 150 = .ok (.iload 5, 2) := by decide +kernel
theorem dX6_commits_152 : decode cX6_commits 152 = .ok (.iconst 1, 1) := by decide +kernel
theorem dX6_commits_153 : decode cX6_commits 153 = .ok (.iastore, 1) := by decide +kernel
theorem dX6_commits_154 : decode cX6_commits 154 = .ok (.iinc 5 1, 3) := by decide +kernel
theorem dX6_commits_157 : decode cX6_commits 157 = .ok (.goto (-17), 3) := by decide +kernel
theorem dX6_commits_160 : decode cX6_commits 160 = .ok (.iinc 2 1, 3) := by decide +kernel
theorem dX6_commits_163 : decode cX6_commits 163 = .ok (.goto (-161), 3) := by decide +kernel
theorem dX6_commits_166 : decode cX6_commits 166 = .ok (.return_, 1) := by decide +kernel
theorem dX6_number_0 : decode cX6_number 0 = .ok (.lconst 0, 1) := by decide +kernel
theorem dX6_number_1 : decode cX6_number 1 = .ok (.lstore 4, 2) := by decide +kernel
theorem dX6_number_3 : decode cX6_number 3 = .ok (.iload_n 2, 1) := by decide +kernel
theorem dX6_number_4 : decode cX6_number 4 = .ok (.istore 6, 2) := by decide +kernel
theorem dX6_number_6 : decode cX6_number 6 = .ok (.iload 6, 2) := by decide +kernel
theorem dX6_number_8 : decode cX6_number 8 = .ok (.iload_n 2, 1) := by decide +kernel
theorem dX6_number_9 : decode cX6_number 9 = .ok (.iload_n 3, 1) := by decide +kernel
theorem dX6_number_10 : decode cX6_number 10 = .ok (.iadd, 1) := by decide +kernel
theorem dX6_number_11 : decode cX6_number 11 = .ok (.if_icmp .ge 25, 3) := by decide +kernel
theorem dX6_number_14 : decode cX6_number 14 = .ok (.lload 4, 2) := by decide +kernel
theorem dX6_number_16 : decode cX6_number 16 = .ok (.bipush 8, 2) := by decide +kernel
theorem dX6_number_18 : decode cX6_number 18 = .ok (.lshl, 1) := by decide +kernel
theorem dX6_number_19 : decode cX6_number 19 = .ok (.aload_n 0, 1) := by decide +kernel
theorem dX6_number_20 : decode cX6_number 20 = .ok (.iload_n 1, 1) := by decide +kernel
theorem dX6_number_21 : decode cX6_number 21 = .ok (.iload 6, 2) := by decide +kernel
theorem dX6_number_23 : decode cX6_number 23 = .ok (.invokevirtual 51, 3) := by decide +kernel
theorem dX6_number_26 : decode cX6_number 26 = .ok (.i2l, 1) := by decide +kernel
theorem dX6_number_27 : decode cX6_number 27 = .ok (.lor, 1) := by decide +kernel
theorem dX6_number_28 : decode cX6_number 28 = .ok (.lstore 4, 2) := by decide +kernel
theorem dX6_number_30 : decode cX6_number 30 = .ok (.iinc 6 1, 3) := by decide +kernel
theorem dX6_number_33 : decode cX6_number 33 = .ok (.goto (-27), 3) := by decide +kernel
theorem dX6_number_36 : decode cX6_number 36 = .ok (.lload 4, 2) := by decide +kernel
theorem dX6_number_38 : decode cX6_number 38 = .ok (.lreturn, 1) := by decide +kernel
theorem dX6_zeros_0 : decode cX6_zeros 0 = .ok (.iconst 0, 1) := by decide +kernel
theorem dX6_zeros_1 : decode cX6_zeros 1 = .ok (.istore_n 3, 1) := by decide +kernel
theorem dX6_zeros_2 : decode cX6_zeros 2 = .ok (.iload_n 2, 1) := by decide +kernel
theorem dX6_zeros_3 : decode cX6_zeros 3 = .ok (.istore 4, 2) := by decide +kernel
theorem dX6_zeros_5 : decode cX6_zeros 5 = .ok (.iload 4, 2) := by decide +kernel
theorem dX6_zeros_7 : decode cX6_zeros 7 = .ok (.iload_n 2, 1) := by decide +kernel
theorem dX6_zeros_8 : decode cX6_zeros 8 = .ok (.bipush 8, 2) := by decide +kernel
theorem dX6_zeros_10 : decode cX6_zeros 10 = .ok (.iadd, 1) := by decide +kernel
theorem dX6_zeros_11 : decode cX6_zeros 11 = .ok (.if_icmp .ge 25, 3) := by decide +kernel
theorem dX6_zeros_14 : decode cX6_zeros 14 = .ok (.iload_n 3, 1) := by decide +kernel
theorem dX6_zeros_15 : decode cX6_zeros 15 = .ok (.bipush 8, 2) := by decide +kernel
theorem dX6_zeros_17 : decode cX6_zeros 17 = .ok (.aload_n 0, 1) := by decide +kernel
theorem dX6_zeros_18 : decode cX6_zeros 18 = .ok (.iload_n 1, 1) := by decide +kernel
theorem dX6_zeros_19 : decode cX6_zeros 19 = .ok (.iload 4, 2) := by decide +kernel
theorem dX6_zeros_21 : decode cX6_zeros 21 = .ok (.invokevirtual 51, 3) := by decide +kernel
theorem dX6_zeros_24 : decode cX6_zeros 24 = .ok (.invokestatic 89, 3) := by decide +kernel
theorem dX6_zeros_27 : decode cX6_zeros 27 = .ok (.isub, 1) := by decide +kernel
theorem dX6_zeros_28 : decode cX6_zeros 28 = .ok (.iadd, 1) := by decide +kernel
theorem dX6_zeros_29 : decode cX6_zeros 29 = .ok (.istore_n 3, 1) := by decide +kernel
theorem dX6_zeros_30 : decode cX6_zeros 30 = .ok (.iinc 4 1, 3) := by decide +kernel
theorem dX6_zeros_33 : decode cX6_zeros 33 = .ok (.goto (-28), 3) := by decide +kernel
theorem dX6_zeros_36 : decode cX6_zeros 36 = .ok (.iload_n 3, 1) := by decide +kernel
theorem dX6_zeros_37 : decode cX6_zeros 37 = .ok (.ireturn, 1) := by decide +kernel
theorem dX6_valueOf_0 : decode cX6_valueOf 0 = .ok (.aload_n 0, 1) := by decide +kernel
theorem dX6_valueOf_1 : decode cX6_valueOf 1 = .ok (.getfield 19, 3) := by decide +kernel
theorem dX6_valueOf_4 : decode cX6_valueOf 4 = .ok (.iload_n 2, 1) := by decide +kernel
theorem dX6_valueOf_5 : decode cX6_valueOf 5 = .ok (.iaload, 1) := by decide +kernel
theorem dX6_valueOf_6 : decode cX6_valueOf 6 = .ok (.iconst 1, 1) := by decide +kernel
theorem dX6_valueOf_7 : decode cX6_valueOf 7 = .ok (.if_icmp .ne 34, 3) := by decide +kernel
theorem dX6_valueOf_10 : decode cX6_valueOf 10 = .ok (.aload_n 0, 1) := by decide +kernel
theorem dX6_valueOf_11 : decode cX6_valueOf 11 = .ok (.iload_n 1, 1) := by decide +kernel
theorem dX6_valueOf_12 : decode cX6_valueOf 12 = .ok (.aload_n 0, 1) := by decide +kernel
theorem dX6_valueOf_13 : decode cX6_valueOf 13 = .ok (.getfield 16, 3) := by decide +kernel
theorem dX6_valueOf_16 : decode cX6_valueOf 16 = .ok (.iload_n 2, 1) := by decide +kernel
theorem dX6_valueOf_17 : decode cX6_valueOf 17 = .ok (.iaload, 1) := by decide +kernel
theorem dX6_valueOf_18 : decode cX6_valueOf 18 = .ok (.iconst 2, 1) := by decide +kernel
theorem dX6_valueOf_19 : decode cX6_valueOf 19 = .ok (.iadd, 1) := by decide +kernel
theorem dX6_valueOf_20 : decode cX6_valueOf 20 = .ok (.iconst 3, 1) := by decide +kernel
theorem dX6_valueOf_21 : decode cX6_valueOf 21 = .ok (.invokevirtual 94, 3) := by decide +kernel
theorem dX6_valueOf_24 : decode cX6_valueOf 24 = .ok (.aload_n 0, 1) := by decide +kernel
theorem dX6_valueOf_25 : decode cX6_valueOf 25 = .ok (.iload_n 1, 1) := by decide +kernel
theorem dX6_valueOf_26 : decode cX6_valueOf 26 = .ok (.aload_n 0, 1) := by decide +kernel
theorem dX6_valueOf_27 : decode cX6_valueOf 27 = .ok (.getfield 16, 3) := by decide +kernel
theorem dX6_valueOf_30 : decode cX6_valueOf 30 = .ok (.iload_n 2, 1) := by decide +kernel
theorem dX6_valueOf_31 : decode cX6_valueOf 31 = .ok (.iaload, 1) := by decide +kernel
theorem dX6_valueOf_32 : decode cX6_valueOf 32 = .ok (.bipush 6, 2) := by decide +kernel
theorem dX6_valueOf_34 : decode cX6_valueOf 34 = .ok (.iadd, 1) := by decide +kernel
theorem dX6_valueOf_35 : decode cX6_valueOf 35 = .ok (.invokevirtual 98, 3) := by decide +kernel
theorem dX6_valueOf_38 : decode cX6_valueOf 38 = .ok (.i2l, 1) := by decide +kernel
theorem dX6_valueOf_39 : decode cX6_valueOf 39 = .ok (.ladd, 1) := by decide +kernel
theorem dX6_valueOf_40 : decode cX6_valueOf 40 = .ok (.lreturn, 1) := by decide +kernel
theorem dX6_valueOf_41 : decode cX6_valueOf 41 = .ok (.aload_n 0, 1) := by decide +kernel
theorem dX6_valueOf_42 : decode cX6_valueOf 42 = .ok (.iload_n 1, 1) := by decide +kernel
theorem dX6_valueOf_43 : decode cX6_valueOf 43 = .ok (.aload_n 0, 1) := by decide +kernel
theorem dX6_valueOf_44 : decode cX6_valueOf 44 = .ok (.getfield 16, 3) := by decide +kernel
theorem dX6_valueOf_47 : decode cX6_valueOf 47 = .ok (.iload_n 2, 1) := by decide +kernel
theorem dX6_valueOf_48 : decode cX6_valueOf 48 = .ok (.iaload, 1) := by decide +kernel
theorem dX6_valueOf_49 : decode cX6_valueOf 49 = .ok (.iconst 1, 1) := by decide +kernel
theorem dX6_valueOf_50 : decode cX6_valueOf 50 = .ok (.iadd, 1) := by decide +kernel
theorem dX6_valueOf_51 : decode cX6_valueOf 51 = .ok (.invokevirtual 51, 3) := by decide +kernel
theorem dX6_valueOf_54 : decode cX6_valueOf 54 = .ok (.bipush 16, 2) := by decide +kernel
theorem dX6_valueOf_56 : decode cX6_valueOf 56 = .ok (.irem, 1) := by decide +kernel
theorem dX6_valueOf_57 : decode cX6_valueOf 57 = .ok (.istore_n 3, 1) := by decide +kernel
theorem dX6_valueOf_58 : decode cX6_valueOf 58 = .ok (.iload_n 3, 1) := by decide +kernel
theorem dX6_valueOf_59 : decode cX6_valueOf 59 = .ok (.ifCond .ne 9, 3) := by decide +kernel
theorem dX6_valueOf_62 : decode cX6_valueOf 62 = .ok (.ldc2_w 101, 3) := by decide +kernel
theorem dX6_valueOf_65 : decode cX6_valueOf 65 = .ok (.goto 17, 3) := by decide +kernel
theorem dX6_valueOf_68 : decode cX6_valueOf 68 = .ok (.aload_n 0, 1) := by decide +kernel
theorem dX6_valueOf_69 : decode cX6_valueOf 69 = .ok (.iload_n 1, 1) := by decide +kernel
theorem dX6_valueOf_70 : decode cX6_valueOf 70 = .ok (.aload_n 0, 1) := by decide +kernel
theorem dX6_valueOf_71 : decode cX6_valueOf 71 = .ok (.getfield 16, 3) := by decide +kernel
theorem dX6_valueOf_74 : decode cX6_valueOf 74 = .ok (.iload_n 2, 1) := by decide +kernel
theorem dX6_valueOf_75 : decode cX6_valueOf 75 = .ok (.iaload, 1) := by decide +kernel
theorem dX6_valueOf_76 : decode cX6_valueOf 76 = .ok (.iconst 2, 1) := by decide +kernel
theorem dX6_valueOf_77 : decode cX6_valueOf 77 = .ok (.iadd, 1) := by decide +kernel
theorem dX6_valueOf_78 : decode cX6_valueOf 78 = .ok (.iload_n 3, 1) := by decide +kernel
theorem dX6_valueOf_79 : decode cX6_valueOf 79 = .ok (.invokevirtual 94, 3) := by decide +kernel
theorem dX6_valueOf_82 : decode cX6_valueOf 82 = .ok (.lreturn, 1) := by decide +kernel
theorem dX6_lengthOf_0 : decode cX6_lengthOf 0 = .ok (.aload_n 0, 1) := by decide +kernel
theorem dX6_lengthOf_1 : decode cX6_lengthOf 1 = .ok (.getfield 19, 3) := by decide +kernel
theorem dX6_lengthOf_4 : decode cX6_lengthOf 4 = .ok (.iload_n 2, 1) := by decide +kernel
theorem dX6_lengthOf_5 : decode cX6_lengthOf 5 = .ok (.iaload, 1) := by decide +kernel
theorem dX6_lengthOf_6 : decode cX6_lengthOf 6 = .ok (.iconst 1, 1) := by decide +kernel
theorem dX6_lengthOf_7 : decode cX6_lengthOf 7 = .ok (.if_icmp .ne 7, 3) := by decide +kernel
theorem dX6_lengthOf_10 : decode cX6_lengthOf 10 = .ok (.iconst 3, 1) := by decide +kernel
theorem dX6_lengthOf_11 : decode cX6_lengthOf 11 = .ok (.goto 19, 3) := by decide +kernel
theorem dX6_lengthOf_14 : decode cX6_lengthOf 14 = .ok (.aload_n 0, 1) := by decide +kernel
theorem dX6_lengthOf_15 : decode cX6_lengthOf 15 = .ok (.iload_n 1, 1) := by decide +kernel
theorem dX6_lengthOf_16 : decode cX6_lengthOf 16 = .ok (.aload_n 0, 1) := by decide +kernel
theorem dX6_lengthOf_17 : decode cX6_lengthOf 17 = .ok (.getfield 16, 3) := by decide +kernel
theorem dX6_lengthOf_20 : decode cX6_lengthOf 20 = .ok (.iload_n 2, 1) := by decide +kernel
theorem dX6_lengthOf_21 : decode cX6_lengthOf 21 = .ok (.iaload, 1) := by decide +kernel
theorem dX6_lengthOf_22 : decode cX6_lengthOf 22 = .ok (.iconst 1, 1) := by decide +kernel
theorem dX6_lengthOf_23 : decode cX6_lengthOf 23 = .ok (.iadd, 1) := by decide +kernel
theorem dX6_lengthOf_24 : decode cX6_lengthOf 24 = .ok (.invokevirtual 51, 3) := by decide +kernel
theorem dX6_lengthOf_27 : decode cX6_lengthOf 27 = .ok (.bipush 16, 2) := by decide +kernel
theorem dX6_lengthOf_29 : decode cX6_lengthOf 29 = .ok (.irem, 1) := by decide +kernel
theorem dX6_lengthOf_30 : decode cX6_lengthOf 30 = .ok (.ireturn, 1) := by decide +kernel
theorem dX6_hasValue_0 : decode cX6_hasValue 0 = .ok (.aload_n 0, 1) := by decide +kernel
theorem dX6_hasValue_1 : decode cX6_hasValue 1 = .ok (.getfield 28, 3) := by decide +kernel
theorem dX6_hasValue_4 : decode cX6_hasValue 4 = .ok (.iload_n 2, 1) := by decide +kernel
theorem dX6_hasValue_5 : decode cX6_hasValue 5 = .ok (.iaload, 1) := by decide +kernel
theorem dX6_hasValue_6 : decode cX6_hasValue 6 = .ok (.ifCond .lt 21, 3) := by decide +kernel
theorem dX6_hasValue_9 : decode cX6_hasValue 9 = .ok (.aload_n 0, 1) := by decide +kernel
theorem dX6_hasValue_10 : decode cX6_hasValue 10 = .ok (.iload_n 1, 1) := by decide +kernel
theorem dX6_hasValue_11 : decode cX6_hasValue 11 = .ok (.aload_n 0, 1) := by decide +kernel
theorem dX6_hasValue_12 : decode cX6_hasValue 12 = .ok (.getfield 28, 3) := by decide +kernel
theorem dX6_hasValue_15 : decode cX6_hasValue 15 = .ok (.iload_n 2, 1) := by decide +kernel
theorem dX6_hasValue_16 : decode cX6_hasValue 16 = .ok (.iaload, 1) := by decide +kernel
theorem dX6_hasValue_17 : decode cX6_hasValue 17 = .ok (.invokevirtual 103, 3) := by decide +kernel
theorem dX6_hasValue_20 : decode cX6_hasValue 20 = .ok (.ifCond .le 7, 3) := by decide +kernel
theorem dX6_hasValue_23 : decode cX6_hasValue 23 = .ok (.iconst 1, 1) := by decide +kernel
theorem dX6_hasValue_24 : decode cX6_hasValue 24 = .ok (.goto 4, 3) := by decide +kernel
theorem dX6_hasValue_27 : decode cX6_hasValue 27 = .ok (.iconst 0, 1) := by decide +kernel
theorem dX6_hasValue_28 : decode cX6_hasValue 28 = .ok (.ireturn, 1) := by decide +kernel
theorem dX6_valued_0 : decode cX6_valued 0 = .ok (.iconst 0, 1) := by decide +kernel
theorem dX6_valued_1 : decode cX6_valued 1 = .ok (.istore_n 2, 1) := by decide +kernel
theorem dX6_valued_2 : decode cX6_valued 2 = .ok (.iconst 0, 1) := by decide +kernel
theorem dX6_valued_3 : decode cX6_valued 3 = .ok (.istore_n 3, 1) := by decide +kernel
theorem dX6_valued_4 : decode cX6_valued 4 = .ok (.iload_n 3, 1) := by decide +kernel
theorem dX6_valued_5 : decode cX6_valued 5 = .ok (.bipush 48, 2) := by decide +kernel
theorem dX6_valued_7 : decode cX6_valued 7 = .ok (.if_icmp .ge 21, 3) := by decide +kernel
theorem dX6_valued_10 : decode cX6_valued 10 = .ok (.aload_n 0, 1) := by decide +kernel
theorem dX6_valued_11 : decode cX6_valued 11 = .ok (.iload_n 1, 1) := by decide +kernel
theorem dX6_valued_12 : decode cX6_valued 12 = .ok (.iload_n 3, 1) := by decide +kernel
theorem dX6_valued_13 : decode cX6_valued 13 = .ok (.invokevirtual 106, 3) := by decide +kernel
theorem dX6_valued_16 : decode cX6_valued 16 = .ok (.ifCond .eq 6, 3) := by decide +kernel
theorem dX6_valued_19 : decode cX6_valued 19 = .ok (.iinc 2 1, 3) := by decide +kernel
theorem dX6_valued_22 : decode cX6_valued 22 = .ok (.iinc 3 1, 3) := by decide +kernel
theorem dX6_valued_25 : decode cX6_valued 25 = .ok (.goto (-21), 3) := by decide +kernel
theorem dX6_valued_28 : decode cX6_valued 28 = .ok (.iload_n 2, 1) := by decide +kernel
theorem dX6_valued_29 : decode cX6_valued 29 = .ok (.ireturn, 1) := by decide +kernel
theorem dX6_leastErased_0 : decode cX6_leastErased 0 = .ok (.iconst (-1), 1) := by decide +kernel
theorem dX6_leastErased_1 : decode cX6_leastErased 1 = .ok (.istore_n 2, 1) := by decide +kernel
theorem dX6_leastErased_2 : decode cX6_leastErased 2 = .ok (.iconst 0, 1) := by decide +kernel
theorem dX6_leastErased_3 : decode cX6_leastErased 3 = .ok (.istore_n 3, 1) := by decide +kernel
theorem dX6_leastErased_4 : decode cX6_leastErased 4 = .ok (.iload_n 3, 1) := by decide +kernel
theorem dX6_leastErased_5 : decode cX6_leastErased 5 = .ok (.aload_n 0, 1) := by decide +kernel
theorem dX6_leastErased_6 : decode cX6_leastErased 6 = .ok (.getfield 7, 3) := by decide +kernel
theorem dX6_leastErased_9 : decode cX6_leastErased 9 = .ok (.iconst 0, 1) := by decide +kernel
theorem dX6_leastErased_10 : decode cX6_leastErased 10 = .ok (.iaload, 1) := by decide +kernel
theorem dX6_leastErased_11 : decode cX6_leastErased 11 = .ok (.if_icmp .ge 41, 3) := by decide +kernel
theorem dX6_leastErased_14 : decode cX6_leastErased 14 = .ok (.iload_n 3, 1) := by decide +kernel
theorem dX6_leastErased_15 : decode cX6_leastErased 15 = .ok (.iload_n 1, 1) := by decide +kernel
theorem dX6_leastErased_16 : decode cX6_leastErased 16 = .ok (.if_icmp .eq 30, 3) := by decide +kernel
theorem dX6_leastErased_19 : decode cX6_leastErased 19 = .ok (.iload_n 2, 1) := by decide +kernel
theorem dX6_leastErased_20 : decode cX6_leastErased 20 = .ok (.ifCond .lt 24, 3) := by decide +kernel
theorem dX6_leastErased_23 : decode cX6_leastErased 23 = .ok (.aload_n 0, 1) := by decide +kernel
theorem dX6_leastErased_24 : decode cX6_leastErased 24 = .ok (.getfield 7, 3) := by decide +kernel
theorem dX6_leastErased_27 : decode cX6_leastErased 27 = .ok (.bipush 36, 2) := by decide +kernel
theorem dX6_leastErased_29 : decode cX6_leastErased 29 = .ok (.iload_n 3, 1) := by decide +kernel
theorem dX6_leastErased_30 : decode cX6_leastErased 30 = .ok (.iadd, 1) := by decide +kernel
theorem dX6_leastErased_31 : decode cX6_leastErased 31 = .ok (.iaload, 1) := by decide +kernel
theorem dX6_leastErased_32 : decode cX6_leastErased 32 = .ok (.aload_n 0, 1) := by decide +kernel
theorem dX6_leastErased_33 : decode cX6_leastErased 33 = .ok (.getfield 7, 3) := by decide +kernel
theorem dX6_leastErased_36 : decode cX6_leastErased 36 = .ok (.bipush 36, 2) := by decide +kernel
theorem dX6_leastErased_38 : decode cX6_leastErased 38 = .ok (.iload_n 2, 1) := by decide +kernel
theorem dX6_leastErased_39 : decode cX6_leastErased 39 = .ok (.iadd, 1) := by decide +kernel
theorem dX6_leastErased_40 : decode cX6_leastErased 40 = .ok (.iaload, 1) := by decide +kernel
theorem dX6_leastErased_41 : decode cX6_leastErased 41 = .ok (.if_icmp .ge 5, 3) := by decide +kernel
theorem dX6_leastErased_44 : decode cX6_leastErased 44 = .ok (.iload_n 3, 1) := by decide +kernel
theorem dX6_leastErased_45 : decode cX6_leastErased 45 = .ok (.istore_n 2, 1) := by decide +kernel
theorem dX6_leastErased_46 : decode cX6_leastErased 46 = .ok (.iinc 3 1, 3) := by decide +kernel
theorem dX6_leastErased_49 : decode cX6_leastErased 49 = .ok (.goto (-45), 3) := by decide +kernel
theorem dX6_leastErased_52 : decode cX6_leastErased 52 = .ok (.iload_n 2, 1) := by decide +kernel
theorem dX6_leastErased_53 : decode cX6_leastErased 53 = .ok (.ireturn, 1) := by decide +kernel
theorem dX6_numberOf_0 : decode cX6_numberOf 0 = .ok (.sipush 256, 3) := by decide +kernel
theorem dX6_numberOf_3 : decode cX6_numberOf 3 = .ok (.aload_n 0, 1) := by decide +kernel
theorem dX6_numberOf_4 : decode cX6_numberOf 4 = .ok (.iload_n 1, 1) := by decide +kernel
theorem dX6_numberOf_5 : decode cX6_numberOf 5 = .ok (.iconst 1, 1) := by decide +kernel
theorem dX6_numberOf_6 : decode cX6_numberOf 6 = .ok (.invokevirtual 51, 3) := by decide +kernel
theorem dX6_numberOf_9 : decode cX6_numberOf 9 = .ok (.imul, 1) := by decide +kernel
theorem dX6_numberOf_10 : decode cX6_numberOf 10 = .ok (.aload_n 0, 1) := by decide +kernel
theorem dX6_numberOf_11 : decode cX6_numberOf 11 = .ok (.iload_n 1, 1) := by decide +kernel
theorem dX6_numberOf_12 : decode cX6_numberOf 12 = .ok (.iconst 2, 1) := by decide +kernel
theorem dX6_numberOf_13 : decode cX6_numberOf 13 = .ok (.invokevirtual 51, 3) := by decide +kernel
theorem dX6_numberOf_16 : decode cX6_numberOf 16 = .ok (.iadd, 1) := by decide +kernel
theorem dX6_numberOf_17 : decode cX6_numberOf 17 = .ok (.ireturn, 1) := by decide +kernel
theorem dX6_makesReady_0 : decode cX6_makesReady 0 = .ok (.iload_n 2, 1) := by decide +kernel
theorem dX6_makesReady_1 : decode cX6_makesReady 1 = .ok (.sipush 256, 3) := by decide +kernel
theorem dX6_makesReady_4 : decode cX6_makesReady 4 = .ok (.idiv, 1) := by decide +kernel
theorem dX6_makesReady_5 : decode cX6_makesReady 5 = .ok (.istore_n 3, 1) := by decide +kernel
theorem dX6_makesReady_6 : decode cX6_makesReady 6 = .ok (.iload_n 2, 1) := by decide +kernel
theorem dX6_makesReady_7 : decode cX6_makesReady 7 = .ok (.sipush 256, 3) := by decide +kernel
theorem dX6_makesReady_10 : decode cX6_makesReady 10 = .ok (.irem, 1) := by decide +kernel
theorem dX6_makesReady_11 : decode cX6_makesReady 11 = .ok (.istore 4, 2) := by decide +kernel
theorem dX6_makesReady_13 : decode cX6_makesReady 13 = .ok (.aload_n 0, 1) := by decide +kernel
theorem dX6_makesReady_14 : decode cX6_makesReady 14 = .ok (.iload_n 1, 1) := by decide +kernel
theorem dX6_makesReady_15 : decode cX6_makesReady 15 = .ok (.iconst 1, 1) := by decide +kernel
theorem dX6_makesReady_16 : decode cX6_makesReady 16 = .ok (.iload_n 3, 1) := by decide +kernel
theorem dX6_makesReady_17 : decode cX6_makesReady 17 = .ok (.invokevirtual 109, 3) := by decide +kernel
theorem dX6_makesReady_20 : decode cX6_makesReady 20 = .ok (.aload_n 0, 1) := by decide +kernel
theorem dX6_makesReady_21 : decode cX6_makesReady 21 = .ok (.iload_n 1, 1) := by decide +kernel
theorem dX6_makesReady_22 : decode cX6_makesReady 22 = .ok (.iconst 2, 1) := by decide +kernel
theorem dX6_makesReady_23 : decode cX6_makesReady 23 = .ok (.iload 4, 2) := by decide +kernel
theorem dX6_makesReady_25 : decode cX6_makesReady 25 = .ok (.invokevirtual 109, 3) := by decide +kernel
theorem dX6_makesReady_28 : decode cX6_makesReady 28 = .ok (.aload_n 0, 1) := by decide +kernel
theorem dX6_makesReady_29 : decode cX6_makesReady 29 = .ok (.iload_n 1, 1) := by decide +kernel
theorem dX6_makesReady_30 : decode cX6_makesReady 30 = .ok (.iconst 3, 1) := by decide +kernel
theorem dX6_makesReady_31 : decode cX6_makesReady 31 = .ok (.iload_n 3, 1) := by decide +kernel
theorem dX6_makesReady_32 : decode cX6_makesReady 32 = .ok (.iload 4, 2) := by decide +kernel
theorem dX6_makesReady_34 : decode cX6_makesReady 34 = .ok (.iadd, 1) := by decide +kernel
theorem dX6_makesReady_35 : decode cX6_makesReady 35 = .ok (.invokestatic 79, 3) := by decide +kernel
theorem dX6_makesReady_38 : decode cX6_makesReady 38 = .ok (.invokevirtual 109, 3) := by decide +kernel
theorem dX6_makesReady_41 : decode cX6_makesReady 41 = .ok (.aload_n 0, 1) := by decide +kernel
theorem dX6_makesReady_42 : decode cX6_makesReady 42 = .ok (.iload_n 1, 1) := by decide +kernel
theorem dX6_makesReady_43 : decode cX6_makesReady 43 = .ok (.iconst 0, 1) := by decide +kernel
theorem dX6_makesReady_44 : decode cX6_makesReady 44 = .ok (.bipush 127, 2) := by decide +kernel
theorem dX6_makesReady_46 : decode cX6_makesReady 46 = .ok (.invokevirtual 109, 3) := by decide +kernel
theorem dX6_makesReady_49 : decode cX6_makesReady 49 = .ok (.return_, 1) := by decide +kernel
theorem dX6_erasesOthers_0 : decode cX6_erasesOthers 0 = .ok (.iconst 0, 1) := by decide +kernel
theorem dX6_erasesOthers_1 : decode cX6_erasesOthers 1 = .ok (.istore_n 2, 1) := by decide +kernel
theorem dX6_erasesOthers_2 : decode cX6_erasesOthers 2 = .ok (.iload_n 2, 1) := by decide +kernel
theorem dX6_erasesOthers_3 : decode cX6_erasesOthers 3 = .ok (.aload_n 0, 1) := by decide +kernel
theorem dX6_erasesOthers_4 : decode cX6_erasesOthers 4 = .ok (.getfield 7, 3) := by decide +kernel
theorem dX6_erasesOthers_7 : decode cX6_erasesOthers 7 = .ok (.iconst 0, 1) := by decide +kernel
theorem dX6_erasesOthers_8 : decode cX6_erasesOthers 8 = .ok (.iaload, 1) := by decide +kernel
theorem dX6_erasesOthers_9 : decode cX6_erasesOthers 9 = .ok (.if_icmp .ge 28, 3) := by decide +kernel
theorem dX6_erasesOthers_12 : decode cX6_erasesOthers 12 = .ok (.iload_n 2, 1) := by decide +kernel
theorem dX6_erasesOthers_13 : decode cX6_erasesOthers 13 = .ok (.iload_n 1, 1) := by decide +kernel
theorem dX6_erasesOthers_14 : decode cX6_erasesOthers 14 = .ok (.if_icmp .eq 17, 3) := by decide +kernel
theorem dX6_erasesOthers_17 : decode cX6_erasesOthers 17 = .ok (.aload_n 0, 1) := by decide +kernel
theorem dX6_erasesOthers_18 : decode cX6_erasesOthers 18 = .ok (.iload_n 2, 1) := by decide +kernel
theorem dX6_erasesOthers_19 : decode cX6_erasesOthers 19 = .ok (.iconst 0, 1) := by decide +kernel
theorem dX6_erasesOthers_20 : decode cX6_erasesOthers 20 = .ok (.invokevirtual 61, 3) := by decide +kernel
theorem dX6_erasesOthers_23 : decode cX6_erasesOthers 23 = .ok (.ifCond .ne 8, 3) := by decide +kernel
theorem dX6_erasesOthers_26 : decode cX6_erasesOthers 26 = .ok (.aload_n 0, 1) := by decide +kernel
theorem dX6_erasesOthers_27 : decode cX6_erasesOthers 27 = .ok (.iload_n 2, 1) := by decide +kernel
theorem dX6_erasesOthers_28 : decode cX6_erasesOthers 28 = .ok (.invokevirtual 113, 3) := by decide +kernel
theorem dX6_erasesOthers_31 : decode cX6_erasesOthers 31 = .ok (.iinc 2 1, 3) := by decide +kernel
theorem dX6_erasesOthers_34 : decode cX6_erasesOthers 34 = .ok (.goto (-32), 3) := by decide +kernel
theorem dX6_erasesOthers_37 : decode cX6_erasesOthers 37 = .ok (.return_, 1) := by decide +kernel
theorem dX6_found_0 : decode cX6_found 0 = .ok (.iconst (-1), 1) := by decide +kernel
theorem dX6_found_1 : decode cX6_found 1 = .ok (.istore_n 1, 1) := by decide +kernel
theorem dX6_found_2 : decode cX6_found 2 = .ok (.iconst 0, 1) := by decide +kernel
theorem dX6_found_3 : decode cX6_found 3 = .ok (.istore_n 2, 1) := by decide +kernel
theorem dX6_found_4 : decode cX6_found 4 = .ok (.iload_n 2, 1) := by decide +kernel
theorem dX6_found_5 : decode cX6_found 5 = .ok (.aload_n 0, 1) := by decide +kernel
theorem dX6_found_6 : decode cX6_found 6 = .ok (.getfield 7, 3) := by decide +kernel
theorem dX6_found_9 : decode cX6_found 9 = .ok (.iconst 0, 1) := by decide +kernel
theorem dX6_found_10 : decode cX6_found 10 = .ok (.iaload, 1) := by decide +kernel
theorem dX6_found_11 : decode cX6_found 11 = .ok (.if_icmp .ge 67, 3) := by decide +kernel
theorem dX6_found_14 : decode cX6_found 14 = .ok (.aload_n 0, 1) := by decide +kernel
theorem dX6_found_15 : decode cX6_found 15 = .ok (.iload_n 2, 1) := by decide +kernel
theorem dX6_found_16 : decode cX6_found 16 = .ok (.iconst 0, 1) := by decide +kernel
theorem dX6_found_17 : decode cX6_found 17 = .ok (.invokevirtual 51, 3) := by decide +kernel
theorem dX6_found_20 : decode cX6_found 20 = .ok (.bipush 63, 2) := by decide +kernel
theorem dX6_found_22 : decode cX6_found 22 = .ok (.if_icmp .ne 50, 3) := by decide +kernel
theorem dX6_found_25 : decode cX6_found 25 = .ok (.aload_n 0, 1) := by decide +kernel
theorem dX6_found_26 : decode cX6_found 26 = .ok (.iload_n 2, 1) := by decide +kernel
theorem dX6_found_27 : decode cX6_found 27 = .ok (.iconst 1, 1) := by decide +kernel
theorem dX6_found_28 : decode cX6_found 28 = .ok (.invokevirtual 51, 3) := by decide +kernel
theorem dX6_found_31 : decode cX6_found 31 = .ok (.aload_n 0, 1) := by decide +kernel
theorem dX6_found_32 : decode cX6_found 32 = .ok (.iload_n 2, 1) := by decide +kernel
theorem dX6_found_33 : decode cX6_found 33 = .ok (.iconst 2, 1) := by decide +kernel
theorem dX6_found_34 : decode cX6_found 34 = .ok (.invokevirtual 51, 3) := by decide +kernel
theorem dX6_found_37 : decode cX6_found 37 = .ok (.iadd, 1) := by decide +kernel
theorem dX6_found_38 : decode cX6_found 38 = .ok (.invokestatic 79, 3) := by decide +kernel
theorem dX6_found_41 : decode cX6_found 41 = .ok (.aload_n 0, 1) := by decide +kernel
theorem dX6_found_42 : decode cX6_found 42 = .ok (.iload_n 2, 1) := by decide +kernel
theorem dX6_found_43 : decode cX6_found 43 = .ok (.iconst 3, 1) := by decide +kernel
theorem dX6_found_44 : decode cX6_found 44 = .ok (.invokevirtual 51, 3) := by decide +kernel
theorem dX6_found_47 : decode cX6_found 47 = .ok (.if_icmp .eq 6, 3) := by decide +kernel
theorem dX6_found_50 : decode cX6_found 50 = .ok (.goto 22, 3) := by decide +kernel
theorem dX6_found_53 : decode cX6_found 53 = .ok (.iload_n 1, 1) := by decide +kernel
theorem dX6_found_54 : decode cX6_found 54 = .ok (.ifCond .lt 16, 3) := by decide +kernel
theorem dX6_found_57 : decode cX6_found 57 = .ok (.aload_n 0, 1) := by decide +kernel
theorem dX6_found_58 : decode cX6_found 58 = .ok (.iload_n 2, 1) := by decide +kernel
theorem dX6_found_59 : decode cX6_found 59 = .ok (.invokevirtual 116, 3) := by decide +kernel
theorem dX6_found_62 : decode cX6_found 62 = .ok (.aload_n 0, 1) := by decide +kernel
theorem dX6_found_63 : decode cX6_found 63 = .ok (.iload_n 1, 1) := by decide +kernel
theorem dX6_found_64 : decode cX6_found 64 = .ok (.invokevirtual 116, 3) := by decide +kernel
theorem dX6_found_67 : decode cX6_found 67 = .ok (.if_icmp .le 5, 3) := by decide +kernel
theorem dX6_found_70 : decode cX6_found 70 = .ok (.iload_n 2, 1) := by decide +kernel
theorem dX6_found_71 : decode cX6_found 71 = .ok (.istore_n 1, 1) := by decide +kernel
theorem dX6_found_72 : decode cX6_found 72 = .ok (.iinc 2 1, 3) := by decide +kernel
theorem dX6_found_75 : decode cX6_found 75 = .ok (.goto (-71), 3) := by decide +kernel
theorem dX6_found_78 : decode cX6_found 78 = .ok (.iload_n 1, 1) := by decide +kernel
theorem dX6_found_79 : decode cX6_found 79 = .ok (.ireturn, 1) := by decide +kernel
theorem dX6_switchesOn_0 : decode cX6_switchesOn 0 = .ok (.aload_n 0, 1) := by decide +kernel
theorem dX6_switchesOn_1 : decode cX6_switchesOn 1 = .ok (.invokevirtual 119, 3) := by decide +kernel
theorem dX6_switchesOn_4 : decode cX6_switchesOn 4 = .ok (.istore_n 1, 1) := by decide +kernel
theorem dX6_switchesOn_5 : decode cX6_switchesOn 5 = .ok (.aload_n 0, 1) := by decide +kernel
theorem dX6_switchesOn_6 : decode cX6_switchesOn 6 = .ok (.iload_n 1, 1) := by decide +kernel
theorem dX6_switchesOn_7 : decode cX6_switchesOn 7 = .ok (.invokevirtual 123, 3) := by decide +kernel
theorem dX6_switchesOn_10 : decode cX6_switchesOn 10 = .ok (.iload_n 1, 1) := by decide +kernel
theorem dX6_switchesOn_11 : decode cX6_switchesOn 11 = .ok (.ifCond .ge 23, 3) := by decide +kernel
theorem dX6_switchesOn_14 : decode cX6_switchesOn 14 = .ok (.aload_n 0, 1) := by decide +kernel
theorem dX6_switchesOn_15 : decode cX6_switchesOn 15 = .ok (.iconst (-1), 1) := by decide +kernel
theorem dX6_switchesOn_16 : decode cX6_switchesOn 16 = .ok (.invokevirtual 126, 3) := by decide +kernel
theorem dX6_switchesOn_19 : decode cX6_switchesOn 19 = .ok (.istore_n 1, 1) := by decide +kernel
theorem dX6_switchesOn_20 : decode cX6_switchesOn 20 = .ok (.aload_n 0, 1) := by decide +kernel
theorem dX6_switchesOn_21 : decode cX6_switchesOn 21 = .ok (.iload_n 1, 1) := by decide +kernel
theorem dX6_switchesOn_22 : decode cX6_switchesOn 22 = .ok (.iconst 1, 1) := by decide +kernel
theorem dX6_switchesOn_23 : decode cX6_switchesOn 23 = .ok (.invokevirtual 129, 3) := by decide +kernel
theorem dX6_switchesOn_26 : decode cX6_switchesOn 26 = .ok (.aload_n 0, 1) := by decide +kernel
theorem dX6_switchesOn_27 : decode cX6_switchesOn 27 = .ok (.iload_n 1, 1) := by decide +kernel
theorem dX6_switchesOn_28 : decode cX6_switchesOn 28 = .ok (.iconst 0, 1) := by decide +kernel
theorem dX6_switchesOn_29 : decode cX6_switchesOn 29 = .ok (.bipush 63, 2) := by decide +kernel
theorem dX6_switchesOn_31 : decode cX6_switchesOn 31 = .ok (.invokevirtual 109, 3) := by decide +kernel
theorem dX6_switchesOn_34 : decode cX6_switchesOn 34 = .ok (.aload_n 0, 1) := by decide +kernel
theorem dX6_switchesOn_35 : decode cX6_switchesOn 35 = .ok (.getfield 43, 3) := by decide +kernel
theorem dX6_switchesOn_38 : decode cX6_switchesOn 38 = .ok (.ifCond .eq 4, 3) := by decide +kernel
theorem dX6_switchesOn_41 : decode cX6_switchesOn 41 = .ok (.return_, 1) := by decide +kernel
theorem dX6_switchesOn_42 : decode cX6_switchesOn 42 = .ok (.aload_n 0, 1) := by decide +kernel
theorem dX6_switchesOn_43 : decode cX6_switchesOn 43 = .ok (.getfield 7, 3) := by decide +kernel
theorem dX6_switchesOn_46 : decode cX6_switchesOn 46 = .ok (.iconst 2, 1) := by decide +kernel
theorem dX6_switchesOn_47 : decode cX6_switchesOn 47 = .ok (.iconst 1, 1) := by decide +kernel
theorem dX6_switchesOn_48 : decode cX6_switchesOn 48 = .ok (.iastore, 1) := by decide +kernel
theorem dX6_switchesOn_49 : decode cX6_switchesOn 49 = .ok (.aload_n 0, 1) := by decide +kernel
theorem dX6_switchesOn_50 : decode cX6_switchesOn 50 = .ok (.getfield 7, 3) := by decide +kernel
theorem dX6_switchesOn_53 : decode cX6_switchesOn 53 = .ok (.iconst 3, 1) := by decide +kernel
theorem dX6_switchesOn_54 : decode cX6_switchesOn 54 = .ok (.iload_n 1, 1) := by decide +kernel
theorem dX6_switchesOn_55 : decode cX6_switchesOn 55 = .ok (.iastore, 1) := by decide +kernel
theorem dX6_switchesOn_56 : decode cX6_switchesOn 56 = .ok (.return_, 1) := by decide +kernel
theorem dX6_on_0 : decode cX6_on 0 = .ok (.aload_n 0, 1) := by decide +kernel
theorem dX6_on_1 : decode cX6_on 1 = .ok (.iconst 0, 1) := by decide +kernel
theorem dX6_on_2 : decode cX6_on 2 = .ok (.putfield 35, 3) := by decide +kernel
theorem dX6_on_5 : decode cX6_on 5 = .ok (.aload_n 0, 1) := by decide +kernel
theorem dX6_on_6 : decode cX6_on 6 = .ok (.invokevirtual 132, 3) := by decide +kernel
theorem dX6_on_9 : decode cX6_on 9 = .ok (.ifCond .eq 5, 3) := by decide +kernel
theorem dX6_on_12 : decode cX6_on 12 = .ok (.iconst (-1), 1) := by decide +kernel
theorem dX6_on_13 : decode cX6_on 13 = .ok (.ireturn, 1) := by decide +kernel
theorem dX6_on_14 : decode cX6_on 14 = .ok (.aload_n 0, 1) := by decide +kernel
theorem dX6_on_15 : decode cX6_on 15 = .ok (.invokevirtual 135, 3) := by decide +kernel
theorem dX6_on_18 : decode cX6_on 18 = .ok (.aload_n 0, 1) := by decide +kernel
theorem dX6_on_19 : decode cX6_on 19 = .ok (.invokevirtual 138, 3) := by decide +kernel
theorem dX6_on_22 : decode cX6_on 22 = .ok (.aload_n 0, 1) := by decide +kernel
theorem dX6_on_23 : decode cX6_on 23 = .ok (.getfield 43, 3) := by decide +kernel
theorem dX6_on_26 : decode cX6_on 26 = .ok (.ifCond .eq 6, 3) := by decide +kernel
theorem dX6_on_29 : decode cX6_on 29 = .ok (.bipush (-3), 2) := by decide +kernel
theorem dX6_on_31 : decode cX6_on 31 = .ok (.ireturn, 1) := by decide +kernel
theorem dX6_on_32 : decode cX6_on 32 = .ok (.aload_n 0, 1) := by decide +kernel
theorem dX6_on_33 : decode cX6_on 33 = .ok (.aload_n 0, 1) := by decide +kernel
theorem dX6_on_34 : decode cX6_on 34 = .ok (.getfield 7, 3) := by decide +kernel
theorem dX6_on_37 : decode cX6_on 37 = .ok (.iconst 3, 1) := by decide +kernel
theorem dX6_on_38 : decode cX6_on 38 = .ok (.iaload, 1) := by decide +kernel
theorem dX6_on_39 : decode cX6_on 39 = .ok (.invokevirtual 141, 3) := by decide +kernel
theorem dX6_on_42 : decode cX6_on 42 = .ok (.aload_n 0, 1) := by decide +kernel
theorem dX6_on_43 : decode cX6_on 43 = .ok (.aload_n 0, 1) := by decide +kernel
theorem dX6_on_44 : decode cX6_on 44 = .ok (.getfield 7, 3) := by decide +kernel
theorem dX6_on_47 : decode cX6_on 47 = .ok (.iconst 3, 1) := by decide +kernel
theorem dX6_on_48 : decode cX6_on 48 = .ok (.iaload, 1) := by decide +kernel
theorem dX6_on_49 : decode cX6_on 49 = .ok (.invokevirtual 144, 3) := by decide +kernel
theorem dX6_on_52 : decode cX6_on 52 = .ok (.ireturn, 1) := by decide +kernel
theorem dX6_off_0 : decode cX6_off 0 = .ok (.aload_n 0, 1) := by decide +kernel
theorem dX6_off_1 : decode cX6_off 1 = .ok (.iconst 0, 1) := by decide +kernel
theorem dX6_off_2 : decode cX6_off 2 = .ok (.putfield 35, 3) := by decide +kernel
theorem dX6_off_5 : decode cX6_off 5 = .ok (.aload_n 0, 1) := by decide +kernel
theorem dX6_off_6 : decode cX6_off 6 = .ok (.invokevirtual 132, 3) := by decide +kernel
theorem dX6_off_9 : decode cX6_off 9 = .ok (.ifCond .ne 5, 3) := by decide +kernel
theorem dX6_off_12 : decode cX6_off 12 = .ok (.iconst 0, 1) := by decide +kernel
theorem dX6_off_13 : decode cX6_off 13 = .ok (.ireturn, 1) := by decide +kernel
theorem dX6_off_14 : decode cX6_off 14 = .ok (.aload_n 0, 1) := by decide +kernel
theorem dX6_off_15 : decode cX6_off 15 = .ok (.getfield 7, 3) := by decide +kernel
theorem dX6_off_18 : decode cX6_off 18 = .ok (.iconst 2, 1) := by decide +kernel
theorem dX6_off_19 : decode cX6_off 19 = .ok (.iconst 0, 1) := by decide +kernel
theorem dX6_off_20 : decode cX6_off 20 = .ok (.iastore, 1) := by decide +kernel
theorem dX6_off_21 : decode cX6_off 21 = .ok (.aload_n 0, 1) := by decide +kernel
theorem dX6_off_22 : decode cX6_off 22 = .ok (.getfield 7, 3) := by decide +kernel
theorem dX6_off_25 : decode cX6_off 25 = .ok (.bipush 10, 2) := by decide +kernel
theorem dX6_off_27 : decode cX6_off 27 = .ok (.iconst 0, 1) := by decide +kernel
theorem dX6_off_28 : decode cX6_off 28 = .ok (.iastore, 1) := by decide +kernel
theorem dX6_off_29 : decode cX6_off 29 = .ok (.iconst 1, 1) := by decide +kernel
theorem dX6_off_30 : decode cX6_off 30 = .ok (.ireturn, 1) := by decide +kernel
theorem dX6_power_0 : decode cX6_power 0 = .ok (.aload_n 0, 1) := by decide +kernel
theorem dX6_power_1 : decode cX6_power 1 = .ok (.iconst 0, 1) := by decide +kernel
theorem dX6_power_2 : decode cX6_power 2 = .ok (.putfield 35, 3) := by decide +kernel
theorem dX6_power_5 : decode cX6_power 5 = .ok (.iload_n 1, 1) := by decide +kernel
theorem dX6_power_6 : decode cX6_power 6 = .ok (.iconst 0, 1) := by decide +kernel
theorem dX6_power_7 : decode cX6_power 7 = .ok (.sipush 9999, 3) := by decide +kernel
theorem dX6_power_10 : decode cX6_power 10 = .ok (.invokestatic 39, 3) := by decide +kernel
theorem dX6_power_13 : decode cX6_power 13 = .ok (.ifCond .eq 14, 3) := by decide +kernel
theorem dX6_power_16 : decode cX6_power 16 = .ok (.iload_n 2, 1) := by decide +kernel
theorem dX6_power_17 : decode cX6_power 17 = .ok (.iconst 0, 1) := by decide +kernel
theorem dX6_power_18 : decode cX6_power 18 = .ok (.sipush 255, 3) := by decide +kernel
theorem dX6_power_21 : decode cX6_power 21 = .ok (.invokestatic 39, 3) := by decide +kernel
theorem dX6_power_24 : decode cX6_power 24 = .ok (.ifCond .ne 5, 3) := by decide +kernel
theorem dX6_power_27 : decode cX6_power 27 = .ok (.iconst 0, 1) := by decide +kernel
theorem dX6_power_28 : decode cX6_power 28 = .ok (.ireturn, 1) := by decide +kernel
theorem dX6_power_29 : decode cX6_power 29 = .ok (.aload_n 0, 1) := by decide +kernel
theorem dX6_power_30 : decode cX6_power 30 = .ok (.getfield 7, 3) := by decide +kernel
theorem dX6_power_33 : decode cX6_power 33 = .ok (.iconst 4, 1) := by decide +kernel
theorem dX6_power_34 : decode cX6_power 34 = .ok (.iload_n 1, 1) := by decide +kernel
theorem dX6_power_35 : decode cX6_power 35 = .ok (.iastore, 1) := by decide +kernel
theorem dX6_power_36 : decode cX6_power 36 = .ok (.aload_n 0, 1) := by decide +kernel
theorem dX6_power_37 : decode cX6_power 37 = .ok (.getfield 7, 3) := by decide +kernel
theorem dX6_power_40 : decode cX6_power 40 = .ok (.iconst 5, 1) := by decide +kernel
theorem dX6_power_41 : decode cX6_power 41 = .ok (.iload_n 2, 1) := by decide +kernel
theorem dX6_power_42 : decode cX6_power 42 = .ok (.iastore, 1) := by decide +kernel
theorem dX6_power_43 : decode cX6_power 43 = .ok (.iconst 1, 1) := by decide +kernel
theorem dX6_power_44 : decode cX6_power 44 = .ok (.ireturn, 1) := by decide +kernel
theorem dX6_rot_0 : decode cX6_rot 0 = .ok (.aload_n 0, 1) := by decide +kernel
theorem dX6_rot_1 : decode cX6_rot 1 = .ok (.iconst 0, 1) := by decide +kernel
theorem dX6_rot_2 : decode cX6_rot 2 = .ok (.putfield 35, 3) := by decide +kernel
theorem dX6_rot_5 : decode cX6_rot 5 = .ok (.aload_n 0, 1) := by decide +kernel
theorem dX6_rot_6 : decode cX6_rot 6 = .ok (.invokevirtual 132, 3) := by decide +kernel
theorem dX6_rot_9 : decode cX6_rot 9 = .ok (.ifCond .ne 38, 3) := by decide +kernel
theorem dX6_rot_12 : decode cX6_rot 12 = .ok (.aload_n 0, 1) := by decide +kernel
theorem dX6_rot_13 : decode cX6_rot 13 = .ok (.iload_n 1, 1) := by decide +kernel
theorem dX6_rot_14 : decode cX6_rot 14 = .ok (.invokevirtual 147, 3) := by decide +kernel
theorem dX6_rot_17 : decode cX6_rot 17 = .ok (.ifCond .eq 30, 3) := by decide +kernel
theorem dX6_rot_20 : decode cX6_rot 20 = .ok (.iload_n 2, 1) := by decide +kernel
theorem dX6_rot_21 : decode cX6_rot 21 = .ok (.iconst 0, 1) := by decide +kernel
theorem dX6_rot_22 : decode cX6_rot 22 = .ok (.aload_n 0, 1) := by decide +kernel
theorem dX6_rot_23 : decode cX6_rot 23 = .ok (.getfield 7, 3) := by decide +kernel
theorem dX6_rot_26 : decode cX6_rot 26 = .ok (.iconst 1, 1) := by decide +kernel
theorem dX6_rot_27 : decode cX6_rot 27 = .ok (.iaload, 1) := by decide +kernel
theorem dX6_rot_28 : decode cX6_rot 28 = .ok (.iconst 1, 1) := by decide +kernel
theorem dX6_rot_29 : decode cX6_rot 29 = .ok (.isub, 1) := by decide +kernel
theorem dX6_rot_30 : decode cX6_rot 30 = .ok (.invokestatic 39, 3) := by decide +kernel
theorem dX6_rot_33 : decode cX6_rot 33 = .ok (.ifCond .eq 14, 3) := by decide +kernel
theorem dX6_rot_36 : decode cX6_rot 36 = .ok (.iload_n 3, 1) := by decide +kernel
theorem dX6_rot_37 : decode cX6_rot 37 = .ok (.iconst 0, 1) := by decide +kernel
theorem dX6_rot_38 : decode cX6_rot 38 = .ok (.sipush 255, 3) := by decide +kernel
theorem dX6_rot_41 : decode cX6_rot 41 = .ok (.invokestatic 39, 3) := by decide +kernel
theorem dX6_rot_44 : decode cX6_rot 44 = .ok (.ifCond .ne 5, 3) := by decide +kernel
theorem dX6_rot_47 : decode cX6_rot 47 = .ok (.iconst (-1), 1) := by decide +kernel
theorem dX6_rot_48 : decode cX6_rot 48 = .ok (.ireturn, 1) := by decide +kernel
theorem dX6_rot_49 : decode cX6_rot 49 = .ok (.aload_n 0, 1) := by decide +kernel
theorem dX6_rot_50 : decode cX6_rot 50 = .ok (.getfield 7, 3) := by decide +kernel
theorem dX6_rot_53 : decode cX6_rot 53 = .ok (.bipush 42, 2) := by decide +kernel
theorem dX6_rot_55 : decode cX6_rot 55 = .ok (.sipush 128, 3) := by decide +kernel
theorem dX6_rot_58 : decode cX6_rot 58 = .ok (.iload_n 1, 1) := by decide +kernel
theorem dX6_rot_59 : decode cX6_rot 59 = .ok (.imul, 1) := by decide +kernel
theorem dX6_rot_60 : decode cX6_rot 60 = .ok (.iadd, 1) := by decide +kernel
