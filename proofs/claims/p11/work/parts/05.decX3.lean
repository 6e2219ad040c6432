theorem dX3_init_0 : decode cX3_init 0 = .ok (.aload_n 0, 1) := by decide +kernel
theorem dX3_init_1 : decode cX3_init 1 = .ok (.invokespecial 3, 3) := by decide +kernel
theorem dX3_init_4 : decode cX3_init 4 = .ok (.aload_n 0, 1) := by decide +kernel
theorem dX3_init_5 : decode cX3_init 5 = .ok (.sipush 128, 3) := by decide +kernel
theorem dX3_init_8 : decode cX3_init 8 = .ok (.newarray .int, 2) := by decide +kernel
theorem dX3_init_10 : decode cX3_init 10 = .ok (.putfield 9, 3) := by decide +kernel
theorem dX3_init_13 : decode cX3_init 13 = .ok (.aload_n 0, 1) := by decide +kernel
theorem dX3_init_14 : decode cX3_init 14 = .ok (.bipush 41, 2) := by decide +kernel
theorem dX3_init_16 : decode cX3_init 16 = .ok (.newarray .int, 2) := by decide +kernel
theorem dX3_init_18 : decode cX3_init 18 = .ok (.putfield 15, 3) := by decide +kernel
theorem dX3_init_21 : decode cX3_init 21 = .ok (.aload_n 0, 1) := by decide +kernel
theorem dX3_init_22 : decode cX3_init 22 = .ok (.bipush 41, 2) := by decide +kernel
theorem dX3_init_24 : decode cX3_init 24 = .ok (.newarray .int, 2) := by decide +kernel
theorem dX3_init_26 : decode cX3_init 26 = .ok (.putfield 18, 3) := by decide +kernel
theorem dX3_init_29 : decode cX3_init 29 = .ok (.aload_n 0, 1) := by decide +kernel
theorem dX3_init_30 : decode cX3_init 30 = .ok (.bipush 41, 2) := by decide +kernel
theorem dX3_init_32 : decode cX3_init 32 = .ok (.newarray .int, 2) := by decide +kernel
theorem dX3_init_34 : decode cX3_init 34 = .ok (.putfield 21, 3) := by decide +kernel
theorem dX3_init_37 : decode cX3_init 37 = .ok (.aload_n 0, 1) := by decide +kernel
theorem dX3_init_38 : decode cX3_init 38 = .ok (.bipush 41, 2) := by decide +kernel
theorem dX3_init_40 : decode cX3_init 40 = .ok (.newarray .int, 2) := by decide +kernel
theorem dX3_init_42 : decode cX3_init 42 = .ok (.putfield 24, 3) := by decide +kernel
theorem dX3_init_45 : decode cX3_init 45 = .ok (.aload_n 0, 1) := by decide +kernel
theorem dX3_init_46 : decode cX3_init 46 = .ok (.bipush 41, 2) := by decide +kernel
theorem dX3_init_48 : decode cX3_init 48 = .ok (.newarray .int, 2) := by decide +kernel
theorem dX3_init_50 : decode cX3_init 50 = .ok (.putfield 27, 3) := by decide +kernel
theorem dX3_init_53 : decode cX3_init 53 = .ok (.aload_n 0, 1) := by decide +kernel
theorem dX3_init_54 : decode cX3_init 54 = .ok (.bipush 48, 2) := by decide +kernel
theorem dX3_init_56 : decode cX3_init 56 = .ok (.newarray .int, 2) := by decide +kernel
theorem dX3_init_58 : decode cX3_init 58 = .ok (.putfield 30, 3) := by decide +kernel
theorem dX3_init_61 : decode cX3_init 61 = .ok (.return_, 1) := by decide +kernel
theorem dX3_scan_0 : decode cX3_scan 0 = .ok (.aload_n 0, 1) := by decide +kernel
theorem dX3_scan_1 : decode cX3_scan 1 = .ok (.aload_n 1, 1) := by decide +kernel
theorem dX3_scan_2 : decode cX3_scan 2 = .ok (.getfield 33, 3) := by decide +kernel
theorem dX3_scan_5 : decode cX3_scan 5 = .ok (.putfield 39, 3) := by decide +kernel
theorem dX3_scan_8 : decode cX3_scan 8 = .ok (.aload_n 1, 1) := by decide +kernel
theorem dX3_scan_9 : decode cX3_scan 9 = .ok (.iload_n 2, 1) := by decide +kernel
theorem dX3_scan_10 : decode cX3_scan 10 = .ok (.aload_n 0, 1) := by decide +kernel
theorem dX3_scan_11 : decode cX3_scan 11 = .ok (.getfield 9, 3) := by decide +kernel
theorem dX3_scan_14 : decode cX3_scan 14 = .ok (.invokevirtual 40, 3) := by decide +kernel
theorem dX3_scan_17 : decode cX3_scan 17 = .ok (.aload_n 0, 1) := by decide +kernel
theorem dX3_scan_18 : decode cX3_scan 18 = .ok (.iconst 0, 1) := by decide +kernel
theorem dX3_scan_19 : decode cX3_scan 19 = .ok (.putfield 44, 3) := by decide +kernel
theorem dX3_scan_22 : decode cX3_scan 22 = .ok (.aload_n 0, 1) := by decide +kernel
theorem dX3_scan_23 : decode cX3_scan 23 = .ok (.iconst 0, 1) := by decide +kernel
theorem dX3_scan_24 : decode cX3_scan 24 = .ok (.putfield 47, 3) := by decide +kernel
theorem dX3_scan_27 : decode cX3_scan 27 = .ok (.aload_n 1, 1) := by decide +kernel
theorem dX3_scan_28 : decode cX3_scan 28 = .ok (.iload_n 2, 1) := by decide +kernel
theorem dX3_scan_29 : decode cX3_scan 29 = .ok (.invokevirtual 50, 3) := by decide +kernel
theorem dX3_scan_32 : decode cX3_scan 32 = .ok (.istore_n 3, 1) := by decide +kernel
theorem dX3_scan_33 : decode cX3_scan 33 = .ok (.iconst 4, 1) := by decide +kernel
theorem dX3_scan_34 : decode cX3_scan 34 = .ok (.istore 4, 2) := by decide +kernel
theorem dX3_scan_36 : decode cX3_scan 36 = .ok (.iconst 0, 1) := by decide +kernel
theorem dX3_scan_37 : decode cX3_scan 37 = .ok (.istore 5, 2) := by decide +kernel
theorem dX3_scan_39 : decode cX3_scan 39 = .ok (.iload 5, 2) := by decide +kernel
theorem dX3_scan_41 : decode cX3_scan 41 = .ok (.bipush 41, 2) := by decide +kernel
theorem dX3_scan_43 : decode cX3_scan 43 = .ok (.if_icmp .gt 30, 3) := by decide +kernel
theorem dX3_scan_46 : decode cX3_scan 46 = .ok (.iload 4, 2) := by decide +kernel
theorem dX3_scan_48 : decode cX3_scan 48 = .ok (.iload_n 3, 1) := by decide +kernel
theorem dX3_scan_49 : decode cX3_scan 49 = .ok (.if_icmp .ge 24, 3) := by decide +kernel
theorem dX3_scan_52 : decode cX3_scan 52 = .ok (.aload_n 0, 1) := by decide +kernel
theorem dX3_scan_53 : decode cX3_scan 53 = .ok (.getfield 47, 3) := by decide +kernel
theorem dX3_scan_56 : decode cX3_scan 56 = .ok (.ifCond .ne 17, 3) := by decide +kernel
theorem dX3_scan_59 : decode cX3_scan 59 = .ok (.aload_n 0, 1) := by decide +kernel
theorem dX3_scan_60 : decode cX3_scan 60 = .ok (.iload 4, 2) := by decide +kernel
theorem dX3_scan_62 : decode cX3_scan 62 = .ok (.invokevirtual 54, 3) := by decide +kernel
theorem dX3_scan_65 : decode cX3_scan 65 = .ok (.istore 4, 2) := by decide +kernel
theorem dX3_scan_67 : decode cX3_scan 67 = .ok (.iinc 5 1, 3) := by decide +kernel
theorem dX3_scan_70 : decode cX3_scan 70 = .ok (.goto (-31), 3) := by decide +kernel
theorem dX3_scan_73 : decode cX3_scan 73 = .ok (.aload_n 0, 1) := by decide +kernel
theorem dX3_scan_74 : decode cX3_scan 74 = .ok (.aload_n 0, 1) := by decide +kernel
theorem dX3_scan_75 : decode cX3_scan 75 = .ok (.getfield 47, 3) := by decide +kernel
theorem dX3_scan_78 : decode cX3_scan 78 = .ok (.ifCond .le 10, 3) := by decide +kernel
theorem dX3_scan_81 : decode cX3_scan 81 = .ok (.aload_n 0, 1) := by decide +kernel
theorem dX3_scan_82 : decode cX3_scan 82 = .ok (.getfield 39, 3) := by decide +kernel
theorem dX3_scan_85 : decode cX3_scan 85 = .ok (.goto 5, 3) := by decide +kernel
theorem dX3_scan_88 : decode cX3_scan 88 = .ok (.iload 4, 2) := by decide +kernel
theorem dX3_scan_90 : decode cX3_scan 90 = .ok (.putfield 57, 3) := by decide +kernel
theorem dX3_scan_93 : decode cX3_scan 93 = .ok (.aload_n 0, 1) := by decide +kernel
theorem dX3_scan_94 : decode cX3_scan 94 = .ok (.invokevirtual 60, 3) := by decide +kernel
theorem dX3_scan_97 : decode cX3_scan 97 = .ok (.return_, 1) := by decide +kernel
theorem dX3_takeEntry_0 : decode cX3_takeEntry 0 = .ok (.aload_n 0, 1) := by decide +kernel
theorem dX3_takeEntry_1 : decode cX3_takeEntry 1 = .ok (.iload_n 1, 1) := by decide +kernel
theorem dX3_takeEntry_2 : decode cX3_takeEntry 2 = .ok (.invokevirtual 63, 3) := by decide +kernel
theorem dX3_takeEntry_5 : decode cX3_takeEntry 5 = .ok (.istore_n 2, 1) := by decide +kernel
theorem dX3_takeEntry_6 : decode cX3_takeEntry 6 = .ok (.aload_n 0, 1) := by decide +kernel
theorem dX3_takeEntry_7 : decode cX3_takeEntry 7 = .ok (.iload_n 1, 1) := by decide +kernel
theorem dX3_takeEntry_8 : decode cX3_takeEntry 8 = .ok (.iconst 1, 1) := by decide +kernel
theorem dX3_takeEntry_9 : decode cX3_takeEntry 9 = .ok (.iadd, 1) := by decide +kernel
theorem dX3_takeEntry_10 : decode cX3_takeEntry 10 = .ok (.invokevirtual 63, 3) := by decide +kernel
theorem dX3_takeEntry_13 : decode cX3_takeEntry 13 = .ok (.istore_n 3, 1) := by decide +kernel
theorem dX3_takeEntry_14 : decode cX3_takeEntry 14 = .ok (.iload_n 2, 1) := by decide +kernel
theorem dX3_takeEntry_15 : decode cX3_takeEntry 15 = .ok (.iload_n 3, 1) := by decide +kernel
theorem dX3_takeEntry_16 : decode cX3_takeEntry 16 = .ok (.invokestatic 66, 3) := by decide +kernel
theorem dX3_takeEntry_19 : decode cX3_takeEntry 19 = .ok (.istore 4, 2) := by decide +kernel
theorem dX3_takeEntry_21 : decode cX3_takeEntry 21 = .ok (.iload 4, 2) := by decide +kernel
theorem dX3_takeEntry_23 : decode cX3_takeEntry 23 = .ok (.iload_n 3, 1) := by decide +kernel
theorem dX3_takeEntry_24 : decode cX3_takeEntry 24 = .ok (.invokestatic 70, 3) := by decide +kernel
theorem dX3_takeEntry_27 : decode cX3_takeEntry 27 = .ok (.istore 5, 2) := by decide +kernel
theorem dX3_takeEntry_29 : decode cX3_takeEntry 29 = .ok (.iload 4, 2) := by decide +kernel
theorem dX3_takeEntry_31 : decode cX3_takeEntry 31 = .ok (.iconst (-1), 1) := by decide +kernel
theorem dX3_takeEntry_32 : decode cX3_takeEntry 32 = .ok (.if_icmp .eq 23, 3) := by decide +kernel
theorem dX3_takeEntry_35 : decode cX3_takeEntry 35 = .ok (.iload_n 1, 1) := by decide +kernel
theorem dX3_takeEntry_36 : decode cX3_takeEntry 36 = .ok (.iload 5, 2) := by decide +kernel
theorem dX3_takeEntry_38 : decode cX3_takeEntry 38 = .ok (.iadd, 1) := by decide +kernel
theorem dX3_takeEntry_39 : decode cX3_takeEntry 39 = .ok (.aload_n 0, 1) := by decide +kernel
theorem dX3_takeEntry_40 : decode cX3_takeEntry 40 = .ok (.getfield 39, 3) := by decide +kernel
theorem dX3_takeEntry_43 : decode cX3_takeEntry 43 = .ok (.if_icmp .gt 12, 3) := by decide +kernel
theorem dX3_takeEntry_46 : decode cX3_takeEntry 46 = .ok (.aload_n 0, 1) := by decide +kernel
theorem dX3_takeEntry_47 : decode cX3_takeEntry 47 = .ok (.getfield 44, 3) := by decide +kernel
theorem dX3_takeEntry_50 : decode cX3_takeEntry 50 = .ok (.bipush 41, 2) := by decide +kernel
theorem dX3_takeEntry_52 : decode cX3_takeEntry 52 = .ok (.if_icmp .lt 15, 3) := by decide +kernel
theorem dX3_takeEntry_55 : decode cX3_takeEntry 55 = .ok (.aload_n 0, 1) := by decide +kernel
theorem dX3_takeEntry_56 : decode cX3_takeEntry 56 = .ok (.aload_n 0, 1) := by decide +kernel
theorem dX3_takeEntry_57 : decode cX3_takeEntry 57 = .ok (.getfield 39, 3) := by decide +kernel
theorem dX3_takeEntry_60 : decode cX3_takeEntry 60 = .ok (.iload_n 1, 1) := by decide +kernel
theorem dX3_takeEntry_61 : decode cX3_takeEntry 61 = .ok (.isub, 1) := by decide +kernel
theorem dX3_takeEntry_62 : decode cX3_takeEntry 62 = .ok (.putfield 47, 3) := by decide +kernel
theorem dX3_takeEntry_65 : decode cX3_takeEntry 65 = .ok (.iload_n 1, 1) := by decide +kernel
theorem dX3_takeEntry_66 : decode cX3_takeEntry 66 = .ok (.ireturn, 1) := by decide +kernel
theorem dX3_takeEntry_67 : decode cX3_takeEntry 67 = .ok (.aload_n 0, 1) := by decide +kernel
theorem dX3_takeEntry_68 : decode cX3_takeEntry 68 = .ok (.getfield 15, 3) := by decide +kernel
theorem dX3_takeEntry_71 : decode cX3_takeEntry 71 = .ok (.aload_n 0, 1) := by decide +kernel
theorem dX3_takeEntry_72 : decode cX3_takeEntry 72 = .ok (.getfield 44, 3) := by decide +kernel
theorem dX3_takeEntry_75 : decode cX3_takeEntry 75 = .ok (.iload_n 1, 1) := by decide +kernel
theorem dX3_takeEntry_76 : decode cX3_takeEntry 76 = .ok (.iastore, 1) := by decide +kernel
theorem dX3_takeEntry_77 : decode cX3_takeEntry 77 = .ok (.aload_n 0, 1) := by decide +kernel
theorem dX3_takeEntry_78 : decode cX3_takeEntry 78 = .ok (.getfield 18, 3) := by decide +kernel
theorem dX3_takeEntry_81 : decode cX3_takeEntry 81 = .ok (.aload_n 0, 1) := by decide +kernel
theorem dX3_takeEntry_82 : decode cX3_takeEntry 82 = .ok (.getfield 44, 3) := by decide +kernel
theorem dX3_takeEntry_85 : decode cX3_takeEntry 85 = .ok (.iload 4, 2) := by decide +kernel
theorem dX3_takeEntry_87 : decode cX3_takeEntry 87 = .ok (.iastore, 1) := by decide +kernel
theorem dX3_takeEntry_88 : decode cX3_takeEntry 88 = .ok (.aload_n 0, 1) := by decide +kernel
theorem dX3_takeEntry_89 : decode cX3_takeEntry 89 = .ok (.getfield 21, 3) := by decide +kernel
theorem dX3_takeEntry_92 : decode cX3_takeEntry 92 = .ok (.aload_n 0, 1) := by decide +kernel
theorem dX3_takeEntry_93 : decode cX3_takeEntry 93 = .ok (.getfield 44, 3) := by decide +kernel
theorem dX3_takeEntry_96 : decode cX3_takeEntry 96 = .ok (.iload_n 2, 1) := by decide +kernel
theorem dX3_takeEntry_97 : decode cX3_takeEntry 97 = .ok (.iastore, 1) := by decide +kernel
theorem dX3_takeEntry_98 : decode cX3_takeEntry 98 = .ok (.aload_n 0, 1) := by decide +kernel
theorem dX3_takeEntry_99 : decode cX3_takeEntry 99 = .ok (.getfield 24, 3) := by decide +kernel
theorem dX3_takeEntry_102 : decode cX3_takeEntry 102 = .ok (.aload_n 0, 1) := by decide +kernel
theorem dX3_takeEntry_103 : decode cX3_takeEntry 103 = .ok (.getfield 44, 3) := by decide +kernel
theorem dX3_takeEntry_106 : decode cX3_takeEntry 106 = .ok (.iload 5, 2) := by decide +kernel
theorem dX3_takeEntry_108 : decode cX3_takeEntry 108 = .ok (.iastore, 1) := by decide +kernel
theorem dX3_takeEntry_109 : decode cX3_takeEntry 109 = .ok (.aload_n 0, 1) := by decide +kernel
theorem dX3_takeEntry_110 : decode cX3_takeEntry 110 = .ok (.getfield 27, 3) := by decide +kernel
theorem dX3_takeEntry_113 : decode cX3_takeEntry 113 = .ok (.aload_n 0, 1) := by decide +kernel
theorem dX3_takeEntry_114 : decode cX3_takeEntry 114 = .ok (.getfield 44, 3) := by decide +kernel
theorem dX3_takeEntry_117 : decode cX3_takeEntry 117 = .ok (.aload_n 0, 1) := by decide +kernel
theorem dX3_takeEntry_118 : decode cX3_takeEntry 118 = .ok (.iload 4, 2) := by decide +kernel
theorem dX3_takeEntry_120 : decode cX3_takeEntry 120 = .ok (.iload_n 1, 1) := by decide +kernel
theorem dX3_takeEntry_121 : decode cX3_takeEntry 121 = .ok (.iload 5, 2) := by decide +kernel
theorem dX3_takeEntry_123 : decode cX3_takeEntry 123 = .ok (.invokevirtual 73, 3) := by decide +kernel
theorem dX3_takeEntry_126 : decode cX3_takeEntry 126 = .ok (.iastore, 1) := by decide +kernel
theorem dX3_takeEntry_127 : decode cX3_takeEntry 127 = .ok (.aload_n 0, 1) := by decide +kernel
theorem dX3_takeEntry_128 : decode cX3_takeEntry 128 = .ok (.dup, 1) := by decide +kernel
theorem dX3_takeEntry_129 : decode cX3_takeEntry 129 = .ok (.getfield 44, 3) := by decide +kernel
theorem dX3_takeEntry_132 : decode cX3_takeEntry 132 = .ok (.iconst 1, 1) := by decide +kernel
theorem dX3_takeEntry_133 : decode cX3_takeEntry 133 = .ok (.iadd, 1) := by decide +kernel
theorem dX3_takeEntry_134 : decode cX3_takeEntry 134 = .ok (.putfield 44, 3) := by decide +kernel
theorem dX3_takeEntry_137 : decode cX3_takeEntry 137 = .ok (.iload 4, 2) := by decide +kernel
theorem dX3_takeEntry_139 : decode cX3_takeEntry 139 = .ok (.iconst 3, 1) := by decide +kernel
theorem dX3_takeEntry_140 : decode cX3_takeEntry 140 = .ok (.if_icmp .ne 13, 3) := by decide +kernel
theorem dX3_takeEntry_143 : decode cX3_takeEntry 143 = .ok (.aload_n 0, 1) := by decide +kernel
theorem dX3_takeEntry_144 : decode cX3_takeEntry 144 = .ok (.aload_n 0, 1) := by decide +kernel
theorem dX3_takeEntry_145 : decode cX3_takeEntry 145 = .ok (.getfield 44, 3) := by decide +kernel
theorem dX3_takeEntry_148 : decode cX3_takeEntry 148 = .ok (.iconst 1, 1) := by decide +kernel
theorem dX3_takeEntry_149 : decode cX3_takeEntry 149 = .ok (.isub, 1) := by decide +kernel
theorem dX3_takeEntry_150 : decode cX3_takeEntry 150 = .ok (.invokevirtual 77, 3) := by decide +kernel
theorem dX3_takeEntry_153 : decode cX3_takeEntry 153 = .ok (.iload_n 1, 1) := by decide +kernel
theorem dX3_takeEntry_154 : decode cX3_takeEntry 154 = .ok (.iload 5, 2) := by decide +kernel
theorem dX3_takeEntry_156 : decode cX3_takeEntry 156 = .ok (.iadd, 1) := by decide +kernel
theorem dX3_takeEntry_157 : decode cX3_takeEntry 157 = .ok (.ireturn, 1) := by decide +kernel
theorem dX3_kindOf_0 : decode cX3_kindOf 0 = .ok (.iload_n 0, 1) := by decide +kernel
theorem dX3_kindOf_1 : decode cX3_kindOf 1 = .ok (.bipush 63, 2) := by decide +kernel
theorem dX3_kindOf_3 : decode cX3_kindOf 3 = .ok (.if_icmp .ne 11, 3) := by decide +kernel
theorem dX3_kindOf_6 : decode cX3_kindOf 6 = .ok (.iload_n 1, 1) := by decide +kernel
theorem dX3_kindOf_7 : decode cX3_kindOf 7 = .ok (.bipush 65, 2) := by decide +kernel
theorem dX3_kindOf_9 : decode cX3_kindOf 9 = .ok (.if_icmp .ne 5, 3) := by decide +kernel
theorem dX3_kindOf_12 : decode cX3_kindOf 12 = .ok (.iconst 3, 1) := by decide +kernel
theorem dX3_kindOf_13 : decode cX3_kindOf 13 = .ok (.ireturn, 1) := by decide +kernel
theorem dX3_kindOf_14 : decode cX3_kindOf 14 = .ok (.iload_n 0, 1) := by decide +kernel
theorem dX3_kindOf_15 : decode cX3_kindOf 15 = .ok (.bipush 32, 2) := by decide +kernel
theorem dX3_kindOf_17 : decode cX3_kindOf 17 = .ok (.bipush 47, 2) := by decide +kernel
theorem dX3_kindOf_19 : decode cX3_kindOf 19 = .ok (.invokestatic 81, 3) := by decide +kernel
theorem dX3_kindOf_22 : decode cX3_kindOf 22 = .ok (.ifCond .eq 11, 3) := by decide +kernel
theorem dX3_kindOf_25 : decode cX3_kindOf 25 = .ok (.iload_n 1, 1) := by decide +kernel
theorem dX3_kindOf_26 : decode cX3_kindOf 26 = .ok (.bipush 43, 2) := by decide +kernel
theorem dX3_kindOf_28 : decode cX3_kindOf 28 = .ok (.if_icmp .ne 5, 3) := by decide +kernel
theorem dX3_kindOf_31 : decode cX3_kindOf 31 = .ok (.iconst 1, 1) := by decide +kernel
theorem dX3_kindOf_32 : decode cX3_kindOf 32 = .ok (.ireturn, 1) := by decide +kernel
theorem dX3_kindOf_33 : decode cX3_kindOf 33 = .ok (.iload_n 0, 1) := by decide +kernel
theorem dX3_kindOf_34 : decode cX3_kindOf 34 = .ok (.iconst 0, 1) := by decide +kernel
theorem dX3_kindOf_35 : decode cX3_kindOf 35 = .ok (.bipush 31, 2) := by decide +kernel
theorem dX3_kindOf_37 : decode cX3_kindOf 37 = .ok (.invokestatic 81, 3) := by decide +kernel
theorem dX3_kindOf_40 : decode cX3_kindOf 40 = .ok (.ifCond .ne 5, 3) := by decide +kernel
theorem dX3_kindOf_43 : decode cX3_kindOf 43 = .ok (.iconst (-1), 1) := by decide +kernel
theorem dX3_kindOf_44 : decode cX3_kindOf 44 = .ok (.ireturn, 1) := by decide +kernel
theorem dX3_kindOf_45 : decode cX3_kindOf 45 = .ok (.iload_n 1, 1) := by decide +kernel
theorem dX3_kindOf_46 : decode cX3_kindOf 46 = .ok (.bipush 16, 2) := by decide +kernel
theorem dX3_kindOf_48 : decode cX3_kindOf 48 = .ok (.bipush 20, 2) := by decide +kernel
theorem dX3_kindOf_50 : decode cX3_kindOf 50 = .ok (.invokestatic 81, 3) := by decide +kernel
theorem dX3_kindOf_53 : decode cX3_kindOf 53 = .ok (.ifCond .eq 5, 3) := by decide +kernel
theorem dX3_kindOf_56 : decode cX3_kindOf 56 = .ok (.iconst 0, 1) := by decide +kernel
theorem dX3_kindOf_57 : decode cX3_kindOf 57 = .ok (.ireturn, 1) := by decide +kernel
theorem dX3_kindOf_58 : decode cX3_kindOf 58 = .ok (.iload_n 1, 1) := by decide +kernel
theorem dX3_kindOf_59 : decode cX3_kindOf 59 = .ok (.bipush 48, 2) := by decide +kernel
theorem dX3_kindOf_61 : decode cX3_kindOf 61 = .ok (.bipush 52, 2) := by decide +kernel
theorem dX3_kindOf_63 : decode cX3_kindOf 63 = .ok (.invokestatic 81, 3) := by decide +kernel
theorem dX3_kindOf_66 : decode cX3_kindOf 66 = .ok (.ifCond .eq 7, 3) := by decide +kernel
theorem dX3_kindOf_69 : decode cX3_kindOf 69 = .ok (.iconst 2, 1) := by decide +kernel
theorem dX3_kindOf_70 : decode cX3_kindOf 70 = .ok (.goto 4, 3) := by decide +kernel
theorem dX3_kindOf_73 : decode cX3_kindOf 73 = .ok (.iconst (-1), 1) := by decide +kernel
theorem dX3_kindOf_74 : decode cX3_kindOf 74 = .ok (.ireturn, 1) := by decide +kernel
theorem dX3_sizeOf_0 : decode cX3_sizeOf 0 = .ok (.iload_n 0, 1) := by decide +kernel
theorem dX3_sizeOf_1 : decode cX3_sizeOf 1 = .ok (.tableswitch 44 0 2 #[27, 41, 34], 27) := by decide +kernel
theorem dX3_sizeOf_28 : decode cX3_sizeOf 28 = .ok (.iconst 3, 1) := by decide +kernel
theorem dX3_sizeOf_29 : decode cX3_sizeOf 29 = .ok (.iload_n 1, 1) := by decide +kernel
theorem dX3_sizeOf_30 : decode cX3_sizeOf 30 = .ok (.iadd, 1) := by decide +kernel
theorem dX3_sizeOf_31 : decode cX3_sizeOf 31 = .ok (.bipush 16, 2) := by decide +kernel
theorem dX3_sizeOf_33 : decode cX3_sizeOf 33 = .ok (.isub, 1) := by decide +kernel
theorem dX3_sizeOf_34 : decode cX3_sizeOf 34 = .ok (.ireturn, 1) := by decide +kernel
theorem dX3_sizeOf_35 : decode cX3_sizeOf 35 = .ok (.iconst 3, 1) := by decide +kernel
theorem dX3_sizeOf_36 : decode cX3_sizeOf 36 = .ok (.iload_n 1, 1) := by decide +kernel
theorem dX3_sizeOf_37 : decode cX3_sizeOf 37 = .ok (.iadd, 1) := by decide +kernel
theorem dX3_sizeOf_38 : decode cX3_sizeOf 38 = .ok (.bipush 48, 2) := by decide +kernel
theorem dX3_sizeOf_40 : decode cX3_sizeOf 40 = .ok (.isub, 1) := by decide +kernel
theorem dX3_sizeOf_41 : decode cX3_sizeOf 41 = .ok (.ireturn, 1) := by decide +kernel
theorem dX3_sizeOf_42 : decode cX3_sizeOf 42 = .ok (.bipush 14, 2) := by decide +kernel
theorem dX3_sizeOf_44 : decode cX3_sizeOf 44 = .ok (.ireturn, 1) := by decide +kernel
theorem dX3_sizeOf_45 : decode cX3_sizeOf 45 = .ok (.iconst 4, 1) := by decide +kernel
theorem dX3_sizeOf_46 : decode cX3_sizeOf 46 = .ok (.ireturn, 1) := by decide +kernel
theorem dX3_firstMark_0 : decode cX3_firstMark 0 = .ok (.iload_n 1, 1) := by decide +kernel
theorem dX3_firstMark_1 : decode cX3_firstMark 1 = .ok (.iconst 1, 1) := by decide +kernel
theorem dX3_firstMark_2 : decode cX3_firstMark 2 = .ok (.if_icmp .ne 8, 3) := by decide +kernel
theorem dX3_firstMark_5 : decode cX3_firstMark 5 = .ok (.bipush 6, 2) := by decide +kernel
theorem dX3_firstMark_7 : decode cX3_firstMark 7 = .ok (.goto 4, 3) := by decide +kernel
theorem dX3_firstMark_10 : decode cX3_firstMark 10 = .ok (.iload_n 3, 1) := by decide +kernel
theorem dX3_firstMark_11 : decode cX3_firstMark 11 = .ok (.iconst 1, 1) := by decide +kernel
theorem dX3_firstMark_12 : decode cX3_firstMark 12 = .ok (.isub, 1) := by decide +kernel
theorem dX3_firstMark_13 : decode cX3_firstMark 13 = .ok (.istore 4, 2) := by decide +kernel
theorem dX3_firstMark_15 : decode cX3_firstMark 15 = .ok (.iconst 0, 1) := by decide +kernel
theorem dX3_firstMark_16 : decode cX3_firstMark 16 = .ok (.istore 5, 2) := by decide +kernel
theorem dX3_firstMark_18 : decode cX3_firstMark 18 = .ok (.iconst 0, 1) := by decide +kernel
theorem dX3_firstMark_19 : decode cX3_firstMark 19 = .ok (.istore 6, 2) := by decide +kernel
theorem dX3_firstMark_21 : decode cX3_firstMark 21 = .ok (.iload 6, 2) := by decide +kernel
theorem dX3_firstMark_23 : decode cX3_firstMark 23 = .ok (.iload 4, 2) := by decide +kernel
theorem dX3_firstMark_25 : decode cX3_firstMark 25 = .ok (.if_icmp .ge 22, 3) := by decide +kernel
theorem dX3_firstMark_28 : decode cX3_firstMark 28 = .ok (.iload 5, 2) := by decide +kernel
theorem dX3_firstMark_30 : decode cX3_firstMark 30 = .ok (.aload_n 0, 1) := by decide +kernel
theorem dX3_firstMark_31 : decode cX3_firstMark 31 = .ok (.iload_n 2, 1) := by decide +kernel
theorem dX3_firstMark_32 : decode cX3_firstMark 32 = .ok (.iload 6, 2) := by decide +kernel
theorem dX3_firstMark_34 : decode cX3_firstMark 34 = .ok (.iadd, 1) := by decide +kernel
theorem dX3_firstMark_35 : decode cX3_firstMark 35 = .ok (.invokevirtual 63, 3) := by decide +kernel
theorem dX3_firstMark_38 : decode cX3_firstMark 38 = .ok (.iadd, 1) := by decide +kernel
theorem dX3_firstMark_39 : decode cX3_firstMark 39 = .ok (.istore 5, 2) := by decide +kernel
theorem dX3_firstMark_41 : decode cX3_firstMark 41 = .ok (.iinc 6 1, 3) := by decide +kernel
theorem dX3_firstMark_44 : decode cX3_firstMark 44 = .ok (.goto (-23), 3) := by decide +kernel
theorem dX3_firstMark_47 : decode cX3_firstMark 47 = .ok (.aload_n 0, 1) := by decide +kernel
theorem dX3_firstMark_48 : decode cX3_firstMark 48 = .ok (.iload_n 2, 1) := by decide +kernel
theorem dX3_firstMark_49 : decode cX3_firstMark 49 = .ok (.iload 4, 2) := by decide +kernel
theorem dX3_firstMark_51 : decode cX3_firstMark 51 = .ok (.iadd, 1) := by decide +kernel
theorem dX3_firstMark_52 : decode cX3_firstMark 52 = .ok (.invokevirtual 63, 3) := by decide +kernel
theorem dX3_firstMark_55 : decode cX3_firstMark 55 = .ok (.iload 5, 2) := by decide +kernel
theorem dX3_firstMark_57 : decode cX3_firstMark 57 = .ok (.invokestatic 85, 3) := by decide +kernel
theorem dX3_firstMark_60 : decode cX3_firstMark 60 = .ok (.if_icmp .eq 5, 3) := by decide +kernel
theorem dX3_firstMark_63 : decode cX3_firstMark 63 = .ok (.iconst 2, 1) := by decide +kernel
theorem dX3_firstMark_64 : decode cX3_firstMark 64 = .ok (.ireturn, 1) := by decide +kernel
theorem dX3_firstMark_65 : decode cX3_firstMark 65 = .ok (.iload_n 1, 1) := by decide +kernel
theorem dX3_firstMark_66 : decode cX3_firstMark 66 = .ok (.iconst 2, 1) := by decide +kernel
theorem dX3_firstMark_67 : decode cX3_firstMark 67 = .ok (.if_icmp .eq 8, 3) := by decide +kernel
theorem dX3_firstMark_70 : decode cX3_firstMark 70 = .ok (.iload_n 1, 1) := by decide +kernel
theorem dX3_firstMark_71 : decode cX3_firstMark 71 = .ok (.iconst 3, 1) := by decide +kernel
theorem dX3_firstMark_72 : decode cX3_firstMark 72 = .ok (.if_icmp .ne 7, 3) := by decide +kernel
theorem dX3_firstMark_75 : decode cX3_firstMark 75 = .ok (.iconst 3, 1) := by decide +kernel
theorem dX3_firstMark_76 : decode cX3_firstMark 76 = .ok (.goto 4, 3) := by decide +kernel
theorem dX3_firstMark_79 : decode cX3_firstMark 79 = .ok (.iconst 1, 1) := by decide +kernel
theorem dX3_firstMark_80 : decode cX3_firstMark 80 = .ok (.ireturn, 1) := by decide +kernel
theorem dX3_settleParts_0 : decode cX3_settleParts 0 = .ok (.aload_n 0, 1) := by decide +kernel
theorem dX3_settleParts_1 : decode cX3_settleParts 1 = .ok (.iload_n 1, 1) := by decide +kernel
theorem dX3_settleParts_2 : decode cX3_settleParts 2 = .ok (.invokevirtual 88, 3) := by decide +kernel
theorem dX3_settleParts_5 : decode cX3_settleParts 5 = .ok (.ifCond .eq 13, 3) := by decide +kernel
theorem dX3_settleParts_8 : decode cX3_settleParts 8 = .ok (.aload_n 0, 1) := by decide +kernel
theorem dX3_settleParts_9 : decode cX3_settleParts 9 = .ok (.getfield 27, 3) := by decide +kernel
theorem dX3_settleParts_12 : decode cX3_settleParts 12 = .ok (.iload_n 1, 1) := by decide +kernel
theorem dX3_settleParts_13 : decode cX3_settleParts 13 = .ok (.iaload, 1) := by decide +kernel
theorem dX3_settleParts_14 : decode cX3_settleParts 14 = .ok (.iconst 2, 1) := by decide +kernel
theorem dX3_settleParts_15 : decode cX3_settleParts 15 = .ok (.if_icmp .ne 4, 3) := by decide +kernel
theorem dX3_settleParts_18 : decode cX3_settleParts 18 = .ok (.return_, 1) := by decide +kernel
theorem dX3_settleParts_19 : decode cX3_settleParts 19 = .ok (.aload_n 0, 1) := by decide +kernel
theorem dX3_settleParts_20 : decode cX3_settleParts 20 = .ok (.aload_n 0, 1) := by decide +kernel
theorem dX3_settleParts_21 : decode cX3_settleParts 21 = .ok (.getfield 15, 3) := by decide +kernel
theorem dX3_settleParts_24 : decode cX3_settleParts 24 = .ok (.iload_n 1, 1) := by decide +kernel
theorem dX3_settleParts_25 : decode cX3_settleParts 25 = .ok (.iaload, 1) := by decide +kernel
theorem dX3_settleParts_26 : decode cX3_settleParts 26 = .ok (.iconst 2, 1) := by decide +kernel
theorem dX3_settleParts_27 : decode cX3_settleParts 27 = .ok (.iadd, 1) := by decide +kernel
theorem dX3_settleParts_28 : decode cX3_settleParts 28 = .ok (.invokevirtual 63, 3) := by decide +kernel
theorem dX3_settleParts_31 : decode cX3_settleParts 31 = .ok (.istore_n 2, 1) := by decide +kernel
theorem dX3_settleParts_32 : decode cX3_settleParts 32 = .ok (.iload_n 2, 1) := by decide +kernel
theorem dX3_settleParts_33 : decode cX3_settleParts 33 = .ok (.iconst 1, 1) := by decide +kernel
theorem dX3_settleParts_34 : decode cX3_settleParts 34 = .ok (.bipush 8, 2) := by decide +kernel
theorem dX3_settleParts_36 : decode cX3_settleParts 36 = .ok (.invokestatic 81, 3) := by decide +kernel
theorem dX3_settleParts_39 : decode cX3_settleParts 39 = .ok (.ifCond .eq 8, 3) := by decide +kernel
theorem dX3_settleParts_42 : decode cX3_settleParts 42 = .ok (.iload_n 2, 1) := by decide +kernel
theorem dX3_settleParts_43 : decode cX3_settleParts 43 = .ok (.iload_n 1, 1) := by decide +kernel
theorem dX3_settleParts_44 : decode cX3_settleParts 44 = .ok (.if_icmp .le 4, 3) := by decide +kernel
theorem dX3_settleParts_47 : decode cX3_settleParts 47 = .ok (.return_, 1) := by decide +kernel
theorem dX3_settleParts_48 : decode cX3_settleParts 48 = .ok (.iload_n 1, 1) := by decide +kernel
theorem dX3_settleParts_49 : decode cX3_settleParts 49 = .ok (.iload_n 2, 1) := by decide +kernel
theorem dX3_settleParts_50 : decode cX3_settleParts 50 = .ok (.isub, 1) := by decide +kernel
theorem dX3_settleParts_51 : decode cX3_settleParts 51 = .ok (.istore_n 3, 1) := by decide +kernel
theorem dX3_settleParts_52 : decode cX3_settleParts 52 = .ok (.iload_n 3, 1) := by decide +kernel
theorem dX3_settleParts_53 : decode cX3_settleParts 53 = .ok (.iload_n 1, 1) := by decide +kernel
theorem dX3_settleParts_54 : decode cX3_settleParts 54 = .ok (.if_icmp .ge 30, 3) := by decide +kernel
theorem dX3_settleParts_57 : decode cX3_settleParts 57 = .ok (.aload_n 0, 1) := by decide +kernel
theorem dX3_settleParts_58 : decode cX3_settleParts 58 = .ok (.getfield 18, 3) := by decide +kernel
theorem dX3_settleParts_61 : decode cX3_settleParts 61 = .ok (.iload_n 3, 1) := by decide +kernel
theorem dX3_settleParts_62 : decode cX3_settleParts 62 = .ok (.iaload, 1) := by decide +kernel
theorem dX3_settleParts_63 : decode cX3_settleParts 63 = .ok (.iconst 2, 1) := by decide +kernel
theorem dX3_settleParts_64 : decode cX3_settleParts 64 = .ok (.if_icmp .ne 13, 3) := by decide +kernel
theorem dX3_settleParts_67 : decode cX3_settleParts 67 = .ok (.aload_n 0, 1) := by decide +kernel
theorem dX3_settleParts_68 : decode cX3_settleParts 68 = .ok (.getfield 27, 3) := by decide +kernel
theorem dX3_settleParts_71 : decode cX3_settleParts 71 = .ok (.iload_n 3, 1) := by decide +kernel
theorem dX3_settleParts_72 : decode cX3_settleParts 72 = .ok (.iaload, 1) := by decide +kernel
theorem dX3_settleParts_73 : decode cX3_settleParts 73 = .ok (.iconst 2, 1) := by decide +kernel
theorem dX3_settleParts_74 : decode cX3_settleParts 74 = .ok (.if_icmp .ne 4, 3) := by decide +kernel
theorem dX3_settleParts_77 : decode cX3_settleParts 77 = .ok (.return_, 1) := by decide +kernel
theorem dX3_settleParts_78 : decode cX3_settleParts 78 = .ok (.iinc 3 1, 3) := by decide +kernel
theorem dX3_settleParts_81 : decode cX3_settleParts 81 = .ok (.goto (-29), 3) := by decide +kernel
theorem dX3_settleParts_84 : decode cX3_settleParts 84 = .ok (.iload_n 1, 1) := by decide +kernel
theorem dX3_settleParts_85 : decode cX3_settleParts 85 = .ok (.iload_n 2, 1) := by decide +kernel
theorem dX3_settleParts_86 : decode cX3_settleParts 86 = .ok (.isub, 1) := by decide +kernel
theorem dX3_settleParts_87 : decode cX3_settleParts 87 = .ok (.istore_n 3, 1) := by decide +kernel
theorem dX3_settleParts_88 : decode cX3_settleParts 88 = .ok (.iload_n 3, 1) := by decide +kernel
theorem dX3_settleParts_89 : decode cX3_settleParts 89 = .ok (.iload_n 1, 1) := by decide +kernel
theorem dX3_settleParts_90 : decode cX3_settleParts 90 = .ok (.if_icmp .ge 16, 3) := by decide +kernel
theorem dX3_settleParts_93 : decode cX3_settleParts 93 = .ok (.aload_n 0, 1) := by decide +kernel
theorem dX3_settleParts_94 : decode cX3_settleParts 94 = .ok (.getfield 27, 3) := by decide +kernel
theorem dX3_settleParts_97 : decode cX3_settleParts 97 = .ok (.iload_n 3, 1) := by decide +kernel
theorem dX3_settleParts_98 : decode cX3_settleParts 98 = .ok (.iconst 1, 1) := by decide +kernel
theorem dX3_settleParts_99 : decode cX3_settleParts 99 = .ok (.iastore, 1) := by decide +kernel
theorem dX3_settleParts_100 : decode cX3_settleParts 100 = .ok (.iinc 3 1, 3) := by decide +kernel
theorem dX3_settleParts_103 : decode cX3_settleParts 103 = .ok (.goto (-15), 3) := by decide +kernel
theorem dX3_settleParts_106 : decode cX3_settleParts 106 = .ok (.aload_n 0, 1) := by decide +kernel
theorem dX3_settleParts_107 : decode cX3_settleParts 107 = .ok (.getfield 27, 3) := by decide +kernel
theorem dX3_settleParts_110 : decode cX3_settleParts 110 = .ok (.iload_n 1, 1) := by decide +kernel
theorem dX3_settleParts_111 : decode cX3_settleParts 111 = .ok (.iconst 0, 1) := by decide +kernel
theorem dX3_settleParts_112 : decode cX3_settleParts 112 = .ok (.iastore, 1) := by decide +kernel
theorem dX3_settleParts_113 : decode cX3_settleParts 113 = .ok (.return_, 1) := by decide +kernel
theorem dX3_markNewest_0 : decode cX3_markNewest 0 = .ok (.aload_n 0, 1) := by decide +kernel
theorem dX3_markNewest_1 : decode cX3_markNewest 1 = .ok (.getfield 30, 3) := by decide +kernel
theorem dX3_markNewest_4 : decode cX3_markNewest 4 = .ok (.iconst (-1), 1) := by decide +kernel
theorem dX3_markNewest_5 : decode cX3_markNewest 5 = .ok (.invokestatic 92, 3) := by decide +kernel
theorem dX3_markNewest_8 : decode cX3_markNewest 8 = .ok (.iconst 0, 1) := by decide +kernel
theorem dX3_markNewest_9 : decode cX3_markNewest 9 = .ok (.istore_n 1, 1) := by decide +kernel
theorem dX3_markNewest_10 : decode cX3_markNewest 10 = .ok (.iload_n 1, 1) := by decide +kernel
theorem dX3_markNewest_11 : decode cX3_markNewest 11 = .ok (.aload_n 0, 1) := by decide +kernel
theorem dX3_markNewest_12 : decode cX3_markNewest 12 = .ok (.getfield 44, 3) := by decide +kernel
theorem dX3_markNewest_15 : decode cX3_markNewest 15 = .ok (.if_icmp .ge 43, 3) := by decide +kernel
theorem dX3_markNewest_18 : decode cX3_markNewest 18 = .ok (.aload_n 0, 1) := by decide +kernel
theorem dX3_markNewest_19 : decode cX3_markNewest 19 = .ok (.getfield 27, 3) := by decide +kernel
theorem dX3_markNewest_22 : decode cX3_markNewest 22 = .ok (.iload_n 1, 1) := by decide +kernel
theorem dX3_markNewest_23 : decode cX3_markNewest 23 = .ok (.iaload, 1) := by decide +kernel
theorem dX3_markNewest_24 : decode cX3_markNewest 24 = .ok (.iconst 1, 1) := by decide +kernel
theorem dX3_markNewest_25 : decode cX3_markNewest 25 = .ok (.if_icmp .ne 27, 3) := by decide +kernel
theorem dX3_markNewest_28 : decode cX3_markNewest 28 = .ok (.aload_n 0, 1) := by decide +kernel
theorem dX3_markNewest_29 : decode cX3_markNewest 29 = .ok (.getfield 21, 3) := by decide +kernel
theorem dX3_markNewest_32 : decode cX3_markNewest 32 = .ok (.iload_n 1, 1) := by decide +kernel
theorem dX3_markNewest_33 : decode cX3_markNewest 33 = .ok (.iaload, 1) := by decide +kernel
theorem dX3_markNewest_34 : decode cX3_markNewest 34 = .ok (.invokestatic 98, 3) := by decide +kernel
theorem dX3_markNewest_37 : decode cX3_markNewest 37 = .ok (.ifCond .eq 15, 3) := by decide +kernel
theorem dX3_markNewest_40 : decode cX3_markNewest 40 = .ok (.aload_n 0, 1) := by decide +kernel
theorem dX3_markNewest_41 : decode cX3_markNewest 41 = .ok (.getfield 30, 3) := by decide +kernel
theorem dX3_markNewest_44 : decode cX3_markNewest 44 = .ok (.aload_n 0, 1) := by decide +kernel
theorem dX3_markNewest_45 : decode cX3_markNewest 45 = .ok (.getfield 21, 3) := by decide +kernel
theorem dX3_markNewest_48 : decode cX3_markNewest 48 = .ok (.iload_n 1, 1) := by decide +kernel
theorem dX3_markNewest_49 : decode cX3_markNewest 49 = .ok (.iaload, 1) := by decide +kernel
theorem dX3_markNewest_50 : decode cX3_markNewest 50 = .ok (.iload_n 1, 1) := by decide +kernel
theorem dX3_markNewest_51 : decode cX3_markNewest 51 = .ok (.iastore, 1) := by decide +kernel
theorem dX3_markNewest_52 : decode cX3_markNewest 52 = .ok (.iinc 1 1, 3) := by decide +kernel
theorem dX3_markNewest_55 : decode cX3_markNewest 55 = .ok (.goto (-45), 3) := by decide +kernel
theorem dX3_markNewest_58 : decode cX3_markNewest 58 = .ok (.iconst 0, 1) := by decide +kernel
theorem dX3_markNewest_59 : decode cX3_markNewest 59 = .ok (.istore_n 1, 1) := by decide +kernel
theorem dX3_markNewest_60 : decode cX3_markNewest 60 = .ok (.iload_n 1, 1) := by decide +kernel
theorem dX3_markNewest_61 : decode cX3_markNewest 61 = .ok (.bipush 48, 2) := by decide +kernel
theorem dX3_markNewest_63 : decode cX3_markNewest 63 = .ok (.if_icmp .ge 34, 3) := by decide +kernel
theorem dX3_markNewest_66 : decode cX3_markNewest 66 = .ok (.aload_n 0, 1) := by decide +kernel
theorem dX3_markNewest_67 : decode cX3_markNewest 67 = .ok (.aload_n 0, 1) := by decide +kernel
theorem dX3_markNewest_68 : decode cX3_markNewest 68 = .ok (.getfield 30, 3) := by decide +kernel
theorem dX3_markNewest_71 : decode cX3_markNewest 71 = .ok (.iload_n 1, 1) := by decide +kernel
theorem dX3_markNewest_72 : decode cX3_markNewest 72 = .ok (.iaload, 1) := by decide +kernel
theorem dX3_markNewest_73 : decode cX3_markNewest 73 = .ok (.invokevirtual 88, 3) := by decide +kernel
theorem dX3_markNewest_76 : decode cX3_markNewest 76 = .ok (.ifCond .eq 15, 3) := by decide +kernel
theorem dX3_markNewest_79 : decode cX3_markNewest 79 = .ok (.aload_n 0, 1) := by decide +kernel
theorem dX3_markNewest_80 : decode cX3_markNewest 80 = .ok (.getfield 27, 3) := by decide +kernel
theorem dX3_markNewest_83 : decode cX3_markNewest 83 = .ok (.aload_n 0, 1) := by decide +kernel
theorem dX3_markNewest_84 : decode cX3_markNewest 84 = .ok (.getfield 30, 3) := by decide +kernel
theorem dX3_markNewest_87 : decode cX3_markNewest 87 = .ok (.iload_n 1, 1) := by decide +kernel
theorem dX3_markNewest_88 : decode cX3_markNewest 88 = .ok (.iaload, 1) := by decide +kernel
theorem dX3_markNewest_89 : decode cX3_markNewest 89 = .ok (.iconst 0, 1) := by decide +kernel
theorem dX3_markNewest_90 : decode cX3_markNewest 90 = .ok (.iastore, 1) := by decide +kernel
theorem dX3_markNewest_91 : decode cX3_markNewest 91 = .ok (.iinc 1 1, 3) := by decide +kernel
theorem dX3_markNewest_94 : decode cX3_markNewest 94 = .ok (.goto (-34), 3) := by decide +kernel
theorem dX3_markNewest_97 : decode cX3_markNewest 97 = .ok (.return_, 1) := by decide +kernel
theorem dX3_byteAt_0 : decode cX3_byteAt 0 = .ok (.iload_n 1, 1) := by decide +kernel
theorem dX3_byteAt_1 : decode cX3_byteAt 1 = .ok (.ifCond .lt 29, 3) := by decide +kernel
theorem dX3_byteAt_4 : decode cX3_byteAt 4 = .ok (.iload_n 1, 1) := by decide +kernel
theorem dX3_byteAt_5 : decode cX3_byteAt 5 = .ok (.aload_n 0, 1) := by decide +kernel
theorem dX3_byteAt_6 : decode cX3_byteAt 6 = .ok (.getfield 39, 3) := by decide +kernel
theorem dX3_byteAt_9 : decode cX3_byteAt 9 = .ok (.if_icmp .ge 21, 3) := by decide +kernel
theorem dX3_byteAt_12 : decode cX3_byteAt 12 = .ok (.iload_n 1, 1) := by decide +kernel
theorem dX3_byteAt_13 : decode cX3_byteAt 13 = .ok (.aload_n 0, 1) := by decide +kernel
theorem dX3_byteAt_14 : decode cX3_byteAt 14 = .ok (.getfield 9, 3) := by decide +kernel
theorem dX3_byteAt_17 : decode cX3_byteAt 17 = .ok (.arraylength, 1) := by decide +kernel
theorem dX3_byteAt_18 : decode cX3_byteAt 18 = .ok (.if_icmp .ge 12, 3) := by decide +kernel
theorem dX3_byteAt_21 : decode cX3_byteAt 21 = .ok (.aload_n 0, 1) := by decide +kernel
theorem dX3_byteAt_22 : decode cX3_byteAt 22 = .ok (.getfield 9, 3) := by decide +kernel
theorem dX3_byteAt_25 : decode cX3_byteAt 25 = .ok (.iload_n 1, 1) := by decide +kernel
theorem dX3_byteAt_26 : decode cX3_byteAt 26 = .ok (.iaload, 1) := by decide +kernel
theorem dX3_byteAt_27 : decode cX3_byteAt 27 = .ok (.goto 6, 3) := by decide +kernel
theorem dX3_byteAt_30 : decode cX3_byteAt 30 = .ok (.sipush 255, 3) := by decide +kernel
theorem dX3_byteAt_33 : decode cX3_byteAt 33 = .ok (.ireturn, 1) := by decide +kernel
theorem dX3_has_0 : decode cX3_has 0 = .ok (.iload_n 1, 1) := by decide +kernel
theorem dX3_has_1 : decode cX3_has 1 = .ok (.ifCond .lt 15, 3) := by decide +kernel
theorem dX3_has_4 : decode cX3_has 4 = .ok (.iload_n 1, 1) := by decide +kernel
theorem dX3_has_5 : decode cX3_has 5 = .ok (.aload_n 0, 1) := by decide +kernel
theorem dX3_has_6 : decode cX3_has 6 = .ok (.getfield 44, 3) := by decide +kernel
theorem dX3_has_9 : decode cX3_has 9 = .ok (.if_icmp .ge 7, 3) := by decide +kernel
theorem dX3_has_12 : decode cX3_has 12 = .ok (.iconst 1, 1) := by decide +kernel
theorem dX3_has_13 : decode cX3_has 13 = .ok (.goto 4, 3) := by decide +kernel
theorem dX3_has_16 : decode cX3_has 16 = .ok (.iconst 0, 1) := by decide +kernel
theorem dX3_has_17 : decode cX3_has 17 = .ok (.ireturn, 1) := by decide +kernel
theorem dX3_tell_0 : decode cX3_tell 0 = .ok (.aload_n 0, 1) := by decide +kernel
theorem dX3_tell_1 : decode cX3_tell 1 = .ok (.iload_n 1, 1) := by decide +kernel
theorem dX3_tell_2 : decode cX3_tell 2 = .ok (.invokevirtual 88, 3) := by decide +kernel
theorem dX3_tell_5 : decode cX3_tell 5 = .ok (.ifCond .ne 5, 3) := by decide +kernel
theorem dX3_tell_8 : decode cX3_tell 8 = .ok (.iconst (-1), 1) := by decide +kernel
theorem dX3_tell_9 : decode cX3_tell 9 = .ok (.ireturn, 1) := by decide +kernel
theorem dX3_tell_10 : decode cX3_tell 10 = .ok (.iload_n 2, 1) := by decide +kernel
theorem dX3_tell_11 : decode cX3_tell 11 = .ok (.tableswitch 68 0 4 #[33, 40, 47, 54, 61], 33) := by decide +kernel
theorem dX3_tell_44 : decode cX3_tell 44 = .ok (.aload_n 0, 1) := by decide +kernel
theorem dX3_tell_45 : decode cX3_tell 45 = .ok (.getfield 15, 3) := by decide +kernel
theorem dX3_tell_48 : decode cX3_tell 48 = .ok (.iload_n 1, 1) := by decide +kernel
theorem dX3_tell_49 : decode cX3_tell 49 = .ok (.iaload, 1) := by decide +kernel
theorem dX3_tell_50 : decode cX3_tell 50 = .ok (.ireturn, 1) := by decide +kernel
theorem dX3_tell_51 : decode cX3_tell 51 = .ok (.aload_n 0, 1) := by decide +kernel
theorem dX3_tell_52 : decode cX3_tell 52 = .ok (.getfield 21, 3) := by decide +kernel
theorem dX3_tell_55 : decode cX3_tell 55 = .ok (.iload_n 1, 1) := by decide +kernel
theorem dX3_tell_56 : decode cX3_tell 56 = .ok (.iaload, 1) := by decide +kernel
theorem dX3_tell_57 : decode cX3_tell 57 = .ok (.ireturn, 1) := by decide +kernel
theorem dX3_tell_58 : decode cX3_tell 58 = .ok (.aload_n 0, 1) := by decide +kernel
theorem dX3_tell_59 : decode cX3_tell 59 = .ok (.getfield 18, 3) := by decide +kernel
theorem dX3_tell_62 : decode cX3_tell 62 = .ok (.iload_n 1, 1) := by decide +kernel
theorem dX3_tell_63 : decode cX3_tell 63 = .ok (.iaload, 1) := by decide +kernel
theorem dX3_tell_64 : decode cX3_tell 64 = .ok (.ireturn, 1) := by decide +kernel
theorem dX3_tell_65 : decode cX3_tell 65 = .ok (.aload_n 0, 1) := by decide +kernel
theorem dX3_tell_66 : decode cX3_tell 66 = .ok (.getfield 24, 3) := by decide +kernel
theorem dX3_tell_69 : decode cX3_tell 69 = .ok (.iload_n 1, 1) := by decide +kernel
theorem dX3_tell_70 : decode cX3_tell 70 = .ok (.iaload, 1) := by decide +kernel
theorem dX3_tell_71 : decode cX3_tell 71 = .ok (.ireturn, 1) := by decide +kernel
theorem dX3_tell_72 : decode cX3_tell 72 = .ok (.aload_n 0, 1) := by decide +kernel
theorem dX3_tell_73 : decode cX3_tell 73 = .ok (.getfield 27, 3) := by decide +kernel
theorem dX3_tell_76 : decode cX3_tell 76 = .ok (.iload_n 1, 1) := by decide +kernel
theorem dX3_tell_77 : decode cX3_tell 77 = .ok (.iaload, 1) := by decide +kernel
theorem dX3_tell_78 : decode cX3_tell 78 = .ok (.ireturn, 1) := by decide +kernel
theorem dX3_tell_79 : decode cX3_tell 79 = .ok (.iconst (-1), 1) := by decide +kernel
theorem dX3_tell_80 : decode cX3_tell 80 = .ok (.ireturn, 1) := by decide +kernel
theorem dX3_freeBytes_0 : decode cX3_freeBytes 0 = .ok (.aload_n 0, 1) := by decide +kernel
theorem dX3_freeBytes_1 : decode cX3_freeBytes 1 = .ok (.getfield 39, 3) := by decide +kernel
theorem dX3_freeBytes_4 : decode cX3_freeBytes 4 = .ok (.aload_n 0, 1) := by decide +kernel
theorem dX3_freeBytes_5 : decode cX3_freeBytes 5 = .ok (.getfield 57, 3) := by decide +kernel
theorem dX3_freeBytes_8 : decode cX3_freeBytes 8 = .ok (.isub, 1) := by decide +kernel
theorem dX3_freeBytes_9 : decode cX3_freeBytes 9 = .ok (.ireturn, 1) := by decide +kernel
theorem dX3_freeBehindHandover_0 : decode cX3_freeBehindHandover 0 = .ok (.aload_n 0, 1) := by decide +kernel
theorem dX3_freeBehindHandover_1 : decode cX3_freeBehindHandover 1 = .ok (.getfield 39, 3) := by decide +kernel
theorem dX3_freeBehindHandover_4 : decode cX3_freeBehindHandover 4 = .ok (.iconst 4, 1) := by decide +kernel
theorem dX3_freeBehindHandover_5 : decode cX3_freeBehindHandover 5 = .ok (.isub, 1) := by decide +kernel
theorem dX3_freeBehindHandover_6 : decode cX3_freeBehindHandover 6 = .ok (.aload_n 0, 1) := by decide +kernel
theorem dX3_freeBehindHandover_7 : decode cX3_freeBehindHandover 7 = .ok (.invokevirtual 101, 3) := by decide +kernel
theorem dX3_freeBehindHandover_10 : decode cX3_freeBehindHandover 10 = .ok (.isub, 1) := by decide +kernel
theorem dX3_freeBehindHandover_11 : decode cX3_freeBehindHandover 11 = .ok (.ireturn, 1) := by decide +kernel
theorem dX3_newestOf_0 : decode cX3_newestOf 0 = .ok (.iload_n 1, 1) := by decide +kernel
theorem dX3_newestOf_1 : decode cX3_newestOf 1 = .ok (.ifCond .lt 21, 3) := by decide +kernel
theorem dX3_newestOf_4 : decode cX3_newestOf 4 = .ok (.iload_n 1, 1) := by decide +kernel
theorem dX3_newestOf_5 : decode cX3_newestOf 5 = .ok (.aload_n 0, 1) := by decide +kernel
theorem dX3_newestOf_6 : decode cX3_newestOf 6 = .ok (.getfield 30, 3) := by decide +kernel
theorem dX3_newestOf_9 : decode cX3_newestOf 9 = .ok (.arraylength, 1) := by decide +kernel
theorem dX3_newestOf_10 : decode cX3_newestOf 10 = .ok (.if_icmp .ge 12, 3) := by decide +kernel
theorem dX3_newestOf_13 : decode cX3_newestOf 13 = .ok (.aload_n 0, 1) := by decide +kernel
theorem dX3_newestOf_14 : decode cX3_newestOf 14 = .ok (.getfield 30, 3) := by decide +kernel
theorem dX3_newestOf_17 : decode cX3_newestOf 17 = .ok (.iload_n 1, 1) := by decide +kernel
theorem dX3_newestOf_18 : decode cX3_newestOf 18 = .ok (.iaload, 1) := by decide +kernel
theorem dX3_newestOf_19 : decode cX3_newestOf 19 = .ok (.goto 4, 3) := by decide +kernel
theorem dX3_newestOf_22 : decode cX3_newestOf 22 = .ok (.iconst (-1), 1) := by decide +kernel
theorem dX3_newestOf_23 : decode cX3_newestOf 23 = .ok (.ireturn, 1) := by decide +kernel
theorem dX3_hasValue_0 : decode cX3_hasValue 0 = .ok (.aload_n 0, 1) := by decide +kernel
theorem dX3_hasValue_1 : decode cX3_hasValue 1 = .ok (.iload_n 1, 1) := by decide +kernel
theorem dX3_hasValue_2 : decode cX3_hasValue 2 = .ok (.invokevirtual 105, 3) := by decide +kernel
theorem dX3_hasValue_5 : decode cX3_hasValue 5 = .ok (.ifCond .le 7, 3) := by decide +kernel
theorem dX3_hasValue_8 : decode cX3_hasValue 8 = .ok (.iconst 1, 1) := by decide +kernel
theorem dX3_hasValue_9 : decode cX3_hasValue 9 = .ok (.goto 4, 3) := by decide +kernel
theorem dX3_hasValue_12 : decode cX3_hasValue 12 = .ok (.iconst 0, 1) := by decide +kernel
theorem dX3_hasValue_13 : decode cX3_hasValue 13 = .ok (.ireturn, 1) := by decide +kernel
theorem dX3_valuedSize_0 : decode cX3_valuedSize 0 = .ok (.aload_n 0, 1) := by decide +kernel
theorem dX3_valuedSize_1 : decode cX3_valuedSize 1 = .ok (.iload_n 1, 1) := by decide +kernel
theorem dX3_valuedSize_2 : decode cX3_valuedSize 2 = .ok (.invokevirtual 108, 3) := by decide +kernel
theorem dX3_valuedSize_5 : decode cX3_valuedSize 5 = .ok (.istore_n 2, 1) := by decide +kernel
theorem dX3_valuedSize_6 : decode cX3_valuedSize 6 = .ok (.aload_n 0, 1) := by decide +kernel
theorem dX3_valuedSize_7 : decode cX3_valuedSize 7 = .ok (.iload_n 2, 1) := by decide +kernel
theorem dX3_valuedSize_8 : decode cX3_valuedSize 8 = .ok (.invokevirtual 88, 3) := by decide +kernel
theorem dX3_valuedSize_11 : decode cX3_valuedSize 11 = .ok (.ifCond .eq 22, 3) := by decide +kernel
theorem dX3_valuedSize_14 : decode cX3_valuedSize 14 = .ok (.aload_n 0, 1) := by decide +kernel
theorem dX3_valuedSize_15 : decode cX3_valuedSize 15 = .ok (.getfield 24, 3) := by decide +kernel
theorem dX3_valuedSize_18 : decode cX3_valuedSize 18 = .ok (.iload_n 2, 1) := by decide +kernel
theorem dX3_valuedSize_19 : decode cX3_valuedSize 19 = .ok (.iaload, 1) := by decide +kernel
theorem dX3_valuedSize_20 : decode cX3_valuedSize 20 = .ok (.iconst 3, 1) := by decide +kernel
theorem dX3_valuedSize_21 : decode cX3_valuedSize 21 = .ok (.if_icmp .le 12, 3) := by decide +kernel
theorem dX3_valuedSize_24 : decode cX3_valuedSize 24 = .ok (.aload_n 0, 1) := by decide +kernel
theorem dX3_valuedSize_25 : decode cX3_valuedSize 25 = .ok (.getfield 24, 3) := by decide +kernel
theorem dX3_valuedSize_28 : decode cX3_valuedSize 28 = .ok (.iload_n 2, 1) := by decide +kernel
theorem dX3_valuedSize_29 : decode cX3_valuedSize 29 = .ok (.iaload, 1) := by decide +kernel
theorem dX3_valuedSize_30 : decode cX3_valuedSize 30 = .ok (.goto 4, 3) := by decide +kernel
theorem dX3_valuedSize_33 : decode cX3_valuedSize 33 = .ok (.iconst 0, 1) := by decide +kernel
theorem dX3_valuedSize_34 : decode cX3_valuedSize 34 = .ok (.ireturn, 1) := by decide +kernel
theorem dX3_newestValue_0 : decode cX3_newestValue 0 = .ok (.aload_n 0, 1) := by decide +kernel
theorem dX3_newestValue_1 : decode cX3_newestValue 1 = .ok (.aload_n 0, 1) := by decide +kernel
theorem dX3_newestValue_2 : decode cX3_newestValue 2 = .ok (.iload_n 1, 1) := by decide +kernel
theorem dX3_newestValue_3 : decode cX3_newestValue 3 = .ok (.invokevirtual 108, 3) := by decide +kernel
theorem dX3_newestValue_6 : decode cX3_newestValue 6 = .ok (.invokevirtual 111, 3) := by decide +kernel
theorem dX3_newestValue_9 : decode cX3_newestValue 9 = .ok (.lreturn, 1) := by decide +kernel
theorem dX3_newestLength_0 : decode cX3_newestLength 0 = .ok (.aload_n 0, 1) := by decide +kernel
theorem dX3_newestLength_1 : decode cX3_newestLength 1 = .ok (.iload_n 1, 1) := by decide +kernel
theorem dX3_newestLength_2 : decode cX3_newestLength 2 = .ok (.invokevirtual 108, 3) := by decide +kernel
theorem dX3_newestLength_5 : decode cX3_newestLength 5 = .ok (.istore_n 2, 1) := by decide +kernel
theorem dX3_newestLength_6 : decode cX3_newestLength 6 = .ok (.aload_n 0, 1) := by decide +kernel
theorem dX3_newestLength_7 : decode cX3_newestLength 7 = .ok (.iload_n 2, 1) := by decide +kernel
theorem dX3_newestLength_8 : decode cX3_newestLength 8 = .ok (.invokevirtual 88, 3) := by decide +kernel
theorem dX3_newestLength_11 : decode cX3_newestLength 11 = .ok (.ifCond .ne 5, 3) := by decide +kernel
theorem dX3_newestLength_14 : decode cX3_newestLength 14 = .ok (.iconst 0, 1) := by decide +kernel
theorem dX3_newestLength_15 : decode cX3_newestLength 15 = .ok (.ireturn, 1) := by decide +kernel
theorem dX3_newestLength_16 : decode cX3_newestLength 16 = .ok (.aload_n 0, 1) := by decide +kernel
theorem dX3_newestLength_17 : decode cX3_newestLength 17 = .ok (.getfield 18, 3) := by decide +kernel
theorem dX3_newestLength_20 : decode cX3_newestLength 20 = .ok (.iload_n 2, 1) := by decide +kernel
theorem dX3_newestLength_21 : decode cX3_newestLength 21 = .ok (.iaload, 1) := by decide +kernel
theorem dX3_newestLength_22 : decode cX3_newestLength 22 = .ok (.iconst 1, 1) := by decide +kernel
theorem dX3_newestLength_23 : decode cX3_newestLength 23 = .ok (.if_icmp .ne 7, 3) := by decide +kernel
theorem dX3_newestLength_26 : decode cX3_newestLength 26 = .ok (.iconst 3, 1) := by decide +kernel
theorem dX3_newestLength_27 : decode cX3_newestLength 27 = .ok (.goto 11, 3) := by decide +kernel
theorem dX3_newestLength_30 : decode cX3_newestLength 30 = .ok (.aload_n 0, 1) := by decide +kernel
theorem dX3_newestLength_31 : decode cX3_newestLength 31 = .ok (.getfield 24, 3) := by decide +kernel
theorem dX3_newestLength_34 : decode cX3_newestLength 34 = .ok (.iload_n 2, 1) := by decide +kernel
theorem dX3_newestLength_35 : decode cX3_newestLength 35 = .ok (.iaload, 1) := by decide +kernel
theorem dX3_newestLength_36 : decode cX3_newestLength 36 = .ok (.iconst 3, 1) := by decide +kernel
theorem dX3_newestLength_37 : decode cX3_newestLength 37 = .ok (.isub, 1) := by decide +kernel
theorem dX3_newestLength_38 : decode cX3_newestLength 38 = .ok (.ireturn, 1) := by decide +kernel
theorem dX3_valueOf_0 : decode cX3_valueOf 0 = .ok (.aload_n 0, 1) := by decide +kernel
theorem dX3_valueOf_1 : decode cX3_valueOf 1 = .ok (.iload_n 1, 1) := by decide +kernel
theorem dX3_valueOf_2 : decode cX3_valueOf 2 = .ok (.invokevirtual 88, 3) := by decide +kernel
theorem dX3_valueOf_5 : decode cX3_valueOf 5 = .ok (.ifCond .eq 13, 3) := by decide +kernel
theorem dX3_valueOf_8 : decode cX3_valueOf 8 = .ok (.aload_n 0, 1) := by decide +kernel
theorem dX3_valueOf_9 : decode cX3_valueOf 9 = .ok (.getfield 24, 3) := by decide +kernel
theorem dX3_valueOf_12 : decode cX3_valueOf 12 = .ok (.iload_n 1, 1) := by decide +kernel
theorem dX3_valueOf_13 : decode cX3_valueOf 13 = .ok (.iaload, 1) := by decide +kernel
theorem dX3_valueOf_14 : decode cX3_valueOf 14 = .ok (.iconst 3, 1) := by decide +kernel
theorem dX3_valueOf_15 : decode cX3_valueOf 15 = .ok (.if_icmp .ne 7, 3) := by decide +kernel
theorem dX3_valueOf_18 : decode cX3_valueOf 18 = .ok (.ldc2_w 115, 3) := by decide +kernel
theorem dX3_valueOf_21 : decode cX3_valueOf 21 = .ok (.lreturn, 1) := by decide +kernel
theorem dX3_valueOf_22 : decode cX3_valueOf 22 = .ok (.aload_n 0, 1) := by decide +kernel
theorem dX3_valueOf_23 : decode cX3_valueOf 23 = .ok (.getfield 18, 3) := by decide +kernel
theorem dX3_valueOf_26 : decode cX3_valueOf 26 = .ok (.iload_n 1, 1) := by decide +kernel
theorem dX3_valueOf_27 : decode cX3_valueOf 27 = .ok (.iaload, 1) := by decide +kernel
theorem dX3_valueOf_28 : decode cX3_valueOf 28 = .ok (.iconst 1, 1) := by decide +kernel
theorem dX3_valueOf_29 : decode cX3_valueOf 29 = .ok (.if_icmp .ne 32, 3) := by decide +kernel
theorem dX3_valueOf_32 : decode cX3_valueOf 32 = .ok (.aload_n 0, 1) := by decide +kernel
theorem dX3_valueOf_33 : decode cX3_valueOf 33 = .ok (.aload_n 0, 1) := by decide +kernel
theorem dX3_valueOf_34 : decode cX3_valueOf 34 = .ok (.getfield 15, 3) := by decide +kernel
theorem dX3_valueOf_37 : decode cX3_valueOf 37 = .ok (.iload_n 1, 1) := by decide +kernel
theorem dX3_valueOf_38 : decode cX3_valueOf 38 = .ok (.iaload, 1) := by decide +kernel
theorem dX3_valueOf_39 : decode cX3_valueOf 39 = .ok (.iconst 2, 1) := by decide +kernel
theorem dX3_valueOf_40 : decode cX3_valueOf 40 = .ok (.iadd, 1) := by decide +kernel
theorem dX3_valueOf_41 : decode cX3_valueOf 41 = .ok (.iconst 3, 1) := by decide +kernel
theorem dX3_valueOf_42 : decode cX3_valueOf 42 = .ok (.invokevirtual 117, 3) := by decide +kernel
theorem dX3_valueOf_45 : decode cX3_valueOf 45 = .ok (.aload_n 0, 1) := by decide +kernel
theorem dX3_valueOf_46 : decode cX3_valueOf 46 = .ok (.aload_n 0, 1) := by decide +kernel
theorem dX3_valueOf_47 : decode cX3_valueOf 47 = .ok (.getfield 15, 3) := by decide +kernel
theorem dX3_valueOf_50 : decode cX3_valueOf 50 = .ok (.iload_n 1, 1) := by decide +kernel
theorem dX3_valueOf_51 : decode cX3_valueOf 51 = .ok (.iaload, 1) := by decide +kernel
theorem dX3_valueOf_52 : decode cX3_valueOf 52 = .ok (.bipush 6, 2) := by decide +kernel
theorem dX3_valueOf_54 : decode cX3_valueOf 54 = .ok (.iadd, 1) := by decide +kernel
theorem dX3_valueOf_55 : decode cX3_valueOf 55 = .ok (.invokevirtual 121, 3) := by decide +kernel
theorem dX3_valueOf_58 : decode cX3_valueOf 58 = .ok (.i2l, 1) := by decide +kernel
theorem dX3_valueOf_59 : decode cX3_valueOf 59 = .ok (.ladd, 1) := by decide +kernel
theorem dX3_valueOf_60 : decode cX3_valueOf 60 = .ok (.lreturn, 1) := by decide +kernel
theorem dX3_valueOf_61 : decode cX3_valueOf 61 = .ok (.aload_n 0, 1) := by decide +kernel
theorem dX3_valueOf_62 : decode cX3_valueOf 62 = .ok (.aload_n 0, 1) := by decide +kernel
theorem dX3_valueOf_63 : decode cX3_valueOf 63 = .ok (.getfield 15, 3) := by decide +kernel
theorem dX3_valueOf_66 : decode cX3_valueOf 66 = .ok (.iload_n 1, 1) := by decide +kernel
theorem dX3_valueOf_67 : decode cX3_valueOf 67 = .ok (.iaload, 1) := by decide +kernel
theorem dX3_valueOf_68 : decode cX3_valueOf 68 = .ok (.iconst 2, 1) := by decide +kernel
theorem dX3_valueOf_69 : decode cX3_valueOf 69 = .ok (.iadd, 1) := by decide +kernel
theorem dX3_valueOf_70 : decode cX3_valueOf 70 = .ok (.aload_n 0, 1) := by decide +kernel
theorem dX3_valueOf_71 : decode cX3_valueOf 71 = .ok (.getfield 24, 3) := by decide +kernel
theorem dX3_valueOf_74 : decode cX3_valueOf 74 = .ok (.iload_n 1, 1) := by decide +kernel
theorem dX3_valueOf_75 : decode cX3_valueOf 75 = .ok (.iaload, 1) := by decide +kernel
theorem dX3_valueOf_76 : decode cX3_valueOf 76 = .ok (.iconst 3, 1) := by decide +kernel
theorem dX3_valueOf_77 : decode cX3_valueOf 77 = .ok (.isub, 1) := by decide +kernel
theorem dX3_valueOf_78 : decode cX3_valueOf 78 = .ok (.invokevirtual 117, 3) := by decide +kernel
theorem dX3_valueOf_81 : decode cX3_valueOf 81 = .ok (.lreturn, 1) := by decide +kernel
theorem dX3_numberAt_0 : decode cX3_numberAt 0 = .ok (.lconst 0, 1) := by decide +kernel
theorem dX3_numberAt_1 : decode cX3_numberAt 1 = .ok (.lstore_n 3, 1) := by decide +kernel
theorem dX3_numberAt_2 : decode cX3_numberAt 2 = .ok (.iconst 0, 1) := by decide +kernel
theorem dX3_numberAt_3 : decode cX3_numberAt 3 = .ok (.istore 5, 2) := by decide +kernel
theorem dX3_numberAt_5 : decode cX3_numberAt 5 = .ok (.iload 5, 2) := by decide +kernel
theorem dX3_numberAt_7 : decode cX3_numberAt 7 = .ok (.iload_n 2, 1) := by decide +kernel
theorem dX3_numberAt_8 : decode cX3_numberAt 8 = .ok (.if_icmp .ge 25, 3) := by decide +kernel
theorem dX3_numberAt_11 : decode cX3_numberAt 11 = .ok (.lload_n 3, 1) := by decide +kernel
theorem dX3_numberAt_12 : decode cX3_numberAt 12 = .ok (.ldc2_w 124, 3) := by decide +kernel
theorem dX3_numberAt_15 : decode cX3_numberAt 15 = .ok (.lmul, 1) := by decide +kernel
theorem dX3_numberAt_16 : decode cX3_numberAt 16 = .ok (.aload_n 0, 1) := by decide +kernel
theorem dX3_numberAt_17 : decode cX3_numberAt 17 = .ok (.iload_n 1, 1) := by decide +kernel
theorem dX3_numberAt_18 : decode cX3_numberAt 18 = .ok (.iload 5, 2) := by decide +kernel
theorem dX3_numberAt_20 : decode cX3_numberAt 20 = .ok (.iadd, 1) := by decide +kernel
theorem dX3_numberAt_21 : decode cX3_numberAt 21 = .ok (.invokevirtual 63, 3) := by decide +kernel
theorem dX3_numberAt_24 : decode cX3_numberAt 24 = .ok (.i2l, 1) := by decide +kernel
theorem dX3_numberAt_25 : decode cX3_numberAt 25 = .ok (.ladd, 1) := by decide +kernel
theorem dX3_numberAt_26 : decode cX3_numberAt 26 = .ok (.lstore_n 3, 1) := by decide +kernel
theorem dX3_numberAt_27 : decode cX3_numberAt 27 = .ok (.iinc 5 1, 3) := by decide +kernel
theorem dX3_numberAt_30 : decode cX3_numberAt 30 = .ok (.goto (-25), 3) := by decide +kernel
theorem dX3_numberAt_33 : decode cX3_numberAt 33 = .ok (.lload_n 3, 1) := by decide +kernel
theorem dX3_numberAt_34 : decode cX3_numberAt 34 = .ok (.lreturn, 1) := by decide +kernel
theorem dX3_clearedBits_0 : decode cX3_clearedBits 0 = .ok (.iconst 0, 1) := by decide +kernel
theorem dX3_clearedBits_1 : decode cX3_clearedBits 1 = .ok (.istore_n 2, 1) := by decide +kernel
theorem dX3_clearedBits_2 : decode cX3_clearedBits 2 = .ok (.iconst 0, 1) := by decide +kernel
theorem dX3_clearedBits_3 : decode cX3_clearedBits 3 = .ok (.istore_n 3, 1) := by decide +kernel
theorem dX3_clearedBits_4 : decode cX3_clearedBits 4 = .ok (.iload_n 3, 1) := by decide +kernel
theorem dX3_clearedBits_5 : decode cX3_clearedBits 5 = .ok (.bipush 8, 2) := by decide +kernel
theorem dX3_clearedBits_7 : decode cX3_clearedBits 7 = .ok (.if_icmp .ge 25, 3) := by decide +kernel
theorem dX3_clearedBits_10 : decode cX3_clearedBits 10 = .ok (.iload_n 2, 1) := by decide +kernel
theorem dX3_clearedBits_11 : decode cX3_clearedBits 11 = .ok (.bipush 8, 2) := by decide +kernel
theorem dX3_clearedBits_13 : decode cX3_clearedBits 13 = .ok (.aload_n 0, 1) := by decide +kernel
theorem dX3_clearedBits_14 : decode cX3_clearedBits 14 = .ok (.iload_n 1, 1) := by decide +kernel
theorem dX3_clearedBits_15 : decode cX3_clearedBits 15 = .ok (.iload_n 3, 1) := by decide +kernel
theorem dX3_clearedBits_16 : decode cX3_clearedBits 16 = .ok (.iadd, 1) := by decide +kernel
theorem dX3_clearedBits_17 : decode cX3_clearedBits 17 = .ok (.invokevirtual 63, 3) := by decide +kernel
theorem dX3_clearedBits_20 : decode cX3_clearedBits 20 = .ok (.invokestatic 126, 3) := by decide +kernel
theorem dX3_clearedBits_23 : decode cX3_clearedBits 23 = .ok (.isub, 1) := by decide +kernel
theorem dX3_clearedBits_24 : decode cX3_clearedBits 24 = .ok (.iadd, 1) := by decide +kernel
theorem dX3_clearedBits_25 : decode cX3_clearedBits 25 = .ok (.istore_n 2, 1) := by decide +kernel
theorem dX3_clearedBits_26 : decode cX3_clearedBits 26 = .ok (.iinc 3 1, 3) := by decide +kernel
theorem dX3_clearedBits_29 : decode cX3_clearedBits 29 = .ok (.goto (-25), 3) := by decide +kernel
theorem dX3_clearedBits_32 : decode cX3_clearedBits 32 = .ok (.iload_n 2, 1) := by decide +kernel
theorem dX3_clearedBits_33 : decode cX3_clearedBits 33 = .ok (.ireturn, 1) := by decide +kernel
theorem dX3_unspentPlace_0 : decode cX3_unspentPlace 0 = .ok (.aload_n 0, 1) := by decide +kernel
theorem dX3_unspentPlace_1 : decode cX3_unspentPlace 1 = .ok (.iload_n 1, 1) := by decide +kernel
theorem dX3_unspentPlace_2 : decode cX3_unspentPlace 2 = .ok (.invokevirtual 108, 3) := by decide +kernel
theorem dX3_unspentPlace_5 : decode cX3_unspentPlace 5 = .ok (.istore_n 2, 1) := by decide +kernel
theorem dX3_unspentPlace_6 : decode cX3_unspentPlace 6 = .ok (.aload_n 0, 1) := by decide +kernel
theorem dX3_unspentPlace_7 : decode cX3_unspentPlace 7 = .ok (.iload_n 2, 1) := by decide +kernel
theorem dX3_unspentPlace_8 : decode cX3_unspentPlace 8 = .ok (.invokevirtual 88, 3) := by decide +kernel
theorem dX3_unspentPlace_11 : decode cX3_unspentPlace 11 = .ok (.ifCond .eq 13, 3) := by decide +kernel
theorem dX3_unspentPlace_14 : decode cX3_unspentPlace 14 = .ok (.aload_n 0, 1) := by decide +kernel
theorem dX3_unspentPlace_15 : decode cX3_unspentPlace 15 = .ok (.getfield 18, 3) := by decide +kernel
theorem dX3_unspentPlace_18 : decode cX3_unspentPlace 18 = .ok (.iload_n 2, 1) := by decide +kernel
theorem dX3_unspentPlace_19 : decode cX3_unspentPlace 19 = .ok (.iaload, 1) := by decide +kernel
theorem dX3_unspentPlace_20 : decode cX3_unspentPlace 20 = .ok (.iconst 1, 1) := by decide +kernel
theorem dX3_unspentPlace_21 : decode cX3_unspentPlace 21 = .ok (.if_icmp .eq 5, 3) := by decide +kernel
theorem dX3_unspentPlace_24 : decode cX3_unspentPlace 24 = .ok (.iconst (-1), 1) := by decide +kernel
theorem dX3_unspentPlace_25 : decode cX3_unspentPlace 25 = .ok (.ireturn, 1) := by decide +kernel
theorem dX3_unspentPlace_26 : decode cX3_unspentPlace 26 = .ok (.bipush 6, 2) := by decide +kernel
theorem dX3_unspentPlace_28 : decode cX3_unspentPlace 28 = .ok (.istore_n 3, 1) := by decide +kernel
theorem dX3_unspentPlace_29 : decode cX3_unspentPlace 29 = .ok (.iload_n 3, 1) := by decide +kernel
theorem dX3_unspentPlace_30 : decode cX3_unspentPlace 30 = .ok (.bipush 14, 2) := by decide +kernel
theorem dX3_unspentPlace_32 : decode cX3_unspentPlace 32 = .ok (.if_icmp .ge 33, 3) := by decide +kernel
theorem dX3_unspentPlace_35 : decode cX3_unspentPlace 35 = .ok (.aload_n 0, 1) := by decide +kernel
theorem dX3_unspentPlace_36 : decode cX3_unspentPlace 36 = .ok (.aload_n 0, 1) := by decide +kernel
theorem dX3_unspentPlace_37 : decode cX3_unspentPlace 37 = .ok (.getfield 15, 3) := by decide +kernel
theorem dX3_unspentPlace_40 : decode cX3_unspentPlace 40 = .ok (.iload_n 2, 1) := by decide +kernel
theorem dX3_unspentPlace_41 : decode cX3_unspentPlace 41 = .ok (.iaload, 1) := by decide +kernel
theorem dX3_unspentPlace_42 : decode cX3_unspentPlace 42 = .ok (.iload_n 3, 1) := by decide +kernel
theorem dX3_unspentPlace_43 : decode cX3_unspentPlace 43 = .ok (.iadd, 1) := by decide +kernel
theorem dX3_unspentPlace_44 : decode cX3_unspentPlace 44 = .ok (.invokevirtual 63, 3) := by decide +kernel
theorem dX3_unspentPlace_47 : decode cX3_unspentPlace 47 = .ok (.ifCond .eq 12, 3) := by decide +kernel
theorem dX3_unspentPlace_50 : decode cX3_unspentPlace 50 = .ok (.aload_n 0, 1) := by decide +kernel
theorem dX3_unspentPlace_51 : decode cX3_unspentPlace 51 = .ok (.getfield 15, 3) := by decide +kernel
theorem dX3_unspentPlace_54 : decode cX3_unspentPlace 54 = .ok (.iload_n 2, 1) := by decide +kernel
theorem dX3_unspentPlace_55 : decode cX3_unspentPlace 55 = .ok (.iaload, 1) := by decide +kernel
theorem dX3_unspentPlace_56 : decode cX3_unspentPlace 56 = .ok (.iload_n 3, 1) := by decide +kernel
theorem dX3_unspentPlace_57 : decode cX3_unspentPlace 57 = .ok (.iadd, 1) := by decide +kernel
theorem dX3_unspentPlace_58 : decode cX3_unspentPlace 58 = .ok (.ireturn, 1) := by decide +kernel
theorem dX3_unspentPlace_59 : decode cX3_unspentPlace 59 = .ok (.iinc 3 1, 3) := by decide +kernel
theorem dX3_unspentPlace_62 : decode cX3_unspentPlace 62 = .ok (.goto (-33), 3) := by decide +kernel
theorem dX3_unspentPlace_65 : decode cX3_unspentPlace 65 = .ok (.iconst (-1), 1) := by decide +kernel
theorem dX3_unspentPlace_66 : decode cX3_unspentPlace 66 = .ok (.ireturn, 1) := by decide +kernel
theorem dX3_tells_0 : decode cX3_tells 0 = .ok (.aload_n 0, 1) := by decide +kernel
theorem dX3_tells_1 : decode cX3_tells 1 = .ok (.iload_n 1, 1) := by decide +kernel
theorem dX3_tells_2 : decode cX3_tells 2 = .ok (.invokevirtual 88, 3) := by decide +kernel
theorem dX3_tells_5 : decode cX3_tells 5 = .ok (.ifCond .eq 36, 3) := by decide +kernel
theorem dX3_tells_8 : decode cX3_tells 8 = .ok (.aload_n 0, 1) := by decide +kernel
theorem dX3_tells_9 : decode cX3_tells 9 = .ok (.getfield 21, 3) := by decide +kernel
theorem dX3_tells_12 : decode cX3_tells 12 = .ok (.iload_n 1, 1) := by decide +kernel
theorem dX3_tells_13 : decode cX3_tells 13 = .ok (.iaload, 1) := by decide +kernel
theorem dX3_tells_14 : decode cX3_tells 14 = .ok (.iload_n 2, 1) := by decide +kernel
theorem dX3_tells_15 : decode cX3_tells 15 = .ok (.if_icmp .ne 26, 3) := by decide +kernel
theorem dX3_tells_18 : decode cX3_tells 18 = .ok (.aload_n 0, 1) := by decide +kernel
theorem dX3_tells_19 : decode cX3_tells 19 = .ok (.getfield 27, 3) := by decide +kernel
theorem dX3_tells_22 : decode cX3_tells 22 = .ok (.iload_n 1, 1) := by decide +kernel
theorem dX3_tells_23 : decode cX3_tells 23 = .ok (.iaload, 1) := by decide +kernel
theorem dX3_tells_24 : decode cX3_tells 24 = .ok (.ifCond .eq 13, 3) := by decide +kernel
theorem dX3_tells_27 : decode cX3_tells 27 = .ok (.aload_n 0, 1) := by decide +kernel
theorem dX3_tells_28 : decode cX3_tells 28 = .ok (.getfield 27, 3) := by decide +kernel
theorem dX3_tells_31 : decode cX3_tells 31 = .ok (.iload_n 1, 1) := by decide +kernel
theorem dX3_tells_32 : decode cX3_tells 32 = .ok (.iaload, 1) := by decide +kernel
theorem dX3_tells_33 : decode cX3_tells 33 = .ok (.iconst 1, 1) := by decide +kernel
theorem dX3_tells_34 : decode cX3_tells 34 = .ok (.if_icmp .ne 7, 3) := by decide +kernel
theorem dX3_tells_37 : decode cX3_tells 37 = .ok (.iconst 1, 1) := by decide +kernel
theorem dX3_tells_38 : decode cX3_tells 38 = .ok (.goto 4, 3) := by decide +kernel
theorem dX3_tells_41 : decode cX3_tells 41 = .ok (.iconst 0, 1) := by decide +kernel
theorem dX3_tells_42 : decode cX3_tells 42 = .ok (.ireturn, 1) := by decide +kernel
theorem dX3_tellingOf_0 : decode cX3_tellingOf 0 = .ok (.iconst 0, 1) := by decide +kernel
theorem dX3_tellingOf_1 : decode cX3_tellingOf 1 = .ok (.istore_n 2, 1) := by decide +kernel
theorem dX3_tellingOf_2 : decode cX3_tellingOf 2 = .ok (.iconst 0, 1) := by decide +kernel
theorem dX3_tellingOf_3 : decode cX3_tellingOf 3 = .ok (.istore_n 3, 1) := by decide +kernel
theorem dX3_tellingOf_4 : decode cX3_tellingOf 4 = .ok (.iload_n 3, 1) := by decide +kernel
theorem dX3_tellingOf_5 : decode cX3_tellingOf 5 = .ok (.aload_n 0, 1) := by decide +kernel
theorem dX3_tellingOf_6 : decode cX3_tellingOf 6 = .ok (.getfield 44, 3) := by decide +kernel
theorem dX3_tellingOf_9 : decode cX3_tellingOf 9 = .ok (.if_icmp .ge 26, 3) := by decide +kernel
theorem dX3_tellingOf_12 : decode cX3_tellingOf 12 = .ok (.iload_n 2, 1) := by decide +kernel
theorem dX3_tellingOf_13 : decode cX3_tellingOf 13 = .ok (.aload_n 0, 1) := by decide +kernel
theorem dX3_tellingOf_14 : decode cX3_tellingOf 14 = .ok (.iload_n 3, 1) := by decide +kernel
theorem dX3_tellingOf_15 : decode cX3_tellingOf 15 = .ok (.iload_n 1, 1) := by decide +kernel
theorem dX3_tellingOf_16 : decode cX3_tellingOf 16 = .ok (.invokevirtual 131, 3) := by decide +kernel
theorem dX3_tellingOf_19 : decode cX3_tellingOf 19 = .ok (.ifCond .eq 7, 3) := by decide +kernel
theorem dX3_tellingOf_22 : decode cX3_tellingOf 22 = .ok (.iconst 1, 1) := by decide +kernel
theorem dX3_tellingOf_23 : decode cX3_tellingOf 23 = .ok (.goto 4, 3) := by decide +kernel
theorem dX3_tellingOf_26 : decode cX3_tellingOf 26 = .ok (.iconst 0, 1) := by decide +kernel
theorem dX3_tellingOf_27 : decode cX3_tellingOf 27 = .ok (.iadd, 1) := by decide +kernel
theorem dX3_tellingOf_28 : decode cX3_tellingOf 28 = .ok (.istore_n 2, 1) := by decide +kernel
theorem dX3_tellingOf_29 : decode cX3_tellingOf 29 = .ok (.iinc 3 1, 3) := by decide +kernel
theorem dX3_tellingOf_32 : decode cX3_tellingOf 32 = .ok (.goto (-28), 3) := by decide +kernel
theorem dX3_tellingOf_35 : decode cX3_tellingOf 35 = .ok (.iload_n 2, 1) := by decide +kernel
theorem dX3_tellingOf_36 : decode cX3_tellingOf 36 = .ok (.ireturn, 1) := by decide +kernel
theorem dX3_earlierValue_0 : decode cX3_earlierValue 0 = .ok (.iconst 0, 1) := by decide +kernel
theorem dX3_earlierValue_1 : decode cX3_earlierValue 1 = .ok (.istore_n 3, 1) := by decide +kernel
theorem dX3_earlierValue_2 : decode cX3_earlierValue 2 = .ok (.aload_n 0, 1) := by decide +kernel
theorem dX3_earlierValue_3 : decode cX3_earlierValue 3 = .ok (.getfield 44, 3) := by decide +kernel
theorem dX3_earlierValue_6 : decode cX3_earlierValue 6 = .ok (.iconst 1, 1) := by decide +kernel
theorem dX3_earlierValue_7 : decode cX3_earlierValue 7 = .ok (.isub, 1) := by decide +kernel
theorem dX3_earlierValue_8 : decode cX3_earlierValue 8 = .ok (.istore 4, 2) := by decide +kernel
theorem dX3_earlierValue_10 : decode cX3_earlierValue 10 = .ok (.iload 4, 2) := by decide +kernel
theorem dX3_earlierValue_12 : decode cX3_earlierValue 12 = .ok (.ifCond .lt 37, 3) := by decide +kernel
theorem dX3_earlierValue_15 : decode cX3_earlierValue 15 = .ok (.aload_n 0, 1) := by decide +kernel
theorem dX3_earlierValue_16 : decode cX3_earlierValue 16 = .ok (.iload 4, 2) := by decide +kernel
theorem dX3_earlierValue_18 : decode cX3_earlierValue 18 = .ok (.iload_n 1, 1) := by decide +kernel
theorem dX3_earlierValue_19 : decode cX3_earlierValue 19 = .ok (.invokevirtual 131, 3) := by decide +kernel
theorem dX3_earlierValue_22 : decode cX3_earlierValue 22 = .ok (.ifCond .ne 6, 3) := by decide +kernel
theorem dX3_earlierValue_25 : decode cX3_earlierValue 25 = .ok (.goto 18, 3) := by decide +kernel
theorem dX3_earlierValue_28 : decode cX3_earlierValue 28 = .ok (.iload_n 3, 1) := by decide +kernel
theorem dX3_earlierValue_29 : decode cX3_earlierValue 29 = .ok (.iload_n 2, 1) := by decide +kernel
theorem dX3_earlierValue_30 : decode cX3_earlierValue 30 = .ok (.if_icmp .ne 10, 3) := by decide +kernel
theorem dX3_earlierValue_33 : decode cX3_earlierValue 33 = .ok (.aload_n 0, 1) := by decide +kernel
theorem dX3_earlierValue_34 : decode cX3_earlierValue 34 = .ok (.iload 4, 2) := by decide +kernel
theorem dX3_earlierValue_36 : decode cX3_earlierValue 36 = .ok (.invokevirtual 111, 3) := by decide +kernel
theorem dX3_earlierValue_39 : decode cX3_earlierValue 39 = .ok (.lreturn, 1) := by decide +kernel
theorem dX3_earlierValue_40 : decode cX3_earlierValue 40 = .ok (.iinc 3 1, 3) := by decide +kernel
theorem dX3_earlierValue_43 : decode cX3_earlierValue 43 = .ok (.iinc 4 (-1), 3) := by decide +kernel
theorem dX3_earlierValue_46 : decode cX3_earlierValue 46 = .ok (.goto (-36), 3) := by decide +kernel
theorem dX3_earlierValue_49 : decode cX3_earlierValue 49 = .ok (.ldc2_w 135, 3) := by decide +kernel
theorem dX3_earlierValue_52 : decode cX3_earlierValue 52 = .ok (.lreturn, 1) := by decide +kernel
theorem dX3_allBytes_0 : decode cX3_allBytes 0 = .ok (.iconst 0, 1) := by decide +kernel
theorem dX3_allBytes_1 : decode cX3_allBytes 1 = .ok (.istore_n 1, 1) := by decide +kernel
theorem dX3_allBytes_2 : decode cX3_allBytes 2 = .ok (.iconst 0, 1) := by decide +kernel
theorem dX3_allBytes_3 : decode cX3_allBytes 3 = .ok (.istore_n 2, 1) := by decide +kernel
theorem dX3_allBytes_4 : decode cX3_allBytes 4 = .ok (.iload_n 2, 1) := by decide +kernel
theorem dX3_allBytes_5 : decode cX3_allBytes 5 = .ok (.aload_n 0, 1) := by decide +kernel
theorem dX3_allBytes_6 : decode cX3_allBytes 6 = .ok (.getfield 44, 3) := by decide +kernel
theorem dX3_allBytes_9 : decode cX3_allBytes 9 = .ok (.if_icmp .ge 18, 3) := by decide +kernel
theorem dX3_allBytes_12 : decode cX3_allBytes 12 = .ok (.iload_n 1, 1) := by decide +kernel
theorem dX3_allBytes_13 : decode cX3_allBytes 13 = .ok (.aload_n 0, 1) := by decide +kernel
theorem dX3_allBytes_14 : decode cX3_allBytes 14 = .ok (.getfield 24, 3) := by decide +kernel
theorem dX3_allBytes_17 : decode cX3_allBytes 17 = .ok (.iload_n 2, 1) := by decide +kernel
theorem dX3_allBytes_18 : decode cX3_allBytes 18 = .ok (.iaload, 1) := by decide +kernel
theorem dX3_allBytes_19 : decode cX3_allBytes 19 = .ok (.iadd, 1) := by decide +kernel
theorem dX3_allBytes_20 : decode cX3_allBytes 20 = .ok (.istore_n 1, 1) := by decide +kernel
theorem dX3_allBytes_21 : decode cX3_allBytes 21 = .ok (.iinc 2 1, 3) := by decide +kernel
theorem dX3_allBytes_24 : decode cX3_allBytes 24 = .ok (.goto (-20), 3) := by decide +kernel
theorem dX3_allBytes_27 : decode cX3_allBytes 27 = .ok (.iload_n 1, 1) := by decide +kernel
theorem dX3_allBytes_28 : decode cX3_allBytes 28 = .ok (.ireturn, 1) := by decide +kernel
theorem dX3_valuedBytes_0 : decode cX3_valuedBytes 0 = .ok (.iconst 0, 1) := by decide +kernel
theorem dX3_valuedBytes_1 : decode cX3_valuedBytes 1 = .ok (.istore_n 1, 1) := by decide +kernel
theorem dX3_valuedBytes_2 : decode cX3_valuedBytes 2 = .ok (.iconst 0, 1) := by decide +kernel
theorem dX3_valuedBytes_3 : decode cX3_valuedBytes 3 = .ok (.istore_n 2, 1) := by decide +kernel
theorem dX3_valuedBytes_4 : decode cX3_valuedBytes 4 = .ok (.iload_n 2, 1) := by decide +kernel
theorem dX3_valuedBytes_5 : decode cX3_valuedBytes 5 = .ok (.bipush 48, 2) := by decide +kernel
theorem dX3_valuedBytes_7 : decode cX3_valuedBytes 7 = .ok (.if_icmp .ge 17, 3) := by decide +kernel
theorem dX3_valuedBytes_10 : decode cX3_valuedBytes 10 = .ok (.iload_n 1, 1) := by decide +kernel
theorem dX3_valuedBytes_11 : decode cX3_valuedBytes 11 = .ok (.aload_n 0, 1) := by decide +kernel
theorem dX3_valuedBytes_12 : decode cX3_valuedBytes 12 = .ok (.iload_n 2, 1) := by decide +kernel
theorem dX3_valuedBytes_13 : decode cX3_valuedBytes 13 = .ok (.invokevirtual 105, 3) := by decide +kernel
theorem dX3_valuedBytes_16 : decode cX3_valuedBytes 16 = .ok (.iadd, 1) := by decide +kernel
theorem dX3_valuedBytes_17 : decode cX3_valuedBytes 17 = .ok (.istore_n 1, 1) := by decide +kernel
theorem dX3_valuedBytes_18 : decode cX3_valuedBytes 18 = .ok (.iinc 2 1, 3) := by decide +kernel
theorem dX3_valuedBytes_21 : decode cX3_valuedBytes 21 = .ok (.goto (-17), 3) := by decide +kernel
theorem dX3_valuedBytes_24 : decode cX3_valuedBytes 24 = .ok (.iload_n 1, 1) := by decide +kernel
theorem dX3_valuedBytes_25 : decode cX3_valuedBytes 25 = .ok (.ireturn, 1) := by decide +kernel
theorem dX3_copyWrites_0 : decode cX3_copyWrites 0 = .ok (.iconst 0, 1) := by decide +kernel
theorem dX3_copyWrites_1 : decode cX3_copyWrites 1 = .ok (.istore_n 1, 1) := by decide +kernel
theorem dX3_copyWrites_2 : decode cX3_copyWrites 2 = .ok (.iconst 0, 1) := by decide +kernel
theorem dX3_copyWrites_3 : decode cX3_copyWrites 3 = .ok (.istore_n 2, 1) := by decide +kernel
theorem dX3_copyWrites_4 : decode cX3_copyWrites 4 = .ok (.iload_n 2, 1) := by decide +kernel
theorem dX3_copyWrites_5 : decode cX3_copyWrites 5 = .ok (.bipush 48, 2) := by decide +kernel
theorem dX3_copyWrites_7 : decode cX3_copyWrites 7 = .ok (.if_icmp .ge 36, 3) := by decide +kernel
theorem dX3_copyWrites_10 : decode cX3_copyWrites 10 = .ok (.aload_n 0, 1) := by decide +kernel
theorem dX3_copyWrites_11 : decode cX3_copyWrites 11 = .ok (.iload_n 2, 1) := by decide +kernel
theorem dX3_copyWrites_12 : decode cX3_copyWrites 12 = .ok (.invokevirtual 137, 3) := by decide +kernel
theorem dX3_copyWrites_15 : decode cX3_copyWrites 15 = .ok (.ifCond .eq 22, 3) := by decide +kernel
theorem dX3_copyWrites_18 : decode cX3_copyWrites 18 = .ok (.iload_n 1, 1) := by decide +kernel
theorem dX3_copyWrites_19 : decode cX3_copyWrites 19 = .ok (.iload_n 2, 1) := by decide +kernel
theorem dX3_copyWrites_20 : decode cX3_copyWrites 20 = .ok (.bipush 32, 2) := by decide +kernel
theorem dX3_copyWrites_22 : decode cX3_copyWrites 22 = .ok (.if_icmp .ge 11, 3) := by decide +kernel
theorem dX3_copyWrites_25 : decode cX3_copyWrites 25 = .ok (.aload_n 0, 1) := by decide +kernel
theorem dX3_copyWrites_26 : decode cX3_copyWrites 26 = .ok (.iload_n 2, 1) := by decide +kernel
theorem dX3_copyWrites_27 : decode cX3_copyWrites 27 = .ok (.invokevirtual 105, 3) := by decide +kernel
theorem dX3_copyWrites_30 : decode cX3_copyWrites 30 = .ok (.goto 5, 3) := by decide +kernel
theorem dX3_copyWrites_33 : decode cX3_copyWrites 33 = .ok (.bipush 6, 2) := by decide +kernel
theorem dX3_copyWrites_35 : decode cX3_copyWrites 35 = .ok (.iadd, 1) := by decide +kernel
theorem dX3_copyWrites_36 : decode cX3_copyWrites 36 = .ok (.istore_n 1, 1) := by decide +kernel
theorem dX3_copyWrites_37 : decode cX3_copyWrites 37 = .ok (.iinc 2 1, 3) := by decide +kernel
theorem dX3_copyWrites_40 : decode cX3_copyWrites 40 = .ok (.goto (-36), 3) := by decide +kernel
theorem dX3_copyWrites_43 : decode cX3_copyWrites 43 = .ok (.iload_n 1, 1) := by decide +kernel
theorem dX3_copyWrites_44 : decode cX3_copyWrites 44 = .ok (.ireturn, 1) := by decide +kernel
theorem dX3_valuedTags_0 : decode cX3_valuedTags 0 = .ok (.lconst 0, 1) := by decide +kernel
theorem dX3_valuedTags_1 : decode cX3_valuedTags 1 = .ok (.lstore_n 1, 1) := by decide +kernel
theorem dX3_valuedTags_2 : decode cX3_valuedTags 2 = .ok (.iconst 0, 1) := by decide +kernel
theorem dX3_valuedTags_3 : decode cX3_valuedTags 3 = .ok (.istore_n 3, 1) := by decide +kernel
theorem dX3_valuedTags_4 : decode cX3_valuedTags 4 = .ok (.iload_n 3, 1) := by decide +kernel
theorem dX3_valuedTags_5 : decode cX3_valuedTags 5 = .ok (.bipush 48, 2) := by decide +kernel
theorem dX3_valuedTags_7 : decode cX3_valuedTags 7 = .ok (.if_icmp .ge 27, 3) := by decide +kernel
theorem dX3_valuedTags_10 : decode cX3_valuedTags 10 = .ok (.lload_n 1, 1) := by decide +kernel
theorem dX3_valuedTags_11 : decode cX3_valuedTags 11 = .ok (.aload_n 0, 1) := by decide +kernel
theorem dX3_valuedTags_12 : decode cX3_valuedTags 12 = .ok (.iload_n 3, 1) := by decide +kernel
theorem dX3_valuedTags_13 : decode cX3_valuedTags 13 = .ok (.invokevirtual 137, 3) := by decide +kernel
theorem dX3_valuedTags_16 : decode cX3_valuedTags 16 = .ok (.ifCond .eq 9, 3) := by decide +kernel
theorem dX3_valuedTags_19 : decode cX3_valuedTags 19 = .ok (.lconst 1, 1) := by decide +kernel
theorem dX3_valuedTags_20 : decode cX3_valuedTags 20 = .ok (.iload_n 3, 1) := by decide +kernel
theorem dX3_valuedTags_21 : decode cX3_valuedTags 21 = .ok (.lshl, 1) := by decide +kernel
theorem dX3_valuedTags_22 : decode cX3_valuedTags 22 = .ok (.goto 4, 3) := by decide +kernel
theorem dX3_valuedTags_25 : decode cX3_valuedTags 25 = .ok (.lconst 0, 1) := by decide +kernel
theorem dX3_valuedTags_26 : decode cX3_valuedTags 26 = .ok (.lor, 1) := by decide +kernel
theorem dX3_valuedTags_27 : decode cX3_valuedTags 27 = .ok (.lstore_n 1, 1) := by decide +kernel
theorem dX3_valuedTags_28 : decode cX3_valuedTags 28 = .ok (.iinc 3 1, 3) := by decide +kernel
theorem dX3_valuedTags_31 : decode cX3_valuedTags 31 = .ok (.goto (-27), 3) := by decide +kernel
theorem dX3_valuedTags_34 : decode cX3_valuedTags 34 = .ok (.lload_n 1, 1) := by decide +kernel
theorem dX3_valuedTags_35 : decode cX3_valuedTags 35 = .ok (.lreturn, 1) := by decide +kernel
