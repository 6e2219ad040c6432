theorem dX6_torn_39 : decode cX6_torn 39 = .ok (.iconst 0, 1) := by decide +kernel
theorem dX6_torn_40 : decode cX6_torn 40 = .ok (.iconst 3, 1) := by decide +kernel
theorem dX6_torn_41 : decode cX6_torn 41 = .ok (.invokestatic 39, 3) := by decide +kernel
theorem dX6_torn_44 : decode cX6_torn 44 = .ok (.ifCond .ne 7, 3) := by decide +kernel
theorem dX6_torn_47 : decode cX6_torn 47 = .ok (.ldc2_w 222, 3) := by decide +kernel
theorem dX6_torn_50 : decode cX6_torn 50 = .ok (.lreturn, 1) := by decide +kernel
theorem dX6_torn_51 : decode cX6_torn 51 = .ok (.iload 4, 2) := by decide +kernel
theorem dX6_torn_53 : decode cX6_torn 53 = .ok (.iconst 1, 1) := by decide +kernel
theorem dX6_torn_54 : decode cX6_torn 54 = .ok (.if_icmp .lt 13, 3) := by decide +kernel
theorem dX6_torn_57 : decode cX6_torn 57 = .ok (.iload 4, 2) := by decide +kernel
theorem dX6_torn_59 : decode cX6_torn 59 = .ok (.aload_n 0, 1) := by decide +kernel
theorem dX6_torn_60 : decode cX6_torn 60 = .ok (.iload_n 3, 1) := by decide +kernel
theorem dX6_torn_61 : decode cX6_torn 61 = .ok (.invokevirtual 230, 3) := by decide +kernel
theorem dX6_torn_64 : decode cX6_torn 64 = .ok (.if_icmp .le 7, 3) := by decide +kernel
theorem dX6_torn_67 : decode cX6_torn 67 = .ok (.ldc2_w 222, 3) := by decide +kernel
theorem dX6_torn_70 : decode cX6_torn 70 = .ok (.lreturn, 1) := by decide +kernel
theorem dX6_torn_71 : decode cX6_torn 71 = .ok (.aload_n 0, 1) := by decide +kernel
theorem dX6_torn_72 : decode cX6_torn 72 = .ok (.invokevirtual 224, 3) := by decide +kernel
theorem dX6_torn_75 : decode cX6_torn 75 = .ok (.aload_n 0, 1) := by decide +kernel
theorem dX6_torn_76 : decode cX6_torn 76 = .ok (.getfield 7, 3) := by decide +kernel
theorem dX6_torn_79 : decode cX6_torn 79 = .ok (.iconst 4, 1) := by decide +kernel
theorem dX6_torn_80 : decode cX6_torn 80 = .ok (.iload 4, 2) := by decide +kernel
theorem dX6_torn_82 : decode cX6_torn 82 = .ok (.iastore, 1) := by decide +kernel
theorem dX6_torn_83 : decode cX6_torn 83 = .ok (.aload_n 0, 1) := by decide +kernel
theorem dX6_torn_84 : decode cX6_torn 84 = .ok (.getfield 7, 3) := by decide +kernel
theorem dX6_torn_87 : decode cX6_torn 87 = .ok (.iconst 5, 1) := by decide +kernel
theorem dX6_torn_88 : decode cX6_torn 88 = .ok (.iload 5, 2) := by decide +kernel
theorem dX6_torn_90 : decode cX6_torn 90 = .ok (.iastore, 1) := by decide +kernel
theorem dX6_torn_91 : decode cX6_torn 91 = .ok (.aload_n 0, 1) := by decide +kernel
theorem dX6_torn_92 : decode cX6_torn 92 = .ok (.iload_n 1, 1) := by decide +kernel
theorem dX6_torn_93 : decode cX6_torn 93 = .ok (.iload_n 2, 1) := by decide +kernel
theorem dX6_torn_94 : decode cX6_torn 94 = .ok (.iload_n 3, 1) := by decide +kernel
theorem dX6_torn_95 : decode cX6_torn 95 = .ok (.invokevirtual 205, 3) := by decide +kernel
theorem dX6_torn_98 : decode cX6_torn 98 = .ok (.istore 7, 2) := by decide +kernel
theorem dX6_torn_100 : decode cX6_torn 100 = .ok (.aload_n 0, 1) := by decide +kernel
theorem dX6_torn_101 : decode cX6_torn 101 = .ok (.invokevirtual 135, 3) := by decide +kernel
theorem dX6_torn_104 : decode cX6_torn 104 = .ok (.aload_n 0, 1) := by decide +kernel
theorem dX6_torn_105 : decode cX6_torn 105 = .ok (.invokevirtual 138, 3) := by decide +kernel
theorem dX6_torn_108 : decode cX6_torn 108 = .ok (.aload_n 0, 1) := by decide +kernel
theorem dX6_torn_109 : decode cX6_torn 109 = .ok (.getfield 7, 3) := by decide +kernel
theorem dX6_torn_112 : decode cX6_torn 112 = .ok (.bipush 8, 2) := by decide +kernel
theorem dX6_torn_114 : decode cX6_torn 114 = .ok (.iaload, 1) := by decide +kernel
theorem dX6_torn_115 : decode cX6_torn 115 = .ok (.istore 8, 2) := by decide +kernel
theorem dX6_torn_117 : decode cX6_torn 117 = .ok (.iload 6, 2) := by decide +kernel
theorem dX6_torn_119 : decode cX6_torn 119 = .ok (.ifCond .ne 11, 3) := by decide +kernel
theorem dX6_torn_122 : decode cX6_torn 122 = .ok (.aload_n 0, 1) := by decide +kernel
theorem dX6_torn_123 : decode cX6_torn 123 = .ok (.iload_n 1, 1) := by decide +kernel
theorem dX6_torn_124 : decode cX6_torn 124 = .ok (.invokevirtual 218, 3) := by decide +kernel
theorem dX6_torn_127 : decode cX6_torn 127 = .ok (.goto 20, 3) := by decide +kernel
theorem dX6_torn_130 : decode cX6_torn 130 = .ok (.iload 6, 2) := by decide +kernel
theorem dX6_torn_132 : decode cX6_torn 132 = .ok (.iconst 1, 1) := by decide +kernel
theorem dX6_torn_133 : decode cX6_torn 133 = .ok (.if_icmp .ne 11, 3) := by decide +kernel
theorem dX6_torn_136 : decode cX6_torn 136 = .ok (.aload_n 0, 1) := by decide +kernel
theorem dX6_torn_137 : decode cX6_torn 137 = .ok (.invokevirtual 181, 3) := by decide +kernel
theorem dX6_torn_140 : decode cX6_torn 140 = .ok (.i2l, 1) := by decide +kernel
theorem dX6_torn_141 : decode cX6_torn 141 = .ok (.goto 6, 3) := by decide +kernel
theorem dX6_torn_144 : decode cX6_torn 144 = .ok (.iload 8, 2) := by decide +kernel
theorem dX6_torn_146 : decode cX6_torn 146 = .ok (.i2l, 1) := by decide +kernel
theorem dX6_torn_147 : decode cX6_torn 147 = .ok (.lstore 9, 2) := by decide +kernel
theorem dX6_torn_149 : decode cX6_torn 149 = .ok (.iload 6, 2) := by decide +kernel
theorem dX6_torn_151 : decode cX6_torn 151 = .ok (.iconst 3, 1) := by decide +kernel
theorem dX6_torn_152 : decode cX6_torn 152 = .ok (.if_icmp .ne 26, 3) := by decide +kernel
theorem dX6_torn_155 : decode cX6_torn 155 = .ok (.aload_n 0, 1) := by decide +kernel
theorem dX6_torn_156 : decode cX6_torn 156 = .ok (.aload_n 0, 1) := by decide +kernel
theorem dX6_torn_157 : decode cX6_torn 157 = .ok (.getfield 7, 3) := by decide +kernel
theorem dX6_torn_160 : decode cX6_torn 160 = .ok (.iconst 3, 1) := by decide +kernel
theorem dX6_torn_161 : decode cX6_torn 161 = .ok (.iaload, 1) := by decide +kernel
theorem dX6_torn_162 : decode cX6_torn 162 = .ok (.invokevirtual 141, 3) := by decide +kernel
theorem dX6_torn_165 : decode cX6_torn 165 = .ok (.aload_n 0, 1) := by decide +kernel
theorem dX6_torn_166 : decode cX6_torn 166 = .ok (.aload_n 0, 1) := by decide +kernel
theorem dX6_torn_167 : decode cX6_torn 167 = .ok (.getfield 7, 3) := by decide +kernel
theorem dX6_torn_170 : decode cX6_torn 170 = .ok (.iconst 3, 1) := by decide +kernel
theorem dX6_torn_171 : decode cX6_torn 171 = .ok (.iaload, 1) := by decide +kernel
theorem dX6_torn_172 : decode cX6_torn 172 = .ok (.invokevirtual 144, 3) := by decide +kernel
theorem dX6_torn_175 : decode cX6_torn 175 = .ok (.i2l, 1) := by decide +kernel
theorem dX6_torn_176 : decode cX6_torn 176 = .ok (.lstore 9, 2) := by decide +kernel
theorem dX6_torn_178 : decode cX6_torn 178 = .ok (.aload_n 0, 1) := by decide +kernel
theorem dX6_torn_179 : decode cX6_torn 179 = .ok (.invokevirtual 227, 3) := by decide +kernel
theorem dX6_torn_182 : decode cX6_torn 182 = .ok (.lload 9, 2) := by decide +kernel
theorem dX6_torn_184 : decode cX6_torn 184 = .ok (.lreturn, 1) := by decide +kernel
theorem dX6_isOf_0 : decode cX6_isOf 0 = .ok (.aload_n 0, 1) := by decide +kernel
theorem dX6_isOf_1 : decode cX6_isOf 1 = .ok (.iload_n 1, 1) := by decide +kernel
theorem dX6_isOf_2 : decode cX6_isOf 2 = .ok (.aload_n 0, 1) := by decide +kernel
theorem dX6_isOf_3 : decode cX6_isOf 3 = .ok (.getfield 16, 3) := by decide +kernel
theorem dX6_isOf_6 : decode cX6_isOf 6 = .ok (.iload_n 2, 1) := by decide +kernel
theorem dX6_isOf_7 : decode cX6_isOf 7 = .ok (.iaload, 1) := by decide +kernel
theorem dX6_isOf_8 : decode cX6_isOf 8 = .ok (.invokevirtual 51, 3) := by decide +kernel
theorem dX6_isOf_11 : decode cX6_isOf 11 = .ok (.iload_n 3, 1) := by decide +kernel
theorem dX6_isOf_12 : decode cX6_isOf 12 = .ok (.if_icmp .ne 27, 3) := by decide +kernel
theorem dX6_isOf_15 : decode cX6_isOf 15 = .ok (.aload_n 0, 1) := by decide +kernel
theorem dX6_isOf_16 : decode cX6_isOf 16 = .ok (.getfield 19, 3) := by decide +kernel
theorem dX6_isOf_19 : decode cX6_isOf 19 = .ok (.iload_n 2, 1) := by decide +kernel
theorem dX6_isOf_20 : decode cX6_isOf 20 = .ok (.iaload, 1) := by decide +kernel
theorem dX6_isOf_21 : decode cX6_isOf 21 = .ok (.iconst 3, 1) := by decide +kernel
theorem dX6_isOf_22 : decode cX6_isOf 22 = .ok (.if_icmp .eq 17, 3) := by decide +kernel
theorem dX6_isOf_25 : decode cX6_isOf 25 = .ok (.aload_n 0, 1) := by decide +kernel
theorem dX6_isOf_26 : decode cX6_isOf 26 = .ok (.getfield 25, 3) := by decide +kernel
theorem dX6_isOf_29 : decode cX6_isOf 29 = .ok (.iload_n 2, 1) := by decide +kernel
theorem dX6_isOf_30 : decode cX6_isOf 30 = .ok (.iaload, 1) := by decide +kernel
theorem dX6_isOf_31 : decode cX6_isOf 31 = .ok (.iconst 2, 1) := by decide +kernel
theorem dX6_isOf_32 : decode cX6_isOf 32 = .ok (.if_icmp .ge 7, 3) := by decide +kernel
theorem dX6_isOf_35 : decode cX6_isOf 35 = .ok (.iconst 1, 1) := by decide +kernel
theorem dX6_isOf_36 : decode cX6_isOf 36 = .ok (.goto 4, 3) := by decide +kernel
theorem dX6_isOf_39 : decode cX6_isOf 39 = .ok (.iconst 0, 1) := by decide +kernel
theorem dX6_isOf_40 : decode cX6_isOf 40 = .ok (.ireturn, 1) := by decide +kernel
theorem dX6_history_0 : decode cX6_history 0 = .ok (.aload_n 0, 1) := by decide +kernel
theorem dX6_history_1 : decode cX6_history 1 = .ok (.iconst 0, 1) := by decide +kernel
theorem dX6_history_2 : decode cX6_history 2 = .ok (.putfield 35, 3) := by decide +kernel
theorem dX6_history_5 : decode cX6_history 5 = .ok (.aload_n 0, 1) := by decide +kernel
theorem dX6_history_6 : decode cX6_history 6 = .ok (.invokevirtual 132, 3) := by decide +kernel
theorem dX6_history_9 : decode cX6_history 9 = .ok (.ifCond .eq 16, 3) := by decide +kernel
theorem dX6_history_12 : decode cX6_history 12 = .ok (.aload_n 0, 1) := by decide +kernel
theorem dX6_history_13 : decode cX6_history 13 = .ok (.iload_n 1, 1) := by decide +kernel
theorem dX6_history_14 : decode cX6_history 14 = .ok (.invokevirtual 215, 3) := by decide +kernel
theorem dX6_history_17 : decode cX6_history 17 = .ok (.ifCond .eq 8, 3) := by decide +kernel
theorem dX6_history_20 : decode cX6_history 20 = .ok (.iload_n 2, 1) := by decide +kernel
theorem dX6_history_21 : decode cX6_history 21 = .ok (.iconst (-1), 1) := by decide +kernel
theorem dX6_history_22 : decode cX6_history 22 = .ok (.if_icmp .ge 7, 3) := by decide +kernel
theorem dX6_history_25 : decode cX6_history 25 = .ok (.ldc2_w 222, 3) := by decide +kernel
theorem dX6_history_28 : decode cX6_history 28 = .ok (.lreturn, 1) := by decide +kernel
theorem dX6_history_29 : decode cX6_history 29 = .ok (.aload_n 0, 1) := by decide +kernel
theorem dX6_history_30 : decode cX6_history 30 = .ok (.getfield 7, 3) := by decide +kernel
theorem dX6_history_33 : decode cX6_history 33 = .ok (.iconst 3, 1) := by decide +kernel
theorem dX6_history_34 : decode cX6_history 34 = .ok (.iaload, 1) := by decide +kernel
theorem dX6_history_35 : decode cX6_history 35 = .ok (.istore_n 3, 1) := by decide +kernel
theorem dX6_history_36 : decode cX6_history 36 = .ok (.aload_n 0, 1) := by decide +kernel
theorem dX6_history_37 : decode cX6_history 37 = .ok (.iload_n 3, 1) := by decide +kernel
theorem dX6_history_38 : decode cX6_history 38 = .ok (.invokevirtual 141, 3) := by decide +kernel
theorem dX6_history_41 : decode cX6_history 41 = .ok (.iconst 0, 1) := by decide +kernel
theorem dX6_history_42 : decode cX6_history 42 = .ok (.istore 4, 2) := by decide +kernel
theorem dX6_history_44 : decode cX6_history 44 = .ok (.aload_n 0, 1) := by decide +kernel
theorem dX6_history_45 : decode cX6_history 45 = .ok (.getfield 55, 3) := by decide +kernel
theorem dX6_history_48 : decode cX6_history 48 = .ok (.iconst 1, 1) := by decide +kernel
theorem dX6_history_49 : decode cX6_history 49 = .ok (.isub, 1) := by decide +kernel
theorem dX6_history_50 : decode cX6_history 50 = .ok (.istore 5, 2) := by decide +kernel
theorem dX6_history_52 : decode cX6_history 52 = .ok (.iload 5, 2) := by decide +kernel
theorem dX6_history_54 : decode cX6_history 54 = .ok (.ifCond .lt 40, 3) := by decide +kernel
theorem dX6_history_57 : decode cX6_history 57 = .ok (.aload_n 0, 1) := by decide +kernel
theorem dX6_history_58 : decode cX6_history 58 = .ok (.iload_n 3, 1) := by decide +kernel
theorem dX6_history_59 : decode cX6_history 59 = .ok (.iload 5, 2) := by decide +kernel
theorem dX6_history_61 : decode cX6_history 61 = .ok (.iload_n 1, 1) := by decide +kernel
theorem dX6_history_62 : decode cX6_history 62 = .ok (.invokevirtual 233, 3) := by decide +kernel
theorem dX6_history_65 : decode cX6_history 65 = .ok (.ifCond .ne 6, 3) := by decide +kernel
theorem dX6_history_68 : decode cX6_history 68 = .ok (.goto 20, 3) := by decide +kernel
theorem dX6_history_71 : decode cX6_history 71 = .ok (.iload 4, 2) := by decide +kernel
theorem dX6_history_73 : decode cX6_history 73 = .ok (.iload_n 2, 1) := by decide +kernel
theorem dX6_history_74 : decode cX6_history 74 = .ok (.if_icmp .ne 11, 3) := by decide +kernel
theorem dX6_history_77 : decode cX6_history 77 = .ok (.aload_n 0, 1) := by decide +kernel
theorem dX6_history_78 : decode cX6_history 78 = .ok (.iload_n 3, 1) := by decide +kernel
theorem dX6_history_79 : decode cX6_history 79 = .ok (.iload 5, 2) := by decide +kernel
theorem dX6_history_81 : decode cX6_history 81 = .ok (.invokevirtual 167, 3) := by decide +kernel
theorem dX6_history_84 : decode cX6_history 84 = .ok (.lreturn, 1) := by decide +kernel
theorem dX6_history_85 : decode cX6_history 85 = .ok (.iinc 4 1, 3) := by decide +kernel
theorem dX6_history_88 : decode cX6_history 88 = .ok (.iinc 5 (-1), 3) := by decide +kernel
theorem dX6_history_91 : decode cX6_history 91 = .ok (.goto (-39), 3) := by decide +kernel
theorem dX6_history_94 : decode cX6_history 94 = .ok (.iload_n 2, 1) := by decide +kernel
theorem dX6_history_95 : decode cX6_history 95 = .ok (.iconst (-1), 1) := by decide +kernel
theorem dX6_history_96 : decode cX6_history 96 = .ok (.if_icmp .ne 9, 3) := by decide +kernel
theorem dX6_history_99 : decode cX6_history 99 = .ok (.iload 4, 2) := by decide +kernel
theorem dX6_history_101 : decode cX6_history 101 = .ok (.i2l, 1) := by decide +kernel
theorem dX6_history_102 : decode cX6_history 102 = .ok (.goto 6, 3) := by decide +kernel
theorem dX6_history_105 : decode cX6_history 105 = .ok (.ldc2_w 236, 3) := by decide +kernel
theorem dX6_history_108 : decode cX6_history 108 = .ok (.lreturn, 1) := by decide +kernel
theorem dX6_extreme_0 : decode cX6_extreme 0 = .ok (.iconst 0, 1) := by decide +kernel
theorem dX6_extreme_1 : decode cX6_extreme 1 = .ok (.istore_n 2, 1) := by decide +kernel
theorem dX6_extreme_2 : decode cX6_extreme 2 = .ok (.iconst 1, 1) := by decide +kernel
theorem dX6_extreme_3 : decode cX6_extreme 3 = .ok (.istore_n 3, 1) := by decide +kernel
theorem dX6_extreme_4 : decode cX6_extreme 4 = .ok (.iload_n 3, 1) := by decide +kernel
theorem dX6_extreme_5 : decode cX6_extreme 5 = .ok (.aload_n 0, 1) := by decide +kernel
theorem dX6_extreme_6 : decode cX6_extreme 6 = .ok (.getfield 7, 3) := by decide +kernel
theorem dX6_extreme_9 : decode cX6_extreme 9 = .ok (.iconst 0, 1) := by decide +kernel
theorem dX6_extreme_10 : decode cX6_extreme 10 = .ok (.iaload, 1) := by decide +kernel
theorem dX6_extreme_11 : decode cX6_extreme 11 = .ok (.if_icmp .ge 60, 3) := by decide +kernel
theorem dX6_extreme_14 : decode cX6_extreme 14 = .ok (.iload_n 1, 1) := by decide +kernel
theorem dX6_extreme_15 : decode cX6_extreme 15 = .ok (.ifCond .eq 27, 3) := by decide +kernel
theorem dX6_extreme_18 : decode cX6_extreme 18 = .ok (.aload_n 0, 1) := by decide +kernel
theorem dX6_extreme_19 : decode cX6_extreme 19 = .ok (.getfield 7, 3) := by decide +kernel
theorem dX6_extreme_22 : decode cX6_extreme 22 = .ok (.bipush 36, 2) := by decide +kernel
theorem dX6_extreme_24 : decode cX6_extreme 24 = .ok (.iload_n 3, 1) := by decide +kernel
theorem dX6_extreme_25 : decode cX6_extreme 25 = .ok (.iadd, 1) := by decide +kernel
theorem dX6_extreme_26 : decode cX6_extreme 26 = .ok (.iaload, 1) := by decide +kernel
theorem dX6_extreme_27 : decode cX6_extreme 27 = .ok (.aload_n 0, 1) := by decide +kernel
theorem dX6_extreme_28 : decode cX6_extreme 28 = .ok (.getfield 7, 3) := by decide +kernel
theorem dX6_extreme_31 : decode cX6_extreme 31 = .ok (.bipush 36, 2) := by decide +kernel
theorem dX6_extreme_33 : decode cX6_extreme 33 = .ok (.iload_n 2, 1) := by decide +kernel
theorem dX6_extreme_34 : decode cX6_extreme 34 = .ok (.iadd, 1) := by decide +kernel
theorem dX6_extreme_35 : decode cX6_extreme 35 = .ok (.iaload, 1) := by decide +kernel
theorem dX6_extreme_36 : decode cX6_extreme 36 = .ok (.if_icmp .le 29, 3) := by decide +kernel
theorem dX6_extreme_39 : decode cX6_extreme 39 = .ok (.goto 24, 3) := by decide +kernel
theorem dX6_extreme_42 : decode cX6_extreme 42 = .ok (.aload_n 0, 1) := by decide +kernel
theorem dX6_extreme_43 : decode cX6_extreme 43 = .ok (.getfield 7, 3) := by decide +kernel
theorem dX6_extreme_46 : decode cX6_extreme 46 = .ok (.bipush 36, 2) := by decide +kernel
theorem dX6_extreme_48 : decode cX6_extreme 48 = .ok (.iload_n 3, 1) := by decide +kernel
theorem dX6_extreme_49 : decode cX6_extreme 49 = .ok (.iadd, 1) := by decide +kernel
theorem dX6_extreme_50 : decode cX6_extreme 50 = .ok (.iaload, 1) := by decide +kernel
theorem dX6_extreme_51 : decode cX6_extreme 51 = .ok (.aload_n 0, 1) := by decide +kernel
theorem dX6_extreme_52 : decode cX6_extreme 52 = .ok (.getfield 7, 3) := by decide +kernel
theorem dX6_extreme_55 : decode cX6_extreme 55 = .ok (.bipush 36, 2) := by decide +kernel
theorem dX6_extreme_57 : decode cX6_extreme 57 = .ok (.iload_n 2, 1) := by decide +kernel
theorem dX6_extreme_58 : decode cX6_extreme 58 = .ok (.iadd, 1) := by decide +kernel
theorem dX6_extreme_59 : decode cX6_extreme 59 = .ok (.iaload, 1) := by decide +kernel
theorem dX6_extreme_60 : decode cX6_extreme 60 = .ok (.if_icmp .ge 5, 3) := by decide +kernel
theorem dX6_extreme_63 : decode cX6_extreme 63 = .ok (.iload_n 3, 1) := by decide +kernel
theorem dX6_extreme_64 : decode cX6_extreme 64 = .ok (.istore_n 2, 1) := by decide +kernel
theorem dX6_extreme_65 : decode cX6_extreme 65 = .ok (.iinc 3 1, 3) := by decide +kernel
theorem dX6_extreme_68 : decode cX6_extreme 68 = .ok (.goto (-64), 3) := by decide +kernel
theorem dX6_extreme_71 : decode cX6_extreme 71 = .ok (.aload_n 0, 1) := by decide +kernel
theorem dX6_extreme_72 : decode cX6_extreme 72 = .ok (.getfield 7, 3) := by decide +kernel
theorem dX6_extreme_75 : decode cX6_extreme 75 = .ok (.bipush 36, 2) := by decide +kernel
theorem dX6_extreme_77 : decode cX6_extreme 77 = .ok (.iload_n 2, 1) := by decide +kernel
theorem dX6_extreme_78 : decode cX6_extreme 78 = .ok (.iadd, 1) := by decide +kernel
theorem dX6_extreme_79 : decode cX6_extreme 79 = .ok (.iaload, 1) := by decide +kernel
theorem dX6_extreme_80 : decode cX6_extreme 80 = .ok (.ireturn, 1) := by decide +kernel
theorem dX6_wears_0 : decode cX6_wears 0 = .ok (.aload_n 0, 1) := by decide +kernel
theorem dX6_wears_1 : decode cX6_wears 1 = .ok (.iconst 0, 1) := by decide +kernel
theorem dX6_wears_2 : decode cX6_wears 2 = .ok (.putfield 35, 3) := by decide +kernel
theorem dX6_wears_5 : decode cX6_wears 5 = .ok (.aload_n 0, 1) := by decide +kernel
theorem dX6_wears_6 : decode cX6_wears 6 = .ok (.invokevirtual 132, 3) := by decide +kernel
theorem dX6_wears_9 : decode cX6_wears 9 = .ok (.ifCond .eq 23, 3) := by decide +kernel
theorem dX6_wears_12 : decode cX6_wears 12 = .ok (.iload_n 1, 1) := by decide +kernel
theorem dX6_wears_13 : decode cX6_wears 13 = .ok (.iconst 0, 1) := by decide +kernel
theorem dX6_wears_14 : decode cX6_wears 14 = .ok (.sipush 1000, 3) := by decide +kernel
theorem dX6_wears_17 : decode cX6_wears 17 = .ok (.invokestatic 39, 3) := by decide +kernel
theorem dX6_wears_20 : decode cX6_wears 20 = .ok (.ifCond .eq 12, 3) := by decide +kernel
theorem dX6_wears_23 : decode cX6_wears 23 = .ok (.iload_n 2, 1) := by decide +kernel
theorem dX6_wears_24 : decode cX6_wears 24 = .ok (.iconst 0, 1) := by decide +kernel
theorem dX6_wears_25 : decode cX6_wears 25 = .ok (.iconst 2, 1) := by decide +kernel
theorem dX6_wears_26 : decode cX6_wears 26 = .ok (.invokestatic 39, 3) := by decide +kernel
theorem dX6_wears_29 : decode cX6_wears 29 = .ok (.ifCond .ne 5, 3) := by decide +kernel
theorem dX6_wears_32 : decode cX6_wears 32 = .ok (.iconst (-1), 1) := by decide +kernel
theorem dX6_wears_33 : decode cX6_wears 33 = .ok (.ireturn, 1) := by decide +kernel
theorem dX6_wears_34 : decode cX6_wears 34 = .ok (.aload_n 0, 1) := by decide +kernel
theorem dX6_wears_35 : decode cX6_wears 35 = .ok (.invokevirtual 224, 3) := by decide +kernel
theorem dX6_wears_38 : decode cX6_wears 38 = .ok (.aload_n 0, 1) := by decide +kernel
theorem dX6_wears_39 : decode cX6_wears 39 = .ok (.getfield 7, 3) := by decide +kernel
theorem dX6_wears_42 : decode cX6_wears 42 = .ok (.iconst 3, 1) := by decide +kernel
theorem dX6_wears_43 : decode cX6_wears 43 = .ok (.iaload, 1) := by decide +kernel
theorem dX6_wears_44 : decode cX6_wears 44 = .ok (.istore_n 3, 1) := by decide +kernel
theorem dX6_wears_45 : decode cX6_wears 45 = .ok (.iconst 0, 1) := by decide +kernel
theorem dX6_wears_46 : decode cX6_wears 46 = .ok (.istore 4, 2) := by decide +kernel
theorem dX6_wears_48 : decode cX6_wears 48 = .ok (.iload 4, 2) := by decide +kernel
theorem dX6_wears_50 : decode cX6_wears 50 = .ok (.iload_n 1, 1) := by decide +kernel
theorem dX6_wears_51 : decode cX6_wears 51 = .ok (.if_icmp .ge 133, 3) := by decide +kernel
theorem dX6_wears_54 : decode cX6_wears 54 = .ok (.aload_n 0, 1) := by decide +kernel
theorem dX6_wears_55 : decode cX6_wears 55 = .ok (.iload_n 3, 1) := by decide +kernel
theorem dX6_wears_56 : decode cX6_wears 56 = .ok (.invokevirtual 126, 3) := by decide +kernel
theorem dX6_wears_59 : decode cX6_wears 59 = .ok (.istore 5, 2) := by decide +kernel
theorem dX6_wears_61 : decode cX6_wears 61 = .ok (.aload_n 0, 1) := by decide +kernel
theorem dX6_wears_62 : decode cX6_wears 62 = .ok (.iload 5, 2) := by decide +kernel
theorem dX6_wears_64 : decode cX6_wears 64 = .ok (.iconst 0, 1) := by decide +kernel
theorem dX6_wears_65 : decode cX6_wears 65 = .ok (.invokevirtual 61, 3) := by decide +kernel
theorem dX6_wears_68 : decode cX6_wears 68 = .ok (.ifCond .ne 17, 3) := by decide +kernel
theorem dX6_wears_71 : decode cX6_wears 71 = .ok (.aload_n 0, 1) := by decide +kernel
theorem dX6_wears_72 : decode cX6_wears 72 = .ok (.getfield 7, 3) := by decide +kernel
theorem dX6_wears_75 : decode cX6_wears 75 = .ok (.bipush 36, 2) := by decide +kernel
theorem dX6_wears_77 : decode cX6_wears 77 = .ok (.iload 5, 2) := by decide +kernel
theorem dX6_wears_79 : decode cX6_wears 79 = .ok (.iadd, 1) := by decide +kernel
theorem dX6_wears_80 : decode cX6_wears 80 = .ok (.dup2, 1) := by decide +kernel
theorem dX6_wears_81 : decode cX6_wears 81 = .ok (.iaload, 1) := by decide +kernel
theorem dX6_wears_82 : decode cX6_wears 82 = .ok (.iconst 1, 1) := by decide +kernel
theorem dX6_wears_83 : decode cX6_wears 83 = .ok (.iadd, 1) := by decide +kernel
theorem dX6_wears_84 : decode cX6_wears 84 = .ok (.iastore, 1) := by decide +kernel
theorem dX6_wears_85 : decode cX6_wears 85 = .ok (.iconst 0, 1) := by decide +kernel
theorem dX6_wears_86 : decode cX6_wears 86 = .ok (.istore 6, 2) := by decide +kernel
theorem dX6_wears_88 : decode cX6_wears 88 = .ok (.iload 6, 2) := by decide +kernel
theorem dX6_wears_90 : decode cX6_wears 90 = .ok (.aload_n 0, 1) := by decide +kernel
theorem dX6_wears_91 : decode cX6_wears 91 = .ok (.getfield 7, 3) := by decide +kernel
theorem dX6_wears_94 : decode cX6_wears 94 = .ok (.iconst 1, 1) := by decide +kernel
theorem dX6_wears_95 : decode cX6_wears 95 = .ok (.iaload, 1) := by decide +kernel
theorem dX6_wears_96 : decode cX6_wears 96 = .ok (.if_icmp .ge 27, 3) := by decide +kernel
theorem dX6_wears_99 : decode cX6_wears 99 = .ok (.aload_n 0, 1) := by decide +kernel
theorem dX6_wears_100 : decode cX6_wears 100 = .ok (.getfield 7, 3) := by decide +kernel
theorem dX6_wears_103 : decode cX6_wears 103 = .ok (.bipush 42, 2) := by decide +kernel
theorem dX6_wears_105 : decode cX6_wears 105 = .ok (.sipush 128, 3) := by decide +kernel
theorem dX6_wears_108 : decode cX6_wears 108 = .ok (.iload 5, 2) := by decide +kernel
theorem dX6_wears_110 : decode cX6_wears 110 = .ok (.imul, 1) := by decide +kernel
theorem dX6_wears_111 : decode cX6_wears 111 = .ok (.iadd, 1) := by decide +kernel
theorem dX6_wears_112 : decode cX6_wears 112 = .ok (.iload 6, 2) := by decide +kernel
theorem dX6_wears_114 : decode cX6_wears 114 = .ok (.iadd, 1) := by decide +kernel
theorem dX6_wears_115 : decode cX6_wears 115 = .ok (.iconst 0, 1) := by decide +kernel
theorem dX6_wears_116 : decode cX6_wears 116 = .ok (.iastore, 1) := by decide +kernel
theorem dX6_wears_117 : decode cX6_wears 117 = .ok (.iinc 6 1, 3) := by decide +kernel
theorem dX6_wears_120 : decode cX6_wears 120 = .ok (.goto (-32), 3) := by decide +kernel
theorem dX6_wears_123 : decode cX6_wears 123 = .ok (.iconst 0, 1) := by decide +kernel
theorem dX6_wears_124 : decode cX6_wears 124 = .ok (.istore 6, 2) := by decide +kernel
theorem dX6_wears_126 : decode cX6_wears 126 = .ok (.iload 6, 2) := by decide +kernel
theorem dX6_wears_128 : decode cX6_wears 128 = .ok (.aload_n 0, 1) := by decide +kernel
theorem dX6_wears_129 : decode cX6_wears 129 = .ok (.getfield 7, 3) := by decide +kernel
theorem dX6_wears_132 : decode cX6_wears 132 = .ok (.iconst 1, 1) := by decide +kernel
theorem dX6_wears_133 : decode cX6_wears 133 = .ok (.iaload, 1) := by decide +kernel
theorem dX6_wears_134 : decode cX6_wears 134 = .ok (.if_icmp .ge 28, 3) := by decide +kernel
theorem dX6_wears_137 : decode cX6_wears 137 = .ok (.aload_n 0, 1) := by decide +kernel
theorem dX6_wears_138 : decode cX6_wears 138 = .ok (.getfield 7, 3) := by decide +kernel
theorem dX6_wears_141 : decode cX6_wears 141 = .ok (.bipush 42, 2) := by decide +kernel
theorem dX6_wears_143 : decode cX6_wears 143 = .ok (.sipush 128, 3) := by decide +kernel
theorem dX6_wears_146 : decode cX6_wears 146 = .ok (.iload_n 3, 1) := by decide +kernel
theorem dX6_wears_147 : decode cX6_wears 147 = .ok (.imul, 1) := by decide +kernel
theorem dX6_wears_148 : decode cX6_wears 148 = .ok (.iadd, 1) := by decide +kernel
theorem dX6_wears_149 : decode cX6_wears 149 = .ok (.iload 6, 2) := by decide +kernel
theorem dX6_wears_151 : decode cX6_wears 151 = .ok (.iadd, 1) := by decide +kernel
theorem dX6_wears_152 : decode cX6_wears 152 = .ok (.sipush 255, 3) := by decide +kernel
theorem dX6_wears_155 : decode cX6_wears 155 = .ok (.iastore, 1) := by decide +kernel
theorem dX6_wears_156 : decode cX6_wears 156 = .ok (.iinc 6 1, 3) := by decide +kernel
theorem dX6_wears_159 : decode cX6_wears 159 = .ok (.goto (-33), 3) := by decide +kernel
theorem dX6_wears_162 : decode cX6_wears 162 = .ok (.aload_n 0, 1) := by decide +kernel
theorem dX6_wears_163 : decode cX6_wears 163 = .ok (.getfield 7, 3) := by decide +kernel
theorem dX6_wears_166 : decode cX6_wears 166 = .ok (.bipush 36, 2) := by decide +kernel
theorem dX6_wears_168 : decode cX6_wears 168 = .ok (.iload_n 3, 1) := by decide +kernel
theorem dX6_wears_169 : decode cX6_wears 169 = .ok (.iadd, 1) := by decide +kernel
theorem dX6_wears_170 : decode cX6_wears 170 = .ok (.dup2, 1) := by decide +kernel
theorem dX6_wears_171 : decode cX6_wears 171 = .ok (.iaload, 1) := by decide +kernel
theorem dX6_wears_172 : decode cX6_wears 172 = .ok (.iconst 1, 1) := by decide +kernel
theorem dX6_wears_173 : decode cX6_wears 173 = .ok (.iadd, 1) := by decide +kernel
theorem dX6_wears_174 : decode cX6_wears 174 = .ok (.iastore, 1) := by decide +kernel
theorem dX6_wears_175 : decode cX6_wears 175 = .ok (.iload 5, 2) := by decide +kernel
theorem dX6_wears_177 : decode cX6_wears 177 = .ok (.istore_n 3, 1) := by decide +kernel
theorem dX6_wears_178 : decode cX6_wears 178 = .ok (.iinc 4 1, 3) := by decide +kernel
theorem dX6_wears_181 : decode cX6_wears 181 = .ok (.goto (-133), 3) := by decide +kernel
theorem dX6_wears_184 : decode cX6_wears 184 = .ok (.iload_n 2, 1) := by decide +kernel
theorem dX6_wears_185 : decode cX6_wears 185 = .ok (.iconst 2, 1) := by decide +kernel
theorem dX6_wears_186 : decode cX6_wears 186 = .ok (.if_icmp .ne 7, 3) := by decide +kernel
theorem dX6_wears_189 : decode cX6_wears 189 = .ok (.iload_n 3, 1) := by decide +kernel
theorem dX6_wears_190 : decode cX6_wears 190 = .ok (.goto 16, 3) := by decide +kernel
theorem dX6_wears_193 : decode cX6_wears 193 = .ok (.aload_n 0, 1) := by decide +kernel
theorem dX6_wears_194 : decode cX6_wears 194 = .ok (.iload_n 2, 1) := by decide +kernel
theorem dX6_wears_195 : decode cX6_wears 195 = .ok (.ifCond .ne 7, 3) := by decide +kernel
theorem dX6_wears_198 : decode cX6_wears 198 = .ok (.iconst 1, 1) := by decide +kernel
theorem dX6_wears_199 : decode cX6_wears 199 = .ok (.goto 4, 3) := by decide +kernel
theorem dX6_wears_202 : decode cX6_wears 202 = .ok (.iconst 0, 1) := by decide +kernel
theorem dX6_wears_203 : decode cX6_wears 203 = .ok (.invokevirtual 238, 3) := by decide +kernel
theorem dX6_wears_206 : decode cX6_wears 206 = .ok (.istore 4, 2) := by decide +kernel
theorem dX6_wears_208 : decode cX6_wears 208 = .ok (.aload_n 0, 1) := by decide +kernel
theorem dX6_wears_209 : decode cX6_wears 209 = .ok (.invokevirtual 227, 3) := by decide +kernel
theorem dX6_wears_212 : decode cX6_wears 212 = .ok (.iload 4, 2) := by decide +kernel
theorem dX6_wears_214 : decode cX6_wears 214 = .ok (.ireturn, 1) := by decide +kernel
theorem dX6_erasesOfAll_0 : decode cX6_erasesOfAll 0 = .ok (.iconst 0, 1) := by decide +kernel
theorem dX6_erasesOfAll_1 : decode cX6_erasesOfAll 1 = .ok (.istore_n 1, 1) := by decide +kernel
theorem dX6_erasesOfAll_2 : decode cX6_erasesOfAll 2 = .ok (.iconst 0, 1) := by decide +kernel
theorem dX6_erasesOfAll_3 : decode cX6_erasesOfAll 3 = .ok (.istore_n 2, 1) := by decide +kernel
theorem dX6_erasesOfAll_4 : decode cX6_erasesOfAll 4 = .ok (.iload_n 2, 1) := by decide +kernel
theorem dX6_erasesOfAll_5 : decode cX6_erasesOfAll 5 = .ok (.aload_n 0, 1) := by decide +kernel
theorem dX6_erasesOfAll_6 : decode cX6_erasesOfAll 6 = .ok (.getfield 7, 3) := by decide +kernel
theorem dX6_erasesOfAll_9 : decode cX6_erasesOfAll 9 = .ok (.iconst 0, 1) := by decide +kernel
theorem dX6_erasesOfAll_10 : decode cX6_erasesOfAll 10 = .ok (.iaload, 1) := by decide +kernel
theorem dX6_erasesOfAll_11 : decode cX6_erasesOfAll 11 = .ok (.if_icmp .ge 21, 3) := by decide +kernel
theorem dX6_erasesOfAll_14 : decode cX6_erasesOfAll 14 = .ok (.iload_n 1, 1) := by decide +kernel
theorem dX6_erasesOfAll_15 : decode cX6_erasesOfAll 15 = .ok (.aload_n 0, 1) := by decide +kernel
theorem dX6_erasesOfAll_16 : decode cX6_erasesOfAll 16 = .ok (.getfield 7, 3) := by decide +kernel
theorem dX6_erasesOfAll_19 : decode cX6_erasesOfAll 19 = .ok (.bipush 36, 2) := by decide +kernel
theorem dX6_erasesOfAll_21 : decode cX6_erasesOfAll 21 = .ok (.iload_n 2, 1) := by decide +kernel
theorem dX6_erasesOfAll_22 : decode cX6_erasesOfAll 22 = .ok (.iadd, 1) := by decide +kernel
theorem dX6_erasesOfAll_23 : decode cX6_erasesOfAll 23 = .ok (.iaload, 1) := by decide +kernel
theorem dX6_erasesOfAll_24 : decode cX6_erasesOfAll 24 = .ok (.iadd, 1) := by decide +kernel
theorem dX6_erasesOfAll_25 : decode cX6_erasesOfAll 25 = .ok (.istore_n 1, 1) := by decide +kernel
theorem dX6_erasesOfAll_26 : decode cX6_erasesOfAll 26 = .ok (.iinc 2 1, 3) := by decide +kernel
theorem dX6_erasesOfAll_29 : decode cX6_erasesOfAll 29 = .ok (.goto (-25), 3) := by decide +kernel
theorem dX6_erasesOfAll_32 : decode cX6_erasesOfAll 32 = .ok (.iload_n 1, 1) := by decide +kernel
theorem dX6_erasesOfAll_33 : decode cX6_erasesOfAll 33 = .ok (.ireturn, 1) := by decide +kernel
theorem dX6_wear_0 : decode cX6_wear 0 = .ok (.aload_n 0, 1) := by decide +kernel
theorem dX6_wear_1 : decode cX6_wear 1 = .ok (.iconst 0, 1) := by decide +kernel
theorem dX6_wear_2 : decode cX6_wear 2 = .ok (.putfield 35, 3) := by decide +kernel
theorem dX6_wear_5 : decode cX6_wear 5 = .ok (.iload_n 1, 1) := by decide +kernel
theorem dX6_wear_6 : decode cX6_wear 6 = .ok (.tableswitch 96 0 4 #[34, 34, 48, 53, 61], 34) := by decide +kernel
theorem dX6_wear_40 : decode cX6_wear 40 = .ok (.aload_n 0, 1) := by decide +kernel
theorem dX6_wear_41 : decode cX6_wear 41 = .ok (.iload_n 1, 1) := by decide +kernel
theorem dX6_wear_42 : decode cX6_wear 42 = .ok (.ifCond .ne 7, 3) := by decide +kernel
theorem dX6_wear_45 : decode cX6_wear 45 = .ok (.iconst 1, 1) := by decide +kernel
theorem dX6_wear_46 : decode cX6_wear 46 = .ok (.goto 4, 3) := by decide +kernel
theorem dX6_wear_49 : decode cX6_wear 49 = .ok (.iconst 0, 1) := by decide +kernel
theorem dX6_wear_50 : decode cX6_wear 50 = .ok (.invokevirtual 238, 3) := by decide +kernel
theorem dX6_wear_53 : decode cX6_wear 53 = .ok (.ireturn, 1) := by decide +kernel
theorem dX6_wear_54 : decode cX6_wear 54 = .ok (.aload_n 0, 1) := by decide +kernel
theorem dX6_wear_55 : decode cX6_wear 55 = .ok (.invokevirtual 242, 3) := by decide +kernel
theorem dX6_wear_58 : decode cX6_wear 58 = .ok (.ireturn, 1) := by decide +kernel
theorem dX6_wear_59 : decode cX6_wear 59 = .ok (.aload_n 0, 1) := by decide +kernel
theorem dX6_wear_60 : decode cX6_wear 60 = .ok (.getfield 7, 3) := by decide +kernel
theorem dX6_wear_63 : decode cX6_wear 63 = .ok (.bipush 9, 2) := by decide +kernel
theorem dX6_wear_65 : decode cX6_wear 65 = .ok (.iaload, 1) := by decide +kernel
theorem dX6_wear_66 : decode cX6_wear 66 = .ok (.ireturn, 1) := by decide +kernel
theorem dX6_wear_67 : decode cX6_wear 67 = .ok (.aload_n 0, 1) := by decide +kernel
theorem dX6_wear_68 : decode cX6_wear 68 = .ok (.invokevirtual 242, 3) := by decide +kernel
theorem dX6_wear_71 : decode cX6_wear 71 = .ok (.ifCond .ne 7, 3) := by decide +kernel
theorem dX6_wear_74 : decode cX6_wear 74 = .ok (.iconst 0, 1) := by decide +kernel
theorem dX6_wear_75 : decode cX6_wear 75 = .ok (.goto 26, 3) := by decide +kernel
theorem dX6_wear_78 : decode cX6_wear 78 = .ok (.aload_n 0, 1) := by decide +kernel
theorem dX6_wear_79 : decode cX6_wear 79 = .ok (.iconst 1, 1) := by decide +kernel
theorem dX6_wear_80 : decode cX6_wear 80 = .ok (.invokevirtual 238, 3) := by decide +kernel
theorem dX6_wear_83 : decode cX6_wear 83 = .ok (.i2f, 1) := by decide +kernel
theorem dX6_wear_84 : decode cX6_wear 84 = .ok (.aload_n 0, 1) := by decide +kernel
theorem dX6_wear_85 : decode cX6_wear 85 = .ok (.invokevirtual 242, 3) := by decide +kernel
theorem dX6_wear_88 : decode cX6_wear 88 = .ok (.i2f, 1) := by decide +kernel
theorem dX6_wear_89 : decode cX6_wear 89 = .ok (.aload_n 0, 1) := by decide +kernel
theorem dX6_wear_90 : decode cX6_wear 90 = .ok (.getfield 7, 3) := by decide +kernel
theorem dX6_wear_93 : decode cX6_wear 93 = .ok (.iconst 0, 1) := by decide +kernel
theorem dX6_wear_94 : decode cX6_wear 94 = .ok (.iaload, 1) := by decide +kernel
theorem dX6_wear_95 : decode cX6_wear 95 = .ok (.i2f, 1) := by decide +kernel
theorem dX6_wear_96 : decode cX6_wear 96 = .ok (.fdiv, 1) := by decide +kernel
theorem dX6_wear_97 : decode cX6_wear 97 = .ok (.fdiv, 1) := by decide +kernel
theorem dX6_wear_98 : decode cX6_wear 98 = .ok (.invokestatic 245, 3) := by decide +kernel
theorem dX6_wear_101 : decode cX6_wear 101 = .ok (.ireturn, 1) := by decide +kernel
theorem dX6_wear_102 : decode cX6_wear 102 = .ok (.iconst (-1), 1) := by decide +kernel
theorem dX6_wear_103 : decode cX6_wear 103 = .ok (.ireturn, 1) := by decide +kernel
theorem dX6_tags_0 : decode cX6_tags 0 = .ok (.aload_n 0, 1) := by decide +kernel
theorem dX6_tags_1 : decode cX6_tags 1 = .ok (.iconst 0, 1) := by decide +kernel
theorem dX6_tags_2 : decode cX6_tags 2 = .ok (.putfield 35, 3) := by decide +kernel
theorem dX6_tags_5 : decode cX6_tags 5 = .ok (.aload_n 0, 1) := by decide +kernel
theorem dX6_tags_6 : decode cX6_tags 6 = .ok (.invokevirtual 132, 3) := by decide +kernel
theorem dX6_tags_9 : decode cX6_tags 9 = .ok (.ifCond .ne 7, 3) := by decide +kernel
theorem dX6_tags_12 : decode cX6_tags 12 = .ok (.ldc2_w 222, 3) := by decide +kernel
theorem dX6_tags_15 : decode cX6_tags 15 = .ok (.lreturn, 1) := by decide +kernel
theorem dX6_tags_16 : decode cX6_tags 16 = .ok (.aload_n 0, 1) := by decide +kernel
theorem dX6_tags_17 : decode cX6_tags 17 = .ok (.aload_n 0, 1) := by decide +kernel
theorem dX6_tags_18 : decode cX6_tags 18 = .ok (.getfield 7, 3) := by decide +kernel
theorem dX6_tags_21 : decode cX6_tags 21 = .ok (.iconst 3, 1) := by decide +kernel
theorem dX6_tags_22 : decode cX6_tags 22 = .ok (.iaload, 1) := by decide +kernel
theorem dX6_tags_23 : decode cX6_tags 23 = .ok (.invokevirtual 141, 3) := by decide +kernel
theorem dX6_tags_26 : decode cX6_tags 26 = .ok (.lconst 0, 1) := by decide +kernel
theorem dX6_tags_27 : decode cX6_tags 27 = .ok (.lstore_n 1, 1) := by decide +kernel
theorem dX6_tags_28 : decode cX6_tags 28 = .ok (.iconst 0, 1) := by decide +kernel
theorem dX6_tags_29 : decode cX6_tags 29 = .ok (.istore_n 3, 1) := by decide +kernel
theorem dX6_tags_30 : decode cX6_tags 30 = .ok (.iload_n 3, 1) := by decide +kernel
theorem dX6_tags_31 : decode cX6_tags 31 = .ok (.bipush 48, 2) := by decide +kernel
theorem dX6_tags_33 : decode cX6_tags 33 = .ok (.if_icmp .ge 29, 3) := by decide +kernel
theorem dX6_tags_36 : decode cX6_tags 36 = .ok (.aload_n 0, 1) := by decide +kernel
theorem dX6_tags_37 : decode cX6_tags 37 = .ok (.aload_n 0, 1) := by decide +kernel
theorem dX6_tags_38 : decode cX6_tags 38 = .ok (.getfield 7, 3) := by decide +kernel
theorem dX6_tags_41 : decode cX6_tags 41 = .ok (.iconst 3, 1) := by decide +kernel
theorem dX6_tags_42 : decode cX6_tags 42 = .ok (.iaload, 1) := by decide +kernel
theorem dX6_tags_43 : decode cX6_tags 43 = .ok (.iload_n 3, 1) := by decide +kernel
theorem dX6_tags_44 : decode cX6_tags 44 = .ok (.invokevirtual 106, 3) := by decide +kernel
theorem dX6_tags_47 : decode cX6_tags 47 = .ok (.ifCond .eq 9, 3) := by decide +kernel
theorem dX6_tags_50 : decode cX6_tags 50 = .ok (.lload_n 1, 1) := by decide +kernel
theorem dX6_tags_51 : decode cX6_tags 51 = .ok (.lconst 1, 1) := by decide +kernel
theorem dX6_tags_52 : decode cX6_tags 52 = .ok (.iload_n 3, 1) := by decide +kernel
theorem dX6_tags_53 : decode cX6_tags 53 = .ok (.lshl, 1) := by decide +kernel
theorem dX6_tags_54 : decode cX6_tags 54 = .ok (.lor, 1) := by decide +kernel
theorem dX6_tags_55 : decode cX6_tags 55 = .ok (.lstore_n 1, 1) := by decide +kernel
theorem dX6_tags_56 : decode cX6_tags 56 = .ok (.iinc 3 1, 3) := by decide +kernel
theorem dX6_tags_59 : decode cX6_tags 59 = .ok (.goto (-29), 3) := by decide +kernel
theorem dX6_tags_62 : decode cX6_tags 62 = .ok (.lload_n 1, 1) := by decide +kernel
theorem dX6_tags_63 : decode cX6_tags 63 = .ok (.lreturn, 1) := by decide +kernel
theorem dX6_count_0 : decode cX6_count 0 = .ok (.aload_n 0, 1) := by decide +kernel
theorem dX6_count_1 : decode cX6_count 1 = .ok (.iconst 0, 1) := by decide +kernel
theorem dX6_count_2 : decode cX6_count 2 = .ok (.putfield 35, 3) := by decide +kernel
theorem dX6_count_5 : decode cX6_count 5 = .ok (.iload_n 1, 1) := by decide +kernel
theorem dX6_count_6 : decode cX6_count 6 = .ok (.tableswitch 131 0 7 #[46, 53, 60, 67, 85, 108, 115, 123], 46) := by decide +kernel
theorem dX6_count_52 : decode cX6_count 52 = .ok (.aload_n 0, 1) := by decide +kernel
theorem dX6_count_53 : decode cX6_count 53 = .ok (.getfield 7, 3) := by decide +kernel
theorem dX6_count_56 : decode cX6_count 56 = .ok (.iconst 0, 1) := by decide +kernel
theorem dX6_count_57 : decode cX6_count 57 = .ok (.iaload, 1) := by decide +kernel
theorem dX6_count_58 : decode cX6_count 58 = .ok (.ireturn, 1) := by decide +kernel
theorem dX6_count_59 : decode cX6_count 59 = .ok (.aload_n 0, 1) := by decide +kernel
theorem dX6_count_60 : decode cX6_count 60 = .ok (.getfield 7, 3) := by decide +kernel
theorem dX6_count_63 : decode cX6_count 63 = .ok (.iconst 1, 1) := by decide +kernel
theorem dX6_count_64 : decode cX6_count 64 = .ok (.iaload, 1) := by decide +kernel
theorem dX6_count_65 : decode cX6_count 65 = .ok (.ireturn, 1) := by decide +kernel
theorem dX6_count_66 : decode cX6_count 66 = .ok (.aload_n 0, 1) := by decide +kernel
theorem dX6_count_67 : decode cX6_count 67 = .ok (.getfield 7, 3) := by decide +kernel
theorem dX6_count_70 : decode cX6_count 70 = .ok (.iconst 2, 1) := by decide +kernel
theorem dX6_count_71 : decode cX6_count 71 = .ok (.iaload, 1) := by decide +kernel
theorem dX6_count_72 : decode cX6_count 72 = .ok (.ireturn, 1) := by decide +kernel
theorem dX6_count_73 : decode cX6_count 73 = .ok (.aload_n 0, 1) := by decide +kernel
theorem dX6_count_74 : decode cX6_count 74 = .ok (.invokevirtual 132, 3) := by decide +kernel
theorem dX6_count_77 : decode cX6_count 77 = .ok (.ifCond .eq 12, 3) := by decide +kernel
theorem dX6_count_80 : decode cX6_count 80 = .ok (.aload_n 0, 1) := by decide +kernel
theorem dX6_count_81 : decode cX6_count 81 = .ok (.getfield 7, 3) := by decide +kernel
theorem dX6_count_84 : decode cX6_count 84 = .ok (.iconst 3, 1) := by decide +kernel
theorem dX6_count_85 : decode cX6_count 85 = .ok (.iaload, 1) := by decide +kernel
theorem dX6_count_86 : decode cX6_count 86 = .ok (.goto 4, 3) := by decide +kernel
theorem dX6_count_89 : decode cX6_count 89 = .ok (.iconst (-1), 1) := by decide +kernel
theorem dX6_count_90 : decode cX6_count 90 = .ok (.ireturn, 1) := by decide +kernel
theorem dX6_count_91 : decode cX6_count 91 = .ok (.aload_n 0, 1) := by decide +kernel
theorem dX6_count_92 : decode cX6_count 92 = .ok (.getfield 7, 3) := by decide +kernel
theorem dX6_count_95 : decode cX6_count 95 = .ok (.bipush 10, 2) := by decide +kernel
theorem dX6_count_97 : decode cX6_count 97 = .ok (.iaload, 1) := by decide +kernel
theorem dX6_count_98 : decode cX6_count 98 = .ok (.iconst 1, 1) := by decide +kernel
theorem dX6_count_99 : decode cX6_count 99 = .ok (.if_icmp .ne 13, 3) := by decide +kernel
theorem dX6_count_102 : decode cX6_count 102 = .ok (.aload_n 0, 1) := by decide +kernel
theorem dX6_count_103 : decode cX6_count 103 = .ok (.getfield 7, 3) := by decide +kernel
theorem dX6_count_106 : decode cX6_count 106 = .ok (.bipush 11, 2) := by decide +kernel
theorem dX6_count_108 : decode cX6_count 108 = .ok (.iaload, 1) := by decide +kernel
theorem dX6_count_109 : decode cX6_count 109 = .ok (.goto 4, 3) := by decide +kernel
theorem dX6_count_112 : decode cX6_count 112 = .ok (.iconst (-1), 1) := by decide +kernel
theorem dX6_count_113 : decode cX6_count 113 = .ok (.ireturn, 1) := by decide +kernel
theorem dX6_count_114 : decode cX6_count 114 = .ok (.aload_n 0, 1) := by decide +kernel
theorem dX6_count_115 : decode cX6_count 115 = .ok (.getfield 7, 3) := by decide +kernel
theorem dX6_count_118 : decode cX6_count 118 = .ok (.iconst 4, 1) := by decide +kernel
theorem dX6_count_119 : decode cX6_count 119 = .ok (.iaload, 1) := by decide +kernel
theorem dX6_count_120 : decode cX6_count 120 = .ok (.ireturn, 1) := by decide +kernel
theorem dX6_count_121 : decode cX6_count 121 = .ok (.aload_n 0, 1) := by decide +kernel
theorem dX6_count_122 : decode cX6_count 122 = .ok (.getfield 7, 3) := by decide +kernel
theorem dX6_count_125 : decode cX6_count 125 = .ok (.bipush 6, 2) := by decide +kernel
theorem dX6_count_127 : decode cX6_count 127 = .ok (.iaload, 1) := by decide +kernel
theorem dX6_count_128 : decode cX6_count 128 = .ok (.ireturn, 1) := by decide +kernel
theorem dX6_count_129 : decode cX6_count 129 = .ok (.aload_n 0, 1) := by decide +kernel
theorem dX6_count_130 : decode cX6_count 130 = .ok (.getfield 7, 3) := by decide +kernel
theorem dX6_count_133 : decode cX6_count 133 = .ok (.bipush 7, 2) := by decide +kernel
theorem dX6_count_135 : decode cX6_count 135 = .ok (.iaload, 1) := by decide +kernel
theorem dX6_count_136 : decode cX6_count 136 = .ok (.ireturn, 1) := by decide +kernel
theorem dX6_count_137 : decode cX6_count 137 = .ok (.iconst (-1), 1) := by decide +kernel
theorem dX6_count_138 : decode cX6_count 138 = .ok (.ireturn, 1) := by decide +kernel
