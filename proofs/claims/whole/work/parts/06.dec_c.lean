theorem dX10_init_0 : decode cX10_init 0 = .ok (.aload_n 0, 1) := by decide +kernel
theorem dX10_init_1 : decode cX10_init 1 = .ok (.invokespecial 3, 3) := by decide +kernel
theorem dX10_init_4 : decode cX10_init 4 = .ok (.aload_n 0, 1) := by decide +kernel
theorem dX10_init_5 : decode cX10_init 5 = .ok (.iconst 2, 1) := by decide +kernel
theorem dX10_init_6 : decode cX10_init 6 = .ok (.anewarray 9, 3) := by decide +kernel
theorem dX10_init_9 : decode cX10_init 9 = .ok (.putfield 11, 3) := by decide +kernel
theorem dX10_init_12 : decode cX10_init 12 = .ok (.aload_n 0, 1) := by decide +kernel
theorem dX10_init_13 : decode cX10_init 13 = .ok (.new 15, 3) := by decide +kernel
theorem dX10_init_16 : decode cX10_init 16 = .ok (.dup, 1) := by decide +kernel
theorem dX10_init_17 : decode cX10_init 17 = .ok (.invokespecial 17, 3) := by decide +kernel
theorem dX10_init_20 : decode cX10_init 20 = .ok (.putfield 18, 3) := by decide +kernel
theorem dX10_init_23 : decode cX10_init 23 = .ok (.aload_n 0, 1) := by decide +kernel
theorem dX10_init_24 : decode cX10_init 24 = .ok (.aload_n 0, 1) := by decide +kernel
theorem dX10_init_25 : decode cX10_init 25 = .ok (.getfield 18, 3) := by decide +kernel
theorem dX10_init_28 : decode cX10_init 28 = .ok (.getfield 22, 3) := by decide +kernel
theorem dX10_init_31 : decode cX10_init 31 = .ok (.putfield 26, 3) := by decide +kernel
theorem dX10_init_34 : decode cX10_init 34 = .ok (.aload_n 0, 1) := by decide +kernel
theorem dX10_init_35 : decode cX10_init 35 = .ok (.bipush 15, 2) := by decide +kernel
theorem dX10_init_37 : decode cX10_init 37 = .ok (.anewarray 27, 3) := by decide +kernel
theorem dX10_init_40 : decode cX10_init 40 = .ok (.putfield 29, 3) := by decide +kernel
theorem dX10_init_43 : decode cX10_init 43 = .ok (.aload_n 0, 1) := by decide +kernel
theorem dX10_init_44 : decode cX10_init 44 = .ok (.bipush 15, 2) := by decide +kernel
theorem dX10_init_46 : decode cX10_init 46 = .ok (.anewarray 27, 3) := by decide +kernel
theorem dX10_init_49 : decode cX10_init 49 = .ok (.putfield 33, 3) := by decide +kernel
theorem dX10_init_52 : decode cX10_init 52 = .ok (.aload_n 0, 1) := by decide +kernel
theorem dX10_init_53 : decode cX10_init 53 = .ok (.new 36, 3) := by decide +kernel
theorem dX10_init_56 : decode cX10_init 56 = .ok (.dup, 1) := by decide +kernel
theorem dX10_init_57 : decode cX10_init 57 = .ok (.invokespecial 38, 3) := by decide +kernel
theorem dX10_init_60 : decode cX10_init 60 = .ok (.putfield 39, 3) := by decide +kernel
theorem dX10_init_63 : decode cX10_init 63 = .ok (.aload_n 0, 1) := by decide +kernel
theorem dX10_init_64 : decode cX10_init 64 = .ok (.new 43, 3) := by decide +kernel
theorem dX10_init_67 : decode cX10_init 67 = .ok (.dup, 1) := by decide +kernel
theorem dX10_init_68 : decode cX10_init 68 = .ok (.invokespecial 45, 3) := by decide +kernel
theorem dX10_init_71 : decode cX10_init 71 = .ok (.putfield 46, 3) := by decide +kernel
theorem dX10_init_74 : decode cX10_init 74 = .ok (.aload_n 0, 1) := by decide +kernel
theorem dX10_init_75 : decode cX10_init 75 = .ok (.sipush 600, 3) := by decide +kernel
theorem dX10_init_78 : decode cX10_init 78 = .ok (.newarray .int, 2) := by decide +kernel
theorem dX10_init_80 : decode cX10_init 80 = .ok (.putfield 50, 3) := by decide +kernel
theorem dX10_init_83 : decode cX10_init 83 = .ok (.aload_n 0, 1) := by decide +kernel
theorem dX10_init_84 : decode cX10_init 84 = .ok (.new 54, 3) := by decide +kernel
theorem dX10_init_87 : decode cX10_init 87 = .ok (.dup, 1) := by decide +kernel
theorem dX10_init_88 : decode cX10_init 88 = .ok (.invokespecial 56, 3) := by decide +kernel
theorem dX10_init_91 : decode cX10_init 91 = .ok (.putfield 57, 3) := by decide +kernel
theorem dX10_init_94 : decode cX10_init 94 = .ok (.aload_n 0, 1) := by decide +kernel
theorem dX10_init_95 : decode cX10_init 95 = .ok (.new 61, 3) := by decide +kernel
theorem dX10_init_98 : decode cX10_init 98 = .ok (.dup, 1) := by decide +kernel
theorem dX10_init_99 : decode cX10_init 99 = .ok (.invokespecial 63, 3) := by decide +kernel
theorem dX10_init_102 : decode cX10_init 102 = .ok (.putfield 64, 3) := by decide +kernel
theorem dX10_init_105 : decode cX10_init 105 = .ok (.aload_n 0, 1) := by decide +kernel
theorem dX10_init_106 : decode cX10_init 106 = .ok (.new 68, 3) := by decide +kernel
theorem dX10_init_109 : decode cX10_init 109 = .ok (.dup, 1) := by decide +kernel
theorem dX10_init_110 : decode cX10_init 110 = .ok (.invokespecial 70, 3) := by decide +kernel
theorem dX10_init_113 : decode cX10_init 113 = .ok (.putfield 71, 3) := by decide +kernel
theorem dX10_init_116 : decode cX10_init 116 = .ok (.aload_n 0, 1) := by decide +kernel
theorem dX10_init_117 : decode cX10_init 117 = .ok (.new 75, 3) := by decide +kernel
theorem dX10_init_120 : decode cX10_init 120 = .ok (.dup, 1) := by decide +kernel
theorem dX10_init_121 : decode cX10_init 121 = .ok (.invokespecial 77, 3) := by decide +kernel
theorem dX10_init_124 : decode cX10_init 124 = .ok (.putfield 78, 3) := by decide +kernel
theorem dX10_init_127 : decode cX10_init 127 = .ok (.aload_n 0, 1) := by decide +kernel
theorem dX10_init_128 : decode cX10_init 128 = .ok (.new 27, 3) := by decide +kernel
theorem dX10_init_131 : decode cX10_init 131 = .ok (.dup, 1) := by decide +kernel
theorem dX10_init_132 : decode cX10_init 132 = .ok (.invokespecial 82, 3) := by decide +kernel
theorem dX10_init_135 : decode cX10_init 135 = .ok (.putfield 83, 3) := by decide +kernel
theorem dX10_init_138 : decode cX10_init 138 = .ok (.iconst 0, 1) := by decide +kernel
theorem dX10_init_139 : decode cX10_init 139 = .ok (.istore_n 1, 1) := by decide +kernel
theorem dX10_init_140 : decode cX10_init 140 = .ok (.iload_n 1, 1) := by decide +kernel
theorem dX10_init_141 : decode cX10_init 141 = .ok (.iconst 2, 1) := by decide +kernel
theorem dX10_init_142 : decode cX10_init 142 = .ok (.if_icmp .ge 22, 3) := by decide +kernel
theorem dX10_init_145 : decode cX10_init 145 = .ok (.aload_n 0, 1) := by decide +kernel
theorem dX10_init_146 : decode cX10_init 146 = .ok (.getfield 11, 3) := by decide +kernel
theorem dX10_init_149 : decode cX10_init 149 = .ok (.iload_n 1, 1) := by decide +kernel
theorem dX10_init_150 : decode cX10_init 150 = .ok (.new 9, 3) := by decide +kernel
theorem dX10_init_153 : decode cX10_init 153 = .ok (.dup, 1) := by decide +kernel
theorem dX10_init_154 : decode cX10_init 154 = .ok (.invokespecial 87, 3) := by decide +kernel
theorem dX10_init_157 : decode cX10_init 157 = .ok (.aastore, 1) := by decide +kernel
theorem dX10_init_158 : decode cX10_init 158 = .ok (.iinc 1 1, 3) := by decide +kernel
theorem dX10_init_161 : decode cX10_init 161 = .ok (.goto (-21), 3) := by decide +kernel
theorem dX10_init_164 : decode cX10_init 164 = .ok (.iconst 0, 1) := by decide +kernel
theorem dX10_init_165 : decode cX10_init 165 = .ok (.istore_n 1, 1) := by decide +kernel
theorem dX10_init_166 : decode cX10_init 166 = .ok (.iload_n 1, 1) := by decide +kernel
theorem dX10_init_167 : decode cX10_init 167 = .ok (.bipush 15, 2) := by decide +kernel
theorem dX10_init_169 : decode cX10_init 169 = .ok (.if_icmp .ge 35, 3) := by decide +kernel
theorem dX10_init_172 : decode cX10_init 172 = .ok (.aload_n 0, 1) := by decide +kernel
theorem dX10_init_173 : decode cX10_init 173 = .ok (.getfield 29, 3) := by decide +kernel
theorem dX10_init_176 : decode cX10_init 176 = .ok (.iload_n 1, 1) := by decide +kernel
theorem dX10_init_177 : decode cX10_init 177 = .ok (.new 27, 3) := by decide +kernel
theorem dX10_init_180 : decode cX10_init 180 = .ok (.dup, 1) := by decide +kernel
theorem dX10_init_181 : decode cX10_init 181 = .ok (.invokespecial 82, 3) := by decide +kernel
theorem dX10_init_184 : decode cX10_init 184 = .ok (.aastore, 1) := by decide +kernel
theorem dX10_init_185 : decode cX10_init 185 = .ok (.aload_n 0, 1) := by decide +kernel
theorem dX10_init_186 : decode cX10_init 186 = .ok (.getfield 33, 3) := by decide +kernel
theorem dX10_init_189 : decode cX10_init 189 = .ok (.iload_n 1, 1) := by decide +kernel
theorem dX10_init_190 : decode cX10_init 190 = .ok (.new 27, 3) := by decide +kernel
theorem dX10_init_193 : decode cX10_init 193 = .ok (.dup, 1) := by decide +kernel
theorem dX10_init_194 : decode cX10_init 194 = .ok (.invokespecial 82, 3) := by decide +kernel
theorem dX10_init_197 : decode cX10_init 197 = .ok (.aastore, 1) := by decide +kernel
theorem dX10_init_198 : decode cX10_init 198 = .ok (.iinc 1 1, 3) := by decide +kernel
theorem dX10_init_201 : decode cX10_init 201 = .ok (.goto (-35), 3) := by decide +kernel
theorem dX10_init_204 : decode cX10_init 204 = .ok (.return_, 1) := by decide +kernel
theorem dX10_night_0 : decode cX10_night 0 = .ok (.iload_n 1, 1) := by decide +kernel
theorem dX10_night_1 : decode cX10_night 1 = .ok (.invokestatic 88, 3) := by decide +kernel
theorem dX10_night_4 : decode cX10_night 4 = .ok (.ifCond .eq 27, 3) := by decide +kernel
theorem dX10_night_7 : decode cX10_night 7 = .ok (.iload_n 2, 1) := by decide +kernel
theorem dX10_night_8 : decode cX10_night 8 = .ok (.ifCond .lt 23, 3) := by decide +kernel
theorem dX10_night_11 : decode cX10_night 11 = .ok (.iload_n 3, 1) := by decide +kernel
theorem dX10_night_12 : decode cX10_night 12 = .ok (.iload_n 2, 1) := by decide +kernel
theorem dX10_night_13 : decode cX10_night 13 = .ok (.if_icmp .lt 18, 3) := by decide +kernel
theorem dX10_night_16 : decode cX10_night 16 = .ok (.iload_n 3, 1) := by decide +kernel
theorem dX10_night_17 : decode cX10_night 17 = .ok (.sipush 360, 3) := by decide +kernel
theorem dX10_night_20 : decode cX10_night 20 = .ok (.if_icmp .ge 11, 3) := by decide +kernel
theorem dX10_night_23 : decode cX10_night 23 = .ok (.iload 4, 2) := by decide +kernel
theorem dX10_night_25 : decode cX10_night 25 = .ok (.invokestatic 92, 3) := by decide +kernel
theorem dX10_night_28 : decode cX10_night 28 = .ok (.ifCond .ne 5, 3) := by decide +kernel
theorem dX10_night_31 : decode cX10_night 31 = .ok (.iconst 0, 1) := by decide +kernel
theorem dX10_night_32 : decode cX10_night 32 = .ok (.ireturn, 1) := by decide +kernel
theorem dX10_night_33 : decode cX10_night 33 = .ok (.aload_n 0, 1) := by decide +kernel
theorem dX10_night_34 : decode cX10_night 34 = .ok (.getfield 11, 3) := by decide +kernel
theorem dX10_night_37 : decode cX10_night 37 = .ok (.iload_n 1, 1) := by decide +kernel
theorem dX10_night_38 : decode cX10_night 38 = .ok (.aaload, 1) := by decide +kernel
theorem dX10_night_39 : decode cX10_night 39 = .ok (.iload_n 2, 1) := by decide +kernel
theorem dX10_night_40 : decode cX10_night 40 = .ok (.iload_n 3, 1) := by decide +kernel
theorem dX10_night_41 : decode cX10_night 41 = .ok (.iload 4, 2) := by decide +kernel
theorem dX10_night_43 : decode cX10_night 43 = .ok (.invokevirtual 95, 3) := by decide +kernel
theorem dX10_night_46 : decode cX10_night 46 = .ok (.iconst 1, 1) := by decide +kernel
theorem dX10_night_47 : decode cX10_night 47 = .ok (.ireturn, 1) := by decide +kernel
theorem dX10_home_0 : decode cX10_home 0 = .ok (.iload_n 1, 1) := by decide +kernel
theorem dX10_home_1 : decode cX10_home 1 = .ok (.invokestatic 88, 3) := by decide +kernel
theorem dX10_home_4 : decode cX10_home 4 = .ok (.ifCond .eq 10, 3) := by decide +kernel
theorem dX10_home_7 : decode cX10_home 7 = .ok (.iload_n 2, 1) := by decide +kernel
theorem dX10_home_8 : decode cX10_home 8 = .ok (.invokestatic 99, 3) := by decide +kernel
theorem dX10_home_11 : decode cX10_home 11 = .ok (.ifCond .ne 5, 3) := by decide +kernel
theorem dX10_home_14 : decode cX10_home 14 = .ok (.iconst 0, 1) := by decide +kernel
theorem dX10_home_15 : decode cX10_home 15 = .ok (.ireturn, 1) := by decide +kernel
theorem dX10_home_16 : decode cX10_home 16 = .ok (.aload_n 0, 1) := by decide +kernel
theorem dX10_home_17 : decode cX10_home 17 = .ok (.getfield 11, 3) := by decide +kernel
theorem dX10_home_20 : decode cX10_home 20 = .ok (.iload_n 1, 1) := by decide +kernel
theorem dX10_home_21 : decode cX10_home 21 = .ok (.aaload, 1) := by decide +kernel
theorem dX10_home_22 : decode cX10_home 22 = .ok (.getfield 102, 3) := by decide +kernel
theorem dX10_home_25 : decode cX10_home 25 = .ok (.astore 4, 2) := by decide +kernel
theorem dX10_home_27 : decode cX10_home 27 = .ok (.aload 4, 2) := by decide +kernel
theorem dX10_home_29 : decode cX10_home 29 = .ok (.iload_n 3, 1) := by decide +kernel
theorem dX10_home_30 : decode cX10_home 30 = .ok (.ifCond .eq 15, 3) := by decide +kernel
theorem dX10_home_33 : decode cX10_home 33 = .ok (.aload 4, 2) := by decide +kernel
theorem dX10_home_35 : decode cX10_home 35 = .ok (.getfield 105, 3) := by decide +kernel
theorem dX10_home_38 : decode cX10_home 38 = .ok (.iconst 1, 1) := by decide +kernel
theorem dX10_home_39 : decode cX10_home 39 = .ok (.iload_n 2, 1) := by decide +kernel
theorem dX10_home_40 : decode cX10_home 40 = .ok (.ishl, 1) := by decide +kernel
theorem dX10_home_41 : decode cX10_home 41 = .ok (.ior, 1) := by decide +kernel
theorem dX10_home_42 : decode cX10_home 42 = .ok (.goto 14, 3) := by decide +kernel
theorem dX10_home_45 : decode cX10_home 45 = .ok (.aload 4, 2) := by decide +kernel
theorem dX10_home_47 : decode cX10_home 47 = .ok (.getfield 105, 3) := by decide +kernel
theorem dX10_home_50 : decode cX10_home 50 = .ok (.iconst 1, 1) := by decide +kernel
theorem dX10_home_51 : decode cX10_home 51 = .ok (.iload_n 2, 1) := by decide +kernel
theorem dX10_home_52 : decode cX10_home 52 = .ok (.ishl, 1) := by decide +kernel
theorem dX10_home_53 : decode cX10_home 53 = .ok (.iconst (-1), 1) := by decide +kernel
theorem dX10_home_54 : decode cX10_home 54 = .ok (.ixor, 1) := by decide +kernel
theorem dX10_home_55 : decode cX10_home 55 = .ok (.iand, 1) := by decide +kernel
theorem dX10_home_56 : decode cX10_home 56 = .ok (.putfield 105, 3) := by decide +kernel
theorem dX10_home_59 : decode cX10_home 59 = .ok (.iconst 1, 1) := by decide +kernel
theorem dX10_home_60 : decode cX10_home 60 = .ok (.ireturn, 1) := by decide +kernel
theorem dX10_tie_0 : decode cX10_tie 0 = .ok (.iload_n 1, 1) := by decide +kernel
theorem dX10_tie_1 : decode cX10_tie 1 = .ok (.invokestatic 88, 3) := by decide +kernel
theorem dX10_tie_4 : decode cX10_tie 4 = .ok (.ifCond .eq 19, 3) := by decide +kernel
theorem dX10_tie_7 : decode cX10_tie 7 = .ok (.iload_n 3, 1) := by decide +kernel
theorem dX10_tie_8 : decode cX10_tie 8 = .ok (.invokestatic 92, 3) := by decide +kernel
theorem dX10_tie_11 : decode cX10_tie 11 = .ok (.ifCond .eq 12, 3) := by decide +kernel
theorem dX10_tie_14 : decode cX10_tie 14 = .ok (.iload_n 2, 1) := by decide +kernel
theorem dX10_tie_15 : decode cX10_tie 15 = .ok (.ifCond .lt 8, 3) := by decide +kernel
theorem dX10_tie_18 : decode cX10_tie 18 = .ok (.iload_n 2, 1) := by decide +kernel
theorem dX10_tie_19 : decode cX10_tie 19 = .ok (.iconst 1, 1) := by decide +kernel
theorem dX10_tie_20 : decode cX10_tie 20 = .ok (.if_icmp .le 5, 3) := by decide +kernel
theorem dX10_tie_23 : decode cX10_tie 23 = .ok (.iconst 0, 1) := by decide +kernel
theorem dX10_tie_24 : decode cX10_tie 24 = .ok (.ireturn, 1) := by decide +kernel
theorem dX10_tie_25 : decode cX10_tie 25 = .ok (.iload_n 2, 1) := by decide +kernel
theorem dX10_tie_26 : decode cX10_tie 26 = .ok (.ifCond .ne 19, 3) := by decide +kernel
theorem dX10_tie_29 : decode cX10_tie 29 = .ok (.aload_n 0, 1) := by decide +kernel
theorem dX10_tie_30 : decode cX10_tie 30 = .ok (.getfield 11, 3) := by decide +kernel
theorem dX10_tie_33 : decode cX10_tie 33 = .ok (.iload_n 1, 1) := by decide +kernel
theorem dX10_tie_34 : decode cX10_tie 34 = .ok (.aaload, 1) := by decide +kernel
theorem dX10_tie_35 : decode cX10_tie 35 = .ok (.getfield 102, 3) := by decide +kernel
theorem dX10_tie_38 : decode cX10_tie 38 = .ok (.iload_n 3, 1) := by decide +kernel
theorem dX10_tie_39 : decode cX10_tie 39 = .ok (.putfield 109, 3) := by decide +kernel
theorem dX10_tie_42 : decode cX10_tie 42 = .ok (.goto 16, 3) := by decide +kernel
theorem dX10_tie_45 : decode cX10_tie 45 = .ok (.aload_n 0, 1) := by decide +kernel
theorem dX10_tie_46 : decode cX10_tie 46 = .ok (.getfield 11, 3) := by decide +kernel
theorem dX10_tie_49 : decode cX10_tie 49 = .ok (.iload_n 1, 1) := by decide +kernel
theorem dX10_tie_50 : decode cX10_tie 50 = .ok (.aaload, 1) := by decide +kernel
theorem dX10_tie_51 : decode cX10_tie 51 = .ok (.getfield 102, 3) := by decide +kernel
theorem dX10_tie_54 : decode cX10_tie 54 = .ok (.iload_n 3, 1) := by decide +kernel
theorem dX10_tie_55 : decode cX10_tie 55 = .ok (.putfield 112, 3) := by decide +kernel
theorem dX10_tie_58 : decode cX10_tie 58 = .ok (.iconst 1, 1) := by decide +kernel
theorem dX10_tie_59 : decode cX10_tie 59 = .ok (.ireturn, 1) := by decide +kernel
theorem dX10_sum_0 : decode cX10_sum 0 = .ok (.iload_n 1, 1) := by decide +kernel
theorem dX10_sum_1 : decode cX10_sum 1 = .ok (.invokestatic 88, 3) := by decide +kernel
theorem dX10_sum_4 : decode cX10_sum 4 = .ok (.ifCond .eq 27, 3) := by decide +kernel
theorem dX10_sum_7 : decode cX10_sum 7 = .ok (.iload_n 2, 1) := by decide +kernel
theorem dX10_sum_8 : decode cX10_sum 8 = .ok (.ifCond .lt 23, 3) := by decide +kernel
theorem dX10_sum_11 : decode cX10_sum 11 = .ok (.iload_n 2, 1) := by decide +kernel
theorem dX10_sum_12 : decode cX10_sum 12 = .ok (.bipush 6, 2) := by decide +kernel
theorem dX10_sum_14 : decode cX10_sum 14 = .ok (.if_icmp .ge 17, 3) := by decide +kernel
theorem dX10_sum_17 : decode cX10_sum 17 = .ok (.iload_n 2, 1) := by decide +kernel
theorem dX10_sum_18 : decode cX10_sum 18 = .ok (.iconst 5, 1) := by decide +kernel
theorem dX10_sum_19 : decode cX10_sum 19 = .ok (.if_icmp .ne 14, 3) := by decide +kernel
theorem dX10_sum_22 : decode cX10_sum 22 = .ok (.iload_n 3, 1) := by decide +kernel
theorem dX10_sum_23 : decode cX10_sum 23 = .ok (.ifCond .lt 8, 3) := by decide +kernel
theorem dX10_sum_26 : decode cX10_sum 26 = .ok (.iload_n 3, 1) := by decide +kernel
theorem dX10_sum_27 : decode cX10_sum 27 = .ok (.iconst 5, 1) := by decide +kernel
theorem dX10_sum_28 : decode cX10_sum 28 = .ok (.if_icmp .lt 5, 3) := by decide +kernel
theorem dX10_sum_31 : decode cX10_sum 31 = .ok (.iconst (-1), 1) := by decide +kernel
theorem dX10_sum_32 : decode cX10_sum 32 = .ok (.ireturn, 1) := by decide +kernel
theorem dX10_sum_33 : decode cX10_sum 33 = .ok (.aload_n 0, 1) := by decide +kernel
theorem dX10_sum_34 : decode cX10_sum 34 = .ok (.getfield 11, 3) := by decide +kernel
theorem dX10_sum_37 : decode cX10_sum 37 = .ok (.iload_n 1, 1) := by decide +kernel
theorem dX10_sum_38 : decode cX10_sum 38 = .ok (.aaload, 1) := by decide +kernel
theorem dX10_sum_39 : decode cX10_sum 39 = .ok (.astore 7, 2) := by decide +kernel
theorem dX10_sum_41 : decode cX10_sum 41 = .ok (.iload 4, 2) := by decide +kernel
theorem dX10_sum_43 : decode cX10_sum 43 = .ok (.iconst 1, 1) := by decide +kernel
theorem dX10_sum_44 : decode cX10_sum 44 = .ok (.if_icmp .lt 36, 3) := by decide +kernel
theorem dX10_sum_47 : decode cX10_sum 47 = .ok (.iload 4, 2) := by decide +kernel
theorem dX10_sum_49 : decode cX10_sum 49 = .ok (.ldc 115, 2) := by decide +kernel
theorem dX10_sum_51 : decode cX10_sum 51 = .ok (.if_icmp .gt 29, 3) := by decide +kernel
theorem dX10_sum_54 : decode cX10_sum 54 = .ok (.iload 5, 2) := by decide +kernel
theorem dX10_sum_56 : decode cX10_sum 56 = .ok (.invokestatic 99, 3) := by decide +kernel
theorem dX10_sum_59 : decode cX10_sum 59 = .ok (.ifCond .eq 21, 3) := by decide +kernel
theorem dX10_sum_62 : decode cX10_sum 62 = .ok (.iload 6, 2) := by decide +kernel
theorem dX10_sum_64 : decode cX10_sum 64 = .ok (.invokestatic 99, 3) := by decide +kernel
theorem dX10_sum_67 : decode cX10_sum 67 = .ok (.ifCond .eq 13, 3) := by decide +kernel
theorem dX10_sum_70 : decode cX10_sum 70 = .ok (.aload 7, 2) := by decide +kernel
theorem dX10_sum_72 : decode cX10_sum 72 = .ok (.getfield 116, 3) := by decide +kernel
theorem dX10_sum_75 : decode cX10_sum 75 = .ok (.bipush 12, 2) := by decide +kernel
theorem dX10_sum_77 : decode cX10_sum 77 = .ok (.if_icmp .lt 5, 3) := by decide +kernel
theorem dX10_sum_80 : decode cX10_sum 80 = .ok (.iconst (-1), 1) := by decide +kernel
theorem dX10_sum_81 : decode cX10_sum 81 = .ok (.ireturn, 1) := by decide +kernel
theorem dX10_sum_82 : decode cX10_sum 82 = .ok (.aload 7, 2) := by decide +kernel
theorem dX10_sum_84 : decode cX10_sum 84 = .ok (.getfield 119, 3) := by decide +kernel
theorem dX10_sum_87 : decode cX10_sum 87 = .ok (.aload 7, 2) := by decide +kernel
theorem dX10_sum_89 : decode cX10_sum 89 = .ok (.getfield 116, 3) := by decide +kernel
theorem dX10_sum_92 : decode cX10_sum 92 = .ok (.aaload, 1) := by decide +kernel
theorem dX10_sum_93 : decode cX10_sum 93 = .ok (.astore 8, 2) := by decide +kernel
theorem dX10_sum_95 : decode cX10_sum 95 = .ok (.aload 8, 2) := by decide +kernel
theorem dX10_sum_97 : decode cX10_sum 97 = .ok (.iload_n 2, 1) := by decide +kernel
theorem dX10_sum_98 : decode cX10_sum 98 = .ok (.putfield 123, 3) := by decide +kernel
theorem dX10_sum_101 : decode cX10_sum 101 = .ok (.aload 8, 2) := by decide +kernel
theorem dX10_sum_103 : decode cX10_sum 103 = .ok (.iload_n 2, 1) := by decide +kernel
theorem dX10_sum_104 : decode cX10_sum 104 = .ok (.iconst 5, 1) := by decide +kernel
theorem dX10_sum_105 : decode cX10_sum 105 = .ok (.if_icmp .ne 7, 3) := by decide +kernel
theorem dX10_sum_108 : decode cX10_sum 108 = .ok (.iload_n 3, 1) := by decide +kernel
theorem dX10_sum_109 : decode cX10_sum 109 = .ok (.goto 4, 3) := by decide +kernel
theorem dX10_sum_112 : decode cX10_sum 112 = .ok (.iload_n 2, 1) := by decide +kernel
theorem dX10_sum_113 : decode cX10_sum 113 = .ok (.putfield 126, 3) := by decide +kernel
theorem dX10_sum_116 : decode cX10_sum 116 = .ok (.aload 8, 2) := by decide +kernel
theorem dX10_sum_118 : decode cX10_sum 118 = .ok (.iload 4, 2) := by decide +kernel
theorem dX10_sum_120 : decode cX10_sum 120 = .ok (.putfield 129, 3) := by decide +kernel
theorem dX10_sum_123 : decode cX10_sum 123 = .ok (.aload 8, 2) := by decide +kernel
theorem dX10_sum_125 : decode cX10_sum 125 = .ok (.iload 5, 2) := by decide +kernel
theorem dX10_sum_127 : decode cX10_sum 127 = .ok (.putfield 132, 3) := by decide +kernel
theorem dX10_sum_130 : decode cX10_sum 130 = .ok (.aload 8, 2) := by decide +kernel
theorem dX10_sum_132 : decode cX10_sum 132 = .ok (.iload 6, 2) := by decide +kernel
theorem dX10_sum_134 : decode cX10_sum 134 = .ok (.putfield 135, 3) := by decide +kernel
theorem dX10_sum_137 : decode cX10_sum 137 = .ok (.aload 7, 2) := by decide +kernel
theorem dX10_sum_139 : decode cX10_sum 139 = .ok (.dup, 1) := by decide +kernel
theorem dX10_sum_140 : decode cX10_sum 140 = .ok (.getfield 116, 3) := by decide +kernel
theorem dX10_sum_143 : decode cX10_sum 143 = .ok (.iconst 1, 1) := by decide +kernel
theorem dX10_sum_144 : decode cX10_sum 144 = .ok (.iadd, 1) := by decide +kernel
theorem dX10_sum_145 : decode cX10_sum 145 = .ok (.putfield 116, 3) := by decide +kernel
theorem dX10_sum_148 : decode cX10_sum 148 = .ok (.aload 7, 2) := by decide +kernel
theorem dX10_sum_150 : decode cX10_sum 150 = .ok (.getfield 116, 3) := by decide +kernel
theorem dX10_sum_153 : decode cX10_sum 153 = .ok (.iconst 1, 1) := by decide +kernel
theorem dX10_sum_154 : decode cX10_sum 154 = .ok (.isub, 1) := by decide +kernel
theorem dX10_sum_155 : decode cX10_sum 155 = .ok (.ireturn, 1) := by decide +kernel
theorem dX10_feed_0 : decode cX10_feed 0 = .ok (.aload_n 0, 1) := by decide +kernel
theorem dX10_feed_1 : decode cX10_feed 1 = .ok (.getfield 138, 3) := by decide +kernel
theorem dX10_feed_4 : decode cX10_feed 4 = .ok (.bipush 20, 2) := by decide +kernel
theorem dX10_feed_6 : decode cX10_feed 6 = .ok (.iadd, 1) := by decide +kernel
theorem dX10_feed_7 : decode cX10_feed 7 = .ok (.sipush 600, 3) := by decide +kernel
theorem dX10_feed_10 : decode cX10_feed 10 = .ok (.if_icmp .le 5, 3) := by decide +kernel
theorem dX10_feed_13 : decode cX10_feed 13 = .ok (.iconst (-1), 1) := by decide +kernel
theorem dX10_feed_14 : decode cX10_feed 14 = .ok (.ireturn, 1) := by decide +kernel
theorem dX10_feed_15 : decode cX10_feed 15 = .ok (.aload_n 0, 1) := by decide +kernel
theorem dX10_feed_16 : decode cX10_feed 16 = .ok (.iload_n 1, 1) := by decide +kernel
theorem dX10_feed_17 : decode cX10_feed 17 = .ok (.invokevirtual 141, 3) := by decide +kernel
theorem dX10_feed_20 : decode cX10_feed 20 = .ok (.aload_n 0, 1) := by decide +kernel
theorem dX10_feed_21 : decode cX10_feed 21 = .ok (.iload_n 2, 1) := by decide +kernel
theorem dX10_feed_22 : decode cX10_feed 22 = .ok (.invokevirtual 141, 3) := by decide +kernel
theorem dX10_feed_25 : decode cX10_feed 25 = .ok (.aload_n 0, 1) := by decide +kernel
theorem dX10_feed_26 : decode cX10_feed 26 = .ok (.iload_n 3, 1) := by decide +kernel
theorem dX10_feed_27 : decode cX10_feed 27 = .ok (.invokevirtual 141, 3) := by decide +kernel
theorem dX10_feed_30 : decode cX10_feed 30 = .ok (.aload_n 0, 1) := by decide +kernel
theorem dX10_feed_31 : decode cX10_feed 31 = .ok (.iload 4, 2) := by decide +kernel
theorem dX10_feed_33 : decode cX10_feed 33 = .ok (.invokevirtual 141, 3) := by decide +kernel
theorem dX10_feed_36 : decode cX10_feed 36 = .ok (.aload_n 0, 1) := by decide +kernel
theorem dX10_feed_37 : decode cX10_feed 37 = .ok (.iload 5, 2) := by decide +kernel
theorem dX10_feed_39 : decode cX10_feed 39 = .ok (.invokevirtual 141, 3) := by decide +kernel
theorem dX10_feed_42 : decode cX10_feed 42 = .ok (.aload_n 0, 1) := by decide +kernel
theorem dX10_feed_43 : decode cX10_feed 43 = .ok (.getfield 138, 3) := by decide +kernel
theorem dX10_feed_46 : decode cX10_feed 46 = .ok (.ireturn, 1) := by decide +kernel
theorem dX10_putBytes_0 : decode cX10_putBytes 0 = .ok (.bipush 24, 2) := by decide +kernel
theorem dX10_putBytes_2 : decode cX10_putBytes 2 = .ok (.istore_n 2, 1) := by decide +kernel
theorem dX10_putBytes_3 : decode cX10_putBytes 3 = .ok (.iload_n 2, 1) := by decide +kernel
theorem dX10_putBytes_4 : decode cX10_putBytes 4 = .ok (.ifCond .lt 45, 3) := by decide +kernel
theorem dX10_putBytes_7 : decode cX10_putBytes 7 = .ok (.aload_n 0, 1) := by decide +kernel
theorem dX10_putBytes_8 : decode cX10_putBytes 8 = .ok (.getfield 138, 3) := by decide +kernel
theorem dX10_putBytes_11 : decode cX10_putBytes 11 = .ok (.sipush 600, 3) := by decide +kernel
theorem dX10_putBytes_14 : decode cX10_putBytes 14 = .ok (.if_icmp .ge 35, 3) := by decide +kernel
theorem dX10_putBytes_17 : decode cX10_putBytes 17 = .ok (.aload_n 0, 1) := by decide +kernel
theorem dX10_putBytes_18 : decode cX10_putBytes 18 = .ok (.getfield 50, 3) := by decide +kernel
theorem dX10_putBytes_21 : decode cX10_putBytes 21 = .ok (.aload_n 0, 1) := by decide +kernel
theorem dX10_putBytes_22 : decode cX10_putBytes 22 = .ok (.getfield 138, 3) := by decide +kernel
theorem dX10_putBytes_25 : decode cX10_putBytes 25 = .ok (.iload_n 1, 1) := by decide +kernel
theorem dX10_putBytes_26 : decode cX10_putBytes 26 = .ok (.iload_n 2, 1) := by decide +kernel
theorem dX10_putBytes_27 : decode cX10_putBytes 27 = .ok (.iushr, 1) := by decide +kernel
theorem dX10_putBytes_28 : decode cX10_putBytes 28 = .ok (.sipush 255, 3) := by decide +kernel
theorem dX10_putBytes_31 : decode cX10_putBytes 31 = .ok (.iand, 1) := by decide +kernel
theorem dX10_putBytes_32 : decode cX10_putBytes 32 = .ok (.iastore, 1) := by decide +kernel
theorem dX10_putBytes_33 : decode cX10_putBytes 33 = .ok (.aload_n 0, 1) := by decide +kernel
theorem dX10_putBytes_34 : decode cX10_putBytes 34 = .ok (.dup, 1) := by decide +kernel
theorem dX10_putBytes_35 : decode cX10_putBytes 35 = .ok (.getfield 138, 3) := by decide +kernel
theorem dX10_putBytes_38 : decode cX10_putBytes 38 = .ok (.iconst 1, 1) := by decide +kernel
theorem dX10_putBytes_39 : decode cX10_putBytes 39 = .ok (.iadd, 1) := by decide +kernel
theorem dX10_putBytes_40 : decode cX10_putBytes 40 = .ok (.putfield 138, 3) := by decide +kernel
theorem dX10_putBytes_43 : decode cX10_putBytes 43 = .ok (.iinc 2 (-8), 3) := by decide +kernel
theorem dX10_putBytes_46 : decode cX10_putBytes 46 = .ok (.goto (-43), 3) := by decide +kernel
theorem dX10_putBytes_49 : decode cX10_putBytes 49 = .ok (.return_, 1) := by decide +kernel
theorem dX10_end_0 : decode cX10_end 0 = .ok (.iload_n 1, 1) := by decide +kernel
theorem dX10_end_1 : decode cX10_end 1 = .ok (.ifCond .lt 11, 3) := by decide +kernel
theorem dX10_end_4 : decode cX10_end 4 = .ok (.iload_n 1, 1) := by decide +kernel
theorem dX10_end_5 : decode cX10_end 5 = .ok (.aload_n 0, 1) := by decide +kernel
theorem dX10_end_6 : decode cX10_end 6 = .ok (.getfield 138, 3) := by decide +kernel
theorem dX10_end_9 : decode cX10_end 9 = .ok (.if_icmp .le 5, 3) := by decide +kernel
theorem dX10_end_12 : decode cX10_end 12 = .ok (.iconst 0, 1) := by decide +kernel
theorem dX10_end_13 : decode cX10_end 13 = .ok (.ireturn, 1) := by decide +kernel
theorem dX10_end_14 : decode cX10_end 14 = .ok (.aload_n 0, 1) := by decide +kernel
theorem dX10_end_15 : decode cX10_end 15 = .ok (.iload_n 1, 1) := by decide +kernel
theorem dX10_end_16 : decode cX10_end 16 = .ok (.putfield 138, 3) := by decide +kernel
theorem dX10_end_19 : decode cX10_end 19 = .ok (.iconst 1, 1) := by decide +kernel
theorem dX10_end_20 : decode cX10_end 20 = .ok (.ireturn, 1) := by decide +kernel
theorem dX10_text_0 : decode cX10_text 0 = .ok (.aload_n 0, 1) := by decide +kernel
theorem dX10_text_1 : decode cX10_text 1 = .ok (.getfield 138, 3) := by decide +kernel
theorem dX10_text_4 : decode cX10_text 4 = .ok (.istore_n 3, 1) := by decide +kernel
theorem dX10_text_5 : decode cX10_text 5 = .ok (.aload_n 0, 1) := by decide +kernel
theorem dX10_text_6 : decode cX10_text 6 = .ok (.iconst 0, 1) := by decide +kernel
theorem dX10_text_7 : decode cX10_text 7 = .ok (.putfield 138, 3) := by decide +kernel
theorem dX10_text_10 : decode cX10_text 10 = .ok (.aload_n 0, 1) := by decide +kernel
theorem dX10_text_11 : decode cX10_text 11 = .ok (.getfield 57, 3) := by decide +kernel
theorem dX10_text_14 : decode cX10_text 14 = .ok (.invokevirtual 145, 3) := by decide +kernel
theorem dX10_text_17 : decode cX10_text 17 = .ok (.iconst (-1), 1) := by decide +kernel
theorem dX10_text_18 : decode cX10_text 18 = .ok (.istore 4, 2) := by decide +kernel
theorem dX10_text_20 : decode cX10_text 20 = .ok (.iload_n 1, 1) := by decide +kernel
theorem dX10_text_21 : decode cX10_text 21 = .ok (.invokestatic 99, 3) := by decide +kernel
theorem dX10_text_24 : decode cX10_text 24 = .ok (.ifCond .eq 59, 3) := by decide +kernel
theorem dX10_text_27 : decode cX10_text 27 = .ok (.iload_n 2, 1) := by decide +kernel
theorem dX10_text_28 : decode cX10_text 28 = .ok (.iconst (-1), 1) := by decide +kernel
theorem dX10_text_29 : decode cX10_text 29 = .ok (.if_icmp .ne 54, 3) := by decide +kernel
theorem dX10_text_32 : decode cX10_text 32 = .ok (.aload_n 0, 1) := by decide +kernel
theorem dX10_text_33 : decode cX10_text 33 = .ok (.getfield 57, 3) := by decide +kernel
theorem dX10_text_36 : decode cX10_text 36 = .ok (.aload_n 0, 1) := by decide +kernel
theorem dX10_text_37 : decode cX10_text 37 = .ok (.getfield 50, 3) := by decide +kernel
theorem dX10_text_40 : decode cX10_text 40 = .ok (.iload_n 3, 1) := by decide +kernel
theorem dX10_text_41 : decode cX10_text 41 = .ok (.aload_n 0, 1) := by decide +kernel
theorem dX10_text_42 : decode cX10_text 42 = .ok (.getfield 78, 3) := by decide +kernel
theorem dX10_text_45 : decode cX10_text 45 = .ok (.invokevirtual 148, 3) := by decide +kernel
theorem dX10_text_48 : decode cX10_text 48 = .ok (.istore 4, 2) := by decide +kernel
theorem dX10_text_50 : decode cX10_text 50 = .ok (.iload 4, 2) := by decide +kernel
theorem dX10_text_52 : decode cX10_text 52 = .ok (.iconst (-1), 1) := by decide +kernel
theorem dX10_text_53 : decode cX10_text 53 = .ok (.if_icmp .eq 105, 3) := by decide +kernel
theorem dX10_text_56 : decode cX10_text 56 = .ok (.aload_n 0, 1) := by decide +kernel
theorem dX10_text_57 : decode cX10_text 57 = .ok (.getfield 26, 3) := by decide +kernel
theorem dX10_text_60 : decode cX10_text 60 = .ok (.iload_n 1, 1) := by decide +kernel
theorem dX10_text_61 : decode cX10_text 61 = .ok (.aaload, 1) := by decide +kernel
theorem dX10_text_62 : decode cX10_text 62 = .ok (.astore 5, 2) := by decide +kernel
theorem dX10_text_64 : decode cX10_text 64 = .ok (.aload_n 0, 1) := by decide +kernel
theorem dX10_text_65 : decode cX10_text 65 = .ok (.getfield 26, 3) := by decide +kernel
theorem dX10_text_68 : decode cX10_text 68 = .ok (.iload_n 1, 1) := by decide +kernel
theorem dX10_text_69 : decode cX10_text 69 = .ok (.aload_n 0, 1) := by decide +kernel
theorem dX10_text_70 : decode cX10_text 70 = .ok (.getfield 78, 3) := by decide +kernel
theorem dX10_text_73 : decode cX10_text 73 = .ok (.aastore, 1) := by decide +kernel
theorem dX10_text_74 : decode cX10_text 74 = .ok (.aload_n 0, 1) := by decide +kernel
theorem dX10_text_75 : decode cX10_text 75 = .ok (.aload 5, 2) := by decide +kernel
theorem dX10_text_77 : decode cX10_text 77 = .ok (.putfield 78, 3) := by decide +kernel
theorem dX10_text_80 : decode cX10_text 80 = .ok (.goto 78, 3) := by decide +kernel
theorem dX10_text_83 : decode cX10_text 83 = .ok (.iload_n 1, 1) := by decide +kernel
theorem dX10_text_84 : decode cX10_text 84 = .ok (.invokestatic 99, 3) := by decide +kernel
theorem dX10_text_87 : decode cX10_text 87 = .ok (.ifCond .eq 71, 3) := by decide +kernel
theorem dX10_text_90 : decode cX10_text 90 = .ok (.iload_n 2, 1) := by decide +kernel
theorem dX10_text_91 : decode cX10_text 91 = .ok (.invokestatic 99, 3) := by decide +kernel
theorem dX10_text_94 : decode cX10_text 94 = .ok (.ifCond .eq 64, 3) := by decide +kernel
theorem dX10_text_97 : decode cX10_text 97 = .ok (.iload_n 1, 1) := by decide +kernel
theorem dX10_text_98 : decode cX10_text 98 = .ok (.iload_n 2, 1) := by decide +kernel
theorem dX10_text_99 : decode cX10_text 99 = .ok (.if_icmp .ge 59, 3) := by decide +kernel
theorem dX10_text_102 : decode cX10_text 102 = .ok (.aload_n 0, 1) := by decide +kernel
theorem dX10_text_103 : decode cX10_text 103 = .ok (.getfield 57, 3) := by decide +kernel
theorem dX10_text_106 : decode cX10_text 106 = .ok (.aload_n 0, 1) := by decide +kernel
theorem dX10_text_107 : decode cX10_text 107 = .ok (.getfield 50, 3) := by decide +kernel
theorem dX10_text_110 : decode cX10_text 110 = .ok (.iload_n 3, 1) := by decide +kernel
theorem dX10_text_111 : decode cX10_text 111 = .ok (.aload_n 0, 1) := by decide +kernel
theorem dX10_text_112 : decode cX10_text 112 = .ok (.getfield 83, 3) := by decide +kernel
theorem dX10_text_115 : decode cX10_text 115 = .ok (.invokevirtual 152, 3) := by decide +kernel
theorem dX10_text_118 : decode cX10_text 118 = .ok (.istore 4, 2) := by decide +kernel
theorem dX10_text_120 : decode cX10_text 120 = .ok (.iload 4, 2) := by decide +kernel
theorem dX10_text_122 : decode cX10_text 122 = .ok (.iconst (-1), 1) := by decide +kernel
theorem dX10_text_123 : decode cX10_text 123 = .ok (.if_icmp .eq 35, 3) := by decide +kernel
theorem dX10_text_126 : decode cX10_text 126 = .ok (.aload_n 0, 1) := by decide +kernel
theorem dX10_text_127 : decode cX10_text 127 = .ok (.getfield 29, 3) := by decide +kernel
theorem dX10_text_130 : decode cX10_text 130 = .ok (.iload_n 1, 1) := by decide +kernel
theorem dX10_text_131 : decode cX10_text 131 = .ok (.iload_n 2, 1) := by decide +kernel
theorem dX10_text_132 : decode cX10_text 132 = .ok (.invokestatic 156, 3) := by decide +kernel
theorem dX10_text_135 : decode cX10_text 135 = .ok (.aaload, 1) := by decide +kernel
theorem dX10_text_136 : decode cX10_text 136 = .ok (.astore 5, 2) := by decide +kernel
theorem dX10_text_138 : decode cX10_text 138 = .ok (.aload_n 0, 1) := by decide +kernel
theorem dX10_text_139 : decode cX10_text 139 = .ok (.getfield 29, 3) := by decide +kernel
theorem dX10_text_142 : decode cX10_text 142 = .ok (.iload_n 1, 1) := by decide +kernel
theorem dX10_text_143 : decode cX10_text 143 = .ok (.iload_n 2, 1) := by decide +kernel
theorem dX10_text_144 : decode cX10_text 144 = .ok (.invokestatic 156, 3) := by decide +kernel
theorem dX10_text_147 : decode cX10_text 147 = .ok (.aload_n 0, 1) := by decide +kernel
theorem dX10_text_148 : decode cX10_text 148 = .ok (.getfield 83, 3) := by decide +kernel
theorem dX10_text_151 : decode cX10_text 151 = .ok (.aastore, 1) := by decide +kernel
theorem dX10_text_152 : decode cX10_text 152 = .ok (.aload_n 0, 1) := by decide +kernel
theorem dX10_text_153 : decode cX10_text 153 = .ok (.aload 5, 2) := by decide +kernel
theorem dX10_text_155 : decode cX10_text 155 = .ok (.putfield 83, 3) := by decide +kernel
theorem dX10_text_158 : decode cX10_text 158 = .ok (.iload 4, 2) := by decide +kernel
theorem dX10_text_160 : decode cX10_text 160 = .ok (.ireturn, 1) := by decide +kernel
theorem dX10_fault_0 : decode cX10_fault 0 = .ok (.iload_n 1, 1) := by decide +kernel
theorem dX10_fault_1 : decode cX10_fault 1 = .ok (.ifCond .ne 11, 3) := by decide +kernel
theorem dX10_fault_4 : decode cX10_fault 4 = .ok (.aload_n 0, 1) := by decide +kernel
theorem dX10_fault_5 : decode cX10_fault 5 = .ok (.getfield 57, 3) := by decide +kernel
theorem dX10_fault_8 : decode cX10_fault 8 = .ok (.getfield 160, 3) := by decide +kernel
theorem dX10_fault_11 : decode cX10_fault 11 = .ok (.ireturn, 1) := by decide +kernel
theorem dX10_fault_12 : decode cX10_fault 12 = .ok (.iload_n 1, 1) := by decide +kernel
theorem dX10_fault_13 : decode cX10_fault 13 = .ok (.iconst 1, 1) := by decide +kernel
theorem dX10_fault_14 : decode cX10_fault 14 = .ok (.if_icmp .ne 13, 3) := by decide +kernel
theorem dX10_fault_17 : decode cX10_fault 17 = .ok (.aload_n 0, 1) := by decide +kernel
theorem dX10_fault_18 : decode cX10_fault 18 = .ok (.getfield 57, 3) := by decide +kernel
theorem dX10_fault_21 : decode cX10_fault 21 = .ok (.getfield 163, 3) := by decide +kernel
theorem dX10_fault_24 : decode cX10_fault 24 = .ok (.goto 4, 3) := by decide +kernel
theorem dX10_fault_27 : decode cX10_fault 27 = .ok (.iconst (-1), 1) := by decide +kernel
theorem dX10_fault_28 : decode cX10_fault 28 = .ok (.ireturn, 1) := by decide +kernel
theorem dX10_of_0 : decode cX10_of 0 = .ok (.iload_n 1, 1) := by decide +kernel
theorem dX10_of_1 : decode cX10_of 1 = .ok (.invokestatic 88, 3) := by decide +kernel
theorem dX10_of_4 : decode cX10_of 4 = .ok (.ifCond .eq 20, 3) := by decide +kernel
theorem dX10_of_7 : decode cX10_of 7 = .ok (.iload_n 2, 1) := by decide +kernel
theorem dX10_of_8 : decode cX10_of 8 = .ok (.invokestatic 99, 3) := by decide +kernel
theorem dX10_of_11 : decode cX10_of 11 = .ok (.ifCond .eq 13, 3) := by decide +kernel
theorem dX10_of_14 : decode cX10_of 14 = .ok (.iload_n 3, 1) := by decide +kernel
theorem dX10_of_15 : decode cX10_of 15 = .ok (.ifCond .lt 9, 3) := by decide +kernel
theorem dX10_of_18 : decode cX10_of 18 = .ok (.iload_n 3, 1) := by decide +kernel
theorem dX10_of_19 : decode cX10_of 19 = .ok (.bipush 7, 2) := by decide +kernel
theorem dX10_of_21 : decode cX10_of 21 = .ok (.if_icmp .le 5, 3) := by decide +kernel
theorem dX10_of_24 : decode cX10_of 24 = .ok (.iconst (-1), 1) := by decide +kernel
theorem dX10_of_25 : decode cX10_of 25 = .ok (.ireturn, 1) := by decide +kernel
theorem dX10_of_26 : decode cX10_of 26 = .ok (.aload_n 0, 1) := by decide +kernel
theorem dX10_of_27 : decode cX10_of 27 = .ok (.iload_n 1, 1) := by decide +kernel
theorem dX10_of_28 : decode cX10_of 28 = .ok (.invokevirtual 166, 3) := by decide +kernel
theorem dX10_of_31 : decode cX10_of 31 = .ok (.aload_n 0, 1) := by decide +kernel
theorem dX10_of_32 : decode cX10_of 32 = .ok (.getfield 18, 3) := by decide +kernel
theorem dX10_of_35 : decode cX10_of 35 = .ok (.getfield 169, 3) := by decide +kernel
theorem dX10_of_38 : decode cX10_of 38 = .ok (.iload_n 2, 1) := by decide +kernel
theorem dX10_of_39 : decode cX10_of 39 = .ok (.aaload, 1) := by decide +kernel
theorem dX10_of_40 : decode cX10_of 40 = .ok (.astore 4, 2) := by decide +kernel
theorem dX10_of_42 : decode cX10_of 42 = .ok (.iload_n 3, 1) := by decide +kernel
theorem dX10_of_43 : decode cX10_of 43 = .ok (.iconst 4, 1) := by decide +kernel
theorem dX10_of_44 : decode cX10_of 44 = .ok (.if_icmp .gt 8, 3) := by decide +kernel
theorem dX10_of_47 : decode cX10_of 47 = .ok (.aload 4, 2) := by decide +kernel
theorem dX10_of_49 : decode cX10_of 49 = .ok (.iload_n 3, 1) := by decide +kernel
theorem dX10_of_50 : decode cX10_of 50 = .ok (.iaload, 1) := by decide +kernel
theorem dX10_of_51 : decode cX10_of 51 = .ok (.ireturn, 1) := by decide +kernel
theorem dX10_of_52 : decode cX10_of 52 = .ok (.iload_n 3, 1) := by decide +kernel
theorem dX10_of_53 : decode cX10_of 53 = .ok (.iconst 5, 1) := by decide +kernel
theorem dX10_of_54 : decode cX10_of 54 = .ok (.if_icmp .ne 24, 3) := by decide +kernel
theorem dX10_of_57 : decode cX10_of 57 = .ok (.aload_n 0, 1) := by decide +kernel
theorem dX10_of_58 : decode cX10_of 58 = .ok (.getfield 18, 3) := by decide +kernel
theorem dX10_of_61 : decode cX10_of 61 = .ok (.getfield 173, 3) := by decide +kernel
theorem dX10_of_64 : decode cX10_of 64 = .ok (.i2l, 1) := by decide +kernel
theorem dX10_of_65 : decode cX10_of 65 = .ok (.iload_n 2, 1) := by decide +kernel
theorem dX10_of_66 : decode cX10_of 66 = .ok (.invokestatic 176, 3) := by decide +kernel
theorem dX10_of_69 : decode cX10_of 69 = .ok (.ifCond .eq 7, 3) := by decide +kernel
theorem dX10_of_72 : decode cX10_of 72 = .ok (.iconst 1, 1) := by decide +kernel
theorem dX10_of_73 : decode cX10_of 73 = .ok (.goto 4, 3) := by decide +kernel
theorem dX10_of_76 : decode cX10_of 76 = .ok (.iconst 0, 1) := by decide +kernel
theorem dX10_of_77 : decode cX10_of 77 = .ok (.ireturn, 1) := by decide +kernel
theorem dX10_of_78 : decode cX10_of 78 = .ok (.iload_n 3, 1) := by decide +kernel
theorem dX10_of_79 : decode cX10_of 79 = .ok (.bipush 6, 2) := by decide +kernel
theorem dX10_of_81 : decode cX10_of 81 = .ok (.if_icmp .ne 24, 3) := by decide +kernel
theorem dX10_of_84 : decode cX10_of 84 = .ok (.aload_n 0, 1) := by decide +kernel
theorem dX10_of_85 : decode cX10_of 85 = .ok (.getfield 18, 3) := by decide +kernel
theorem dX10_of_88 : decode cX10_of 88 = .ok (.getfield 180, 3) := by decide +kernel
theorem dX10_of_91 : decode cX10_of 91 = .ok (.i2l, 1) := by decide +kernel
theorem dX10_of_92 : decode cX10_of 92 = .ok (.iload_n 2, 1) := by decide +kernel
theorem dX10_of_93 : decode cX10_of 93 = .ok (.invokestatic 176, 3) := by decide +kernel
theorem dX10_of_96 : decode cX10_of 96 = .ok (.ifCond .eq 7, 3) := by decide +kernel
theorem dX10_of_99 : decode cX10_of 99 = .ok (.iconst 1, 1) := by decide +kernel
theorem dX10_of_100 : decode cX10_of 100 = .ok (.goto 4, 3) := by decide +kernel
theorem dX10_of_103 : decode cX10_of 103 = .ok (.iconst 0, 1) := by decide +kernel
theorem dX10_of_104 : decode cX10_of 104 = .ok (.ireturn, 1) := by decide +kernel
theorem dX10_of_105 : decode cX10_of 105 = .ok (.aload_n 0, 1) := by decide +kernel
theorem dX10_of_106 : decode cX10_of 106 = .ok (.getfield 18, 3) := by decide +kernel
theorem dX10_of_109 : decode cX10_of 109 = .ok (.getfield 183, 3) := by decide +kernel
theorem dX10_of_112 : decode cX10_of 112 = .ok (.iload_n 2, 1) := by decide +kernel
theorem dX10_of_113 : decode cX10_of 113 = .ok (.iaload, 1) := by decide +kernel
theorem dX10_of_114 : decode cX10_of 114 = .ok (.invokestatic 186, 3) := by decide +kernel
theorem dX10_of_117 : decode cX10_of 117 = .ok (.ireturn, 1) := by decide +kernel
theorem dX10_least_0 : decode cX10_least 0 = .ok (.iconst 0, 1) := by decide +kernel
theorem dX10_least_1 : decode cX10_least 1 = .ok (.istore_n 1, 1) := by decide +kernel
theorem dX10_least_2 : decode cX10_least 2 = .ok (.iload_n 1, 1) := by decide +kernel
theorem dX10_least_3 : decode cX10_least 3 = .ok (.bipush 6, 2) := by decide +kernel
theorem dX10_least_5 : decode cX10_least 5 = .ok (.if_icmp .ge 20, 3) := by decide +kernel
theorem dX10_least_8 : decode cX10_least 8 = .ok (.iload_n 0, 1) := by decide +kernel
theorem dX10_least_9 : decode cX10_least 9 = .ok (.i2l, 1) := by decide +kernel
theorem dX10_least_10 : decode cX10_least 10 = .ok (.iload_n 1, 1) := by decide +kernel
theorem dX10_least_11 : decode cX10_least 11 = .ok (.invokestatic 176, 3) := by decide +kernel
theorem dX10_least_14 : decode cX10_least 14 = .ok (.ifCond .eq 5, 3) := by decide +kernel
theorem dX10_least_17 : decode cX10_least 17 = .ok (.iload_n 1, 1) := by decide +kernel
theorem dX10_least_18 : decode cX10_least 18 = .ok (.ireturn, 1) := by decide +kernel
theorem dX10_least_19 : decode cX10_least 19 = .ok (.iinc 1 1, 3) := by decide +kernel
theorem dX10_least_22 : decode cX10_least 22 = .ok (.goto (-20), 3) := by decide +kernel
theorem dX10_least_25 : decode cX10_least 25 = .ok (.iconst (-1), 1) := by decide +kernel
theorem dX10_least_26 : decode cX10_least 26 = .ok (.ireturn, 1) := by decide +kernel
theorem dX10_decides_0 : decode cX10_decides 0 = .ok (.iload_n 1, 1) := by decide +kernel
theorem dX10_decides_1 : decode cX10_decides 1 = .ok (.invokestatic 88, 3) := by decide +kernel
theorem dX10_decides_4 : decode cX10_decides 4 = .ok (.ifCond .eq 22, 3) := by decide +kernel
theorem dX10_decides_7 : decode cX10_decides 7 = .ok (.iload_n 2, 1) := by decide +kernel
theorem dX10_decides_8 : decode cX10_decides 8 = .ok (.invokestatic 99, 3) := by decide +kernel
theorem dX10_decides_11 : decode cX10_decides 11 = .ok (.ifCond .eq 15, 3) := by decide +kernel
theorem dX10_decides_14 : decode cX10_decides 14 = .ok (.iload_n 3, 1) := by decide +kernel
theorem dX10_decides_15 : decode cX10_decides 15 = .ok (.invokestatic 99, 3) := by decide +kernel
theorem dX10_decides_18 : decode cX10_decides 18 = .ok (.ifCond .eq 8, 3) := by decide +kernel
theorem dX10_decides_21 : decode cX10_decides 21 = .ok (.iload_n 2, 1) := by decide +kernel
theorem dX10_decides_22 : decode cX10_decides 22 = .ok (.iload_n 3, 1) := by decide +kernel
theorem dX10_decides_23 : decode cX10_decides 23 = .ok (.if_icmp .ne 5, 3) := by decide +kernel
theorem dX10_decides_26 : decode cX10_decides 26 = .ok (.iconst (-1), 1) := by decide +kernel
theorem dX10_decides_27 : decode cX10_decides 27 = .ok (.ireturn, 1) := by decide +kernel
theorem dX10_decides_28 : decode cX10_decides 28 = .ok (.aload_n 0, 1) := by decide +kernel
theorem dX10_decides_29 : decode cX10_decides 29 = .ok (.iload_n 1, 1) := by decide +kernel
theorem dX10_decides_30 : decode cX10_decides 30 = .ok (.invokevirtual 166, 3) := by decide +kernel
theorem dX10_decides_33 : decode cX10_decides 33 = .ok (.aload_n 0, 1) := by decide +kernel
theorem dX10_decides_34 : decode cX10_decides 34 = .ok (.getfield 18, 3) := by decide +kernel
theorem dX10_decides_37 : decode cX10_decides 37 = .ok (.getfield 173, 3) := by decide +kernel
theorem dX10_decides_40 : decode cX10_decides 40 = .ok (.i2l, 1) := by decide +kernel
theorem dX10_decides_41 : decode cX10_decides 41 = .ok (.iload_n 2, 1) := by decide +kernel
theorem dX10_decides_42 : decode cX10_decides 42 = .ok (.invokestatic 176, 3) := by decide +kernel
theorem dX10_decides_45 : decode cX10_decides 45 = .ok (.ifCond .eq 18, 3) := by decide +kernel
theorem dX10_decides_48 : decode cX10_decides 48 = .ok (.aload_n 0, 1) := by decide +kernel
theorem dX10_decides_49 : decode cX10_decides 49 = .ok (.getfield 18, 3) := by decide +kernel
theorem dX10_decides_52 : decode cX10_decides 52 = .ok (.getfield 173, 3) := by decide +kernel
theorem dX10_decides_55 : decode cX10_decides 55 = .ok (.i2l, 1) := by decide +kernel
theorem dX10_decides_56 : decode cX10_decides 56 = .ok (.iload_n 3, 1) := by decide +kernel
theorem dX10_decides_57 : decode cX10_decides 57 = .ok (.invokestatic 176, 3) := by decide +kernel
theorem dX10_decides_60 : decode cX10_decides 60 = .ok (.ifCond .ne 5, 3) := by decide +kernel
theorem dX10_decides_63 : decode cX10_decides 63 = .ok (.iconst (-1), 1) := by decide +kernel
theorem dX10_decides_64 : decode cX10_decides 64 = .ok (.ireturn, 1) := by decide +kernel
theorem dX10_decides_65 : decode cX10_decides 65 = .ok (.aload_n 0, 1) := by decide +kernel
theorem dX10_decides_66 : decode cX10_decides 66 = .ok (.getfield 18, 3) := by decide +kernel
theorem dX10_decides_69 : decode cX10_decides 69 = .ok (.aload_n 0, 1) := by decide +kernel
theorem dX10_decides_70 : decode cX10_decides 70 = .ok (.getfield 29, 3) := by decide +kernel
theorem dX10_decides_73 : decode cX10_decides 73 = .ok (.iload_n 2, 1) := by decide +kernel
theorem dX10_decides_74 : decode cX10_decides 74 = .ok (.iload_n 3, 1) := by decide +kernel
theorem dX10_decides_75 : decode cX10_decides 75 = .ok (.invokestatic 156, 3) := by decide +kernel
theorem dX10_decides_78 : decode cX10_decides 78 = .ok (.aaload, 1) := by decide +kernel
theorem dX10_decides_79 : decode cX10_decides 79 = .ok (.iload_n 2, 1) := by decide +kernel
theorem dX10_decides_80 : decode cX10_decides 80 = .ok (.iload_n 3, 1) := by decide +kernel
theorem dX10_decides_81 : decode cX10_decides 81 = .ok (.invokevirtual 190, 3) := by decide +kernel
theorem dX10_decides_84 : decode cX10_decides 84 = .ok (.ireturn, 1) := by decide +kernel
theorem dX10_tax_0 : decode cX10_tax 0 = .ok (.iload_n 1, 1) := by decide +kernel
theorem dX10_tax_1 : decode cX10_tax 1 = .ok (.invokestatic 99, 3) := by decide +kernel
theorem dX10_tax_4 : decode cX10_tax 4 = .ok (.ifCond .eq 13, 3) := by decide +kernel
theorem dX10_tax_7 : decode cX10_tax 7 = .ok (.iload_n 2, 1) := by decide +kernel
theorem dX10_tax_8 : decode cX10_tax 8 = .ok (.ifCond .lt 9, 3) := by decide +kernel
theorem dX10_tax_11 : decode cX10_tax 11 = .ok (.iload_n 2, 1) := by decide +kernel
theorem dX10_tax_12 : decode cX10_tax 12 = .ok (.ldc 194, 2) := by decide +kernel
theorem dX10_tax_14 : decode cX10_tax 14 = .ok (.if_icmp .le 7, 3) := by decide +kernel
theorem dX10_tax_17 : decode cX10_tax 17 = .ok (.ldc2_w 195, 3) := by decide +kernel
theorem dX10_tax_20 : decode cX10_tax 20 = .ok (.lreturn, 1) := by decide +kernel
theorem dX10_tax_21 : decode cX10_tax 21 = .ok (.aload_n 0, 1) := by decide +kernel
theorem dX10_tax_22 : decode cX10_tax 22 = .ok (.getfield 26, 3) := by decide +kernel
theorem dX10_tax_25 : decode cX10_tax 25 = .ok (.iload_n 1, 1) := by decide +kernel
theorem dX10_tax_26 : decode cX10_tax 26 = .ok (.aaload, 1) := by decide +kernel
theorem dX10_tax_27 : decode cX10_tax 27 = .ok (.iload_n 2, 1) := by decide +kernel
theorem dX10_tax_28 : decode cX10_tax 28 = .ok (.i2l, 1) := by decide +kernel
theorem dX10_tax_29 : decode cX10_tax 29 = .ok (.invokevirtual 197, 3) := by decide +kernel
theorem dX10_tax_32 : decode cX10_tax 32 = .ok (.lreturn, 1) := by decide +kernel
theorem dX10_takes_0 : decode cX10_takes 0 = .ok (.iload_n 1, 1) := by decide +kernel
theorem dX10_takes_1 : decode cX10_takes 1 = .ok (.invokestatic 88, 3) := by decide +kernel
theorem dX10_takes_4 : decode cX10_takes 4 = .ok (.ifCond .eq 40, 3) := by decide +kernel
theorem dX10_takes_7 : decode cX10_takes 7 = .ok (.aload_n 0, 1) := by decide +kernel
theorem dX10_takes_8 : decode cX10_takes 8 = .ok (.getfield 11, 3) := by decide +kernel
theorem dX10_takes_11 : decode cX10_takes 11 = .ok (.iload_n 1, 1) := by decide +kernel
theorem dX10_takes_12 : decode cX10_takes 12 = .ok (.aaload, 1) := by decide +kernel
theorem dX10_takes_13 : decode cX10_takes 13 = .ok (.iload_n 2, 1) := by decide +kernel
theorem dX10_takes_14 : decode cX10_takes 14 = .ok (.invokevirtual 201, 3) := by decide +kernel
theorem dX10_takes_17 : decode cX10_takes 17 = .ok (.ifCond .eq 27, 3) := by decide +kernel
theorem dX10_takes_20 : decode cX10_takes 20 = .ok (.iload 4, 2) := by decide +kernel
theorem dX10_takes_22 : decode cX10_takes 22 = .ok (.ifCond .lt 22, 3) := by decide +kernel
theorem dX10_takes_25 : decode cX10_takes 25 = .ok (.iload 4, 2) := by decide +kernel
theorem dX10_takes_27 : decode cX10_takes 27 = .ok (.iconst 4, 1) := by decide +kernel
theorem dX10_takes_28 : decode cX10_takes 28 = .ok (.if_icmp .gt 16, 3) := by decide +kernel
theorem dX10_takes_31 : decode cX10_takes 31 = .ok (.iload 4, 2) := by decide +kernel
theorem dX10_takes_33 : decode cX10_takes 33 = .ok (.iconst 3, 1) := by decide +kernel
theorem dX10_takes_34 : decode cX10_takes 34 = .ok (.if_icmp .eq 14, 3) := by decide +kernel
theorem dX10_takes_37 : decode cX10_takes 37 = .ok (.iload_n 3, 1) := by decide +kernel
theorem dX10_takes_38 : decode cX10_takes 38 = .ok (.invokestatic 99, 3) := by decide +kernel
theorem dX10_takes_41 : decode cX10_takes 41 = .ok (.ifCond .ne 7, 3) := by decide +kernel
theorem dX10_takes_44 : decode cX10_takes 44 = .ok (.ldc2_w 195, 3) := by decide +kernel
theorem dX10_takes_47 : decode cX10_takes 47 = .ok (.lreturn, 1) := by decide +kernel
theorem dX10_takes_48 : decode cX10_takes 48 = .ok (.aload_n 0, 1) := by decide +kernel
theorem dX10_takes_49 : decode cX10_takes 49 = .ok (.iload_n 1, 1) := by decide +kernel
theorem dX10_takes_50 : decode cX10_takes 50 = .ok (.invokevirtual 166, 3) := by decide +kernel
theorem dX10_takes_53 : decode cX10_takes 53 = .ok (.aload_n 0, 1) := by decide +kernel
theorem dX10_takes_54 : decode cX10_takes 54 = .ok (.getfield 11, 3) := by decide +kernel
theorem dX10_takes_57 : decode cX10_takes 57 = .ok (.iload_n 1, 1) := by decide +kernel
theorem dX10_takes_58 : decode cX10_takes 58 = .ok (.aaload, 1) := by decide +kernel
theorem dX10_takes_59 : decode cX10_takes 59 = .ok (.getfield 119, 3) := by decide +kernel
theorem dX10_takes_62 : decode cX10_takes 62 = .ok (.iload_n 2, 1) := by decide +kernel
theorem dX10_takes_63 : decode cX10_takes 63 = .ok (.aaload, 1) := by decide +kernel
theorem dX10_takes_64 : decode cX10_takes 64 = .ok (.astore 5, 2) := by decide +kernel
theorem dX10_takes_66 : decode cX10_takes 66 = .ok (.iload 4, 2) := by decide +kernel
theorem dX10_takes_68 : decode cX10_takes 68 = .ok (.ifCond .ne 15, 3) := by decide +kernel
theorem dX10_takes_71 : decode cX10_takes 71 = .ok (.aload_n 0, 1) := by decide +kernel
theorem dX10_takes_72 : decode cX10_takes 72 = .ok (.getfield 18, 3) := by decide +kernel
theorem dX10_takes_75 : decode cX10_takes 75 = .ok (.aload 5, 2) := by decide +kernel
theorem dX10_takes_77 : decode cX10_takes 77 = .ok (.iload_n 3, 1) := by decide +kernel
theorem dX10_takes_78 : decode cX10_takes 78 = .ok (.invokevirtual 204, 3) := by decide +kernel
theorem dX10_takes_81 : decode cX10_takes 81 = .ok (.i2l, 1) := by decide +kernel
theorem dX10_takes_82 : decode cX10_takes 82 = .ok (.lreturn, 1) := by decide +kernel
theorem dX10_takes_83 : decode cX10_takes 83 = .ok (.iload 4, 2) := by decide +kernel
theorem dX10_takes_85 : decode cX10_takes 85 = .ok (.iconst 4, 1) := by decide +kernel
theorem dX10_takes_86 : decode cX10_takes 86 = .ok (.if_icmp .ne 22, 3) := by decide +kernel
theorem dX10_takes_89 : decode cX10_takes 89 = .ok (.aload_n 0, 1) := by decide +kernel
theorem dX10_takes_90 : decode cX10_takes 90 = .ok (.getfield 18, 3) := by decide +kernel
theorem dX10_takes_93 : decode cX10_takes 93 = .ok (.aload 5, 2) := by decide +kernel
theorem dX10_takes_95 : decode cX10_takes 95 = .ok (.iload_n 3, 1) := by decide +kernel
theorem dX10_takes_96 : decode cX10_takes 96 = .ok (.invokevirtual 208, 3) := by decide +kernel
theorem dX10_takes_99 : decode cX10_takes 99 = .ok (.ifCond .eq 7, 3) := by decide +kernel
theorem dX10_takes_102 : decode cX10_takes 102 = .ok (.lconst 1, 1) := by decide +kernel
theorem dX10_takes_103 : decode cX10_takes 103 = .ok (.goto 4, 3) := by decide +kernel
theorem dX10_takes_106 : decode cX10_takes 106 = .ok (.lconst 0, 1) := by decide +kernel
theorem dX10_takes_107 : decode cX10_takes 107 = .ok (.lreturn, 1) := by decide +kernel
theorem dX10_takes_108 : decode cX10_takes 108 = .ok (.aload_n 0, 1) := by decide +kernel
theorem dX10_takes_109 : decode cX10_takes 109 = .ok (.getfield 18, 3) := by decide +kernel
theorem dX10_takes_112 : decode cX10_takes 112 = .ok (.aload 5, 2) := by decide +kernel
theorem dX10_takes_114 : decode cX10_takes 114 = .ok (.invokevirtual 212, 3) := by decide +kernel
theorem dX10_takes_117 : decode cX10_takes 117 = .ok (.pop2, 1) := by decide +kernel
theorem dX10_takes_118 : decode cX10_takes 118 = .ok (.iload 4, 2) := by decide +kernel
theorem dX10_takes_120 : decode cX10_takes 120 = .ok (.iconst 3, 1) := by decide +kernel
theorem dX10_takes_121 : decode cX10_takes 121 = .ok (.if_icmp .ne 12, 3) := by decide +kernel
theorem dX10_takes_124 : decode cX10_takes 124 = .ok (.aload_n 0, 1) := by decide +kernel
theorem dX10_takes_125 : decode cX10_takes 125 = .ok (.getfield 18, 3) := by decide +kernel
theorem dX10_takes_128 : decode cX10_takes 128 = .ok (.getfield 216, 3) := by decide +kernel
theorem dX10_takes_131 : decode cX10_takes 131 = .ok (.i2l, 1) := by decide +kernel
theorem dX10_takes_132 : decode cX10_takes 132 = .ok (.lreturn, 1) := by decide +kernel
theorem dX10_takes_133 : decode cX10_takes 133 = .ok (.iload 4, 2) := by decide +kernel
theorem dX10_takes_135 : decode cX10_takes 135 = .ok (.iconst 1, 1) := by decide +kernel
theorem dX10_takes_136 : decode cX10_takes 136 = .ok (.if_icmp .ne 15, 3) := by decide +kernel
theorem dX10_takes_139 : decode cX10_takes 139 = .ok (.aload_n 0, 1) := by decide +kernel
theorem dX10_takes_140 : decode cX10_takes 140 = .ok (.getfield 18, 3) := by decide +kernel
theorem dX10_takes_143 : decode cX10_takes 143 = .ok (.getfield 219, 3) := by decide +kernel
theorem dX10_takes_146 : decode cX10_takes 146 = .ok (.iload_n 3, 1) := by decide +kernel
theorem dX10_takes_147 : decode cX10_takes 147 = .ok (.laload, 1) := by decide +kernel
theorem dX10_takes_148 : decode cX10_takes 148 = .ok (.goto 12, 3) := by decide +kernel
theorem dX10_takes_151 : decode cX10_takes 151 = .ok (.aload_n 0, 1) := by decide +kernel
theorem dX10_takes_152 : decode cX10_takes 152 = .ok (.getfield 18, 3) := by decide +kernel
theorem dX10_takes_155 : decode cX10_takes 155 = .ok (.getfield 223, 3) := by decide +kernel
theorem dX10_takes_158 : decode cX10_takes 158 = .ok (.iload_n 3, 1) := by decide +kernel
theorem dX10_takes_159 : decode cX10_takes 159 = .ok (.laload, 1) := by decide +kernel
theorem dX10_takes_160 : decode cX10_takes 160 = .ok (.lreturn, 1) := by decide +kernel
theorem dX10_owes_0 : decode cX10_owes 0 = .ok (.iload_n 1, 1) := by decide +kernel
theorem dX10_owes_1 : decode cX10_owes 1 = .ok (.invokestatic 88, 3) := by decide +kernel
theorem dX10_owes_4 : decode cX10_owes 4 = .ok (.ifCond .eq 12, 3) := by decide +kernel
theorem dX10_owes_7 : decode cX10_owes 7 = .ok (.iload_n 2, 1) := by decide +kernel
theorem dX10_owes_8 : decode cX10_owes 8 = .ok (.ifCond .lt 8, 3) := by decide +kernel
theorem dX10_owes_11 : decode cX10_owes 11 = .ok (.iload_n 2, 1) := by decide +kernel
theorem dX10_owes_12 : decode cX10_owes 12 = .ok (.iconst 5, 1) := by decide +kernel
theorem dX10_owes_13 : decode cX10_owes 13 = .ok (.if_icmp .le 7, 3) := by decide +kernel
theorem dX10_owes_16 : decode cX10_owes 16 = .ok (.ldc2_w 195, 3) := by decide +kernel
theorem dX10_owes_19 : decode cX10_owes 19 = .ok (.lreturn, 1) := by decide +kernel
theorem dX10_owes_20 : decode cX10_owes 20 = .ok (.aload_n 0, 1) := by decide +kernel
theorem dX10_owes_21 : decode cX10_owes 21 = .ok (.getfield 11, 3) := by decide +kernel
theorem dX10_owes_24 : decode cX10_owes 24 = .ok (.iload_n 1, 1) := by decide +kernel
theorem dX10_owes_25 : decode cX10_owes 25 = .ok (.aaload, 1) := by decide +kernel
theorem dX10_owes_26 : decode cX10_owes 26 = .ok (.astore_n 3, 1) := by decide +kernel
theorem dX10_owes_27 : decode cX10_owes 27 = .ok (.iload_n 2, 1) := by decide +kernel
theorem dX10_owes_28 : decode cX10_owes 28 = .ok (.iconst 4, 1) := by decide +kernel
theorem dX10_owes_29 : decode cX10_owes 29 = .ok (.if_icmp .ne 8, 3) := by decide +kernel
theorem dX10_owes_32 : decode cX10_owes 32 = .ok (.aload_n 3, 1) := by decide +kernel
theorem dX10_owes_33 : decode cX10_owes 33 = .ok (.invokevirtual 226, 3) := by decide +kernel
theorem dX10_owes_36 : decode cX10_owes 36 = .ok (.lreturn, 1) := by decide +kernel
theorem dX10_owes_37 : decode cX10_owes 37 = .ok (.iload_n 2, 1) := by decide +kernel
theorem dX10_owes_38 : decode cX10_owes 38 = .ok (.iconst 5, 1) := by decide +kernel
theorem dX10_owes_39 : decode cX10_owes 39 = .ok (.if_icmp .ne 12, 3) := by decide +kernel
theorem dX10_owes_42 : decode cX10_owes 42 = .ok (.aload_n 3, 1) := by decide +kernel
theorem dX10_owes_43 : decode cX10_owes 43 = .ok (.getfield 102, 3) := by decide +kernel
theorem dX10_owes_46 : decode cX10_owes 46 = .ok (.getfield 230, 3) := by decide +kernel
theorem dX10_owes_49 : decode cX10_owes 49 = .ok (.i2l, 1) := by decide +kernel
theorem dX10_owes_50 : decode cX10_owes 50 = .ok (.lreturn, 1) := by decide +kernel
theorem dX10_owes_51 : decode cX10_owes 51 = .ok (.aload_n 0, 1) := by decide +kernel
theorem dX10_owes_52 : decode cX10_owes 52 = .ok (.iload_n 1, 1) := by decide +kernel
theorem dX10_owes_53 : decode cX10_owes 53 = .ok (.invokevirtual 166, 3) := by decide +kernel
theorem dX10_owes_56 : decode cX10_owes 56 = .ok (.iload_n 2, 1) := by decide +kernel
theorem dX10_owes_57 : decode cX10_owes 57 = .ok (.iconst 3, 1) := by decide +kernel
theorem dX10_owes_58 : decode cX10_owes 58 = .ok (.if_icmp .ne 12, 3) := by decide +kernel
theorem dX10_owes_61 : decode cX10_owes 61 = .ok (.aload_n 0, 1) := by decide +kernel
theorem dX10_owes_62 : decode cX10_owes 62 = .ok (.getfield 18, 3) := by decide +kernel
theorem dX10_owes_65 : decode cX10_owes 65 = .ok (.getfield 180, 3) := by decide +kernel
theorem dX10_owes_68 : decode cX10_owes 68 = .ok (.i2l, 1) := by decide +kernel
theorem dX10_owes_69 : decode cX10_owes 69 = .ok (.lreturn, 1) := by decide +kernel
theorem dX10_owes_70 : decode cX10_owes 70 = .ok (.iload_n 2, 1) := by decide +kernel
theorem dX10_owes_71 : decode cX10_owes 71 = .ok (.ifCond .ne 14, 3) := by decide +kernel
theorem dX10_owes_74 : decode cX10_owes 74 = .ok (.aload_n 0, 1) := by decide +kernel
theorem dX10_owes_75 : decode cX10_owes 75 = .ok (.getfield 18, 3) := by decide +kernel
theorem dX10_owes_78 : decode cX10_owes 78 = .ok (.aload_n 3, 1) := by decide +kernel
theorem dX10_owes_79 : decode cX10_owes 79 = .ok (.invokevirtual 233, 3) := by decide +kernel
theorem dX10_owes_82 : decode cX10_owes 82 = .ok (.goto 30, 3) := by decide +kernel
theorem dX10_owes_85 : decode cX10_owes 85 = .ok (.aload_n 0, 1) := by decide +kernel
theorem dX10_owes_86 : decode cX10_owes 86 = .ok (.aload_n 3, 1) := by decide +kernel
theorem dX10_owes_87 : decode cX10_owes 87 = .ok (.iload_n 2, 1) := by decide +kernel
theorem dX10_owes_88 : decode cX10_owes 88 = .ok (.iconst 1, 1) := by decide +kernel
theorem dX10_owes_89 : decode cX10_owes 89 = .ok (.if_icmp .ne 7, 3) := by decide +kernel
theorem dX10_owes_92 : decode cX10_owes 92 = .ok (.iconst 0, 1) := by decide +kernel
theorem dX10_owes_93 : decode cX10_owes 93 = .ok (.goto 4, 3) := by decide +kernel
theorem dX10_owes_96 : decode cX10_owes 96 = .ok (.iconst 2, 1) := by decide +kernel
theorem dX10_owes_97 : decode cX10_owes 97 = .ok (.iload_n 2, 1) := by decide +kernel
theorem dX10_owes_98 : decode cX10_owes 98 = .ok (.iconst 1, 1) := by decide +kernel
theorem dX10_owes_99 : decode cX10_owes 99 = .ok (.if_icmp .ne 7, 3) := by decide +kernel
theorem dX10_owes_102 : decode cX10_owes 102 = .ok (.iconst 0, 1) := by decide +kernel
theorem dX10_owes_103 : decode cX10_owes 103 = .ok (.goto 5, 3) := by decide +kernel
theorem dX10_owes_106 : decode cX10_owes 106 = .ok (.bipush 6, 2) := by decide +kernel
theorem dX10_owes_108 : decode cX10_owes 108 = .ok (.invokevirtual 237, 3) := by decide +kernel
theorem dX10_owes_111 : decode cX10_owes 111 = .ok (.i2l, 1) := by decide +kernel
theorem dX10_owes_112 : decode cX10_owes 112 = .ok (.lreturn, 1) := by decide +kernel
theorem dX10_takenBy_0 : decode cX10_takenBy 0 = .ok (.iconst 0, 1) := by decide +kernel
theorem dX10_takenBy_1 : decode cX10_takenBy 1 = .ok (.istore 4, 2) := by decide +kernel
theorem dX10_takenBy_3 : decode cX10_takenBy 3 = .ok (.iconst 0, 1) := by decide +kernel
theorem dX10_takenBy_4 : decode cX10_takenBy 4 = .ok (.istore 5, 2) := by decide +kernel
theorem dX10_takenBy_6 : decode cX10_takenBy 6 = .ok (.iload 5, 2) := by decide +kernel
theorem dX10_takenBy_8 : decode cX10_takenBy 8 = .ok (.aload_n 1, 1) := by decide +kernel
theorem dX10_takenBy_9 : decode cX10_takenBy 9 = .ok (.getfield 116, 3) := by decide +kernel
theorem dX10_takenBy_12 : decode cX10_takenBy 12 = .ok (.if_icmp .ge 54, 3) := by decide +kernel
theorem dX10_takenBy_15 : decode cX10_takenBy 15 = .ok (.aload_n 0, 1) := by decide +kernel
theorem dX10_takenBy_16 : decode cX10_takenBy 16 = .ok (.getfield 18, 3) := by decide +kernel
theorem dX10_takenBy_19 : decode cX10_takenBy 19 = .ok (.aload_n 1, 1) := by decide +kernel
theorem dX10_takenBy_20 : decode cX10_takenBy 20 = .ok (.getfield 119, 3) := by decide +kernel
theorem dX10_takenBy_23 : decode cX10_takenBy 23 = .ok (.iload 5, 2) := by decide +kernel
theorem dX10_takenBy_25 : decode cX10_takenBy 25 = .ok (.aaload, 1) := by decide +kernel
theorem dX10_takenBy_26 : decode cX10_takenBy 26 = .ok (.invokevirtual 212, 3) := by decide +kernel
theorem dX10_takenBy_29 : decode cX10_takenBy 29 = .ok (.pop2, 1) := by decide +kernel
theorem dX10_takenBy_30 : decode cX10_takenBy 30 = .ok (.aload_n 0, 1) := by decide +kernel
theorem dX10_takenBy_31 : decode cX10_takenBy 31 = .ok (.getfield 18, 3) := by decide +kernel
theorem dX10_takenBy_34 : decode cX10_takenBy 34 = .ok (.invokevirtual 241, 3) := by decide +kernel
theorem dX10_takenBy_37 : decode cX10_takenBy 37 = .ok (.istore 6, 2) := by decide +kernel
theorem dX10_takenBy_39 : decode cX10_takenBy 39 = .ok (.iload 6, 2) := by decide +kernel
theorem dX10_takenBy_41 : decode cX10_takenBy 41 = .ok (.iload_n 2, 1) := by decide +kernel
theorem dX10_takenBy_42 : decode cX10_takenBy 42 = .ok (.if_icmp .lt 18, 3) := by decide +kernel
theorem dX10_takenBy_45 : decode cX10_takenBy 45 = .ok (.iload 6, 2) := by decide +kernel
theorem dX10_takenBy_47 : decode cX10_takenBy 47 = .ok (.iload_n 3, 1) := by decide +kernel
theorem dX10_takenBy_48 : decode cX10_takenBy 48 = .ok (.if_icmp .gt 12, 3) := by decide +kernel
theorem dX10_takenBy_51 : decode cX10_takenBy 51 = .ok (.iload 4, 2) := by decide +kernel
theorem dX10_takenBy_53 : decode cX10_takenBy 53 = .ok (.iconst 1, 1) := by decide +kernel
theorem dX10_takenBy_54 : decode cX10_takenBy 54 = .ok (.iload 5, 2) := by decide +kernel
theorem dX10_takenBy_56 : decode cX10_takenBy 56 = .ok (.ishl, 1) := by decide +kernel
theorem dX10_takenBy_57 : decode cX10_takenBy 57 = .ok (.ior, 1) := by decide +kernel
theorem dX10_takenBy_58 : decode cX10_takenBy 58 = .ok (.istore 4, 2) := by decide +kernel
theorem dX10_takenBy_60 : decode cX10_takenBy 60 = .ok (.iinc 5 1, 3) := by decide +kernel
theorem dX10_takenBy_63 : decode cX10_takenBy 63 = .ok (.goto (-57), 3) := by decide +kernel
theorem dX10_takenBy_66 : decode cX10_takenBy 66 = .ok (.iload 4, 2) := by decide +kernel
theorem dX10_takenBy_68 : decode cX10_takenBy 68 = .ok (.ireturn, 1) := by decide +kernel
theorem dX10_edge_0 : decode cX10_edge 0 = .ok (.iload 4, 2) := by decide +kernel
theorem dX10_edge_2 : decode cX10_edge 2 = .ok (.ifCond .lt 9, 3) := by decide +kernel
theorem dX10_edge_5 : decode cX10_edge 5 = .ok (.iload 4, 2) := by decide +kernel
theorem dX10_edge_7 : decode cX10_edge 7 = .ok (.iconst 1, 1) := by decide +kernel
theorem dX10_edge_8 : decode cX10_edge 8 = .ok (.if_icmp .le 7, 3) := by decide +kernel
theorem dX10_edge_11 : decode cX10_edge 11 = .ok (.ldc2_w 195, 3) := by decide +kernel
theorem dX10_edge_14 : decode cX10_edge 14 = .ok (.lreturn, 1) := by decide +kernel
theorem dX10_edge_15 : decode cX10_edge 15 = .ok (.iload_n 1, 1) := by decide +kernel
theorem dX10_edge_16 : decode cX10_edge 16 = .ok (.invokestatic 88, 3) := by decide +kernel
theorem dX10_edge_19 : decode cX10_edge 19 = .ok (.ifCond .eq 32, 3) := by decide +kernel
theorem dX10_edge_22 : decode cX10_edge 22 = .ok (.iload_n 2, 1) := by decide +kernel
theorem dX10_edge_23 : decode cX10_edge 23 = .ok (.invokestatic 99, 3) := by decide +kernel
theorem dX10_edge_26 : decode cX10_edge 26 = .ok (.ifCond .eq 25, 3) := by decide +kernel
theorem dX10_edge_29 : decode cX10_edge 29 = .ok (.iload_n 3, 1) := by decide +kernel
theorem dX10_edge_30 : decode cX10_edge 30 = .ok (.invokestatic 99, 3) := by decide +kernel
theorem dX10_edge_33 : decode cX10_edge 33 = .ok (.ifCond .eq 18, 3) := by decide +kernel
theorem dX10_edge_36 : decode cX10_edge 36 = .ok (.iload_n 2, 1) := by decide +kernel
theorem dX10_edge_37 : decode cX10_edge 37 = .ok (.iload_n 3, 1) := by decide +kernel
theorem dX10_edge_38 : decode cX10_edge 38 = .ok (.if_icmp .eq 13, 3) := by decide +kernel
theorem dX10_edge_41 : decode cX10_edge 41 = .ok (.aload_n 0, 1) := by decide +kernel
theorem dX10_edge_42 : decode cX10_edge 42 = .ok (.iload_n 1, 1) := by decide +kernel
theorem dX10_edge_43 : decode cX10_edge 43 = .ok (.iload_n 2, 1) := by decide +kernel
theorem dX10_edge_44 : decode cX10_edge 44 = .ok (.iload_n 3, 1) := by decide +kernel
theorem dX10_edge_45 : decode cX10_edge 45 = .ok (.invokevirtual 245, 3) := by decide +kernel
theorem dX10_edge_48 : decode cX10_edge 48 = .ok (.goto 4, 3) := by decide +kernel
theorem dX10_edge_51 : decode cX10_edge 51 = .ok (.iconst 0, 1) := by decide +kernel
theorem dX10_edge_52 : decode cX10_edge 52 = .ok (.istore 5, 2) := by decide +kernel
theorem dX10_edge_54 : decode cX10_edge 54 = .ok (.iload 5, 2) := by decide +kernel
theorem dX10_edge_56 : decode cX10_edge 56 = .ok (.ifCond .ne 18, 3) := by decide +kernel
theorem dX10_edge_59 : decode cX10_edge 59 = .ok (.iload 4, 2) := by decide +kernel
theorem dX10_edge_61 : decode cX10_edge 61 = .ok (.ifCond .ne 9, 3) := by decide +kernel
theorem dX10_edge_64 : decode cX10_edge 64 = .ok (.ldc2_w 195, 3) := by decide +kernel
theorem dX10_edge_67 : decode cX10_edge 67 = .ok (.goto 6, 3) := by decide +kernel
theorem dX10_edge_70 : decode cX10_edge 70 = .ok (.ldc2_w 249, 3) := by decide +kernel
theorem dX10_edge_73 : decode cX10_edge 73 = .ok (.lreturn, 1) := by decide +kernel
theorem dX10_edge_74 : decode cX10_edge 74 = .ok (.iload 4, 2) := by decide +kernel
theorem dX10_edge_76 : decode cX10_edge 76 = .ok (.ifCond .ne 10, 3) := by decide +kernel
theorem dX10_edge_79 : decode cX10_edge 79 = .ok (.iload 5, 2) := by decide +kernel
theorem dX10_edge_81 : decode cX10_edge 81 = .ok (.invokestatic 251, 3) := by decide +kernel
theorem dX10_edge_84 : decode cX10_edge 84 = .ok (.i2l, 1) := by decide +kernel
theorem dX10_edge_85 : decode cX10_edge 85 = .ok (.lreturn, 1) := by decide +kernel
theorem dX10_edge_86 : decode cX10_edge 86 = .ok (.aload_n 0, 1) := by decide +kernel
theorem dX10_edge_87 : decode cX10_edge 87 = .ok (.getfield 11, 3) := by decide +kernel
theorem dX10_edge_90 : decode cX10_edge 90 = .ok (.iload_n 1, 1) := by decide +kernel
theorem dX10_edge_91 : decode cX10_edge 91 = .ok (.aaload, 1) := by decide +kernel
theorem dX10_edge_92 : decode cX10_edge 92 = .ok (.astore 6, 2) := by decide +kernel
theorem dX10_edge_94 : decode cX10_edge 94 = .ok (.aload_n 0, 1) := by decide +kernel
theorem dX10_edge_95 : decode cX10_edge 95 = .ok (.iload_n 1, 1) := by decide +kernel
theorem dX10_edge_96 : decode cX10_edge 96 = .ok (.invokevirtual 166, 3) := by decide +kernel
theorem dX10_edge_99 : decode cX10_edge 99 = .ok (.aload_n 0, 1) := by decide +kernel
theorem dX10_edge_100 : decode cX10_edge 100 = .ok (.getfield 18, 3) := by decide +kernel
theorem dX10_edge_103 : decode cX10_edge 103 = .ok (.aload 6, 2) := by decide +kernel
theorem dX10_edge_105 : decode cX10_edge 105 = .ok (.invokevirtual 233, 3) := by decide +kernel
theorem dX10_edge_108 : decode cX10_edge 108 = .ok (.lstore 7, 2) := by decide +kernel
theorem dX10_edge_110 : decode cX10_edge 110 = .ok (.aload_n 0, 1) := by decide +kernel
theorem dX10_edge_111 : decode cX10_edge 111 = .ok (.getfield 64, 3) := by decide +kernel
theorem dX10_edge_114 : decode cX10_edge 114 = .ok (.aload 6, 2) := by decide +kernel
theorem dX10_edge_116 : decode cX10_edge 116 = .ok (.getfield 102, 3) := by decide +kernel
theorem dX10_edge_119 : decode cX10_edge 119 = .ok (.invokevirtual 256, 3) := by decide +kernel
theorem dX10_edge_122 : decode cX10_edge 122 = .ok (.aload_n 0, 1) := by decide +kernel
theorem dX10_edge_123 : decode cX10_edge 123 = .ok (.getfield 64, 3) := by decide +kernel
theorem dX10_edge_126 : decode cX10_edge 126 = .ok (.iload_n 2, 1) := by decide +kernel
theorem dX10_edge_127 : decode cX10_edge 127 = .ok (.iload_n 3, 1) := by decide +kernel
theorem dX10_edge_128 : decode cX10_edge 128 = .ok (.iload 5, 2) := by decide +kernel
theorem dX10_edge_130 : decode cX10_edge 130 = .ok (.invokevirtual 260, 3) := by decide +kernel
theorem dX10_edge_133 : decode cX10_edge 133 = .ok (.aload_n 0, 1) := by decide +kernel
theorem dX10_edge_134 : decode cX10_edge 134 = .ok (.getfield 18, 3) := by decide +kernel
theorem dX10_edge_137 : decode cX10_edge 137 = .ok (.aload_n 0, 1) := by decide +kernel
theorem dX10_edge_138 : decode cX10_edge 138 = .ok (.getfield 64, 3) := by decide +kernel
theorem dX10_edge_141 : decode cX10_edge 141 = .ok (.aload_n 0, 1) := by decide +kernel
theorem dX10_edge_142 : decode cX10_edge 142 = .ok (.getfield 29, 3) := by decide +kernel
theorem dX10_edge_145 : decode cX10_edge 145 = .ok (.aload 6, 2) := by decide +kernel
theorem dX10_edge_147 : decode cX10_edge 147 = .ok (.invokevirtual 226, 3) := by decide +kernel
theorem dX10_edge_150 : decode cX10_edge 150 = .ok (.invokevirtual 263, 3) := by decide +kernel
theorem dX10_edge_153 : decode cX10_edge 153 = .ok (.aload_n 0, 1) := by decide +kernel
theorem dX10_edge_154 : decode cX10_edge 154 = .ok (.getfield 18, 3) := by decide +kernel
theorem dX10_edge_157 : decode cX10_edge 157 = .ok (.aload 6, 2) := by decide +kernel
theorem dX10_edge_159 : decode cX10_edge 159 = .ok (.invokevirtual 233, 3) := by decide +kernel
theorem dX10_edge_162 : decode cX10_edge 162 = .ok (.lload 7, 2) := by decide +kernel
theorem dX10_edge_164 : decode cX10_edge 164 = .ok (.lsub, 1) := by decide +kernel
theorem dX10_edge_165 : decode cX10_edge 165 = .ok (.lreturn, 1) := by decide +kernel
theorem dX10_edgeNights_0 : decode cX10_edgeNights 0 = .ok (.aload_n 0, 1) := by decide +kernel
theorem dX10_edgeNights_1 : decode cX10_edgeNights 1 = .ok (.getfield 11, 3) := by decide +kernel
theorem dX10_edgeNights_4 : decode cX10_edgeNights 4 = .ok (.iload_n 1, 1) := by decide +kernel
theorem dX10_edgeNights_5 : decode cX10_edgeNights 5 = .ok (.aaload, 1) := by decide +kernel
theorem dX10_edgeNights_6 : decode cX10_edgeNights 6 = .ok (.getfield 102, 3) := by decide +kernel
theorem dX10_edgeNights_9 : decode cX10_edgeNights 9 = .ok (.astore 4, 2) := by decide +kernel
theorem dX10_edgeNights_11 : decode cX10_edgeNights 11 = .ok (.aload_n 0, 1) := by decide +kernel
theorem dX10_edgeNights_12 : decode cX10_edgeNights 12 = .ok (.getfield 18, 3) := by decide +kernel
theorem dX10_edgeNights_15 : decode cX10_edgeNights 15 = .ok (.aload 4, 2) := by decide +kernel
theorem dX10_edgeNights_17 : decode cX10_edgeNights 17 = .ok (.iload_n 2, 1) := by decide +kernel
theorem dX10_edgeNights_18 : decode cX10_edgeNights 18 = .ok (.invokevirtual 266, 3) := by decide +kernel
theorem dX10_edgeNights_21 : decode cX10_edgeNights 21 = .ok (.istore 5, 2) := by decide +kernel
theorem dX10_edgeNights_23 : decode cX10_edgeNights 23 = .ok (.iconst 1, 1) := by decide +kernel
theorem dX10_edgeNights_24 : decode cX10_edgeNights 24 = .ok (.istore 6, 2) := by decide +kernel
theorem dX10_edgeNights_26 : decode cX10_edgeNights 26 = .ok (.iload 6, 2) := by decide +kernel
theorem dX10_edgeNights_28 : decode cX10_edgeNights 28 = .ok (.sipush 360, 3) := by decide +kernel
theorem dX10_edgeNights_31 : decode cX10_edgeNights 31 = .ok (.if_icmp .gt 71, 3) := by decide +kernel
theorem dX10_edgeNights_34 : decode cX10_edgeNights 34 = .ok (.iload 6, 2) := by decide +kernel
theorem dX10_edgeNights_36 : decode cX10_edgeNights 36 = .ok (.aload 4, 2) := by decide +kernel
theorem dX10_edgeNights_38 : decode cX10_edgeNights 38 = .ok (.getfield 270, 3) := by decide +kernel
theorem dX10_edgeNights_41 : decode cX10_edgeNights 41 = .ok (.iload_n 2, 1) := by decide +kernel
theorem dX10_edgeNights_42 : decode cX10_edgeNights 42 = .ok (.iaload, 1) := by decide +kernel
theorem dX10_edgeNights_43 : decode cX10_edgeNights 43 = .ok (.if_icmp .gt 21, 3) := by decide +kernel
theorem dX10_edgeNights_46 : decode cX10_edgeNights 46 = .ok (.aload_n 0, 1) := by decide +kernel
theorem dX10_edgeNights_47 : decode cX10_edgeNights 47 = .ok (.aload 4, 2) := by decide +kernel
theorem dX10_edgeNights_49 : decode cX10_edgeNights 49 = .ok (.iload_n 2, 1) := by decide +kernel
theorem dX10_edgeNights_50 : decode cX10_edgeNights 50 = .ok (.iload_n 3, 1) := by decide +kernel
theorem dX10_edgeNights_51 : decode cX10_edgeNights 51 = .ok (.iload 6, 2) := by decide +kernel
theorem dX10_edgeNights_53 : decode cX10_edgeNights 53 = .ok (.invokevirtual 273, 3) := by decide +kernel
theorem dX10_edgeNights_56 : decode cX10_edgeNights 56 = .ok (.iload 5, 2) := by decide +kernel
theorem dX10_edgeNights_58 : decode cX10_edgeNights 58 = .ok (.if_icmp .eq 6, 3) := by decide +kernel
theorem dX10_edgeNights_61 : decode cX10_edgeNights 61 = .ok (.iload 6, 2) := by decide +kernel
theorem dX10_edgeNights_63 : decode cX10_edgeNights 63 = .ok (.ireturn, 1) := by decide +kernel
theorem dX10_edgeNights_64 : decode cX10_edgeNights 64 = .ok (.iload 6, 2) := by decide +kernel
theorem dX10_edgeNights_66 : decode cX10_edgeNights 66 = .ok (.aload 4, 2) := by decide +kernel
theorem dX10_edgeNights_68 : decode cX10_edgeNights 68 = .ok (.getfield 270, 3) := by decide +kernel
theorem dX10_edgeNights_71 : decode cX10_edgeNights 71 = .ok (.iload_n 3, 1) := by decide +kernel
theorem dX10_edgeNights_72 : decode cX10_edgeNights 72 = .ok (.iaload, 1) := by decide +kernel
theorem dX10_edgeNights_73 : decode cX10_edgeNights 73 = .ok (.if_icmp .gt 23, 3) := by decide +kernel
theorem dX10_edgeNights_76 : decode cX10_edgeNights 76 = .ok (.aload_n 0, 1) := by decide +kernel
theorem dX10_edgeNights_77 : decode cX10_edgeNights 77 = .ok (.aload 4, 2) := by decide +kernel
theorem dX10_edgeNights_79 : decode cX10_edgeNights 79 = .ok (.iload_n 2, 1) := by decide +kernel
theorem dX10_edgeNights_80 : decode cX10_edgeNights 80 = .ok (.iload_n 3, 1) := by decide +kernel
theorem dX10_edgeNights_81 : decode cX10_edgeNights 81 = .ok (.iload 6, 2) := by decide +kernel
theorem dX10_edgeNights_83 : decode cX10_edgeNights 83 = .ok (.ineg, 1) := by decide +kernel
theorem dX10_edgeNights_84 : decode cX10_edgeNights 84 = .ok (.invokevirtual 273, 3) := by decide +kernel
theorem dX10_edgeNights_87 : decode cX10_edgeNights 87 = .ok (.iload 5, 2) := by decide +kernel
theorem dX10_edgeNights_89 : decode cX10_edgeNights 89 = .ok (.if_icmp .eq 7, 3) := by decide +kernel
theorem dX10_edgeNights_92 : decode cX10_edgeNights 92 = .ok (.iload 6, 2) := by decide +kernel
theorem dX10_edgeNights_94 : decode cX10_edgeNights 94 = .ok (.ineg, 1) := by decide +kernel
theorem dX10_edgeNights_95 : decode cX10_edgeNights 95 = .ok (.ireturn, 1) := by decide +kernel
theorem dX10_edgeNights_96 : decode cX10_edgeNights 96 = .ok (.iinc 6 1, 3) := by decide +kernel
theorem dX10_edgeNights_99 : decode cX10_edgeNights 99 = .ok (.goto (-73), 3) := by decide +kernel
theorem dX10_edgeNights_102 : decode cX10_edgeNights 102 = .ok (.iconst 0, 1) := by decide +kernel
theorem dX10_edgeNights_103 : decode cX10_edgeNights 103 = .ok (.ireturn, 1) := by decide +kernel
theorem dX10_saysAfter_0 : decode cX10_saysAfter 0 = .ok (.aload_n 0, 1) := by decide +kernel
theorem dX10_saysAfter_1 : decode cX10_saysAfter 1 = .ok (.getfield 64, 3) := by decide +kernel
theorem dX10_saysAfter_4 : decode cX10_saysAfter 4 = .ok (.aload_n 1, 1) := by decide +kernel
theorem dX10_saysAfter_5 : decode cX10_saysAfter 5 = .ok (.invokevirtual 256, 3) := by decide +kernel
theorem dX10_saysAfter_8 : decode cX10_saysAfter 8 = .ok (.aload_n 0, 1) := by decide +kernel
theorem dX10_saysAfter_9 : decode cX10_saysAfter 9 = .ok (.getfield 64, 3) := by decide +kernel
theorem dX10_saysAfter_12 : decode cX10_saysAfter 12 = .ok (.iload_n 2, 1) := by decide +kernel
theorem dX10_saysAfter_13 : decode cX10_saysAfter 13 = .ok (.iload_n 3, 1) := by decide +kernel
theorem dX10_saysAfter_14 : decode cX10_saysAfter 14 = .ok (.iload 4, 2) := by decide +kernel
theorem dX10_saysAfter_16 : decode cX10_saysAfter 16 = .ok (.invokevirtual 260, 3) := by decide +kernel
theorem dX10_saysAfter_19 : decode cX10_saysAfter 19 = .ok (.aload_n 0, 1) := by decide +kernel
theorem dX10_saysAfter_20 : decode cX10_saysAfter 20 = .ok (.getfield 18, 3) := by decide +kernel
theorem dX10_saysAfter_23 : decode cX10_saysAfter 23 = .ok (.aload_n 0, 1) := by decide +kernel
theorem dX10_saysAfter_24 : decode cX10_saysAfter 24 = .ok (.getfield 64, 3) := by decide +kernel
theorem dX10_saysAfter_27 : decode cX10_saysAfter 27 = .ok (.iload_n 2, 1) := by decide +kernel
theorem dX10_saysAfter_28 : decode cX10_saysAfter 28 = .ok (.invokevirtual 266, 3) := by decide +kernel
theorem dX10_saysAfter_31 : decode cX10_saysAfter 31 = .ok (.ireturn, 1) := by decide +kernel
theorem dX10_hangs_0 : decode cX10_hangs 0 = .ok (.iload_n 1, 1) := by decide +kernel
theorem dX10_hangs_1 : decode cX10_hangs 1 = .ok (.invokestatic 88, 3) := by decide +kernel
theorem dX10_hangs_4 : decode cX10_hangs 4 = .ok (.ifCond .eq 10, 3) := by decide +kernel
theorem dX10_hangs_7 : decode cX10_hangs 7 = .ok (.iload_n 2, 1) := by decide +kernel
theorem dX10_hangs_8 : decode cX10_hangs 8 = .ok (.invokestatic 99, 3) := by decide +kernel
theorem dX10_hangs_11 : decode cX10_hangs 11 = .ok (.ifCond .ne 5, 3) := by decide +kernel
theorem dX10_hangs_14 : decode cX10_hangs 14 = .ok (.iconst (-1), 1) := by decide +kernel
theorem dX10_hangs_15 : decode cX10_hangs 15 = .ok (.ireturn, 1) := by decide +kernel
theorem dX10_hangs_16 : decode cX10_hangs 16 = .ok (.aload_n 0, 1) := by decide +kernel
theorem dX10_hangs_17 : decode cX10_hangs 17 = .ok (.getfield 11, 3) := by decide +kernel
theorem dX10_hangs_20 : decode cX10_hangs 20 = .ok (.iload_n 1, 1) := by decide +kernel
theorem dX10_hangs_21 : decode cX10_hangs 21 = .ok (.aaload, 1) := by decide +kernel
theorem dX10_hangs_22 : decode cX10_hangs 22 = .ok (.getfield 102, 3) := by decide +kernel
theorem dX10_hangs_25 : decode cX10_hangs 25 = .ok (.astore_n 3, 1) := by decide +kernel
theorem dX10_hangs_26 : decode cX10_hangs 26 = .ok (.iconst 1, 1) := by decide +kernel
theorem dX10_hangs_27 : decode cX10_hangs 27 = .ok (.istore 4, 2) := by decide +kernel
theorem dX10_hangs_29 : decode cX10_hangs 29 = .ok (.iconst 1, 1) := by decide +kernel
theorem dX10_hangs_30 : decode cX10_hangs 30 = .ok (.istore 5, 2) := by decide +kernel
theorem dX10_hangs_32 : decode cX10_hangs 32 = .ok (.iconst 0, 1) := by decide +kernel
theorem dX10_hangs_33 : decode cX10_hangs 33 = .ok (.istore 6, 2) := by decide +kernel
theorem dX10_hangs_35 : decode cX10_hangs 35 = .ok (.iload 6, 2) := by decide +kernel
theorem dX10_hangs_37 : decode cX10_hangs 37 = .ok (.aload_n 3, 1) := by decide +kernel
theorem dX10_hangs_38 : decode cX10_hangs 38 = .ok (.getfield 230, 3) := by decide +kernel
theorem dX10_hangs_41 : decode cX10_hangs 41 = .ok (.if_icmp .gt 87, 3) := by decide +kernel
theorem dX10_hangs_44 : decode cX10_hangs 44 = .ok (.iload 4, 2) := by decide +kernel
theorem dX10_hangs_46 : decode cX10_hangs 46 = .ok (.ifCond .ne 8, 3) := by decide +kernel
theorem dX10_hangs_49 : decode cX10_hangs 49 = .ok (.iload 5, 2) := by decide +kernel
theorem dX10_hangs_51 : decode cX10_hangs 51 = .ok (.ifCond .eq 77, 3) := by decide +kernel
theorem dX10_hangs_54 : decode cX10_hangs 54 = .ok (.iconst 0, 1) := by decide +kernel
theorem dX10_hangs_55 : decode cX10_hangs 55 = .ok (.istore 7, 2) := by decide +kernel
theorem dX10_hangs_57 : decode cX10_hangs 57 = .ok (.iload 7, 2) := by decide +kernel
theorem dX10_hangs_59 : decode cX10_hangs 59 = .ok (.bipush 6, 2) := by decide +kernel
theorem dX10_hangs_61 : decode cX10_hangs 61 = .ok (.if_icmp .ge 61, 3) := by decide +kernel
theorem dX10_hangs_64 : decode cX10_hangs 64 = .ok (.iload 7, 2) := by decide +kernel
theorem dX10_hangs_66 : decode cX10_hangs 66 = .ok (.iload_n 2, 1) := by decide +kernel
theorem dX10_hangs_67 : decode cX10_hangs 67 = .ok (.if_icmp .eq 49, 3) := by decide +kernel
theorem dX10_hangs_70 : decode cX10_hangs 70 = .ok (.aload_n 0, 1) := by decide +kernel
theorem dX10_hangs_71 : decode cX10_hangs 71 = .ok (.aload_n 3, 1) := by decide +kernel
theorem dX10_hangs_72 : decode cX10_hangs 72 = .ok (.iload_n 2, 1) := by decide +kernel
theorem dX10_hangs_73 : decode cX10_hangs 73 = .ok (.iload 7, 2) := by decide +kernel
theorem dX10_hangs_75 : decode cX10_hangs 75 = .ok (.iload 6, 2) := by decide +kernel
theorem dX10_hangs_77 : decode cX10_hangs 77 = .ok (.invokevirtual 277, 3) := by decide +kernel
theorem dX10_hangs_80 : decode cX10_hangs 80 = .ok (.istore 8, 2) := by decide +kernel
theorem dX10_hangs_82 : decode cX10_hangs 82 = .ok (.iload 4, 2) := by decide +kernel
theorem dX10_hangs_84 : decode cX10_hangs 84 = .ok (.ifCond .eq 12, 3) := by decide +kernel
theorem dX10_hangs_87 : decode cX10_hangs 87 = .ok (.iload 8, 2) := by decide +kernel
theorem dX10_hangs_89 : decode cX10_hangs 89 = .ok (.ifCond .ne 7, 3) := by decide +kernel
theorem dX10_hangs_92 : decode cX10_hangs 92 = .ok (.iconst 1, 1) := by decide +kernel
theorem dX10_hangs_93 : decode cX10_hangs 93 = .ok (.goto 4, 3) := by decide +kernel
theorem dX10_hangs_96 : decode cX10_hangs 96 = .ok (.iconst 0, 1) := by decide +kernel
theorem dX10_hangs_97 : decode cX10_hangs 97 = .ok (.istore 4, 2) := by decide +kernel
theorem dX10_hangs_99 : decode cX10_hangs 99 = .ok (.iload 5, 2) := by decide +kernel
theorem dX10_hangs_101 : decode cX10_hangs 101 = .ok (.ifCond .eq 12, 3) := by decide +kernel
theorem dX10_hangs_104 : decode cX10_hangs 104 = .ok (.iload 8, 2) := by decide +kernel
theorem dX10_hangs_106 : decode cX10_hangs 106 = .ok (.ifCond .eq 7, 3) := by decide +kernel
theorem dX10_hangs_109 : decode cX10_hangs 109 = .ok (.iconst 1, 1) := by decide +kernel
theorem dX10_hangs_110 : decode cX10_hangs 110 = .ok (.goto 4, 3) := by decide +kernel
theorem dX10_hangs_113 : decode cX10_hangs 113 = .ok (.iconst 0, 1) := by decide +kernel
theorem dX10_hangs_114 : decode cX10_hangs 114 = .ok (.istore 5, 2) := by decide +kernel
theorem dX10_hangs_116 : decode cX10_hangs 116 = .ok (.iinc 7 1, 3) := by decide +kernel
theorem dX10_hangs_119 : decode cX10_hangs 119 = .ok (.goto (-62), 3) := by decide +kernel
theorem dX10_hangs_122 : decode cX10_hangs 122 = .ok (.iinc 6 1, 3) := by decide +kernel
theorem dX10_hangs_125 : decode cX10_hangs 125 = .ok (.goto (-90), 3) := by decide +kernel
theorem dX10_hangs_128 : decode cX10_hangs 128 = .ok (.iload 4, 2) := by decide +kernel
theorem dX10_hangs_130 : decode cX10_hangs 130 = .ok (.ifCond .eq 5, 3) := by decide +kernel
theorem dX10_hangs_133 : decode cX10_hangs 133 = .ok (.iconst 0, 1) := by decide +kernel
theorem dX10_hangs_134 : decode cX10_hangs 134 = .ok (.ireturn, 1) := by decide +kernel
theorem dX10_hangs_135 : decode cX10_hangs 135 = .ok (.iload 5, 2) := by decide +kernel
theorem dX10_hangs_137 : decode cX10_hangs 137 = .ok (.ifCond .eq 7, 3) := by decide +kernel
theorem dX10_hangs_140 : decode cX10_hangs 140 = .ok (.iconst 1, 1) := by decide +kernel
theorem dX10_hangs_141 : decode cX10_hangs 141 = .ok (.goto 4, 3) := by decide +kernel
theorem dX10_hangs_144 : decode cX10_hangs 144 = .ok (.iconst 2, 1) := by decide +kernel
theorem dX10_hangs_145 : decode cX10_hangs 145 = .ok (.ireturn, 1) := by decide +kernel
theorem dX10_saysIfTold_0 : decode cX10_saysIfTold 0 = .ok (.aload_n 0, 1) := by decide +kernel
theorem dX10_saysIfTold_1 : decode cX10_saysIfTold 1 = .ok (.getfield 64, 3) := by decide +kernel
theorem dX10_saysIfTold_4 : decode cX10_saysIfTold 4 = .ok (.aload_n 1, 1) := by decide +kernel
theorem dX10_saysIfTold_5 : decode cX10_saysIfTold 5 = .ok (.invokevirtual 256, 3) := by decide +kernel
theorem dX10_saysIfTold_8 : decode cX10_saysIfTold 8 = .ok (.aload_n 0, 1) := by decide +kernel
theorem dX10_saysIfTold_9 : decode cX10_saysIfTold 9 = .ok (.getfield 64, 3) := by decide +kernel
theorem dX10_saysIfTold_12 : decode cX10_saysIfTold 12 = .ok (.getfield 270, 3) := by decide +kernel
theorem dX10_saysIfTold_15 : decode cX10_saysIfTold 15 = .ok (.iload_n 2, 1) := by decide +kernel
theorem dX10_saysIfTold_16 : decode cX10_saysIfTold 16 = .ok (.dup2, 1) := by decide +kernel
theorem dX10_saysIfTold_17 : decode cX10_saysIfTold 17 = .ok (.iaload, 1) := by decide +kernel
theorem dX10_saysIfTold_18 : decode cX10_saysIfTold 18 = .ok (.iload 4, 2) := by decide +kernel
theorem dX10_saysIfTold_20 : decode cX10_saysIfTold 20 = .ok (.iadd, 1) := by decide +kernel
theorem dX10_saysIfTold_21 : decode cX10_saysIfTold 21 = .ok (.iastore, 1) := by decide +kernel
theorem dX10_saysIfTold_22 : decode cX10_saysIfTold 22 = .ok (.aload_n 0, 1) := by decide +kernel
theorem dX10_saysIfTold_23 : decode cX10_saysIfTold 23 = .ok (.getfield 64, 3) := by decide +kernel
theorem dX10_saysIfTold_26 : decode cX10_saysIfTold 26 = .ok (.getfield 270, 3) := by decide +kernel
theorem dX10_saysIfTold_29 : decode cX10_saysIfTold 29 = .ok (.iload_n 3, 1) := by decide +kernel
theorem dX10_saysIfTold_30 : decode cX10_saysIfTold 30 = .ok (.dup2, 1) := by decide +kernel
theorem dX10_saysIfTold_31 : decode cX10_saysIfTold 31 = .ok (.iaload, 1) := by decide +kernel
theorem dX10_saysIfTold_32 : decode cX10_saysIfTold 32 = .ok (.aload_n 1, 1) := by decide +kernel
theorem dX10_saysIfTold_33 : decode cX10_saysIfTold 33 = .ok (.getfield 230, 3) := by decide +kernel
theorem dX10_saysIfTold_36 : decode cX10_saysIfTold 36 = .ok (.iload 4, 2) := by decide +kernel
theorem dX10_saysIfTold_38 : decode cX10_saysIfTold 38 = .ok (.isub, 1) := by decide +kernel
theorem dX10_saysIfTold_39 : decode cX10_saysIfTold 39 = .ok (.iadd, 1) := by decide +kernel
theorem dX10_saysIfTold_40 : decode cX10_saysIfTold 40 = .ok (.iastore, 1) := by decide +kernel
theorem dX10_saysIfTold_41 : decode cX10_saysIfTold 41 = .ok (.aload_n 0, 1) := by decide +kernel
theorem dX10_saysIfTold_42 : decode cX10_saysIfTold 42 = .ok (.getfield 18, 3) := by decide +kernel
theorem dX10_saysIfTold_45 : decode cX10_saysIfTold 45 = .ok (.aload_n 0, 1) := by decide +kernel
theorem dX10_saysIfTold_46 : decode cX10_saysIfTold 46 = .ok (.getfield 64, 3) := by decide +kernel
theorem dX10_saysIfTold_49 : decode cX10_saysIfTold 49 = .ok (.iload_n 2, 1) := by decide +kernel
theorem dX10_saysIfTold_50 : decode cX10_saysIfTold 50 = .ok (.invokevirtual 266, 3) := by decide +kernel
theorem dX10_saysIfTold_53 : decode cX10_saysIfTold 53 = .ok (.ireturn, 1) := by decide +kernel
theorem dX10_move_0 : decode cX10_move 0 = .ok (.iload_n 1, 1) := by decide +kernel
theorem dX10_move_1 : decode cX10_move 1 = .ok (.ifCond .lt 29, 3) := by decide +kernel
theorem dX10_move_4 : decode cX10_move 4 = .ok (.iload_n 1, 1) := by decide +kernel
theorem dX10_move_5 : decode cX10_move 5 = .ok (.sipush 360, 3) := by decide +kernel
theorem dX10_move_8 : decode cX10_move 8 = .ok (.if_icmp .ge 22, 3) := by decide +kernel
theorem dX10_move_11 : decode cX10_move 11 = .ok (.iload_n 2, 1) := by decide +kernel
theorem dX10_move_12 : decode cX10_move 12 = .ok (.invokestatic 99, 3) := by decide +kernel
theorem dX10_move_15 : decode cX10_move 15 = .ok (.ifCond .eq 15, 3) := by decide +kernel
theorem dX10_move_18 : decode cX10_move 18 = .ok (.aload_n 0, 1) := by decide +kernel
theorem dX10_move_19 : decode cX10_move 19 = .ok (.getfield 39, 3) := by decide +kernel
theorem dX10_move_22 : decode cX10_move 22 = .ok (.getfield 280, 3) := by decide +kernel
theorem dX10_move_25 : decode cX10_move 25 = .ok (.bipush 20, 2) := by decide +kernel
theorem dX10_move_27 : decode cX10_move 27 = .ok (.if_icmp .lt 5, 3) := by decide +kernel
theorem dX10_move_30 : decode cX10_move 30 = .ok (.iconst (-1), 1) := by decide +kernel
theorem dX10_move_31 : decode cX10_move 31 = .ok (.ireturn, 1) := by decide +kernel
theorem dX10_move_32 : decode cX10_move 32 = .ok (.aload_n 0, 1) := by decide +kernel
theorem dX10_move_33 : decode cX10_move 33 = .ok (.getfield 39, 3) := by decide +kernel
theorem dX10_move_36 : decode cX10_move 36 = .ok (.getfield 283, 3) := by decide +kernel
theorem dX10_move_39 : decode cX10_move 39 = .ok (.aload_n 0, 1) := by decide +kernel
theorem dX10_move_40 : decode cX10_move 40 = .ok (.getfield 39, 3) := by decide +kernel
theorem dX10_move_43 : decode cX10_move 43 = .ok (.getfield 280, 3) := by decide +kernel
theorem dX10_move_46 : decode cX10_move 46 = .ok (.iload_n 1, 1) := by decide +kernel
theorem dX10_move_47 : decode cX10_move 47 = .ok (.iastore, 1) := by decide +kernel
theorem dX10_move_48 : decode cX10_move 48 = .ok (.aload_n 0, 1) := by decide +kernel
theorem dX10_move_49 : decode cX10_move 49 = .ok (.getfield 39, 3) := by decide +kernel
theorem dX10_move_52 : decode cX10_move 52 = .ok (.getfield 286, 3) := by decide +kernel
theorem dX10_move_55 : decode cX10_move 55 = .ok (.aload_n 0, 1) := by decide +kernel
theorem dX10_move_56 : decode cX10_move 56 = .ok (.getfield 39, 3) := by decide +kernel
theorem dX10_move_59 : decode cX10_move 59 = .ok (.getfield 280, 3) := by decide +kernel
theorem dX10_move_62 : decode cX10_move 62 = .ok (.iload_n 2, 1) := by decide +kernel
theorem dX10_move_63 : decode cX10_move 63 = .ok (.iastore, 1) := by decide +kernel
theorem dX10_move_64 : decode cX10_move 64 = .ok (.aload_n 0, 1) := by decide +kernel
theorem dX10_move_65 : decode cX10_move 65 = .ok (.getfield 39, 3) := by decide +kernel
theorem dX10_move_68 : decode cX10_move 68 = .ok (.dup, 1) := by decide +kernel
theorem dX10_move_69 : decode cX10_move 69 = .ok (.getfield 280, 3) := by decide +kernel
theorem dX10_move_72 : decode cX10_move 72 = .ok (.iconst 1, 1) := by decide +kernel
theorem dX10_move_73 : decode cX10_move 73 = .ok (.iadd, 1) := by decide +kernel
theorem dX10_move_74 : decode cX10_move 74 = .ok (.putfield 280, 3) := by decide +kernel
theorem dX10_move_77 : decode cX10_move 77 = .ok (.aload_n 0, 1) := by decide +kernel
theorem dX10_move_78 : decode cX10_move 78 = .ok (.getfield 39, 3) := by decide +kernel
theorem dX10_move_81 : decode cX10_move 81 = .ok (.getfield 280, 3) := by decide +kernel
theorem dX10_move_84 : decode cX10_move 84 = .ok (.iconst 1, 1) := by decide +kernel
theorem dX10_move_85 : decode cX10_move 85 = .ok (.isub, 1) := by decide +kernel
theorem dX10_move_86 : decode cX10_move 86 = .ok (.ireturn, 1) := by decide +kernel
theorem dX10_best_0 : decode cX10_best 0 = .ok (.iload_n 1, 1) := by decide +kernel
theorem dX10_best_1 : decode cX10_best 1 = .ok (.invokestatic 88, 3) := by decide +kernel
theorem dX10_best_4 : decode cX10_best 4 = .ok (.ifCond .ne 7, 3) := by decide +kernel
theorem dX10_best_7 : decode cX10_best 7 = .ok (.ldc2_w 195, 3) := by decide +kernel
theorem dX10_best_10 : decode cX10_best 10 = .ok (.lreturn, 1) := by decide +kernel
theorem dX10_best_11 : decode cX10_best 11 = .ok (.iload_n 2, 1) := by decide +kernel
theorem dX10_best_12 : decode cX10_best 12 = .ok (.bipush 10, 2) := by decide +kernel
theorem dX10_best_14 : decode cX10_best 14 = .ok (.if_icmp .lt 32, 3) := by decide +kernel
theorem dX10_best_17 : decode cX10_best 17 = .ok (.iload_n 2, 1) := by decide +kernel
theorem dX10_best_18 : decode cX10_best 18 = .ok (.bipush 10, 2) := by decide +kernel
theorem dX10_best_20 : decode cX10_best 20 = .ok (.isub, 1) := by decide +kernel
theorem dX10_best_21 : decode cX10_best 21 = .ok (.aload_n 0, 1) := by decide +kernel
theorem dX10_best_22 : decode cX10_best 22 = .ok (.getfield 39, 3) := by decide +kernel
theorem dX10_best_25 : decode cX10_best 25 = .ok (.getfield 280, 3) := by decide +kernel
theorem dX10_best_28 : decode cX10_best 28 = .ok (.if_icmp .ge 18, 3) := by decide +kernel
theorem dX10_best_31 : decode cX10_best 31 = .ok (.aload_n 0, 1) := by decide +kernel
theorem dX10_best_32 : decode cX10_best 32 = .ok (.aload_n 0, 1) := by decide +kernel
theorem dX10_best_33 : decode cX10_best 33 = .ok (.getfield 11, 3) := by decide +kernel
theorem dX10_best_36 : decode cX10_best 36 = .ok (.iload_n 1, 1) := by decide +kernel
theorem dX10_best_37 : decode cX10_best 37 = .ok (.aaload, 1) := by decide +kernel
theorem dX10_best_38 : decode cX10_best 38 = .ok (.iload_n 2, 1) := by decide +kernel
theorem dX10_best_39 : decode cX10_best 39 = .ok (.bipush 10, 2) := by decide +kernel
theorem dX10_best_41 : decode cX10_best 41 = .ok (.isub, 1) := by decide +kernel
theorem dX10_best_42 : decode cX10_best 42 = .ok (.invokevirtual 289, 3) := by decide +kernel
theorem dX10_best_45 : decode cX10_best 45 = .ok (.lreturn, 1) := by decide +kernel
theorem dX10_best_46 : decode cX10_best 46 = .ok (.iload_n 2, 1) := by decide +kernel
theorem dX10_best_47 : decode cX10_best 47 = .ok (.ifCond .eq 12, 3) := by decide +kernel
theorem dX10_best_50 : decode cX10_best 50 = .ok (.iload_n 2, 1) := by decide +kernel
theorem dX10_best_51 : decode cX10_best 51 = .ok (.iconst 1, 1) := by decide +kernel
theorem dX10_best_52 : decode cX10_best 52 = .ok (.if_icmp .eq 7, 3) := by decide +kernel
theorem dX10_best_55 : decode cX10_best 55 = .ok (.ldc2_w 195, 3) := by decide +kernel
theorem dX10_best_58 : decode cX10_best 58 = .ok (.lreturn, 1) := by decide +kernel
theorem dX10_best_59 : decode cX10_best 59 = .ok (.aload_n 0, 1) := by decide +kernel
theorem dX10_best_60 : decode cX10_best 60 = .ok (.iload_n 1, 1) := by decide +kernel
theorem dX10_best_61 : decode cX10_best 61 = .ok (.invokevirtual 166, 3) := by decide +kernel
theorem dX10_best_64 : decode cX10_best 64 = .ok (.aload_n 0, 1) := by decide +kernel
theorem dX10_best_65 : decode cX10_best 65 = .ok (.getfield 18, 3) := by decide +kernel
theorem dX10_best_68 : decode cX10_best 68 = .ok (.aload_n 0, 1) := by decide +kernel
theorem dX10_best_69 : decode cX10_best 69 = .ok (.getfield 11, 3) := by decide +kernel
theorem dX10_best_72 : decode cX10_best 72 = .ok (.iload_n 1, 1) := by decide +kernel
theorem dX10_best_73 : decode cX10_best 73 = .ok (.aaload, 1) := by decide +kernel
theorem dX10_best_74 : decode cX10_best 74 = .ok (.invokevirtual 233, 3) := by decide +kernel
theorem dX10_best_77 : decode cX10_best 77 = .ok (.lstore_n 3, 1) := by decide +kernel
theorem dX10_best_78 : decode cX10_best 78 = .ok (.iconst (-1), 1) := by decide +kernel
theorem dX10_best_79 : decode cX10_best 79 = .ok (.istore 5, 2) := by decide +kernel
theorem dX10_best_81 : decode cX10_best 81 = .ok (.iconst 0, 1) := by decide +kernel
theorem dX10_best_82 : decode cX10_best 82 = .ok (.istore 6, 2) := by decide +kernel
theorem dX10_best_84 : decode cX10_best 84 = .ok (.iload 6, 2) := by decide +kernel
theorem dX10_best_86 : decode cX10_best 86 = .ok (.aload_n 0, 1) := by decide +kernel
theorem dX10_best_87 : decode cX10_best 87 = .ok (.getfield 39, 3) := by decide +kernel
theorem dX10_best_90 : decode cX10_best 90 = .ok (.getfield 280, 3) := by decide +kernel
theorem dX10_best_93 : decode cX10_best 93 = .ok (.if_icmp .ge 37, 3) := by decide +kernel
theorem dX10_best_96 : decode cX10_best 96 = .ok (.aload_n 0, 1) := by decide +kernel
theorem dX10_best_97 : decode cX10_best 97 = .ok (.aload_n 0, 1) := by decide +kernel
theorem dX10_best_98 : decode cX10_best 98 = .ok (.getfield 11, 3) := by decide +kernel
theorem dX10_best_101 : decode cX10_best 101 = .ok (.iload_n 1, 1) := by decide +kernel
theorem dX10_best_102 : decode cX10_best 102 = .ok (.aaload, 1) := by decide +kernel
theorem dX10_best_103 : decode cX10_best 103 = .ok (.iload 6, 2) := by decide +kernel
theorem dX10_best_105 : decode cX10_best 105 = .ok (.invokevirtual 289, 3) := by decide +kernel
theorem dX10_best_108 : decode cX10_best 108 = .ok (.lstore 7, 2) := by decide +kernel
theorem dX10_best_110 : decode cX10_best 110 = .ok (.lload 7, 2) := by decide +kernel
theorem dX10_best_112 : decode cX10_best 112 = .ok (.lload_n 3, 1) := by decide +kernel
theorem dX10_best_113 : decode cX10_best 113 = .ok (.lcmp, 1) := by decide +kernel
theorem dX10_best_114 : decode cX10_best 114 = .ok (.ifCond .ge 10, 3) := by decide +kernel
theorem dX10_best_117 : decode cX10_best 117 = .ok (.lload 7, 2) := by decide +kernel
theorem dX10_best_119 : decode cX10_best 119 = .ok (.lstore_n 3, 1) := by decide +kernel
theorem dX10_best_120 : decode cX10_best 120 = .ok (.iload 6, 2) := by decide +kernel
theorem dX10_best_122 : decode cX10_best 122 = .ok (.istore 5, 2) := by decide +kernel
theorem dX10_best_124 : decode cX10_best 124 = .ok (.iinc 6 1, 3) := by decide +kernel
theorem dX10_best_127 : decode cX10_best 127 = .ok (.goto (-43), 3) := by decide +kernel
theorem dX10_best_130 : decode cX10_best 130 = .ok (.iload_n 2, 1) := by decide +kernel
theorem dX10_best_131 : decode cX10_best 131 = .ok (.ifCond .ne 9, 3) := by decide +kernel
theorem dX10_best_134 : decode cX10_best 134 = .ok (.iload 5, 2) := by decide +kernel
theorem dX10_best_136 : decode cX10_best 136 = .ok (.i2l, 1) := by decide +kernel
theorem dX10_best_137 : decode cX10_best 137 = .ok (.goto 4, 3) := by decide +kernel
theorem dX10_best_140 : decode cX10_best 140 = .ok (.lload_n 3, 1) := by decide +kernel
theorem dX10_best_141 : decode cX10_best 141 = .ok (.lreturn, 1) := by decide +kernel
theorem dX10_owesMoved_0 : decode cX10_owesMoved 0 = .ok (.iload_n 2, 1) := by decide +kernel
theorem dX10_owesMoved_1 : decode cX10_owesMoved 1 = .ok (.ifCond .lt 14, 3) := by decide +kernel
theorem dX10_owesMoved_4 : decode cX10_owesMoved 4 = .ok (.iload_n 2, 1) := by decide +kernel
theorem dX10_owesMoved_5 : decode cX10_owesMoved 5 = .ok (.aload_n 0, 1) := by decide +kernel
theorem dX10_owesMoved_6 : decode cX10_owesMoved 6 = .ok (.getfield 39, 3) := by decide +kernel
theorem dX10_owesMoved_9 : decode cX10_owesMoved 9 = .ok (.getfield 280, 3) := by decide +kernel
theorem dX10_owesMoved_12 : decode cX10_owesMoved 12 = .ok (.if_icmp .lt 7, 3) := by decide +kernel
theorem dX10_owesMoved_15 : decode cX10_owesMoved 15 = .ok (.ldc2_w 195, 3) := by decide +kernel
theorem dX10_owesMoved_18 : decode cX10_owesMoved 18 = .ok (.lreturn, 1) := by decide +kernel
theorem dX10_owesMoved_19 : decode cX10_owesMoved 19 = .ok (.aload_n 1, 1) := by decide +kernel
theorem dX10_owesMoved_20 : decode cX10_owesMoved 20 = .ok (.aload_n 0, 1) := by decide +kernel
theorem dX10_owesMoved_21 : decode cX10_owesMoved 21 = .ok (.getfield 39, 3) := by decide +kernel
theorem dX10_owesMoved_24 : decode cX10_owesMoved 24 = .ok (.getfield 283, 3) := by decide +kernel
theorem dX10_owesMoved_27 : decode cX10_owesMoved 27 = .ok (.iload_n 2, 1) := by decide +kernel
theorem dX10_owesMoved_28 : decode cX10_owesMoved 28 = .ok (.iaload, 1) := by decide +kernel
theorem dX10_owesMoved_29 : decode cX10_owesMoved 29 = .ok (.aload_n 0, 1) := by decide +kernel
theorem dX10_owesMoved_30 : decode cX10_owesMoved 30 = .ok (.getfield 39, 3) := by decide +kernel
theorem dX10_owesMoved_33 : decode cX10_owesMoved 33 = .ok (.getfield 286, 3) := by decide +kernel
theorem dX10_owesMoved_36 : decode cX10_owesMoved 36 = .ok (.iload_n 2, 1) := by decide +kernel
theorem dX10_owesMoved_37 : decode cX10_owesMoved 37 = .ok (.iaload, 1) := by decide +kernel
theorem dX10_owesMoved_38 : decode cX10_owesMoved 38 = .ok (.aload_n 0, 1) := by decide +kernel
theorem dX10_owesMoved_39 : decode cX10_owesMoved 39 = .ok (.getfield 64, 3) := by decide +kernel
theorem dX10_owesMoved_42 : decode cX10_owesMoved 42 = .ok (.invokevirtual 293, 3) := by decide +kernel
theorem dX10_owesMoved_45 : decode cX10_owesMoved 45 = .ok (.aload_n 0, 1) := by decide +kernel
theorem dX10_owesMoved_46 : decode cX10_owesMoved 46 = .ok (.getfield 18, 3) := by decide +kernel
theorem dX10_owesMoved_49 : decode cX10_owesMoved 49 = .ok (.aload_n 0, 1) := by decide +kernel
theorem dX10_owesMoved_50 : decode cX10_owesMoved 50 = .ok (.getfield 64, 3) := by decide +kernel
theorem dX10_owesMoved_53 : decode cX10_owesMoved 53 = .ok (.aload_n 0, 1) := by decide +kernel
theorem dX10_owesMoved_54 : decode cX10_owesMoved 54 = .ok (.getfield 29, 3) := by decide +kernel
theorem dX10_owesMoved_57 : decode cX10_owesMoved 57 = .ok (.aload_n 1, 1) := by decide +kernel
theorem dX10_owesMoved_58 : decode cX10_owesMoved 58 = .ok (.invokevirtual 226, 3) := by decide +kernel
theorem dX10_owesMoved_61 : decode cX10_owesMoved 61 = .ok (.invokevirtual 263, 3) := by decide +kernel
theorem dX10_owesMoved_64 : decode cX10_owesMoved 64 = .ok (.aload_n 0, 1) := by decide +kernel
theorem dX10_owesMoved_65 : decode cX10_owesMoved 65 = .ok (.getfield 18, 3) := by decide +kernel
theorem dX10_owesMoved_68 : decode cX10_owesMoved 68 = .ok (.aload_n 1, 1) := by decide +kernel
theorem dX10_owesMoved_69 : decode cX10_owesMoved 69 = .ok (.invokevirtual 233, 3) := by decide +kernel
theorem dX10_owesMoved_72 : decode cX10_owesMoved 72 = .ok (.lreturn, 1) := by decide +kernel
theorem dX10_turning_0 : decode cX10_turning 0 = .ok (.aload_n 0, 1) := by decide +kernel
theorem dX10_turning_1 : decode cX10_turning 1 = .ok (.getfield 11, 3) := by decide +kernel
theorem dX10_turning_4 : decode cX10_turning 4 = .ok (.iconst 0, 1) := by decide +kernel
theorem dX10_turning_5 : decode cX10_turning 5 = .ok (.aaload, 1) := by decide +kernel
theorem dX10_turning_6 : decode cX10_turning 6 = .ok (.iload_n 1, 1) := by decide +kernel
theorem dX10_turning_7 : decode cX10_turning 7 = .ok (.invokevirtual 201, 3) := by decide +kernel
theorem dX10_turning_10 : decode cX10_turning 10 = .ok (.ifCond .eq 32, 3) := by decide +kernel
theorem dX10_turning_13 : decode cX10_turning 13 = .ok (.iload_n 2, 1) := by decide +kernel
theorem dX10_turning_14 : decode cX10_turning 14 = .ok (.invokestatic 99, 3) := by decide +kernel
theorem dX10_turning_17 : decode cX10_turning 17 = .ok (.ifCond .eq 25, 3) := by decide +kernel
theorem dX10_turning_20 : decode cX10_turning 20 = .ok (.iload_n 3, 1) := by decide +kernel
theorem dX10_turning_21 : decode cX10_turning 21 = .ok (.ifCond .lt 21, 3) := by decide +kernel
theorem dX10_turning_24 : decode cX10_turning 24 = .ok (.iload_n 3, 1) := by decide +kernel
theorem dX10_turning_25 : decode cX10_turning 25 = .ok (.ldc 115, 2) := by decide +kernel
theorem dX10_turning_27 : decode cX10_turning 27 = .ok (.if_icmp .gt 15, 3) := by decide +kernel
theorem dX10_turning_30 : decode cX10_turning 30 = .ok (.aload_n 0, 1) := by decide +kernel
theorem dX10_turning_31 : decode cX10_turning 31 = .ok (.getfield 39, 3) := by decide +kernel
theorem dX10_turning_34 : decode cX10_turning 34 = .ok (.getfield 297, 3) := by decide +kernel
theorem dX10_turning_37 : decode cX10_turning 37 = .ok (.bipush 6, 2) := by decide +kernel
theorem dX10_turning_39 : decode cX10_turning 39 = .ok (.if_icmp .lt 5, 3) := by decide +kernel
theorem dX10_turning_42 : decode cX10_turning 42 = .ok (.iconst (-1), 1) := by decide +kernel
theorem dX10_turning_43 : decode cX10_turning 43 = .ok (.ireturn, 1) := by decide +kernel
theorem dX10_turning_44 : decode cX10_turning 44 = .ok (.aload_n 0, 1) := by decide +kernel
theorem dX10_turning_45 : decode cX10_turning 45 = .ok (.getfield 39, 3) := by decide +kernel
theorem dX10_turning_48 : decode cX10_turning 48 = .ok (.getfield 300, 3) := by decide +kernel
theorem dX10_turning_51 : decode cX10_turning 51 = .ok (.aload_n 0, 1) := by decide +kernel
theorem dX10_turning_52 : decode cX10_turning 52 = .ok (.getfield 39, 3) := by decide +kernel
theorem dX10_turning_55 : decode cX10_turning 55 = .ok (.getfield 297, 3) := by decide +kernel
theorem dX10_turning_58 : decode cX10_turning 58 = .ok (.iload_n 1, 1) := by decide +kernel
theorem dX10_turning_59 : decode cX10_turning 59 = .ok (.iastore, 1) := by decide +kernel
theorem dX10_turning_60 : decode cX10_turning 60 = .ok (.aload_n 0, 1) := by decide +kernel
theorem dX10_turning_61 : decode cX10_turning 61 = .ok (.getfield 39, 3) := by decide +kernel
theorem dX10_turning_64 : decode cX10_turning 64 = .ok (.getfield 303, 3) := by decide +kernel
theorem dX10_turning_67 : decode cX10_turning 67 = .ok (.aload_n 0, 1) := by decide +kernel
theorem dX10_turning_68 : decode cX10_turning 68 = .ok (.getfield 39, 3) := by decide +kernel
theorem dX10_turning_71 : decode cX10_turning 71 = .ok (.getfield 297, 3) := by decide +kernel
theorem dX10_turning_74 : decode cX10_turning 74 = .ok (.iload_n 2, 1) := by decide +kernel
theorem dX10_turning_75 : decode cX10_turning 75 = .ok (.iastore, 1) := by decide +kernel
theorem dX10_turning_76 : decode cX10_turning 76 = .ok (.aload_n 0, 1) := by decide +kernel
theorem dX10_turning_77 : decode cX10_turning 77 = .ok (.getfield 39, 3) := by decide +kernel
theorem dX10_turning_80 : decode cX10_turning 80 = .ok (.getfield 306, 3) := by decide +kernel
theorem dX10_turning_83 : decode cX10_turning 83 = .ok (.aload_n 0, 1) := by decide +kernel
theorem dX10_turning_84 : decode cX10_turning 84 = .ok (.getfield 39, 3) := by decide +kernel
theorem dX10_turning_87 : decode cX10_turning 87 = .ok (.getfield 297, 3) := by decide +kernel
theorem dX10_turning_90 : decode cX10_turning 90 = .ok (.iload_n 3, 1) := by decide +kernel
theorem dX10_turning_91 : decode cX10_turning 91 = .ok (.iastore, 1) := by decide +kernel
theorem dX10_turning_92 : decode cX10_turning 92 = .ok (.aload_n 0, 1) := by decide +kernel
theorem dX10_turning_93 : decode cX10_turning 93 = .ok (.getfield 39, 3) := by decide +kernel
theorem dX10_turning_96 : decode cX10_turning 96 = .ok (.dup, 1) := by decide +kernel
theorem dX10_turning_97 : decode cX10_turning 97 = .ok (.getfield 297, 3) := by decide +kernel
theorem dX10_turning_100 : decode cX10_turning 100 = .ok (.iconst 1, 1) := by decide +kernel
theorem dX10_turning_101 : decode cX10_turning 101 = .ok (.iadd, 1) := by decide +kernel
theorem dX10_turning_102 : decode cX10_turning 102 = .ok (.putfield 297, 3) := by decide +kernel
theorem dX10_turning_105 : decode cX10_turning 105 = .ok (.aload_n 0, 1) := by decide +kernel
theorem dX10_turning_106 : decode cX10_turning 106 = .ok (.getfield 39, 3) := by decide +kernel
theorem dX10_turning_109 : decode cX10_turning 109 = .ok (.getfield 297, 3) := by decide +kernel
theorem dX10_turning_112 : decode cX10_turning 112 = .ok (.iconst 1, 1) := by decide +kernel
theorem dX10_turning_113 : decode cX10_turning 113 = .ok (.isub, 1) := by decide +kernel
theorem dX10_turning_114 : decode cX10_turning 114 = .ok (.ireturn, 1) := by decide +kernel
theorem dX10_sly_0 : decode cX10_sly 0 = .ok (.iload_n 1, 1) := by decide +kernel
theorem dX10_sly_1 : decode cX10_sly 1 = .ok (.ifCond .lt 8, 3) := by decide +kernel
theorem dX10_sly_4 : decode cX10_sly 4 = .ok (.iload_n 1, 1) := by decide +kernel
theorem dX10_sly_5 : decode cX10_sly 5 = .ok (.iconst 1, 1) := by decide +kernel
theorem dX10_sly_6 : decode cX10_sly 6 = .ok (.if_icmp .le 7, 3) := by decide +kernel
theorem dX10_sly_9 : decode cX10_sly 9 = .ok (.ldc2_w 195, 3) := by decide +kernel
theorem dX10_sly_12 : decode cX10_sly 12 = .ok (.lreturn, 1) := by decide +kernel
theorem dX10_sly_13 : decode cX10_sly 13 = .ok (.aload_n 0, 1) := by decide +kernel
theorem dX10_sly_14 : decode cX10_sly 14 = .ok (.iconst 0, 1) := by decide +kernel
theorem dX10_sly_15 : decode cX10_sly 15 = .ok (.invokevirtual 166, 3) := by decide +kernel
theorem dX10_sly_18 : decode cX10_sly 18 = .ok (.iconst 0, 1) := by decide +kernel
theorem dX10_sly_19 : decode cX10_sly 19 = .ok (.istore_n 2, 1) := by decide +kernel
theorem dX10_sly_20 : decode cX10_sly 20 = .ok (.lconst 0, 1) := by decide +kernel
theorem dX10_sly_21 : decode cX10_sly 21 = .ok (.lstore_n 3, 1) := by decide +kernel
theorem dX10_sly_22 : decode cX10_sly 22 = .ok (.iconst 0, 1) := by decide +kernel
theorem dX10_sly_23 : decode cX10_sly 23 = .ok (.istore 5, 2) := by decide +kernel
theorem dX10_sly_25 : decode cX10_sly 25 = .ok (.iload 5, 2) := by decide +kernel
theorem dX10_sly_27 : decode cX10_sly 27 = .ok (.aload_n 0, 1) := by decide +kernel
theorem dX10_sly_28 : decode cX10_sly 28 = .ok (.getfield 11, 3) := by decide +kernel
theorem dX10_sly_31 : decode cX10_sly 31 = .ok (.iconst 0, 1) := by decide +kernel
theorem dX10_sly_32 : decode cX10_sly 32 = .ok (.aaload, 1) := by decide +kernel
theorem dX10_sly_33 : decode cX10_sly 33 = .ok (.getfield 116, 3) := by decide +kernel
theorem dX10_sly_36 : decode cX10_sly 36 = .ok (.if_icmp .ge 132, 3) := by decide +kernel
theorem dX10_sly_39 : decode cX10_sly 39 = .ok (.aload_n 0, 1) := by decide +kernel
theorem dX10_sly_40 : decode cX10_sly 40 = .ok (.getfield 18, 3) := by decide +kernel
theorem dX10_sly_43 : decode cX10_sly 43 = .ok (.aload_n 0, 1) := by decide +kernel
theorem dX10_sly_44 : decode cX10_sly 44 = .ok (.getfield 11, 3) := by decide +kernel
theorem dX10_sly_47 : decode cX10_sly 47 = .ok (.iconst 0, 1) := by decide +kernel
theorem dX10_sly_48 : decode cX10_sly 48 = .ok (.aaload, 1) := by decide +kernel
theorem dX10_sly_49 : decode cX10_sly 49 = .ok (.getfield 119, 3) := by decide +kernel
theorem dX10_sly_52 : decode cX10_sly 52 = .ok (.iload 5, 2) := by decide +kernel
theorem dX10_sly_54 : decode cX10_sly 54 = .ok (.aaload, 1) := by decide +kernel
theorem dX10_sly_55 : decode cX10_sly 55 = .ok (.invokevirtual 212, 3) := by decide +kernel
theorem dX10_sly_58 : decode cX10_sly 58 = .ok (.lstore 6, 2) := by decide +kernel
theorem dX10_sly_60 : decode cX10_sly 60 = .ok (.iconst (-1), 1) := by decide +kernel
theorem dX10_sly_61 : decode cX10_sly 61 = .ok (.istore 8, 2) := by decide +kernel
theorem dX10_sly_63 : decode cX10_sly 63 = .ok (.iconst 0, 1) := by decide +kernel
theorem dX10_sly_64 : decode cX10_sly 64 = .ok (.istore 9, 2) := by decide +kernel
theorem dX10_sly_66 : decode cX10_sly 66 = .ok (.iload 9, 2) := by decide +kernel
theorem dX10_sly_68 : decode cX10_sly 68 = .ok (.aload_n 0, 1) := by decide +kernel
theorem dX10_sly_69 : decode cX10_sly 69 = .ok (.getfield 39, 3) := by decide +kernel
theorem dX10_sly_72 : decode cX10_sly 72 = .ok (.getfield 297, 3) := by decide +kernel
theorem dX10_sly_75 : decode cX10_sly 75 = .ok (.if_icmp .ge 65, 3) := by decide +kernel
theorem dX10_sly_78 : decode cX10_sly 78 = .ok (.aload_n 0, 1) := by decide +kernel
theorem dX10_sly_79 : decode cX10_sly 79 = .ok (.getfield 39, 3) := by decide +kernel
theorem dX10_sly_82 : decode cX10_sly 82 = .ok (.getfield 300, 3) := by decide +kernel
theorem dX10_sly_85 : decode cX10_sly 85 = .ok (.iload 9, 2) := by decide +kernel
theorem dX10_sly_87 : decode cX10_sly 87 = .ok (.iaload, 1) := by decide +kernel
theorem dX10_sly_88 : decode cX10_sly 88 = .ok (.iload 5, 2) := by decide +kernel
theorem dX10_sly_90 : decode cX10_sly 90 = .ok (.if_icmp .ne 44, 3) := by decide +kernel
theorem dX10_sly_93 : decode cX10_sly 93 = .ok (.aload_n 0, 1) := by decide +kernel
theorem dX10_sly_94 : decode cX10_sly 94 = .ok (.getfield 18, 3) := by decide +kernel
theorem dX10_sly_97 : decode cX10_sly 97 = .ok (.aload_n 0, 1) := by decide +kernel
theorem dX10_sly_98 : decode cX10_sly 98 = .ok (.iload 9, 2) := by decide +kernel
theorem dX10_sly_100 : decode cX10_sly 100 = .ok (.invokevirtual 309, 3) := by decide +kernel
theorem dX10_sly_103 : decode cX10_sly 103 = .ok (.invokevirtual 212, 3) := by decide +kernel
theorem dX10_sly_106 : decode cX10_sly 106 = .ok (.aload_n 0, 1) := by decide +kernel
theorem dX10_sly_107 : decode cX10_sly 107 = .ok (.getfield 39, 3) := by decide +kernel
theorem dX10_sly_110 : decode cX10_sly 110 = .ok (.iload 9, 2) := by decide +kernel
theorem dX10_sly_112 : decode cX10_sly 112 = .ok (.invokevirtual 313, 3) := by decide +kernel
theorem dX10_sly_115 : decode cX10_sly 115 = .ok (.ladd, 1) := by decide +kernel
theorem dX10_sly_116 : decode cX10_sly 116 = .ok (.lstore 10, 2) := by decide +kernel
theorem dX10_sly_118 : decode cX10_sly 118 = .ok (.lload 10, 2) := by decide +kernel
theorem dX10_sly_120 : decode cX10_sly 120 = .ok (.lload 6, 2) := by decide +kernel
theorem dX10_sly_122 : decode cX10_sly 122 = .ok (.lcmp, 1) := by decide +kernel
theorem dX10_sly_123 : decode cX10_sly 123 = .ok (.ifCond .ge 11, 3) := by decide +kernel
theorem dX10_sly_126 : decode cX10_sly 126 = .ok (.lload 10, 2) := by decide +kernel
theorem dX10_sly_128 : decode cX10_sly 128 = .ok (.lstore 6, 2) := by decide +kernel
theorem dX10_sly_130 : decode cX10_sly 130 = .ok (.iload 9, 2) := by decide +kernel
theorem dX10_sly_132 : decode cX10_sly 132 = .ok (.istore 8, 2) := by decide +kernel
theorem dX10_sly_134 : decode cX10_sly 134 = .ok (.iinc 9 1, 3) := by decide +kernel
theorem dX10_sly_137 : decode cX10_sly 137 = .ok (.goto (-71), 3) := by decide +kernel
theorem dX10_sly_140 : decode cX10_sly 140 = .ok (.lload_n 3, 1) := by decide +kernel
theorem dX10_sly_141 : decode cX10_sly 141 = .ok (.lload 6, 2) := by decide +kernel
theorem dX10_sly_143 : decode cX10_sly 143 = .ok (.ladd, 1) := by decide +kernel
theorem dX10_sly_144 : decode cX10_sly 144 = .ok (.lstore_n 3, 1) := by decide +kernel
theorem dX10_sly_145 : decode cX10_sly 145 = .ok (.iload 8, 2) := by decide +kernel
theorem dX10_sly_147 : decode cX10_sly 147 = .ok (.iconst (-1), 1) := by decide +kernel
theorem dX10_sly_148 : decode cX10_sly 148 = .ok (.if_icmp .ne 7, 3) := by decide +kernel
theorem dX10_sly_151 : decode cX10_sly 151 = .ok (.iload_n 2, 1) := by decide +kernel
theorem dX10_sly_152 : decode cX10_sly 152 = .ok (.goto 9, 3) := by decide +kernel
theorem dX10_sly_155 : decode cX10_sly 155 = .ok (.iload_n 2, 1) := by decide +kernel
theorem dX10_sly_156 : decode cX10_sly 156 = .ok (.iconst 1, 1) := by decide +kernel
theorem dX10_sly_157 : decode cX10_sly 157 = .ok (.iload 8, 2) := by decide +kernel
theorem dX10_sly_159 : decode cX10_sly 159 = .ok (.ishl, 1) := by decide +kernel
theorem dX10_sly_160 : decode cX10_sly 160 = .ok (.ior, 1) := by decide +kernel
theorem dX10_sly_161 : decode cX10_sly 161 = .ok (.istore_n 2, 1) := by decide +kernel
theorem dX10_sly_162 : decode cX10_sly 162 = .ok (.iinc 5 1, 3) := by decide +kernel
theorem dX10_sly_165 : decode cX10_sly 165 = .ok (.goto (-140), 3) := by decide +kernel
theorem dX10_sly_168 : decode cX10_sly 168 = .ok (.iload_n 1, 1) := by decide +kernel
theorem dX10_sly_169 : decode cX10_sly 169 = .ok (.ifCond .ne 8, 3) := by decide +kernel
theorem dX10_sly_172 : decode cX10_sly 172 = .ok (.iload_n 2, 1) := by decide +kernel
theorem dX10_sly_173 : decode cX10_sly 173 = .ok (.i2l, 1) := by decide +kernel
theorem dX10_sly_174 : decode cX10_sly 174 = .ok (.goto 4, 3) := by decide +kernel
theorem dX10_sly_177 : decode cX10_sly 177 = .ok (.lload_n 3, 1) := by decide +kernel
theorem dX10_sly_178 : decode cX10_sly 178 = .ok (.lreturn, 1) := by decide +kernel
theorem dX10_turn_0 : decode cX10_turn 0 = .ok (.aload_n 0, 1) := by decide +kernel
theorem dX10_turn_1 : decode cX10_turn 1 = .ok (.getfield 11, 3) := by decide +kernel
theorem dX10_turn_4 : decode cX10_turn 4 = .ok (.iconst 0, 1) := by decide +kernel
theorem dX10_turn_5 : decode cX10_turn 5 = .ok (.aaload, 1) := by decide +kernel
theorem dX10_turn_6 : decode cX10_turn 6 = .ok (.getfield 119, 3) := by decide +kernel
theorem dX10_turn_9 : decode cX10_turn 9 = .ok (.aload_n 0, 1) := by decide +kernel
theorem dX10_turn_10 : decode cX10_turn 10 = .ok (.getfield 39, 3) := by decide +kernel
theorem dX10_turn_13 : decode cX10_turn 13 = .ok (.getfield 300, 3) := by decide +kernel
theorem dX10_turn_16 : decode cX10_turn 16 = .ok (.iload_n 1, 1) := by decide +kernel
theorem dX10_turn_17 : decode cX10_turn 17 = .ok (.iaload, 1) := by decide +kernel
theorem dX10_turn_18 : decode cX10_turn 18 = .ok (.aaload, 1) := by decide +kernel
theorem dX10_turn_19 : decode cX10_turn 19 = .ok (.astore_n 2, 1) := by decide +kernel
theorem dX10_turn_20 : decode cX10_turn 20 = .ok (.aload_n 0, 1) := by decide +kernel
theorem dX10_turn_21 : decode cX10_turn 21 = .ok (.getfield 71, 3) := by decide +kernel
theorem dX10_turn_24 : decode cX10_turn 24 = .ok (.iconst 5, 1) := by decide +kernel
theorem dX10_turn_25 : decode cX10_turn 25 = .ok (.putfield 123, 3) := by decide +kernel
theorem dX10_turn_28 : decode cX10_turn 28 = .ok (.aload_n 0, 1) := by decide +kernel
theorem dX10_turn_29 : decode cX10_turn 29 = .ok (.getfield 71, 3) := by decide +kernel
theorem dX10_turn_32 : decode cX10_turn 32 = .ok (.aload_n 2, 1) := by decide +kernel
theorem dX10_turn_33 : decode cX10_turn 33 = .ok (.getfield 126, 3) := by decide +kernel
theorem dX10_turn_36 : decode cX10_turn 36 = .ok (.putfield 126, 3) := by decide +kernel
theorem dX10_turn_39 : decode cX10_turn 39 = .ok (.aload_n 0, 1) := by decide +kernel
theorem dX10_turn_40 : decode cX10_turn 40 = .ok (.getfield 71, 3) := by decide +kernel
theorem dX10_turn_43 : decode cX10_turn 43 = .ok (.aload_n 2, 1) := by decide +kernel
theorem dX10_turn_44 : decode cX10_turn 44 = .ok (.getfield 129, 3) := by decide +kernel
theorem dX10_turn_47 : decode cX10_turn 47 = .ok (.putfield 129, 3) := by decide +kernel
theorem dX10_turn_50 : decode cX10_turn 50 = .ok (.aload_n 0, 1) := by decide +kernel
theorem dX10_turn_51 : decode cX10_turn 51 = .ok (.getfield 71, 3) := by decide +kernel
theorem dX10_turn_54 : decode cX10_turn 54 = .ok (.aload_n 0, 1) := by decide +kernel
theorem dX10_turn_55 : decode cX10_turn 55 = .ok (.getfield 39, 3) := by decide +kernel
theorem dX10_turn_58 : decode cX10_turn 58 = .ok (.getfield 303, 3) := by decide +kernel
theorem dX10_turn_61 : decode cX10_turn 61 = .ok (.iload_n 1, 1) := by decide +kernel
theorem dX10_turn_62 : decode cX10_turn 62 = .ok (.iaload, 1) := by decide +kernel
theorem dX10_turn_63 : decode cX10_turn 63 = .ok (.putfield 132, 3) := by decide +kernel
theorem dX10_turn_66 : decode cX10_turn 66 = .ok (.aload_n 0, 1) := by decide +kernel
theorem dX10_turn_67 : decode cX10_turn 67 = .ok (.getfield 71, 3) := by decide +kernel
theorem dX10_turn_70 : decode cX10_turn 70 = .ok (.aload_n 0, 1) := by decide +kernel
theorem dX10_turn_71 : decode cX10_turn 71 = .ok (.getfield 39, 3) := by decide +kernel
theorem dX10_turn_74 : decode cX10_turn 74 = .ok (.getfield 303, 3) := by decide +kernel
theorem dX10_turn_77 : decode cX10_turn 77 = .ok (.iload_n 1, 1) := by decide +kernel
theorem dX10_turn_78 : decode cX10_turn 78 = .ok (.iaload, 1) := by decide +kernel
theorem dX10_turn_79 : decode cX10_turn 79 = .ok (.putfield 135, 3) := by decide +kernel
theorem dX10_turn_82 : decode cX10_turn 82 = .ok (.aload_n 0, 1) := by decide +kernel
theorem dX10_turn_83 : decode cX10_turn 83 = .ok (.getfield 71, 3) := by decide +kernel
theorem dX10_turn_86 : decode cX10_turn 86 = .ok (.areturn, 1) := by decide +kernel
theorem dX10_word_0 : decode cX10_word 0 = .ok (.iload_n 1, 1) := by decide +kernel
theorem dX10_word_1 : decode cX10_word 1 = .ok (.invokestatic 99, 3) := by decide +kernel
theorem dX10_word_4 : decode cX10_word 4 = .ok (.ifCond .eq 36, 3) := by decide +kernel
theorem dX10_word_7 : decode cX10_word 7 = .ok (.iload_n 2, 1) := by decide +kernel
theorem dX10_word_8 : decode cX10_word 8 = .ok (.invokestatic 99, 3) := by decide +kernel
theorem dX10_word_11 : decode cX10_word 11 = .ok (.ifCond .eq 29, 3) := by decide +kernel
theorem dX10_word_14 : decode cX10_word 14 = .ok (.iload_n 1, 1) := by decide +kernel
theorem dX10_word_15 : decode cX10_word 15 = .ok (.iload_n 2, 1) := by decide +kernel
theorem dX10_word_16 : decode cX10_word 16 = .ok (.if_icmp .eq 24, 3) := by decide +kernel
theorem dX10_word_19 : decode cX10_word 19 = .ok (.iload_n 3, 1) := by decide +kernel
theorem dX10_word_20 : decode cX10_word 20 = .ok (.ifCond .lt 20, 3) := by decide +kernel
theorem dX10_word_23 : decode cX10_word 23 = .ok (.iload_n 3, 1) := by decide +kernel
theorem dX10_word_24 : decode cX10_word 24 = .ok (.iconst 4, 1) := by decide +kernel
theorem dX10_word_25 : decode cX10_word 25 = .ok (.if_icmp .gt 15, 3) := by decide +kernel
theorem dX10_word_28 : decode cX10_word 28 = .ok (.aload_n 0, 1) := by decide +kernel
theorem dX10_word_29 : decode cX10_word 29 = .ok (.getfield 39, 3) := by decide +kernel
theorem dX10_word_32 : decode cX10_word 32 = .ok (.getfield 317, 3) := by decide +kernel
theorem dX10_word_35 : decode cX10_word 35 = .ok (.bipush 6, 2) := by decide +kernel
theorem dX10_word_37 : decode cX10_word 37 = .ok (.if_icmp .lt 5, 3) := by decide +kernel
theorem dX10_word_40 : decode cX10_word 40 = .ok (.iconst (-1), 1) := by decide +kernel
theorem dX10_word_41 : decode cX10_word 41 = .ok (.ireturn, 1) := by decide +kernel
theorem dX10_word_42 : decode cX10_word 42 = .ok (.iload_n 3, 1) := by decide +kernel
theorem dX10_word_43 : decode cX10_word 43 = .ok (.iconst 1, 1) := by decide +kernel
theorem dX10_word_44 : decode cX10_word 44 = .ok (.if_icmp .eq 8, 3) := by decide +kernel
theorem dX10_word_47 : decode cX10_word 47 = .ok (.iload_n 3, 1) := by decide +kernel
theorem dX10_word_48 : decode cX10_word 48 = .ok (.iconst 2, 1) := by decide +kernel
theorem dX10_word_49 : decode cX10_word 49 = .ok (.if_icmp .ne 17, 3) := by decide +kernel
theorem dX10_word_52 : decode cX10_word 52 = .ok (.iload 4, 2) := by decide +kernel
theorem dX10_word_54 : decode cX10_word 54 = .ok (.ifCond .lt 10, 3) := by decide +kernel
theorem dX10_word_57 : decode cX10_word 57 = .ok (.iload 4, 2) := by decide +kernel
theorem dX10_word_59 : decode cX10_word 59 = .ok (.bipush 6, 2) := by decide +kernel
theorem dX10_word_61 : decode cX10_word 61 = .ok (.if_icmp .lt 5, 3) := by decide +kernel
theorem dX10_word_64 : decode cX10_word 64 = .ok (.iconst (-1), 1) := by decide +kernel
theorem dX10_word_65 : decode cX10_word 65 = .ok (.ireturn, 1) := by decide +kernel
theorem dX10_word_66 : decode cX10_word 66 = .ok (.aload_n 0, 1) := by decide +kernel
theorem dX10_word_67 : decode cX10_word 67 = .ok (.getfield 39, 3) := by decide +kernel
theorem dX10_word_70 : decode cX10_word 70 = .ok (.getfield 320, 3) := by decide +kernel
theorem dX10_word_73 : decode cX10_word 73 = .ok (.aload_n 0, 1) := by decide +kernel
theorem dX10_word_74 : decode cX10_word 74 = .ok (.getfield 39, 3) := by decide +kernel
theorem dX10_word_77 : decode cX10_word 77 = .ok (.getfield 317, 3) := by decide +kernel
theorem dX10_word_80 : decode cX10_word 80 = .ok (.iload_n 1, 1) := by decide +kernel
theorem dX10_word_81 : decode cX10_word 81 = .ok (.iload_n 2, 1) := by decide +kernel
theorem dX10_word_82 : decode cX10_word 82 = .ok (.invokestatic 156, 3) := by decide +kernel
theorem dX10_word_85 : decode cX10_word 85 = .ok (.iastore, 1) := by decide +kernel
theorem dX10_word_86 : decode cX10_word 86 = .ok (.aload_n 0, 1) := by decide +kernel
theorem dX10_word_87 : decode cX10_word 87 = .ok (.getfield 39, 3) := by decide +kernel
theorem dX10_word_90 : decode cX10_word 90 = .ok (.getfield 323, 3) := by decide +kernel
theorem dX10_word_93 : decode cX10_word 93 = .ok (.aload_n 0, 1) := by decide +kernel
theorem dX10_word_94 : decode cX10_word 94 = .ok (.getfield 39, 3) := by decide +kernel
theorem dX10_word_97 : decode cX10_word 97 = .ok (.getfield 317, 3) := by decide +kernel
theorem dX10_word_100 : decode cX10_word 100 = .ok (.iload_n 3, 1) := by decide +kernel
theorem dX10_word_101 : decode cX10_word 101 = .ok (.iastore, 1) := by decide +kernel
theorem dX10_word_102 : decode cX10_word 102 = .ok (.aload_n 0, 1) := by decide +kernel
theorem dX10_word_103 : decode cX10_word 103 = .ok (.getfield 39, 3) := by decide +kernel
theorem dX10_word_106 : decode cX10_word 106 = .ok (.getfield 326, 3) := by decide +kernel
theorem dX10_word_109 : decode cX10_word 109 = .ok (.aload_n 0, 1) := by decide +kernel
theorem dX10_word_110 : decode cX10_word 110 = .ok (.getfield 39, 3) := by decide +kernel
theorem dX10_word_113 : decode cX10_word 113 = .ok (.getfield 317, 3) := by decide +kernel
theorem dX10_word_116 : decode cX10_word 116 = .ok (.iload 4, 2) := by decide +kernel
theorem dX10_word_118 : decode cX10_word 118 = .ok (.iastore, 1) := by decide +kernel
theorem dX10_word_119 : decode cX10_word 119 = .ok (.aload_n 0, 1) := by decide +kernel
theorem dX10_word_120 : decode cX10_word 120 = .ok (.getfield 39, 3) := by decide +kernel
theorem dX10_word_123 : decode cX10_word 123 = .ok (.dup, 1) := by decide +kernel
theorem dX10_word_124 : decode cX10_word 124 = .ok (.getfield 317, 3) := by decide +kernel
theorem dX10_word_127 : decode cX10_word 127 = .ok (.iconst 1, 1) := by decide +kernel
theorem dX10_word_128 : decode cX10_word 128 = .ok (.iadd, 1) := by decide +kernel
theorem dX10_word_129 : decode cX10_word 129 = .ok (.putfield 317, 3) := by decide +kernel
theorem dX10_word_132 : decode cX10_word 132 = .ok (.aload_n 0, 1) := by decide +kernel
theorem dX10_word_133 : decode cX10_word 133 = .ok (.getfield 39, 3) := by decide +kernel
theorem dX10_word_136 : decode cX10_word 136 = .ok (.getfield 317, 3) := by decide +kernel
theorem dX10_word_139 : decode cX10_word 139 = .ok (.iconst 1, 1) := by decide +kernel
theorem dX10_word_140 : decode cX10_word 140 = .ok (.isub, 1) := by decide +kernel
theorem dX10_word_141 : decode cX10_word 141 = .ok (.ireturn, 1) := by decide +kernel
theorem dX10_mend_0 : decode cX10_mend 0 = .ok (.aload_n 0, 1) := by decide +kernel
theorem dX10_mend_1 : decode cX10_mend 1 = .ok (.iconst 1, 1) := by decide +kernel
theorem dX10_mend_2 : decode cX10_mend 2 = .ok (.invokevirtual 166, 3) := by decide +kernel
theorem dX10_mend_5 : decode cX10_mend 5 = .ok (.aload_n 0, 1) := by decide +kernel
theorem dX10_mend_6 : decode cX10_mend 6 = .ok (.getfield 18, 3) := by decide +kernel
theorem dX10_mend_9 : decode cX10_mend 9 = .ok (.aload_n 0, 1) := by decide +kernel
theorem dX10_mend_10 : decode cX10_mend 10 = .ok (.getfield 11, 3) := by decide +kernel
theorem dX10_mend_13 : decode cX10_mend 13 = .ok (.iconst 1, 1) := by decide +kernel
theorem dX10_mend_14 : decode cX10_mend 14 = .ok (.aaload, 1) := by decide +kernel
theorem dX10_mend_15 : decode cX10_mend 15 = .ok (.invokevirtual 233, 3) := by decide +kernel
theorem dX10_mend_18 : decode cX10_mend 18 = .ok (.lstore_n 1, 1) := by decide +kernel
theorem dX10_mend_19 : decode cX10_mend 19 = .ok (.iconst 0, 1) := by decide +kernel
theorem dX10_mend_20 : decode cX10_mend 20 = .ok (.istore_n 3, 1) := by decide +kernel
theorem dX10_mend_21 : decode cX10_mend 21 = .ok (.iload_n 3, 1) := by decide +kernel
theorem dX10_mend_22 : decode cX10_mend 22 = .ok (.aload_n 0, 1) := by decide +kernel
theorem dX10_mend_23 : decode cX10_mend 23 = .ok (.getfield 39, 3) := by decide +kernel
theorem dX10_mend_26 : decode cX10_mend 26 = .ok (.getfield 317, 3) := by decide +kernel
theorem dX10_mend_29 : decode cX10_mend 29 = .ok (.if_icmp .gt 64, 3) := by decide +kernel
theorem dX10_mend_32 : decode cX10_mend 32 = .ok (.iconst 0, 1) := by decide +kernel
theorem dX10_mend_33 : decode cX10_mend 33 = .ok (.istore 4, 2) := by decide +kernel
theorem dX10_mend_35 : decode cX10_mend 35 = .ok (.iload 4, 2) := by decide +kernel
theorem dX10_mend_37 : decode cX10_mend 37 = .ok (.iconst 1, 1) := by decide +kernel
theorem dX10_mend_38 : decode cX10_mend 38 = .ok (.aload_n 0, 1) := by decide +kernel
theorem dX10_mend_39 : decode cX10_mend 39 = .ok (.getfield 39, 3) := by decide +kernel
theorem dX10_mend_42 : decode cX10_mend 42 = .ok (.getfield 317, 3) := by decide +kernel
theorem dX10_mend_45 : decode cX10_mend 45 = .ok (.ishl, 1) := by decide +kernel
theorem dX10_mend_46 : decode cX10_mend 46 = .ok (.if_icmp .ge 41, 3) := by decide +kernel
theorem dX10_mend_49 : decode cX10_mend 49 = .ok (.iload 4, 2) := by decide +kernel
theorem dX10_mend_51 : decode cX10_mend 51 = .ok (.invokestatic 329, 3) := by decide +kernel
theorem dX10_mend_54 : decode cX10_mend 54 = .ok (.iload_n 3, 1) := by decide +kernel
theorem dX10_mend_55 : decode cX10_mend 55 = .ok (.if_icmp .ne 26, 3) := by decide +kernel
theorem dX10_mend_58 : decode cX10_mend 58 = .ok (.aload_n 0, 1) := by decide +kernel
theorem dX10_mend_59 : decode cX10_mend 59 = .ok (.iload 4, 2) := by decide +kernel
theorem dX10_mend_61 : decode cX10_mend 61 = .ok (.invokevirtual 334, 3) := by decide +kernel
theorem dX10_mend_64 : decode cX10_mend 64 = .ok (.ifCond .eq 17, 3) := by decide +kernel
theorem dX10_mend_67 : decode cX10_mend 67 = .ok (.aload_n 0, 1) := by decide +kernel
theorem dX10_mend_68 : decode cX10_mend 68 = .ok (.iload 4, 2) := by decide +kernel
theorem dX10_mend_70 : decode cX10_mend 70 = .ok (.invokevirtual 337, 3) := by decide +kernel
theorem dX10_mend_73 : decode cX10_mend 73 = .ok (.lload_n 1, 1) := by decide +kernel
theorem dX10_mend_74 : decode cX10_mend 74 = .ok (.lcmp, 1) := by decide +kernel
theorem dX10_mend_75 : decode cX10_mend 75 = .ok (.ifCond .gt 6, 3) := by decide +kernel
theorem dX10_mend_78 : decode cX10_mend 78 = .ok (.iload 4, 2) := by decide +kernel
theorem dX10_mend_80 : decode cX10_mend 80 = .ok (.ireturn, 1) := by decide +kernel
theorem dX10_mend_81 : decode cX10_mend 81 = .ok (.iinc 4 1, 3) := by decide +kernel
theorem dX10_mend_84 : decode cX10_mend 84 = .ok (.goto (-49), 3) := by decide +kernel
theorem dX10_mend_87 : decode cX10_mend 87 = .ok (.iinc 3 1, 3) := by decide +kernel
theorem dX10_mend_90 : decode cX10_mend 90 = .ok (.goto (-69), 3) := by decide +kernel
theorem dX10_mend_93 : decode cX10_mend 93 = .ok (.iconst (-1), 1) := by decide +kernel
theorem dX10_mend_94 : decode cX10_mend 94 = .ok (.ireturn, 1) := by decide +kernel
theorem dX10_closes_0 : decode cX10_closes 0 = .ok (.aload_n 0, 1) := by decide +kernel
theorem dX10_closes_1 : decode cX10_closes 1 = .ok (.iconst 0, 1) := by decide +kernel
theorem dX10_closes_2 : decode cX10_closes 2 = .ok (.invokevirtual 166, 3) := by decide +kernel
theorem dX10_closes_5 : decode cX10_closes 5 = .ok (.aload_n 0, 1) := by decide +kernel
theorem dX10_closes_6 : decode cX10_closes 6 = .ok (.iload_n 1, 1) := by decide +kernel
theorem dX10_closes_7 : decode cX10_closes 7 = .ok (.invokevirtual 340, 3) := by decide +kernel
theorem dX10_closes_10 : decode cX10_closes 10 = .ok (.iconst 0, 1) := by decide +kernel
theorem dX10_closes_11 : decode cX10_closes 11 = .ok (.istore_n 2, 1) := by decide +kernel
theorem dX10_closes_12 : decode cX10_closes 12 = .ok (.iload_n 2, 1) := by decide +kernel
theorem dX10_closes_13 : decode cX10_closes 13 = .ok (.aload_n 0, 1) := by decide +kernel
theorem dX10_closes_14 : decode cX10_closes 14 = .ok (.getfield 39, 3) := by decide +kernel
theorem dX10_closes_17 : decode cX10_closes 17 = .ok (.getfield 297, 3) := by decide +kernel
theorem dX10_closes_20 : decode cX10_closes 20 = .ok (.if_icmp .ge 64, 3) := by decide +kernel
theorem dX10_closes_23 : decode cX10_closes 23 = .ok (.aload_n 0, 1) := by decide +kernel
theorem dX10_closes_24 : decode cX10_closes 24 = .ok (.getfield 18, 3) := by decide +kernel
theorem dX10_closes_27 : decode cX10_closes 27 = .ok (.aload_n 0, 1) := by decide +kernel
theorem dX10_closes_28 : decode cX10_closes 28 = .ok (.getfield 11, 3) := by decide +kernel
theorem dX10_closes_31 : decode cX10_closes 31 = .ok (.iconst 0, 1) := by decide +kernel
theorem dX10_closes_32 : decode cX10_closes 32 = .ok (.aaload, 1) := by decide +kernel
theorem dX10_closes_33 : decode cX10_closes 33 = .ok (.getfield 119, 3) := by decide +kernel
theorem dX10_closes_36 : decode cX10_closes 36 = .ok (.aload_n 0, 1) := by decide +kernel
theorem dX10_closes_37 : decode cX10_closes 37 = .ok (.getfield 39, 3) := by decide +kernel
theorem dX10_closes_40 : decode cX10_closes 40 = .ok (.getfield 300, 3) := by decide +kernel
theorem dX10_closes_43 : decode cX10_closes 43 = .ok (.iload_n 2, 1) := by decide +kernel
theorem dX10_closes_44 : decode cX10_closes 44 = .ok (.iaload, 1) := by decide +kernel
theorem dX10_closes_45 : decode cX10_closes 45 = .ok (.aaload, 1) := by decide +kernel
theorem dX10_closes_46 : decode cX10_closes 46 = .ok (.invokevirtual 212, 3) := by decide +kernel
theorem dX10_closes_49 : decode cX10_closes 49 = .ok (.lstore_n 3, 1) := by decide +kernel
theorem dX10_closes_50 : decode cX10_closes 50 = .ok (.aload_n 0, 1) := by decide +kernel
theorem dX10_closes_51 : decode cX10_closes 51 = .ok (.getfield 18, 3) := by decide +kernel
theorem dX10_closes_54 : decode cX10_closes 54 = .ok (.aload_n 0, 1) := by decide +kernel
theorem dX10_closes_55 : decode cX10_closes 55 = .ok (.iload_n 2, 1) := by decide +kernel
theorem dX10_closes_56 : decode cX10_closes 56 = .ok (.invokevirtual 309, 3) := by decide +kernel
theorem dX10_closes_59 : decode cX10_closes 59 = .ok (.invokevirtual 212, 3) := by decide +kernel
theorem dX10_closes_62 : decode cX10_closes 62 = .ok (.aload_n 0, 1) := by decide +kernel
theorem dX10_closes_63 : decode cX10_closes 63 = .ok (.getfield 39, 3) := by decide +kernel
theorem dX10_closes_66 : decode cX10_closes 66 = .ok (.iload_n 2, 1) := by decide +kernel
theorem dX10_closes_67 : decode cX10_closes 67 = .ok (.invokevirtual 313, 3) := by decide +kernel
theorem dX10_closes_70 : decode cX10_closes 70 = .ok (.ladd, 1) := by decide +kernel
theorem dX10_closes_71 : decode cX10_closes 71 = .ok (.lload_n 3, 1) := by decide +kernel
theorem dX10_closes_72 : decode cX10_closes 72 = .ok (.lcmp, 1) := by decide +kernel
theorem dX10_closes_73 : decode cX10_closes 73 = .ok (.ifCond .ge 5, 3) := by decide +kernel
theorem dX10_closes_76 : decode cX10_closes 76 = .ok (.iconst 0, 1) := by decide +kernel
theorem dX10_closes_77 : decode cX10_closes 77 = .ok (.ireturn, 1) := by decide +kernel
theorem dX10_closes_78 : decode cX10_closes 78 = .ok (.iinc 2 1, 3) := by decide +kernel
theorem dX10_closes_81 : decode cX10_closes 81 = .ok (.goto (-69), 3) := by decide +kernel
theorem dX10_closes_84 : decode cX10_closes 84 = .ok (.iconst 1, 1) := by decide +kernel
theorem dX10_closes_85 : decode cX10_closes 85 = .ok (.ireturn, 1) := by decide +kernel
theorem dX10_owesUnder_0 : decode cX10_owesUnder 0 = .ok (.aload_n 0, 1) := by decide +kernel
theorem dX10_owesUnder_1 : decode cX10_owesUnder 1 = .ok (.iconst 1, 1) := by decide +kernel
theorem dX10_owesUnder_2 : decode cX10_owesUnder 2 = .ok (.invokevirtual 166, 3) := by decide +kernel
theorem dX10_owesUnder_5 : decode cX10_owesUnder 5 = .ok (.aload_n 0, 1) := by decide +kernel
theorem dX10_owesUnder_6 : decode cX10_owesUnder 6 = .ok (.iload_n 1, 1) := by decide +kernel
theorem dX10_owesUnder_7 : decode cX10_owesUnder 7 = .ok (.invokevirtual 340, 3) := by decide +kernel
theorem dX10_owesUnder_10 : decode cX10_owesUnder 10 = .ok (.aload_n 0, 1) := by decide +kernel
theorem dX10_owesUnder_11 : decode cX10_owesUnder 11 = .ok (.getfield 18, 3) := by decide +kernel
theorem dX10_owesUnder_14 : decode cX10_owesUnder 14 = .ok (.aload_n 0, 1) := by decide +kernel
theorem dX10_owesUnder_15 : decode cX10_owesUnder 15 = .ok (.getfield 11, 3) := by decide +kernel
theorem dX10_owesUnder_18 : decode cX10_owesUnder 18 = .ok (.iconst 1, 1) := by decide +kernel
theorem dX10_owesUnder_19 : decode cX10_owesUnder 19 = .ok (.aaload, 1) := by decide +kernel
theorem dX10_owesUnder_20 : decode cX10_owesUnder 20 = .ok (.invokevirtual 233, 3) := by decide +kernel
theorem dX10_owesUnder_23 : decode cX10_owesUnder 23 = .ok (.lreturn, 1) := by decide +kernel
theorem dX10_amend_0 : decode cX10_amend 0 = .ok (.iconst 0, 1) := by decide +kernel
theorem dX10_amend_1 : decode cX10_amend 1 = .ok (.istore_n 2, 1) := by decide +kernel
theorem dX10_amend_2 : decode cX10_amend 2 = .ok (.iload_n 2, 1) := by decide +kernel
theorem dX10_amend_3 : decode cX10_amend 3 = .ok (.bipush 15, 2) := by decide +kernel
theorem dX10_amend_5 : decode cX10_amend 5 = .ok (.if_icmp .ge 24, 3) := by decide +kernel
theorem dX10_amend_8 : decode cX10_amend 8 = .ok (.aload_n 0, 1) := by decide +kernel
theorem dX10_amend_9 : decode cX10_amend 9 = .ok (.getfield 33, 3) := by decide +kernel
theorem dX10_amend_12 : decode cX10_amend 12 = .ok (.iload_n 2, 1) := by decide +kernel
theorem dX10_amend_13 : decode cX10_amend 13 = .ok (.aaload, 1) := by decide +kernel
theorem dX10_amend_14 : decode cX10_amend 14 = .ok (.aload_n 0, 1) := by decide +kernel
theorem dX10_amend_15 : decode cX10_amend 15 = .ok (.getfield 29, 3) := by decide +kernel
theorem dX10_amend_18 : decode cX10_amend 18 = .ok (.iload_n 2, 1) := by decide +kernel
theorem dX10_amend_19 : decode cX10_amend 19 = .ok (.aaload, 1) := by decide +kernel
theorem dX10_amend_20 : decode cX10_amend 20 = .ok (.invokevirtual 343, 3) := by decide +kernel
theorem dX10_amend_23 : decode cX10_amend 23 = .ok (.iinc 2 1, 3) := by decide +kernel
theorem dX10_amend_26 : decode cX10_amend 26 = .ok (.goto (-24), 3) := by decide +kernel
theorem dX10_amend_29 : decode cX10_amend 29 = .ok (.iconst 0, 1) := by decide +kernel
theorem dX10_amend_30 : decode cX10_amend 30 = .ok (.istore_n 2, 1) := by decide +kernel
theorem dX10_amend_31 : decode cX10_amend 31 = .ok (.iload_n 2, 1) := by decide +kernel
theorem dX10_amend_32 : decode cX10_amend 32 = .ok (.aload_n 0, 1) := by decide +kernel
theorem dX10_amend_33 : decode cX10_amend 33 = .ok (.getfield 39, 3) := by decide +kernel
theorem dX10_amend_36 : decode cX10_amend 36 = .ok (.getfield 317, 3) := by decide +kernel
theorem dX10_amend_39 : decode cX10_amend 39 = .ok (.if_icmp .ge 53, 3) := by decide +kernel
theorem dX10_amend_42 : decode cX10_amend 42 = .ok (.iload_n 1, 1) := by decide +kernel
theorem dX10_amend_43 : decode cX10_amend 43 = .ok (.i2l, 1) := by decide +kernel
theorem dX10_amend_44 : decode cX10_amend 44 = .ok (.iload_n 2, 1) := by decide +kernel
theorem dX10_amend_45 : decode cX10_amend 45 = .ok (.invokestatic 176, 3) := by decide +kernel
theorem dX10_amend_48 : decode cX10_amend 48 = .ok (.ifCond .eq 38, 3) := by decide +kernel
theorem dX10_amend_51 : decode cX10_amend 51 = .ok (.aload_n 0, 1) := by decide +kernel
theorem dX10_amend_52 : decode cX10_amend 52 = .ok (.getfield 33, 3) := by decide +kernel
theorem dX10_amend_55 : decode cX10_amend 55 = .ok (.aload_n 0, 1) := by decide +kernel
theorem dX10_amend_56 : decode cX10_amend 56 = .ok (.getfield 39, 3) := by decide +kernel
theorem dX10_amend_59 : decode cX10_amend 59 = .ok (.getfield 320, 3) := by decide +kernel
theorem dX10_amend_62 : decode cX10_amend 62 = .ok (.iload_n 2, 1) := by decide +kernel
theorem dX10_amend_63 : decode cX10_amend 63 = .ok (.iaload, 1) := by decide +kernel
theorem dX10_amend_64 : decode cX10_amend 64 = .ok (.aaload, 1) := by decide +kernel
theorem dX10_amend_65 : decode cX10_amend 65 = .ok (.aload_n 0, 1) := by decide +kernel
theorem dX10_amend_66 : decode cX10_amend 66 = .ok (.getfield 39, 3) := by decide +kernel
theorem dX10_amend_69 : decode cX10_amend 69 = .ok (.getfield 323, 3) := by decide +kernel
theorem dX10_amend_72 : decode cX10_amend 72 = .ok (.iload_n 2, 1) := by decide +kernel
theorem dX10_amend_73 : decode cX10_amend 73 = .ok (.iaload, 1) := by decide +kernel
theorem dX10_amend_74 : decode cX10_amend 74 = .ok (.aload_n 0, 1) := by decide +kernel
theorem dX10_amend_75 : decode cX10_amend 75 = .ok (.getfield 39, 3) := by decide +kernel
theorem dX10_amend_78 : decode cX10_amend 78 = .ok (.getfield 326, 3) := by decide +kernel
theorem dX10_amend_81 : decode cX10_amend 81 = .ok (.iload_n 2, 1) := by decide +kernel
theorem dX10_amend_82 : decode cX10_amend 82 = .ok (.iaload, 1) := by decide +kernel
theorem dX10_amend_83 : decode cX10_amend 83 = .ok (.invokevirtual 347, 3) := by decide +kernel
theorem dX10_amend_86 : decode cX10_amend 86 = .ok (.iinc 2 1, 3) := by decide +kernel
theorem dX10_amend_89 : decode cX10_amend 89 = .ok (.goto (-58), 3) := by decide +kernel
theorem dX10_amend_92 : decode cX10_amend 92 = .ok (.aload_n 0, 1) := by decide +kernel
theorem dX10_amend_93 : decode cX10_amend 93 = .ok (.getfield 18, 3) := by decide +kernel
theorem dX10_amend_96 : decode cX10_amend 96 = .ok (.aload_n 0, 1) := by decide +kernel
theorem dX10_amend_97 : decode cX10_amend 97 = .ok (.getfield 33, 3) := by decide +kernel
theorem dX10_amend_100 : decode cX10_amend 100 = .ok (.invokevirtual 351, 3) := by decide +kernel
theorem dX10_amend_103 : decode cX10_amend 103 = .ok (.return_, 1) := by decide +kernel
theorem dX10_round_0 : decode cX10_round 0 = .ok (.iload_n 1, 1) := by decide +kernel
theorem dX10_round_1 : decode cX10_round 1 = .ok (.ifCond .lt 38, 3) := by decide +kernel
theorem dX10_round_4 : decode cX10_round 4 = .ok (.iload_n 1, 1) := by decide +kernel
theorem dX10_round_5 : decode cX10_round 5 = .ok (.iconst 5, 1) := by decide +kernel
theorem dX10_round_6 : decode cX10_round 6 = .ok (.if_icmp .ge 33, 3) := by decide +kernel
theorem dX10_round_9 : decode cX10_round 9 = .ok (.iload_n 2, 1) := by decide +kernel
theorem dX10_round_10 : decode cX10_round 10 = .ok (.invokestatic 99, 3) := by decide +kernel
theorem dX10_round_13 : decode cX10_round 13 = .ok (.ifCond .eq 26, 3) := by decide +kernel
theorem dX10_round_16 : decode cX10_round 16 = .ok (.iload_n 3, 1) := by decide +kernel
theorem dX10_round_17 : decode cX10_round 17 = .ok (.invokestatic 99, 3) := by decide +kernel
theorem dX10_round_20 : decode cX10_round 20 = .ok (.ifCond .eq 19, 3) := by decide +kernel
theorem dX10_round_23 : decode cX10_round 23 = .ok (.iload_n 2, 1) := by decide +kernel
theorem dX10_round_24 : decode cX10_round 24 = .ok (.iload_n 3, 1) := by decide +kernel
theorem dX10_round_25 : decode cX10_round 25 = .ok (.if_icmp .eq 14, 3) := by decide +kernel
theorem dX10_round_28 : decode cX10_round 28 = .ok (.iload 4, 2) := by decide +kernel
theorem dX10_round_30 : decode cX10_round 30 = .ok (.ifCond .lt 9, 3) := by decide +kernel
theorem dX10_round_33 : decode cX10_round 33 = .ok (.iload 4, 2) := by decide +kernel
theorem dX10_round_35 : decode cX10_round 35 = .ok (.iconst 2, 1) := by decide +kernel
theorem dX10_round_36 : decode cX10_round 36 = .ok (.if_icmp .le 5, 3) := by decide +kernel
theorem dX10_round_39 : decode cX10_round 39 = .ok (.iconst (-1), 1) := by decide +kernel
theorem dX10_round_40 : decode cX10_round 40 = .ok (.ireturn, 1) := by decide +kernel
theorem dX10_round_41 : decode cX10_round 41 = .ok (.aload_n 0, 1) := by decide +kernel
theorem dX10_round_42 : decode cX10_round 42 = .ok (.iload_n 1, 1) := by decide +kernel
theorem dX10_round_43 : decode cX10_round 43 = .ok (.iload_n 2, 1) := by decide +kernel
theorem dX10_round_44 : decode cX10_round 44 = .ok (.iload_n 3, 1) := by decide +kernel
theorem dX10_round_45 : decode cX10_round 45 = .ok (.invokevirtual 355, 3) := by decide +kernel
theorem dX10_round_48 : decode cX10_round 48 = .ok (.istore 5, 2) := by decide +kernel
theorem dX10_round_50 : decode cX10_round 50 = .ok (.iload 5, 2) := by decide +kernel
theorem dX10_round_52 : decode cX10_round 52 = .ok (.istore 6, 2) := by decide +kernel
theorem dX10_round_54 : decode cX10_round 54 = .ok (.iconst (-1), 1) := by decide +kernel
theorem dX10_round_55 : decode cX10_round 55 = .ok (.istore 7, 2) := by decide +kernel
theorem dX10_round_57 : decode cX10_round 57 = .ok (.iconst 0, 1) := by decide +kernel
theorem dX10_round_58 : decode cX10_round 58 = .ok (.istore 8, 2) := by decide +kernel
theorem dX10_round_60 : decode cX10_round 60 = .ok (.iload 8, 2) := by decide +kernel
theorem dX10_round_62 : decode cX10_round 62 = .ok (.bipush 6, 2) := by decide +kernel
theorem dX10_round_64 : decode cX10_round 64 = .ok (.if_icmp .ge 55, 3) := by decide +kernel
theorem dX10_round_67 : decode cX10_round 67 = .ok (.iload 8, 2) := by decide +kernel
theorem dX10_round_69 : decode cX10_round 69 = .ok (.iload_n 2, 1) := by decide +kernel
theorem dX10_round_70 : decode cX10_round 70 = .ok (.if_icmp .eq 43, 3) := by decide +kernel
theorem dX10_round_73 : decode cX10_round 73 = .ok (.iload 8, 2) := by decide +kernel
theorem dX10_round_75 : decode cX10_round 75 = .ok (.iload_n 3, 1) := by decide +kernel
theorem dX10_round_76 : decode cX10_round 76 = .ok (.if_icmp .eq 37, 3) := by decide +kernel
theorem dX10_round_79 : decode cX10_round 79 = .ok (.aload_n 0, 1) := by decide +kernel
theorem dX10_round_80 : decode cX10_round 80 = .ok (.iload_n 1, 1) := by decide +kernel
theorem dX10_round_81 : decode cX10_round 81 = .ok (.iload_n 2, 1) := by decide +kernel
theorem dX10_round_82 : decode cX10_round 82 = .ok (.iload 8, 2) := by decide +kernel
theorem dX10_round_84 : decode cX10_round 84 = .ok (.invokevirtual 355, 3) := by decide +kernel
theorem dX10_round_87 : decode cX10_round 87 = .ok (.aload_n 0, 1) := by decide +kernel
theorem dX10_round_88 : decode cX10_round 88 = .ok (.iload_n 1, 1) := by decide +kernel
theorem dX10_round_89 : decode cX10_round 89 = .ok (.iload 8, 2) := by decide +kernel
theorem dX10_round_91 : decode cX10_round 91 = .ok (.iload_n 3, 1) := by decide +kernel
theorem dX10_round_92 : decode cX10_round 92 = .ok (.invokevirtual 355, 3) := by decide +kernel
theorem dX10_round_95 : decode cX10_round 95 = .ok (.iadd, 1) := by decide +kernel
theorem dX10_round_96 : decode cX10_round 96 = .ok (.istore 9, 2) := by decide +kernel
theorem dX10_round_98 : decode cX10_round 98 = .ok (.iload 9, 2) := by decide +kernel
theorem dX10_round_100 : decode cX10_round 100 = .ok (.iload 6, 2) := by decide +kernel
theorem dX10_round_102 : decode cX10_round 102 = .ok (.if_icmp .ge 11, 3) := by decide +kernel
theorem dX10_round_105 : decode cX10_round 105 = .ok (.iload 9, 2) := by decide +kernel
theorem dX10_round_107 : decode cX10_round 107 = .ok (.istore 6, 2) := by decide +kernel
theorem dX10_round_109 : decode cX10_round 109 = .ok (.iload 8, 2) := by decide +kernel
theorem dX10_round_111 : decode cX10_round 111 = .ok (.istore 7, 2) := by decide +kernel
theorem dX10_round_113 : decode cX10_round 113 = .ok (.iinc 8 1, 3) := by decide +kernel
theorem dX10_round_116 : decode cX10_round 116 = .ok (.goto (-56), 3) := by decide +kernel
theorem dX10_round_119 : decode cX10_round 119 = .ok (.iload 4, 2) := by decide +kernel
theorem dX10_round_121 : decode cX10_round 121 = .ok (.ifCond .ne 6, 3) := by decide +kernel
theorem dX10_round_124 : decode cX10_round 124 = .ok (.iload 5, 2) := by decide +kernel
theorem dX10_round_126 : decode cX10_round 126 = .ok (.ireturn, 1) := by decide +kernel
theorem dX10_round_127 : decode cX10_round 127 = .ok (.iload 4, 2) := by decide +kernel
theorem dX10_round_129 : decode cX10_round 129 = .ok (.iconst 1, 1) := by decide +kernel
theorem dX10_round_130 : decode cX10_round 130 = .ok (.if_icmp .ne 8, 3) := by decide +kernel
theorem dX10_round_133 : decode cX10_round 133 = .ok (.iload 7, 2) := by decide +kernel
theorem dX10_round_135 : decode cX10_round 135 = .ok (.goto 5, 3) := by decide +kernel
theorem dX10_round_138 : decode cX10_round 138 = .ok (.iload 6, 2) := by decide +kernel
theorem dX10_round_140 : decode cX10_round 140 = .ok (.ireturn, 1) := by decide +kernel
theorem dX10_leg_0 : decode cX10_leg 0 = .ok (.aload_n 0, 1) := by decide +kernel
theorem dX10_leg_1 : decode cX10_leg 1 = .ok (.getfield 18, 3) := by decide +kernel
theorem dX10_leg_4 : decode cX10_leg 4 = .ok (.iload_n 2, 1) := by decide +kernel
theorem dX10_leg_5 : decode cX10_leg 5 = .ok (.iload_n 1, 1) := by decide +kernel
theorem dX10_leg_6 : decode cX10_leg 6 = .ok (.invokevirtual 358, 3) := by decide +kernel
theorem dX10_leg_9 : decode cX10_leg 9 = .ok (.aload_n 0, 1) := by decide +kernel
theorem dX10_leg_10 : decode cX10_leg 10 = .ok (.getfield 29, 3) := by decide +kernel
theorem dX10_leg_13 : decode cX10_leg 13 = .ok (.iload_n 2, 1) := by decide +kernel
theorem dX10_leg_14 : decode cX10_leg 14 = .ok (.iload_n 3, 1) := by decide +kernel
theorem dX10_leg_15 : decode cX10_leg 15 = .ok (.invokestatic 156, 3) := by decide +kernel
theorem dX10_leg_18 : decode cX10_leg 18 = .ok (.aaload, 1) := by decide +kernel
theorem dX10_leg_19 : decode cX10_leg 19 = .ok (.iload_n 1, 1) := by decide +kernel
theorem dX10_leg_20 : decode cX10_leg 20 = .ok (.invokevirtual 361, 3) := by decide +kernel
theorem dX10_leg_23 : decode cX10_leg 23 = .ok (.invokestatic 364, 3) := by decide +kernel
theorem dX10_leg_26 : decode cX10_leg 26 = .ok (.ireturn, 1) := by decide +kernel
theorem dX10_answer_0 : decode cX10_answer 0 = .ok (.iload_n 1, 1) := by decide +kernel
theorem dX10_answer_1 : decode cX10_answer 1 = .ok (.ifCond .lt 32, 3) := by decide +kernel
theorem dX10_answer_4 : decode cX10_answer 4 = .ok (.iload_n 1, 1) := by decide +kernel
theorem dX10_answer_5 : decode cX10_answer 5 = .ok (.iconst 2, 1) := by decide +kernel
theorem dX10_answer_6 : decode cX10_answer 6 = .ok (.if_icmp .gt 27, 3) := by decide +kernel
theorem dX10_answer_9 : decode cX10_answer 9 = .ok (.iload_n 1, 1) := by decide +kernel
theorem dX10_answer_10 : decode cX10_answer 10 = .ok (.iconst 2, 1) := by decide +kernel
theorem dX10_answer_11 : decode cX10_answer 11 = .ok (.if_icmp .eq 10, 3) := by decide +kernel
theorem dX10_answer_14 : decode cX10_answer 14 = .ok (.iload_n 2, 1) := by decide +kernel
theorem dX10_answer_15 : decode cX10_answer 15 = .ok (.invokestatic 99, 3) := by decide +kernel
theorem dX10_answer_18 : decode cX10_answer 18 = .ok (.ifCond .eq 15, 3) := by decide +kernel
theorem dX10_answer_21 : decode cX10_answer 21 = .ok (.aload_n 0, 1) := by decide +kernel
theorem dX10_answer_22 : decode cX10_answer 22 = .ok (.getfield 46, 3) := by decide +kernel
theorem dX10_answer_25 : decode cX10_answer 25 = .ok (.getfield 367, 3) := by decide +kernel
theorem dX10_answer_28 : decode cX10_answer 28 = .ok (.bipush 10, 2) := by decide +kernel
theorem dX10_answer_30 : decode cX10_answer 30 = .ok (.if_icmp .lt 5, 3) := by decide +kernel
theorem dX10_answer_33 : decode cX10_answer 33 = .ok (.iconst (-1), 1) := by decide +kernel
theorem dX10_answer_34 : decode cX10_answer 34 = .ok (.ireturn, 1) := by decide +kernel
theorem dX10_answer_35 : decode cX10_answer 35 = .ok (.iload_n 1, 1) := by decide +kernel
theorem dX10_answer_36 : decode cX10_answer 36 = .ok (.ifCond .ne 17, 3) := by decide +kernel
theorem dX10_answer_39 : decode cX10_answer 39 = .ok (.lload 4, 2) := by decide +kernel
theorem dX10_answer_41 : decode cX10_answer 41 = .ok (.lconst 0, 1) := by decide +kernel
theorem dX10_answer_42 : decode cX10_answer 42 = .ok (.lcmp, 1) := by decide +kernel
theorem dX10_answer_43 : decode cX10_answer 43 = .ok (.ifCond .eq 10, 3) := by decide +kernel
theorem dX10_answer_46 : decode cX10_answer 46 = .ok (.lload 4, 2) := by decide +kernel
theorem dX10_answer_48 : decode cX10_answer 48 = .ok (.lconst 1, 1) := by decide +kernel
theorem dX10_answer_49 : decode cX10_answer 49 = .ok (.lcmp, 1) := by decide +kernel
theorem dX10_answer_50 : decode cX10_answer 50 = .ok (.ifCond .ne 21, 3) := by decide +kernel
theorem dX10_answer_53 : decode cX10_answer 53 = .ok (.iload_n 1, 1) := by decide +kernel
theorem dX10_answer_54 : decode cX10_answer 54 = .ok (.iconst 1, 1) := by decide +kernel
theorem dX10_answer_55 : decode cX10_answer 55 = .ok (.if_icmp .ne 18, 3) := by decide +kernel
theorem dX10_answer_58 : decode cX10_answer 58 = .ok (.aload_n 0, 1) := by decide +kernel
theorem dX10_answer_59 : decode cX10_answer 59 = .ok (.getfield 11, 3) := by decide +kernel
theorem dX10_answer_62 : decode cX10_answer 62 = .ok (.iconst 0, 1) := by decide +kernel
theorem dX10_answer_63 : decode cX10_answer 63 = .ok (.aaload, 1) := by decide +kernel
theorem dX10_answer_64 : decode cX10_answer 64 = .ok (.iload_n 3, 1) := by decide +kernel
theorem dX10_answer_65 : decode cX10_answer 65 = .ok (.invokevirtual 201, 3) := by decide +kernel
theorem dX10_answer_68 : decode cX10_answer 68 = .ok (.ifCond .ne 5, 3) := by decide +kernel
theorem dX10_answer_71 : decode cX10_answer 71 = .ok (.iconst (-1), 1) := by decide +kernel
theorem dX10_answer_72 : decode cX10_answer 72 = .ok (.ireturn, 1) := by decide +kernel
theorem dX10_answer_73 : decode cX10_answer 73 = .ok (.aload_n 0, 1) := by decide +kernel
theorem dX10_answer_74 : decode cX10_answer 74 = .ok (.getfield 46, 3) := by decide +kernel
theorem dX10_answer_77 : decode cX10_answer 77 = .ok (.getfield 368, 3) := by decide +kernel
theorem dX10_answer_80 : decode cX10_answer 80 = .ok (.aload_n 0, 1) := by decide +kernel
theorem dX10_answer_81 : decode cX10_answer 81 = .ok (.getfield 46, 3) := by decide +kernel
theorem dX10_answer_84 : decode cX10_answer 84 = .ok (.getfield 367, 3) := by decide +kernel
theorem dX10_answer_87 : decode cX10_answer 87 = .ok (.iload_n 1, 1) := by decide +kernel
theorem dX10_answer_88 : decode cX10_answer 88 = .ok (.iastore, 1) := by decide +kernel
theorem dX10_answer_89 : decode cX10_answer 89 = .ok (.aload_n 0, 1) := by decide +kernel
theorem dX10_answer_90 : decode cX10_answer 90 = .ok (.getfield 46, 3) := by decide +kernel
theorem dX10_answer_93 : decode cX10_answer 93 = .ok (.getfield 371, 3) := by decide +kernel
theorem dX10_answer_96 : decode cX10_answer 96 = .ok (.aload_n 0, 1) := by decide +kernel
theorem dX10_answer_97 : decode cX10_answer 97 = .ok (.getfield 46, 3) := by decide +kernel
theorem dX10_answer_100 : decode cX10_answer 100 = .ok (.getfield 367, 3) := by decide +kernel
theorem dX10_answer_103 : decode cX10_answer 103 = .ok (.iload_n 2, 1) := by decide +kernel
theorem dX10_answer_104 : decode cX10_answer 104 = .ok (.iastore, 1) := by decide +kernel
theorem dX10_answer_105 : decode cX10_answer 105 = .ok (.aload_n 0, 1) := by decide +kernel
theorem dX10_answer_106 : decode cX10_answer 106 = .ok (.getfield 46, 3) := by decide +kernel
theorem dX10_answer_109 : decode cX10_answer 109 = .ok (.getfield 374, 3) := by decide +kernel
theorem dX10_answer_112 : decode cX10_answer 112 = .ok (.aload_n 0, 1) := by decide +kernel
theorem dX10_answer_113 : decode cX10_answer 113 = .ok (.getfield 46, 3) := by decide +kernel
theorem dX10_answer_116 : decode cX10_answer 116 = .ok (.getfield 367, 3) := by decide +kernel
theorem dX10_answer_119 : decode cX10_answer 119 = .ok (.iload_n 3, 1) := by decide +kernel
theorem dX10_answer_120 : decode cX10_answer 120 = .ok (.iastore, 1) := by decide +kernel
theorem dX10_answer_121 : decode cX10_answer 121 = .ok (.aload_n 0, 1) := by decide +kernel
theorem dX10_answer_122 : decode cX10_answer 122 = .ok (.getfield 46, 3) := by decide +kernel
theorem dX10_answer_125 : decode cX10_answer 125 = .ok (.getfield 377, 3) := by decide +kernel
theorem dX10_answer_128 : decode cX10_answer 128 = .ok (.aload_n 0, 1) := by decide +kernel
theorem dX10_answer_129 : decode cX10_answer 129 = .ok (.getfield 46, 3) := by decide +kernel
theorem dX10_answer_132 : decode cX10_answer 132 = .ok (.getfield 367, 3) := by decide +kernel
theorem dX10_answer_135 : decode cX10_answer 135 = .ok (.lload 4, 2) := by decide +kernel
theorem dX10_answer_137 : decode cX10_answer 137 = .ok (.lastore, 1) := by decide +kernel
theorem dX10_answer_138 : decode cX10_answer 138 = .ok (.aload_n 0, 1) := by decide +kernel
theorem dX10_answer_139 : decode cX10_answer 139 = .ok (.getfield 46, 3) := by decide +kernel
theorem dX10_answer_142 : decode cX10_answer 142 = .ok (.dup, 1) := by decide +kernel
theorem dX10_answer_143 : decode cX10_answer 143 = .ok (.getfield 367, 3) := by decide +kernel
theorem dX10_answer_146 : decode cX10_answer 146 = .ok (.iconst 1, 1) := by decide +kernel
theorem dX10_answer_147 : decode cX10_answer 147 = .ok (.iadd, 1) := by decide +kernel
theorem dX10_answer_148 : decode cX10_answer 148 = .ok (.putfield 367, 3) := by decide +kernel
theorem dX10_answer_151 : decode cX10_answer 151 = .ok (.aload_n 0, 1) := by decide +kernel
theorem dX10_answer_152 : decode cX10_answer 152 = .ok (.getfield 46, 3) := by decide +kernel
theorem dX10_answer_155 : decode cX10_answer 155 = .ok (.getfield 367, 3) := by decide +kernel
theorem dX10_answer_158 : decode cX10_answer 158 = .ok (.iconst 1, 1) := by decide +kernel
theorem dX10_answer_159 : decode cX10_answer 159 = .ok (.isub, 1) := by decide +kernel
theorem dX10_answer_160 : decode cX10_answer 160 = .ok (.ireturn, 1) := by decide +kernel
theorem dX10_judged_0 : decode cX10_judged 0 = .ok (.aload_n 0, 1) := by decide +kernel
theorem dX10_judged_1 : decode cX10_judged 1 = .ok (.iconst 0, 1) := by decide +kernel
theorem dX10_judged_2 : decode cX10_judged 2 = .ok (.invokevirtual 166, 3) := by decide +kernel
theorem dX10_judged_5 : decode cX10_judged 5 = .ok (.iconst 0, 1) := by decide +kernel
theorem dX10_judged_6 : decode cX10_judged 6 = .ok (.istore_n 1, 1) := by decide +kernel
theorem dX10_judged_7 : decode cX10_judged 7 = .ok (.iload_n 1, 1) := by decide +kernel
theorem dX10_judged_8 : decode cX10_judged 8 = .ok (.aload_n 0, 1) := by decide +kernel
theorem dX10_judged_9 : decode cX10_judged 9 = .ok (.getfield 46, 3) := by decide +kernel
theorem dX10_judged_12 : decode cX10_judged 12 = .ok (.getfield 367, 3) := by decide +kernel
theorem dX10_judged_15 : decode cX10_judged 15 = .ok (.if_icmp .ge 29, 3) := by decide +kernel
theorem dX10_judged_18 : decode cX10_judged 18 = .ok (.aload_n 0, 1) := by decide +kernel
theorem dX10_judged_19 : decode cX10_judged 19 = .ok (.iload_n 1, 1) := by decide +kernel
theorem dX10_judged_20 : decode cX10_judged 20 = .ok (.invokevirtual 380, 3) := by decide +kernel
theorem dX10_judged_23 : decode cX10_judged 23 = .ok (.aload_n 0, 1) := by decide +kernel
theorem dX10_judged_24 : decode cX10_judged 24 = .ok (.getfield 46, 3) := by decide +kernel
theorem dX10_judged_27 : decode cX10_judged 27 = .ok (.getfield 377, 3) := by decide +kernel
theorem dX10_judged_30 : decode cX10_judged 30 = .ok (.iload_n 1, 1) := by decide +kernel
theorem dX10_judged_31 : decode cX10_judged 31 = .ok (.laload, 1) := by decide +kernel
theorem dX10_judged_32 : decode cX10_judged 32 = .ok (.lcmp, 1) := by decide +kernel
theorem dX10_judged_33 : decode cX10_judged 33 = .ok (.ifCond .eq 5, 3) := by decide +kernel
theorem dX10_judged_36 : decode cX10_judged 36 = .ok (.iload_n 1, 1) := by decide +kernel
theorem dX10_judged_37 : decode cX10_judged 37 = .ok (.ireturn, 1) := by decide +kernel
theorem dX10_judged_38 : decode cX10_judged 38 = .ok (.iinc 1 1, 3) := by decide +kernel
theorem dX10_judged_41 : decode cX10_judged 41 = .ok (.goto (-34), 3) := by decide +kernel
theorem dX10_judged_44 : decode cX10_judged 44 = .ok (.iconst (-1), 1) := by decide +kernel
theorem dX10_judged_45 : decode cX10_judged 45 = .ok (.ireturn, 1) := by decide +kernel
theorem dX10_truth_0 : decode cX10_truth 0 = .ok (.aload_n 0, 1) := by decide +kernel
theorem dX10_truth_1 : decode cX10_truth 1 = .ok (.getfield 46, 3) := by decide +kernel
theorem dX10_truth_4 : decode cX10_truth 4 = .ok (.getfield 371, 3) := by decide +kernel
theorem dX10_truth_7 : decode cX10_truth 7 = .ok (.iload_n 1, 1) := by decide +kernel
theorem dX10_truth_8 : decode cX10_truth 8 = .ok (.iaload, 1) := by decide +kernel
theorem dX10_truth_9 : decode cX10_truth 9 = .ok (.istore_n 2, 1) := by decide +kernel
theorem dX10_truth_10 : decode cX10_truth 10 = .ok (.aload_n 0, 1) := by decide +kernel
theorem dX10_truth_11 : decode cX10_truth 11 = .ok (.getfield 46, 3) := by decide +kernel
theorem dX10_truth_14 : decode cX10_truth 14 = .ok (.getfield 368, 3) := by decide +kernel
theorem dX10_truth_17 : decode cX10_truth 17 = .ok (.iload_n 1, 1) := by decide +kernel
theorem dX10_truth_18 : decode cX10_truth 18 = .ok (.iaload, 1) := by decide +kernel
theorem dX10_truth_19 : decode cX10_truth 19 = .ok (.ifCond .ne 24, 3) := by decide +kernel
theorem dX10_truth_22 : decode cX10_truth 22 = .ok (.aload_n 0, 1) := by decide +kernel
theorem dX10_truth_23 : decode cX10_truth 23 = .ok (.getfield 18, 3) := by decide +kernel
theorem dX10_truth_26 : decode cX10_truth 26 = .ok (.getfield 180, 3) := by decide +kernel
theorem dX10_truth_29 : decode cX10_truth 29 = .ok (.i2l, 1) := by decide +kernel
theorem dX10_truth_30 : decode cX10_truth 30 = .ok (.iload_n 2, 1) := by decide +kernel
theorem dX10_truth_31 : decode cX10_truth 31 = .ok (.invokestatic 176, 3) := by decide +kernel
theorem dX10_truth_34 : decode cX10_truth 34 = .ok (.ifCond .eq 7, 3) := by decide +kernel
theorem dX10_truth_37 : decode cX10_truth 37 = .ok (.lconst 1, 1) := by decide +kernel
theorem dX10_truth_38 : decode cX10_truth 38 = .ok (.goto 4, 3) := by decide +kernel
theorem dX10_truth_41 : decode cX10_truth 41 = .ok (.lconst 0, 1) := by decide +kernel
theorem dX10_truth_42 : decode cX10_truth 42 = .ok (.lreturn, 1) := by decide +kernel
theorem dX10_truth_43 : decode cX10_truth 43 = .ok (.aload_n 0, 1) := by decide +kernel
theorem dX10_truth_44 : decode cX10_truth 44 = .ok (.getfield 46, 3) := by decide +kernel
theorem dX10_truth_47 : decode cX10_truth 47 = .ok (.getfield 368, 3) := by decide +kernel
theorem dX10_truth_50 : decode cX10_truth 50 = .ok (.iload_n 1, 1) := by decide +kernel
theorem dX10_truth_51 : decode cX10_truth 51 = .ok (.iaload, 1) := by decide +kernel
theorem dX10_truth_52 : decode cX10_truth 52 = .ok (.iconst 1, 1) := by decide +kernel
theorem dX10_truth_53 : decode cX10_truth 53 = .ok (.if_icmp .ne 40, 3) := by decide +kernel
theorem dX10_truth_56 : decode cX10_truth 56 = .ok (.aload_n 0, 1) := by decide +kernel
theorem dX10_truth_57 : decode cX10_truth 57 = .ok (.getfield 18, 3) := by decide +kernel
theorem dX10_truth_60 : decode cX10_truth 60 = .ok (.aload_n 0, 1) := by decide +kernel
theorem dX10_truth_61 : decode cX10_truth 61 = .ok (.getfield 11, 3) := by decide +kernel
theorem dX10_truth_64 : decode cX10_truth 64 = .ok (.iconst 0, 1) := by decide +kernel
theorem dX10_truth_65 : decode cX10_truth 65 = .ok (.aaload, 1) := by decide +kernel
theorem dX10_truth_66 : decode cX10_truth 66 = .ok (.getfield 119, 3) := by decide +kernel
theorem dX10_truth_69 : decode cX10_truth 69 = .ok (.aload_n 0, 1) := by decide +kernel
theorem dX10_truth_70 : decode cX10_truth 70 = .ok (.getfield 46, 3) := by decide +kernel
theorem dX10_truth_73 : decode cX10_truth 73 = .ok (.getfield 374, 3) := by decide +kernel
theorem dX10_truth_76 : decode cX10_truth 76 = .ok (.iload_n 1, 1) := by decide +kernel
theorem dX10_truth_77 : decode cX10_truth 77 = .ok (.iaload, 1) := by decide +kernel
theorem dX10_truth_78 : decode cX10_truth 78 = .ok (.aaload, 1) := by decide +kernel
theorem dX10_truth_79 : decode cX10_truth 79 = .ok (.invokevirtual 212, 3) := by decide +kernel
theorem dX10_truth_82 : decode cX10_truth 82 = .ok (.pop2, 1) := by decide +kernel
theorem dX10_truth_83 : decode cX10_truth 83 = .ok (.aload_n 0, 1) := by decide +kernel
theorem dX10_truth_84 : decode cX10_truth 84 = .ok (.getfield 18, 3) := by decide +kernel
theorem dX10_truth_87 : decode cX10_truth 87 = .ok (.getfield 223, 3) := by decide +kernel
theorem dX10_truth_90 : decode cX10_truth 90 = .ok (.iload_n 2, 1) := by decide +kernel
theorem dX10_truth_91 : decode cX10_truth 91 = .ok (.laload, 1) := by decide +kernel
theorem dX10_truth_92 : decode cX10_truth 92 = .ok (.lreturn, 1) := by decide +kernel
theorem dX10_truth_93 : decode cX10_truth 93 = .ok (.aload_n 0, 1) := by decide +kernel
theorem dX10_truth_94 : decode cX10_truth 94 = .ok (.getfield 18, 3) := by decide +kernel
theorem dX10_truth_97 : decode cX10_truth 97 = .ok (.aload_n 0, 1) := by decide +kernel
theorem dX10_truth_98 : decode cX10_truth 98 = .ok (.getfield 11, 3) := by decide +kernel
theorem dX10_truth_101 : decode cX10_truth 101 = .ok (.iconst 0, 1) := by decide +kernel
theorem dX10_truth_102 : decode cX10_truth 102 = .ok (.aaload, 1) := by decide +kernel
theorem dX10_truth_103 : decode cX10_truth 103 = .ok (.invokevirtual 233, 3) := by decide +kernel
theorem dX10_truth_106 : decode cX10_truth 106 = .ok (.lreturn, 1) := by decide +kernel
theorem dX10_look_0 : decode cX10_look 0 = .ok (.iload_n 1, 1) := by decide +kernel
theorem dX10_look_1 : decode cX10_look 1 = .ok (.tableswitch 91 0 5 #[39, 49, 59, 67, 75, 83], 39) := by decide +kernel
theorem dX10_look_40 : decode cX10_look 40 = .ok (.aload_n 0, 1) := by decide +kernel
theorem dX10_look_41 : decode cX10_look 41 = .ok (.getfield 11, 3) := by decide +kernel
theorem dX10_look_44 : decode cX10_look 44 = .ok (.iconst 0, 1) := by decide +kernel
theorem dX10_look_45 : decode cX10_look 45 = .ok (.aaload, 1) := by decide +kernel
theorem dX10_look_46 : decode cX10_look 46 = .ok (.getfield 116, 3) := by decide +kernel
theorem dX10_look_49 : decode cX10_look 49 = .ok (.ireturn, 1) := by decide +kernel
theorem dX10_look_50 : decode cX10_look 50 = .ok (.aload_n 0, 1) := by decide +kernel
theorem dX10_look_51 : decode cX10_look 51 = .ok (.getfield 11, 3) := by decide +kernel
theorem dX10_look_54 : decode cX10_look 54 = .ok (.iconst 1, 1) := by decide +kernel
theorem dX10_look_55 : decode cX10_look 55 = .ok (.aaload, 1) := by decide +kernel
theorem dX10_look_56 : decode cX10_look 56 = .ok (.getfield 116, 3) := by decide +kernel
theorem dX10_look_59 : decode cX10_look 59 = .ok (.ireturn, 1) := by decide +kernel
theorem dX10_look_60 : decode cX10_look 60 = .ok (.aload_n 0, 1) := by decide +kernel
theorem dX10_look_61 : decode cX10_look 61 = .ok (.getfield 39, 3) := by decide +kernel
theorem dX10_look_64 : decode cX10_look 64 = .ok (.getfield 280, 3) := by decide +kernel
theorem dX10_look_67 : decode cX10_look 67 = .ok (.ireturn, 1) := by decide +kernel
theorem dX10_look_68 : decode cX10_look 68 = .ok (.aload_n 0, 1) := by decide +kernel
theorem dX10_look_69 : decode cX10_look 69 = .ok (.getfield 39, 3) := by decide +kernel
theorem dX10_look_72 : decode cX10_look 72 = .ok (.getfield 297, 3) := by decide +kernel
theorem dX10_look_75 : decode cX10_look 75 = .ok (.ireturn, 1) := by decide +kernel
theorem dX10_look_76 : decode cX10_look 76 = .ok (.aload_n 0, 1) := by decide +kernel
theorem dX10_look_77 : decode cX10_look 77 = .ok (.getfield 39, 3) := by decide +kernel
theorem dX10_look_80 : decode cX10_look 80 = .ok (.getfield 317, 3) := by decide +kernel
theorem dX10_look_83 : decode cX10_look 83 = .ok (.ireturn, 1) := by decide +kernel
theorem dX10_look_84 : decode cX10_look 84 = .ok (.aload_n 0, 1) := by decide +kernel
theorem dX10_look_85 : decode cX10_look 85 = .ok (.getfield 46, 3) := by decide +kernel
theorem dX10_look_88 : decode cX10_look 88 = .ok (.getfield 367, 3) := by decide +kernel
theorem dX10_look_91 : decode cX10_look 91 = .ok (.ireturn, 1) := by decide +kernel
theorem dX10_look_92 : decode cX10_look 92 = .ok (.iconst (-1), 1) := by decide +kernel
theorem dX10_look_93 : decode cX10_look 93 = .ok (.ireturn, 1) := by decide +kernel
theorem dX10_hear_0 : decode cX10_hear 0 = .ok (.aload_n 0, 1) := by decide +kernel
theorem dX10_hear_1 : decode cX10_hear 1 = .ok (.getfield 18, 3) := by decide +kernel
theorem dX10_hear_4 : decode cX10_hear 4 = .ok (.aload_n 0, 1) := by decide +kernel
theorem dX10_hear_5 : decode cX10_hear 5 = .ok (.getfield 11, 3) := by decide +kernel
theorem dX10_hear_8 : decode cX10_hear 8 = .ok (.iload_n 1, 1) := by decide +kernel
theorem dX10_hear_9 : decode cX10_hear 9 = .ok (.aaload, 1) := by decide +kernel
theorem dX10_hear_10 : decode cX10_hear 10 = .ok (.getfield 102, 3) := by decide +kernel
theorem dX10_hear_13 : decode cX10_hear 13 = .ok (.aload_n 0, 1) := by decide +kernel
theorem dX10_hear_14 : decode cX10_hear 14 = .ok (.getfield 29, 3) := by decide +kernel
theorem dX10_hear_17 : decode cX10_hear 17 = .ok (.aload_n 0, 1) := by decide +kernel
theorem dX10_hear_18 : decode cX10_hear 18 = .ok (.getfield 11, 3) := by decide +kernel
theorem dX10_hear_21 : decode cX10_hear 21 = .ok (.iload_n 1, 1) := by decide +kernel
theorem dX10_hear_22 : decode cX10_hear 22 = .ok (.aaload, 1) := by decide +kernel
theorem dX10_hear_23 : decode cX10_hear 23 = .ok (.invokevirtual 226, 3) := by decide +kernel
theorem dX10_hear_26 : decode cX10_hear 26 = .ok (.invokevirtual 263, 3) := by decide +kernel
theorem dX10_hear_29 : decode cX10_hear 29 = .ok (.return_, 1) := by decide +kernel
theorem dX10_isYear_0 : decode cX10_isYear 0 = .ok (.iload_n 0, 1) := by decide +kernel
theorem dX10_isYear_1 : decode cX10_isYear 1 = .ok (.ifCond .lt 12, 3) := by decide +kernel
theorem dX10_isYear_4 : decode cX10_isYear 4 = .ok (.iload_n 0, 1) := by decide +kernel
theorem dX10_isYear_5 : decode cX10_isYear 5 = .ok (.iconst 2, 1) := by decide +kernel
theorem dX10_isYear_6 : decode cX10_isYear 6 = .ok (.if_icmp .ge 7, 3) := by decide +kernel
theorem dX10_isYear_9 : decode cX10_isYear 9 = .ok (.iconst 1, 1) := by decide +kernel
theorem dX10_isYear_10 : decode cX10_isYear 10 = .ok (.goto 4, 3) := by decide +kernel
theorem dX10_isYear_13 : decode cX10_isYear 13 = .ok (.iconst 0, 1) := by decide +kernel
theorem dX10_isYear_14 : decode cX10_isYear 14 = .ok (.ireturn, 1) := by decide +kernel
theorem dX10_isLand_0 : decode cX10_isLand 0 = .ok (.iload_n 0, 1) := by decide +kernel
theorem dX10_isLand_1 : decode cX10_isLand 1 = .ok (.ifCond .lt 13, 3) := by decide +kernel
theorem dX10_isLand_4 : decode cX10_isLand 4 = .ok (.iload_n 0, 1) := by decide +kernel
theorem dX10_isLand_5 : decode cX10_isLand 5 = .ok (.bipush 6, 2) := by decide +kernel
theorem dX10_isLand_7 : decode cX10_isLand 7 = .ok (.if_icmp .ge 7, 3) := by decide +kernel
theorem dX10_isLand_10 : decode cX10_isLand 10 = .ok (.iconst 1, 1) := by decide +kernel
theorem dX10_isLand_11 : decode cX10_isLand 11 = .ok (.goto 4, 3) := by decide +kernel
theorem dX10_isLand_14 : decode cX10_isLand 14 = .ok (.iconst 0, 1) := by decide +kernel
theorem dX10_isLand_15 : decode cX10_isLand 15 = .ok (.ireturn, 1) := by decide +kernel
theorem dX10_isLandOrNone_0 : decode cX10_isLandOrNone 0 = .ok (.iload_n 0, 1) := by decide +kernel
theorem dX10_isLandOrNone_1 : decode cX10_isLandOrNone 1 = .ok (.iconst (-1), 1) := by decide +kernel
theorem dX10_isLandOrNone_2 : decode cX10_isLandOrNone 2 = .ok (.if_icmp .eq 10, 3) := by decide +kernel
theorem dX10_isLandOrNone_5 : decode cX10_isLandOrNone 5 = .ok (.iload_n 0, 1) := by decide +kernel
theorem dX10_isLandOrNone_6 : decode cX10_isLandOrNone 6 = .ok (.invokestatic 99, 3) := by decide +kernel
theorem dX10_isLandOrNone_9 : decode cX10_isLandOrNone 9 = .ok (.ifCond .eq 7, 3) := by decide +kernel
theorem dX10_isLandOrNone_12 : decode cX10_isLandOrNone 12 = .ok (.iconst 1, 1) := by decide +kernel
theorem dX10_isLandOrNone_13 : decode cX10_isLandOrNone 13 = .ok (.goto 4, 3) := by decide +kernel
theorem dX10_isLandOrNone_16 : decode cX10_isLandOrNone 16 = .ok (.iconst 0, 1) := by decide +kernel
theorem dX10_isLandOrNone_17 : decode cX10_isLandOrNone 17 = .ok (.ireturn, 1) := by decide +kernel
theorem dX10_has_0 : decode cX10_has 0 = .ok (.lload_n 0, 1) := by decide +kernel
theorem dX10_has_1 : decode cX10_has 1 = .ok (.iload_n 2, 1) := by decide +kernel
theorem dX10_has_2 : decode cX10_has 2 = .ok (.lshr, 1) := by decide +kernel
theorem dX10_has_3 : decode cX10_has 3 = .ok (.lconst 1, 1) := by decide +kernel
theorem dX10_has_4 : decode cX10_has 4 = .ok (.land, 1) := by decide +kernel
theorem dX10_has_5 : decode cX10_has 5 = .ok (.lconst 1, 1) := by decide +kernel
theorem dX10_has_6 : decode cX10_has 6 = .ok (.lcmp, 1) := by decide +kernel
theorem dX10_has_7 : decode cX10_has 7 = .ok (.ifCond .ne 7, 3) := by decide +kernel
theorem dX10_has_10 : decode cX10_has 10 = .ok (.iconst 1, 1) := by decide +kernel
theorem dX10_has_11 : decode cX10_has 11 = .ok (.goto 4, 3) := by decide +kernel
theorem dX10_has_14 : decode cX10_has 14 = .ok (.iconst 0, 1) := by decide +kernel
theorem dX10_has_15 : decode cX10_has 15 = .ok (.ireturn, 1) := by decide +kernel
theorem dX10_pair_0 : decode cX10_pair 0 = .ok (.iload_n 0, 1) := by decide +kernel
theorem dX10_pair_1 : decode cX10_pair 1 = .ok (.iload_n 1, 1) := by decide +kernel
theorem dX10_pair_2 : decode cX10_pair 2 = .ok (.invokestatic 364, 3) := by decide +kernel
theorem dX10_pair_5 : decode cX10_pair 5 = .ok (.istore_n 2, 1) := by decide +kernel
theorem dX10_pair_6 : decode cX10_pair 6 = .ok (.iload_n 0, 1) := by decide +kernel
theorem dX10_pair_7 : decode cX10_pair 7 = .ok (.iload_n 1, 1) := by decide +kernel
theorem dX10_pair_8 : decode cX10_pair 8 = .ok (.invokestatic 383, 3) := by decide +kernel
theorem dX10_pair_11 : decode cX10_pair 11 = .ok (.istore_n 3, 1) := by decide +kernel
theorem dX10_pair_12 : decode cX10_pair 12 = .ok (.iload_n 2, 1) := by decide +kernel
theorem dX10_pair_13 : decode cX10_pair 13 = .ok (.bipush 11, 2) := by decide +kernel
theorem dX10_pair_15 : decode cX10_pair 15 = .ok (.iload_n 2, 1) := by decide +kernel
theorem dX10_pair_16 : decode cX10_pair 16 = .ok (.isub, 1) := by decide +kernel
theorem dX10_pair_17 : decode cX10_pair 17 = .ok (.imul, 1) := by decide +kernel
theorem dX10_pair_18 : decode cX10_pair 18 = .ok (.iconst 2, 1) := by decide +kernel
theorem dX10_pair_19 : decode cX10_pair 19 = .ok (.idiv, 1) := by decide +kernel
theorem dX10_pair_20 : decode cX10_pair 20 = .ok (.iload_n 3, 1) := by decide +kernel
theorem dX10_pair_21 : decode cX10_pair 21 = .ok (.iadd, 1) := by decide +kernel
theorem dX10_pair_22 : decode cX10_pair 22 = .ok (.iload_n 2, 1) := by decide +kernel
theorem dX10_pair_23 : decode cX10_pair 23 = .ok (.isub, 1) := by decide +kernel
theorem dX10_pair_24 : decode cX10_pair 24 = .ok (.iconst 1, 1) := by decide +kernel
theorem dX10_pair_25 : decode cX10_pair 25 = .ok (.isub, 1) := by decide +kernel
theorem dX10_pair_26 : decode cX10_pair 26 = .ok (.ireturn, 1) := by decide +kernel
