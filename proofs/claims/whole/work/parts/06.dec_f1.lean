theorem dX11_pactLine_15 : decode cX11_pactLine 15 = .ok (.iconst 1, 1) := by decide +kernel
theorem dX11_pactLine_16 : decode cX11_pactLine 16 = .ok (.invokevirtual 317, 3) := by decide +kernel
theorem dX11_pactLine_19 : decode cX11_pactLine 19 = .ok (.ireturn, 1) := by decide +kernel
theorem dX11_pactLine_20 : decode cX11_pactLine 20 = .ok (.aload_n 0, 1) := by decide +kernel
theorem dX11_pactLine_21 : decode cX11_pactLine 21 = .ok (.getfield 296, 3) := by decide +kernel
theorem dX11_pactLine_24 : decode cX11_pactLine 24 = .ok (.bipush 20, 2) := by decide +kernel
theorem dX11_pactLine_26 : decode cX11_pactLine 26 = .ok (.isub, 1) := by decide +kernel
theorem dX11_pactLine_27 : decode cX11_pactLine 27 = .ok (.istore_n 1, 1) := by decide +kernel
theorem dX11_pactLine_28 : decode cX11_pactLine 28 = .ok (.aload_n 0, 1) := by decide +kernel
theorem dX11_pactLine_29 : decode cX11_pactLine 29 = .ok (.getfield 362, 3) := by decide +kernel
theorem dX11_pactLine_32 : decode cX11_pactLine 32 = .ok (.bipush 20, 2) := by decide +kernel
theorem dX11_pactLine_34 : decode cX11_pactLine 34 = .ok (.if_icmp .eq 35, 3) := by decide +kernel
theorem dX11_pactLine_37 : decode cX11_pactLine 37 = .ok (.iload_n 1, 1) := by decide +kernel
theorem dX11_pactLine_38 : decode cX11_pactLine 38 = .ok (.iconst 4, 1) := by decide +kernel
theorem dX11_pactLine_39 : decode cX11_pactLine 39 = .ok (.if_icmp .ne 14, 3) := by decide +kernel
theorem dX11_pactLine_42 : decode cX11_pactLine 42 = .ok (.aload_n 0, 1) := by decide +kernel
theorem dX11_pactLine_43 : decode cX11_pactLine 43 = .ok (.getfield 99, 3) := by decide +kernel
theorem dX11_pactLine_46 : decode cX11_pactLine 46 = .ok (.bipush 36, 2) := by decide +kernel
theorem dX11_pactLine_48 : decode cX11_pactLine 48 = .ok (.iaload, 1) := by decide +kernel
theorem dX11_pactLine_49 : decode cX11_pactLine 49 = .ok (.iconst (-1), 1) := by decide +kernel
theorem dX11_pactLine_50 : decode cX11_pactLine 50 = .ok (.if_icmp .ne 19, 3) := by decide +kernel
theorem dX11_pactLine_53 : decode cX11_pactLine 53 = .ok (.iload_n 1, 1) := by decide +kernel
theorem dX11_pactLine_54 : decode cX11_pactLine 54 = .ok (.bipush 8, 2) := by decide +kernel
theorem dX11_pactLine_56 : decode cX11_pactLine 56 = .ok (.if_icmp .ne 19, 3) := by decide +kernel
theorem dX11_pactLine_59 : decode cX11_pactLine 59 = .ok (.aload_n 0, 1) := by decide +kernel
theorem dX11_pactLine_60 : decode cX11_pactLine 60 = .ok (.getfield 102, 3) := by decide +kernel
theorem dX11_pactLine_63 : decode cX11_pactLine 63 = .ok (.bipush 36, 2) := by decide +kernel
theorem dX11_pactLine_65 : decode cX11_pactLine 65 = .ok (.baload, 1) := by decide +kernel
theorem dX11_pactLine_66 : decode cX11_pactLine 66 = .ok (.ifCond .eq 9, 3) := by decide +kernel
theorem dX11_pactLine_69 : decode cX11_pactLine 69 = .ok (.aload_n 0, 1) := by decide +kernel
theorem dX11_pactLine_70 : decode cX11_pactLine 70 = .ok (.iconst 3, 1) := by decide +kernel
theorem dX11_pactLine_71 : decode cX11_pactLine 71 = .ok (.invokevirtual 317, 3) := by decide +kernel
theorem dX11_pactLine_74 : decode cX11_pactLine 74 = .ok (.ireturn, 1) := by decide +kernel
theorem dX11_pactLine_75 : decode cX11_pactLine 75 = .ok (.aload_n 0, 1) := by decide +kernel
theorem dX11_pactLine_76 : decode cX11_pactLine 76 = .ok (.invokevirtual 320, 3) := by decide +kernel
theorem dX11_pactLine_79 : decode cX11_pactLine 79 = .ok (.iload_n 1, 1) := by decide +kernel
theorem dX11_pactLine_80 : decode cX11_pactLine 80 = .ok (.iconst 5, 1) := by decide +kernel
theorem dX11_pactLine_81 : decode cX11_pactLine 81 = .ok (.if_icmp .ne 61, 3) := by decide +kernel
theorem dX11_pactLine_84 : decode cX11_pactLine 84 = .ok (.aload_n 0, 1) := by decide +kernel
theorem dX11_pactLine_85 : decode cX11_pactLine 85 = .ok (.getfield 296, 3) := by decide +kernel
theorem dX11_pactLine_88 : decode cX11_pactLine 88 = .ok (.bipush 61, 2) := by decide +kernel
theorem dX11_pactLine_90 : decode cX11_pactLine 90 = .ok (.bipush 64, 2) := by decide +kernel
theorem dX11_pactLine_92 : decode cX11_pactLine 92 = .ok (.invokestatic 1, 3) := by decide +kernel
theorem dX11_pactLine_95 : decode cX11_pactLine 95 = .ok (.ifCond .ne 9, 3) := by decide +kernel
theorem dX11_pactLine_98 : decode cX11_pactLine 98 = .ok (.aload_n 0, 1) := by decide +kernel
theorem dX11_pactLine_99 : decode cX11_pactLine 99 = .ok (.iconst 1, 1) := by decide +kernel
theorem dX11_pactLine_100 : decode cX11_pactLine 100 = .ok (.invokevirtual 317, 3) := by decide +kernel
theorem dX11_pactLine_103 : decode cX11_pactLine 103 = .ok (.ireturn, 1) := by decide +kernel
theorem dX11_pactLine_104 : decode cX11_pactLine 104 = .ok (.aload_n 0, 1) := by decide +kernel
theorem dX11_pactLine_105 : decode cX11_pactLine 105 = .ok (.getfield 90, 3) := by decide +kernel
theorem dX11_pactLine_108 : decode cX11_pactLine 108 = .ok (.sipush 720, 3) := by decide +kernel
theorem dX11_pactLine_111 : decode cX11_pactLine 111 = .ok (.aload_n 0, 1) := by decide +kernel
theorem dX11_pactLine_112 : decode cX11_pactLine 112 = .ok (.getfield 87, 3) := by decide +kernel
theorem dX11_pactLine_115 : decode cX11_pactLine 115 = .ok (.bipush 36, 2) := by decide +kernel
theorem dX11_pactLine_117 : decode cX11_pactLine 117 = .ok (.iaload, 1) := by decide +kernel
theorem dX11_pactLine_118 : decode cX11_pactLine 118 = .ok (.iadd, 1) := by decide +kernel
theorem dX11_pactLine_119 : decode cX11_pactLine 119 = .ok (.aload_n 0, 1) := by decide +kernel
theorem dX11_pactLine_120 : decode cX11_pactLine 120 = .ok (.getfield 296, 3) := by decide +kernel
theorem dX11_pactLine_123 : decode cX11_pactLine 123 = .ok (.bipush 60, 2) := by decide +kernel
theorem dX11_pactLine_125 : decode cX11_pactLine 125 = .ok (.isub, 1) := by decide +kernel
theorem dX11_pactLine_126 : decode cX11_pactLine 126 = .ok (.iastore, 1) := by decide +kernel
theorem dX11_pactLine_127 : decode cX11_pactLine 127 = .ok (.aload_n 0, 1) := by decide +kernel
theorem dX11_pactLine_128 : decode cX11_pactLine 128 = .ok (.getfield 87, 3) := by decide +kernel
theorem dX11_pactLine_131 : decode cX11_pactLine 131 = .ok (.bipush 36, 2) := by decide +kernel
theorem dX11_pactLine_133 : decode cX11_pactLine 133 = .ok (.dup2, 1) := by decide +kernel
theorem dX11_pactLine_134 : decode cX11_pactLine 134 = .ok (.iaload, 1) := by decide +kernel
theorem dX11_pactLine_135 : decode cX11_pactLine 135 = .ok (.iconst 1, 1) := by decide +kernel
theorem dX11_pactLine_136 : decode cX11_pactLine 136 = .ok (.iadd, 1) := by decide +kernel
theorem dX11_pactLine_137 : decode cX11_pactLine 137 = .ok (.iastore, 1) := by decide +kernel
theorem dX11_pactLine_138 : decode cX11_pactLine 138 = .ok (.aload_n 0, 1) := by decide +kernel
theorem dX11_pactLine_139 : decode cX11_pactLine 139 = .ok (.invokevirtual 320, 3) := by decide +kernel
theorem dX11_pactLine_142 : decode cX11_pactLine 142 = .ok (.iload_n 1, 1) := by decide +kernel
theorem dX11_pactLine_143 : decode cX11_pactLine 143 = .ok (.bipush 6, 2) := by decide +kernel
theorem dX11_pactLine_145 : decode cX11_pactLine 145 = .ok (.if_icmp .eq 9, 3) := by decide +kernel
theorem dX11_pactLine_148 : decode cX11_pactLine 148 = .ok (.iload_n 1, 1) := by decide +kernel
theorem dX11_pactLine_149 : decode cX11_pactLine 149 = .ok (.bipush 7, 2) := by decide +kernel
theorem dX11_pactLine_151 : decode cX11_pactLine 151 = .ok (.if_icmp .ne 13, 3) := by decide +kernel
theorem dX11_pactLine_154 : decode cX11_pactLine 154 = .ok (.aload_n 0, 1) := by decide +kernel
theorem dX11_pactLine_155 : decode cX11_pactLine 155 = .ok (.iload_n 1, 1) := by decide +kernel
theorem dX11_pactLine_156 : decode cX11_pactLine 156 = .ok (.invokevirtual 380, 3) := by decide +kernel
theorem dX11_pactLine_159 : decode cX11_pactLine 159 = .ok (.ifCond .ne 5, 3) := by decide +kernel
theorem dX11_pactLine_162 : decode cX11_pactLine 162 = .ok (.iconst 0, 1) := by decide +kernel
theorem dX11_pactLine_163 : decode cX11_pactLine 163 = .ok (.ireturn, 1) := by decide +kernel
theorem dX11_pactLine_164 : decode cX11_pactLine 164 = .ok (.iload_n 1, 1) := by decide +kernel
theorem dX11_pactLine_165 : decode cX11_pactLine 165 = .ok (.iconst 4, 1) := by decide +kernel
theorem dX11_pactLine_166 : decode cX11_pactLine 166 = .ok (.if_icmp .ne 27, 3) := by decide +kernel
theorem dX11_pactLine_169 : decode cX11_pactLine 169 = .ok (.aload_n 0, 1) := by decide +kernel
theorem dX11_pactLine_170 : decode cX11_pactLine 170 = .ok (.getfield 99, 3) := by decide +kernel
theorem dX11_pactLine_173 : decode cX11_pactLine 173 = .ok (.bipush 36, 2) := by decide +kernel
theorem dX11_pactLine_175 : decode cX11_pactLine 175 = .ok (.aload_n 0, 1) := by decide +kernel
theorem dX11_pactLine_176 : decode cX11_pactLine 176 = .ok (.invokevirtual 378, 3) := by decide +kernel
theorem dX11_pactLine_179 : decode cX11_pactLine 179 = .ok (.iastore, 1) := by decide +kernel
theorem dX11_pactLine_180 : decode cX11_pactLine 180 = .ok (.aload_n 0, 1) := by decide +kernel
theorem dX11_pactLine_181 : decode cX11_pactLine 181 = .ok (.getfield 99, 3) := by decide +kernel
theorem dX11_pactLine_184 : decode cX11_pactLine 184 = .ok (.bipush 36, 2) := by decide +kernel
theorem dX11_pactLine_186 : decode cX11_pactLine 186 = .ok (.iaload, 1) := by decide +kernel
theorem dX11_pactLine_187 : decode cX11_pactLine 187 = .ok (.iconst (-1), 1) := by decide +kernel
theorem dX11_pactLine_188 : decode cX11_pactLine 188 = .ok (.if_icmp .ne 5, 3) := by decide +kernel
theorem dX11_pactLine_191 : decode cX11_pactLine 191 = .ok (.iconst 0, 1) := by decide +kernel
theorem dX11_pactLine_192 : decode cX11_pactLine 192 = .ok (.ireturn, 1) := by decide +kernel
theorem dX11_pactLine_193 : decode cX11_pactLine 193 = .ok (.iload_n 1, 1) := by decide +kernel
theorem dX11_pactLine_194 : decode cX11_pactLine 194 = .ok (.bipush 8, 2) := by decide +kernel
theorem dX11_pactLine_196 : decode cX11_pactLine 196 = .ok (.if_icmp .ne 11, 3) := by decide +kernel
theorem dX11_pactLine_199 : decode cX11_pactLine 199 = .ok (.aload_n 0, 1) := by decide +kernel
theorem dX11_pactLine_200 : decode cX11_pactLine 200 = .ok (.getfield 102, 3) := by decide +kernel
theorem dX11_pactLine_203 : decode cX11_pactLine 203 = .ok (.bipush 36, 2) := by decide +kernel
theorem dX11_pactLine_205 : decode cX11_pactLine 205 = .ok (.iconst 1, 1) := by decide +kernel
theorem dX11_pactLine_206 : decode cX11_pactLine 206 = .ok (.bastore, 1) := by decide +kernel
theorem dX11_pactLine_207 : decode cX11_pactLine 207 = .ok (.aload_n 0, 1) := by decide +kernel
theorem dX11_pactLine_208 : decode cX11_pactLine 208 = .ok (.dup, 1) := by decide +kernel
theorem dX11_pactLine_209 : decode cX11_pactLine 209 = .ok (.getfield 362, 3) := by decide +kernel
theorem dX11_pactLine_212 : decode cX11_pactLine 212 = .ok (.iconst 1, 1) := by decide +kernel
theorem dX11_pactLine_213 : decode cX11_pactLine 213 = .ok (.iadd, 1) := by decide +kernel
theorem dX11_pactLine_214 : decode cX11_pactLine 214 = .ok (.putfield 362, 3) := by decide +kernel
theorem dX11_pactLine_217 : decode cX11_pactLine 217 = .ok (.aload_n 0, 1) := by decide +kernel
theorem dX11_pactLine_218 : decode cX11_pactLine 218 = .ok (.sipush 159, 3) := by decide +kernel
theorem dX11_pactLine_221 : decode cX11_pactLine 221 = .ok (.invokevirtual 356, 3) := by decide +kernel
theorem dX11_pactLine_224 : decode cX11_pactLine 224 = .ok (.ireturn, 1) := by decide +kernel
theorem dX11_empties_0 : decode cX11_empties 0 = .ok (.aload_n 0, 1) := by decide +kernel
theorem dX11_empties_1 : decode cX11_empties 1 = .ok (.iconst 0, 1) := by decide +kernel
theorem dX11_empties_2 : decode cX11_empties 2 = .ok (.putfield 323, 3) := by decide +kernel
theorem dX11_empties_5 : decode cX11_empties 5 = .ok (.aload_n 0, 1) := by decide +kernel
theorem dX11_empties_6 : decode cX11_empties 6 = .ok (.iconst 0, 1) := by decide +kernel
theorem dX11_empties_7 : decode cX11_empties 7 = .ok (.putfield 362, 3) := by decide +kernel
theorem dX11_empties_10 : decode cX11_empties 10 = .ok (.aload_n 0, 1) := by decide +kernel
theorem dX11_empties_11 : decode cX11_empties 11 = .ok (.getfield 65, 3) := by decide +kernel
theorem dX11_empties_14 : decode cX11_empties 14 = .ok (.bipush 6, 2) := by decide +kernel
theorem dX11_empties_16 : decode cX11_empties 16 = .ok (.iconst 0, 1) := by decide +kernel
theorem dX11_empties_17 : decode cX11_empties 17 = .ok (.iastore, 1) := by decide +kernel
theorem dX11_empties_18 : decode cX11_empties 18 = .ok (.aload_n 0, 1) := by decide +kernel
theorem dX11_empties_19 : decode cX11_empties 19 = .ok (.getfield 77, 3) := by decide +kernel
theorem dX11_empties_22 : decode cX11_empties 22 = .ok (.bipush 6, 2) := by decide +kernel
theorem dX11_empties_24 : decode cX11_empties 24 = .ok (.iconst 0, 1) := by decide +kernel
theorem dX11_empties_25 : decode cX11_empties 25 = .ok (.bastore, 1) := by decide +kernel
theorem dX11_empties_26 : decode cX11_empties 26 = .ok (.aload_n 0, 1) := by decide +kernel
theorem dX11_empties_27 : decode cX11_empties 27 = .ok (.getfield 81, 3) := by decide +kernel
theorem dX11_empties_30 : decode cX11_empties 30 = .ok (.bipush 6, 2) := by decide +kernel
theorem dX11_empties_32 : decode cX11_empties 32 = .ok (.iconst 0, 1) := by decide +kernel
theorem dX11_empties_33 : decode cX11_empties 33 = .ok (.bastore, 1) := by decide +kernel
theorem dX11_empties_34 : decode cX11_empties 34 = .ok (.aload_n 0, 1) := by decide +kernel
theorem dX11_empties_35 : decode cX11_empties 35 = .ok (.getfield 62, 3) := by decide +kernel
theorem dX11_empties_38 : decode cX11_empties 38 = .ok (.bipush 6, 2) := by decide +kernel
theorem dX11_empties_40 : decode cX11_empties 40 = .ok (.iconst 0, 1) := by decide +kernel
theorem dX11_empties_41 : decode cX11_empties 41 = .ok (.iastore, 1) := by decide +kernel
theorem dX11_empties_42 : decode cX11_empties 42 = .ok (.aload_n 0, 1) := by decide +kernel
theorem dX11_empties_43 : decode cX11_empties 43 = .ok (.getfield 74, 3) := by decide +kernel
theorem dX11_empties_46 : decode cX11_empties 46 = .ok (.bipush 6, 2) := by decide +kernel
theorem dX11_empties_48 : decode cX11_empties 48 = .ok (.iconst 0, 1) := by decide +kernel
theorem dX11_empties_49 : decode cX11_empties 49 = .ok (.iastore, 1) := by decide +kernel
theorem dX11_empties_50 : decode cX11_empties 50 = .ok (.aload_n 0, 1) := by decide +kernel
theorem dX11_empties_51 : decode cX11_empties 51 = .ok (.bipush 36, 2) := by decide +kernel
theorem dX11_empties_53 : decode cX11_empties 53 = .ok (.invokevirtual 118, 3) := by decide +kernel
theorem dX11_empties_56 : decode cX11_empties 56 = .ok (.return_, 1) := by decide +kernel
theorem dX11_clearsPact_0 : decode cX11_clearsPact 0 = .ok (.aload_n 0, 1) := by decide +kernel
theorem dX11_clearsPact_1 : decode cX11_clearsPact 1 = .ok (.getfield 87, 3) := by decide +kernel
theorem dX11_clearsPact_4 : decode cX11_clearsPact 4 = .ok (.iload_n 1, 1) := by decide +kernel
theorem dX11_clearsPact_5 : decode cX11_clearsPact 5 = .ok (.iconst 0, 1) := by decide +kernel
theorem dX11_clearsPact_6 : decode cX11_clearsPact 6 = .ok (.iastore, 1) := by decide +kernel
theorem dX11_clearsPact_7 : decode cX11_clearsPact 7 = .ok (.aload_n 0, 1) := by decide +kernel
theorem dX11_clearsPact_8 : decode cX11_clearsPact 8 = .ok (.getfield 93, 3) := by decide +kernel
theorem dX11_clearsPact_11 : decode cX11_clearsPact 11 = .ok (.iload_n 1, 1) := by decide +kernel
theorem dX11_clearsPact_12 : decode cX11_clearsPact 12 = .ok (.iconst 0, 1) := by decide +kernel
theorem dX11_clearsPact_13 : decode cX11_clearsPact 13 = .ok (.iastore, 1) := by decide +kernel
theorem dX11_clearsPact_14 : decode cX11_clearsPact 14 = .ok (.aload_n 0, 1) := by decide +kernel
theorem dX11_clearsPact_15 : decode cX11_clearsPact 15 = .ok (.getfield 99, 3) := by decide +kernel
theorem dX11_clearsPact_18 : decode cX11_clearsPact 18 = .ok (.iload_n 1, 1) := by decide +kernel
theorem dX11_clearsPact_19 : decode cX11_clearsPact 19 = .ok (.iconst (-1), 1) := by decide +kernel
theorem dX11_clearsPact_20 : decode cX11_clearsPact 20 = .ok (.iastore, 1) := by decide +kernel
theorem dX11_clearsPact_21 : decode cX11_clearsPact 21 = .ok (.aload_n 0, 1) := by decide +kernel
theorem dX11_clearsPact_22 : decode cX11_clearsPact 22 = .ok (.getfield 102, 3) := by decide +kernel
theorem dX11_clearsPact_25 : decode cX11_clearsPact 25 = .ok (.iload_n 1, 1) := by decide +kernel
theorem dX11_clearsPact_26 : decode cX11_clearsPact 26 = .ok (.iconst 0, 1) := by decide +kernel
theorem dX11_clearsPact_27 : decode cX11_clearsPact 27 = .ok (.bastore, 1) := by decide +kernel
theorem dX11_clearsPact_28 : decode cX11_clearsPact 28 = .ok (.iconst 0, 1) := by decide +kernel
theorem dX11_clearsPact_29 : decode cX11_clearsPact 29 = .ok (.istore_n 2, 1) := by decide +kernel
theorem dX11_clearsPact_30 : decode cX11_clearsPact 30 = .ok (.iload_n 2, 1) := by decide +kernel
theorem dX11_clearsPact_31 : decode cX11_clearsPact 31 = .ok (.bipush 6, 2) := by decide +kernel
theorem dX11_clearsPact_33 : decode cX11_clearsPact 33 = .ok (.if_icmp .ge 21, 3) := by decide +kernel
theorem dX11_clearsPact_36 : decode cX11_clearsPact 36 = .ok (.aload_n 0, 1) := by decide +kernel
theorem dX11_clearsPact_37 : decode cX11_clearsPact 37 = .ok (.getfield 96, 3) := by decide +kernel
theorem dX11_clearsPact_40 : decode cX11_clearsPact 40 = .ok (.bipush 6, 2) := by decide +kernel
theorem dX11_clearsPact_42 : decode cX11_clearsPact 42 = .ok (.iload_n 1, 1) := by decide +kernel
theorem dX11_clearsPact_43 : decode cX11_clearsPact 43 = .ok (.imul, 1) := by decide +kernel
theorem dX11_clearsPact_44 : decode cX11_clearsPact 44 = .ok (.iload_n 2, 1) := by decide +kernel
theorem dX11_clearsPact_45 : decode cX11_clearsPact 45 = .ok (.iadd, 1) := by decide +kernel
theorem dX11_clearsPact_46 : decode cX11_clearsPact 46 = .ok (.iconst (-1), 1) := by decide +kernel
theorem dX11_clearsPact_47 : decode cX11_clearsPact 47 = .ok (.iastore, 1) := by decide +kernel
theorem dX11_clearsPact_48 : decode cX11_clearsPact 48 = .ok (.iinc 2 1, 3) := by decide +kernel
theorem dX11_clearsPact_51 : decode cX11_clearsPact 51 = .ok (.goto (-21), 3) := by decide +kernel
theorem dX11_clearsPact_54 : decode cX11_clearsPact 54 = .ok (.return_, 1) := by decide +kernel
theorem dX11_keepsLaw_0 : decode cX11_keepsLaw 0 = .ok (.aload_n 0, 1) := by decide +kernel
theorem dX11_keepsLaw_1 : decode cX11_keepsLaw 1 = .ok (.getfield 41, 3) := by decide +kernel
theorem dX11_keepsLaw_4 : decode cX11_keepsLaw 4 = .ok (.iload_n 1, 1) := by decide +kernel
theorem dX11_keepsLaw_5 : decode cX11_keepsLaw 5 = .ok (.aload_n 0, 1) := by decide +kernel
theorem dX11_keepsLaw_6 : decode cX11_keepsLaw 6 = .ok (.getfield 362, 3) := by decide +kernel
theorem dX11_keepsLaw_9 : decode cX11_keepsLaw 9 = .ok (.iastore, 1) := by decide +kernel
theorem dX11_keepsLaw_10 : decode cX11_keepsLaw 10 = .ok (.aload_n 0, 1) := by decide +kernel
theorem dX11_keepsLaw_11 : decode cX11_keepsLaw 11 = .ok (.getfield 65, 3) := by decide +kernel
theorem dX11_keepsLaw_14 : decode cX11_keepsLaw 14 = .ok (.iload_n 1, 1) := by decide +kernel
theorem dX11_keepsLaw_15 : decode cX11_keepsLaw 15 = .ok (.aload_n 0, 1) := by decide +kernel
theorem dX11_keepsLaw_16 : decode cX11_keepsLaw 16 = .ok (.getfield 65, 3) := by decide +kernel
theorem dX11_keepsLaw_19 : decode cX11_keepsLaw 19 = .ok (.bipush 6, 2) := by decide +kernel
theorem dX11_keepsLaw_21 : decode cX11_keepsLaw 21 = .ok (.iaload, 1) := by decide +kernel
theorem dX11_keepsLaw_22 : decode cX11_keepsLaw 22 = .ok (.iastore, 1) := by decide +kernel
theorem dX11_keepsLaw_23 : decode cX11_keepsLaw 23 = .ok (.aload_n 0, 1) := by decide +kernel
theorem dX11_keepsLaw_24 : decode cX11_keepsLaw 24 = .ok (.getfield 62, 3) := by decide +kernel
theorem dX11_keepsLaw_27 : decode cX11_keepsLaw 27 = .ok (.iload_n 1, 1) := by decide +kernel
theorem dX11_keepsLaw_28 : decode cX11_keepsLaw 28 = .ok (.aload_n 0, 1) := by decide +kernel
theorem dX11_keepsLaw_29 : decode cX11_keepsLaw 29 = .ok (.getfield 62, 3) := by decide +kernel
theorem dX11_keepsLaw_32 : decode cX11_keepsLaw 32 = .ok (.bipush 6, 2) := by decide +kernel
theorem dX11_keepsLaw_34 : decode cX11_keepsLaw 34 = .ok (.iaload, 1) := by decide +kernel
theorem dX11_keepsLaw_35 : decode cX11_keepsLaw 35 = .ok (.iastore, 1) := by decide +kernel
theorem dX11_keepsLaw_36 : decode cX11_keepsLaw 36 = .ok (.aload_n 0, 1) := by decide +kernel
theorem dX11_keepsLaw_37 : decode cX11_keepsLaw 37 = .ok (.getfield 74, 3) := by decide +kernel
theorem dX11_keepsLaw_40 : decode cX11_keepsLaw 40 = .ok (.iload_n 1, 1) := by decide +kernel
theorem dX11_keepsLaw_41 : decode cX11_keepsLaw 41 = .ok (.aload_n 0, 1) := by decide +kernel
theorem dX11_keepsLaw_42 : decode cX11_keepsLaw 42 = .ok (.getfield 74, 3) := by decide +kernel
theorem dX11_keepsLaw_45 : decode cX11_keepsLaw 45 = .ok (.bipush 6, 2) := by decide +kernel
theorem dX11_keepsLaw_47 : decode cX11_keepsLaw 47 = .ok (.iaload, 1) := by decide +kernel
theorem dX11_keepsLaw_48 : decode cX11_keepsLaw 48 = .ok (.iastore, 1) := by decide +kernel
theorem dX11_keepsLaw_49 : decode cX11_keepsLaw 49 = .ok (.iconst 0, 1) := by decide +kernel
theorem dX11_keepsLaw_50 : decode cX11_keepsLaw 50 = .ok (.istore_n 2, 1) := by decide +kernel
theorem dX11_keepsLaw_51 : decode cX11_keepsLaw 51 = .ok (.iload_n 2, 1) := by decide +kernel
theorem dX11_keepsLaw_52 : decode cX11_keepsLaw 52 = .ok (.bipush 20, 2) := by decide +kernel
theorem dX11_keepsLaw_54 : decode cX11_keepsLaw 54 = .ok (.if_icmp .ge 113, 3) := by decide +kernel
theorem dX11_keepsLaw_57 : decode cX11_keepsLaw 57 = .ok (.bipush 20, 2) := by decide +kernel
theorem dX11_keepsLaw_59 : decode cX11_keepsLaw 59 = .ok (.iload_n 1, 1) := by decide +kernel
theorem dX11_keepsLaw_60 : decode cX11_keepsLaw 60 = .ok (.imul, 1) := by decide +kernel
theorem dX11_keepsLaw_61 : decode cX11_keepsLaw 61 = .ok (.iload_n 2, 1) := by decide +kernel
theorem dX11_keepsLaw_62 : decode cX11_keepsLaw 62 = .ok (.iadd, 1) := by decide +kernel
theorem dX11_keepsLaw_63 : decode cX11_keepsLaw 63 = .ok (.istore_n 3, 1) := by decide +kernel
theorem dX11_keepsLaw_64 : decode cX11_keepsLaw 64 = .ok (.bipush 120, 2) := by decide +kernel
theorem dX11_keepsLaw_66 : decode cX11_keepsLaw 66 = .ok (.iload_n 2, 1) := by decide +kernel
theorem dX11_keepsLaw_67 : decode cX11_keepsLaw 67 = .ok (.iadd, 1) := by decide +kernel
theorem dX11_keepsLaw_68 : decode cX11_keepsLaw 68 = .ok (.istore 4, 2) := by decide +kernel
theorem dX11_keepsLaw_70 : decode cX11_keepsLaw 70 = .ok (.aload_n 0, 1) := by decide +kernel
theorem dX11_keepsLaw_71 : decode cX11_keepsLaw 71 = .ok (.getfield 44, 3) := by decide +kernel
theorem dX11_keepsLaw_74 : decode cX11_keepsLaw 74 = .ok (.iload_n 3, 1) := by decide +kernel
theorem dX11_keepsLaw_75 : decode cX11_keepsLaw 75 = .ok (.aload_n 0, 1) := by decide +kernel
theorem dX11_keepsLaw_76 : decode cX11_keepsLaw 76 = .ok (.getfield 44, 3) := by decide +kernel
theorem dX11_keepsLaw_79 : decode cX11_keepsLaw 79 = .ok (.iload 4, 2) := by decide +kernel
theorem dX11_keepsLaw_81 : decode cX11_keepsLaw 81 = .ok (.iaload, 1) := by decide +kernel
theorem dX11_keepsLaw_82 : decode cX11_keepsLaw 82 = .ok (.iastore, 1) := by decide +kernel
theorem dX11_keepsLaw_83 : decode cX11_keepsLaw 83 = .ok (.aload_n 0, 1) := by decide +kernel
theorem dX11_keepsLaw_84 : decode cX11_keepsLaw 84 = .ok (.getfield 47, 3) := by decide +kernel
theorem dX11_keepsLaw_87 : decode cX11_keepsLaw 87 = .ok (.iload_n 3, 1) := by decide +kernel
theorem dX11_keepsLaw_88 : decode cX11_keepsLaw 88 = .ok (.aload_n 0, 1) := by decide +kernel
theorem dX11_keepsLaw_89 : decode cX11_keepsLaw 89 = .ok (.getfield 47, 3) := by decide +kernel
theorem dX11_keepsLaw_92 : decode cX11_keepsLaw 92 = .ok (.iload 4, 2) := by decide +kernel
theorem dX11_keepsLaw_94 : decode cX11_keepsLaw 94 = .ok (.iaload, 1) := by decide +kernel
theorem dX11_keepsLaw_95 : decode cX11_keepsLaw 95 = .ok (.iastore, 1) := by decide +kernel
theorem dX11_keepsLaw_96 : decode cX11_keepsLaw 96 = .ok (.aload_n 0, 1) := by decide +kernel
theorem dX11_keepsLaw_97 : decode cX11_keepsLaw 97 = .ok (.getfield 50, 3) := by decide +kernel
theorem dX11_keepsLaw_100 : decode cX11_keepsLaw 100 = .ok (.iload_n 3, 1) := by decide +kernel
theorem dX11_keepsLaw_101 : decode cX11_keepsLaw 101 = .ok (.aload_n 0, 1) := by decide +kernel
theorem dX11_keepsLaw_102 : decode cX11_keepsLaw 102 = .ok (.getfield 50, 3) := by decide +kernel
theorem dX11_keepsLaw_105 : decode cX11_keepsLaw 105 = .ok (.iload 4, 2) := by decide +kernel
theorem dX11_keepsLaw_107 : decode cX11_keepsLaw 107 = .ok (.iaload, 1) := by decide +kernel
theorem dX11_keepsLaw_108 : decode cX11_keepsLaw 108 = .ok (.iastore, 1) := by decide +kernel
theorem dX11_keepsLaw_109 : decode cX11_keepsLaw 109 = .ok (.aload_n 0, 1) := by decide +kernel
theorem dX11_keepsLaw_110 : decode cX11_keepsLaw 110 = .ok (.getfield 53, 3) := by decide +kernel
theorem dX11_keepsLaw_113 : decode cX11_keepsLaw 113 = .ok (.iload_n 3, 1) := by decide +kernel
theorem dX11_keepsLaw_114 : decode cX11_keepsLaw 114 = .ok (.aload_n 0, 1) := by decide +kernel
theorem dX11_keepsLaw_115 : decode cX11_keepsLaw 115 = .ok (.getfield 53, 3) := by decide +kernel
theorem dX11_keepsLaw_118 : decode cX11_keepsLaw 118 = .ok (.iload 4, 2) := by decide +kernel
theorem dX11_keepsLaw_120 : decode cX11_keepsLaw 120 = .ok (.iaload, 1) := by decide +kernel
theorem dX11_keepsLaw_121 : decode cX11_keepsLaw 121 = .ok (.iastore, 1) := by decide +kernel
theorem dX11_keepsLaw_122 : decode cX11_keepsLaw 122 = .ok (.aload_n 0, 1) := by decide +kernel
theorem dX11_keepsLaw_123 : decode cX11_keepsLaw 123 = .ok (.getfield 56, 3) := by decide +kernel
theorem dX11_keepsLaw_126 : decode cX11_keepsLaw 126 = .ok (.iload_n 3, 1) := by decide +kernel
theorem dX11_keepsLaw_127 : decode cX11_keepsLaw 127 = .ok (.aload_n 0, 1) := by decide +kernel
theorem dX11_keepsLaw_128 : decode cX11_keepsLaw 128 = .ok (.getfield 56, 3) := by decide +kernel
theorem dX11_keepsLaw_131 : decode cX11_keepsLaw 131 = .ok (.iload 4, 2) := by decide +kernel
theorem dX11_keepsLaw_133 : decode cX11_keepsLaw 133 = .ok (.iaload, 1) := by decide +kernel
theorem dX11_keepsLaw_134 : decode cX11_keepsLaw 134 = .ok (.iastore, 1) := by decide +kernel
theorem dX11_keepsLaw_135 : decode cX11_keepsLaw 135 = .ok (.aload_n 0, 1) := by decide +kernel
theorem dX11_keepsLaw_136 : decode cX11_keepsLaw 136 = .ok (.getfield 68, 3) := by decide +kernel
theorem dX11_keepsLaw_139 : decode cX11_keepsLaw 139 = .ok (.iload_n 3, 1) := by decide +kernel
theorem dX11_keepsLaw_140 : decode cX11_keepsLaw 140 = .ok (.aload_n 0, 1) := by decide +kernel
theorem dX11_keepsLaw_141 : decode cX11_keepsLaw 141 = .ok (.getfield 68, 3) := by decide +kernel
theorem dX11_keepsLaw_144 : decode cX11_keepsLaw 144 = .ok (.iload 4, 2) := by decide +kernel
theorem dX11_keepsLaw_146 : decode cX11_keepsLaw 146 = .ok (.iaload, 1) := by decide +kernel
theorem dX11_keepsLaw_147 : decode cX11_keepsLaw 147 = .ok (.iastore, 1) := by decide +kernel
theorem dX11_keepsLaw_148 : decode cX11_keepsLaw 148 = .ok (.aload_n 0, 1) := by decide +kernel
theorem dX11_keepsLaw_149 : decode cX11_keepsLaw 149 = .ok (.getfield 71, 3) := by decide +kernel
theorem dX11_keepsLaw_152 : decode cX11_keepsLaw 152 = .ok (.iload_n 3, 1) := by decide +kernel
theorem dX11_keepsLaw_153 : decode cX11_keepsLaw 153 = .ok (.aload_n 0, 1) := by decide +kernel
theorem dX11_keepsLaw_154 : decode cX11_keepsLaw 154 = .ok (.getfield 71, 3) := by decide +kernel
theorem dX11_keepsLaw_157 : decode cX11_keepsLaw 157 = .ok (.iload 4, 2) := by decide +kernel
theorem dX11_keepsLaw_159 : decode cX11_keepsLaw 159 = .ok (.iaload, 1) := by decide +kernel
theorem dX11_keepsLaw_160 : decode cX11_keepsLaw 160 = .ok (.iastore, 1) := by decide +kernel
theorem dX11_keepsLaw_161 : decode cX11_keepsLaw 161 = .ok (.iinc 2 1, 3) := by decide +kernel
theorem dX11_keepsLaw_164 : decode cX11_keepsLaw 164 = .ok (.goto (-113), 3) := by decide +kernel
theorem dX11_keepsLaw_167 : decode cX11_keepsLaw 167 = .ok (.iconst 0, 1) := by decide +kernel
theorem dX11_keepsLaw_168 : decode cX11_keepsLaw 168 = .ok (.istore_n 2, 1) := by decide +kernel
theorem dX11_keepsLaw_169 : decode cX11_keepsLaw 169 = .ok (.iload_n 2, 1) := by decide +kernel
theorem dX11_keepsLaw_170 : decode cX11_keepsLaw 170 = .ok (.iconst 2, 1) := by decide +kernel
theorem dX11_keepsLaw_171 : decode cX11_keepsLaw 171 = .ok (.aload_n 0, 1) := by decide +kernel
theorem dX11_keepsLaw_172 : decode cX11_keepsLaw 172 = .ok (.getfield 323, 3) := by decide +kernel
theorem dX11_keepsLaw_175 : decode cX11_keepsLaw 175 = .ok (.imul, 1) := by decide +kernel
theorem dX11_keepsLaw_176 : decode cX11_keepsLaw 176 = .ok (.if_icmp .ge 31, 3) := by decide +kernel
theorem dX11_keepsLaw_179 : decode cX11_keepsLaw 179 = .ok (.aload_n 0, 1) := by decide +kernel
theorem dX11_keepsLaw_180 : decode cX11_keepsLaw 180 = .ok (.getfield 59, 3) := by decide +kernel
theorem dX11_keepsLaw_183 : decode cX11_keepsLaw 183 = .ok (.sipush 1220, 3) := by decide +kernel
theorem dX11_keepsLaw_186 : decode cX11_keepsLaw 186 = .ok (.iload_n 1, 1) := by decide +kernel
theorem dX11_keepsLaw_187 : decode cX11_keepsLaw 187 = .ok (.imul, 1) := by decide +kernel
theorem dX11_keepsLaw_188 : decode cX11_keepsLaw 188 = .ok (.iload_n 2, 1) := by decide +kernel
theorem dX11_keepsLaw_189 : decode cX11_keepsLaw 189 = .ok (.iadd, 1) := by decide +kernel
theorem dX11_keepsLaw_190 : decode cX11_keepsLaw 190 = .ok (.aload_n 0, 1) := by decide +kernel
theorem dX11_keepsLaw_191 : decode cX11_keepsLaw 191 = .ok (.getfield 59, 3) := by decide +kernel
theorem dX11_keepsLaw_194 : decode cX11_keepsLaw 194 = .ok (.sipush 7320, 3) := by decide +kernel
theorem dX11_keepsLaw_197 : decode cX11_keepsLaw 197 = .ok (.iload_n 2, 1) := by decide +kernel
theorem dX11_keepsLaw_198 : decode cX11_keepsLaw 198 = .ok (.iadd, 1) := by decide +kernel
theorem dX11_keepsLaw_199 : decode cX11_keepsLaw 199 = .ok (.iaload, 1) := by decide +kernel
theorem dX11_keepsLaw_200 : decode cX11_keepsLaw 200 = .ok (.iastore, 1) := by decide +kernel
theorem dX11_keepsLaw_201 : decode cX11_keepsLaw 201 = .ok (.iinc 2 1, 3) := by decide +kernel
theorem dX11_keepsLaw_204 : decode cX11_keepsLaw 204 = .ok (.goto (-35), 3) := by decide +kernel
theorem dX11_keepsLaw_207 : decode cX11_keepsLaw 207 = .ok (.return_, 1) := by decide +kernel
theorem dX11_keepsPact_0 : decode cX11_keepsPact 0 = .ok (.aload_n 0, 1) := by decide +kernel
theorem dX11_keepsPact_1 : decode cX11_keepsPact 1 = .ok (.getfield 87, 3) := by decide +kernel
theorem dX11_keepsPact_4 : decode cX11_keepsPact 4 = .ok (.iload_n 1, 1) := by decide +kernel
theorem dX11_keepsPact_5 : decode cX11_keepsPact 5 = .ok (.aload_n 0, 1) := by decide +kernel
theorem dX11_keepsPact_6 : decode cX11_keepsPact 6 = .ok (.getfield 87, 3) := by decide +kernel
theorem dX11_keepsPact_9 : decode cX11_keepsPact 9 = .ok (.bipush 36, 2) := by decide +kernel
theorem dX11_keepsPact_11 : decode cX11_keepsPact 11 = .ok (.iaload, 1) := by decide +kernel
theorem dX11_keepsPact_12 : decode cX11_keepsPact 12 = .ok (.iastore, 1) := by decide +kernel
theorem dX11_keepsPact_13 : decode cX11_keepsPact 13 = .ok (.aload_n 0, 1) := by decide +kernel
theorem dX11_keepsPact_14 : decode cX11_keepsPact 14 = .ok (.getfield 93, 3) := by decide +kernel
theorem dX11_keepsPact_17 : decode cX11_keepsPact 17 = .ok (.iload_n 1, 1) := by decide +kernel
theorem dX11_keepsPact_18 : decode cX11_keepsPact 18 = .ok (.aload_n 0, 1) := by decide +kernel
theorem dX11_keepsPact_19 : decode cX11_keepsPact 19 = .ok (.getfield 93, 3) := by decide +kernel
theorem dX11_keepsPact_22 : decode cX11_keepsPact 22 = .ok (.bipush 36, 2) := by decide +kernel
theorem dX11_keepsPact_24 : decode cX11_keepsPact 24 = .ok (.iaload, 1) := by decide +kernel
theorem dX11_keepsPact_25 : decode cX11_keepsPact 25 = .ok (.iastore, 1) := by decide +kernel
theorem dX11_keepsPact_26 : decode cX11_keepsPact 26 = .ok (.aload_n 0, 1) := by decide +kernel
theorem dX11_keepsPact_27 : decode cX11_keepsPact 27 = .ok (.getfield 99, 3) := by decide +kernel
theorem dX11_keepsPact_30 : decode cX11_keepsPact 30 = .ok (.iload_n 1, 1) := by decide +kernel
theorem dX11_keepsPact_31 : decode cX11_keepsPact 31 = .ok (.aload_n 0, 1) := by decide +kernel
theorem dX11_keepsPact_32 : decode cX11_keepsPact 32 = .ok (.getfield 99, 3) := by decide +kernel
theorem dX11_keepsPact_35 : decode cX11_keepsPact 35 = .ok (.bipush 36, 2) := by decide +kernel
theorem dX11_keepsPact_37 : decode cX11_keepsPact 37 = .ok (.iaload, 1) := by decide +kernel
theorem dX11_keepsPact_38 : decode cX11_keepsPact 38 = .ok (.iastore, 1) := by decide +kernel
theorem dX11_keepsPact_39 : decode cX11_keepsPact 39 = .ok (.aload_n 0, 1) := by decide +kernel
theorem dX11_keepsPact_40 : decode cX11_keepsPact 40 = .ok (.getfield 102, 3) := by decide +kernel
theorem dX11_keepsPact_43 : decode cX11_keepsPact 43 = .ok (.iload_n 1, 1) := by decide +kernel
theorem dX11_keepsPact_44 : decode cX11_keepsPact 44 = .ok (.aload_n 0, 1) := by decide +kernel
theorem dX11_keepsPact_45 : decode cX11_keepsPact 45 = .ok (.getfield 102, 3) := by decide +kernel
theorem dX11_keepsPact_48 : decode cX11_keepsPact 48 = .ok (.bipush 36, 2) := by decide +kernel
theorem dX11_keepsPact_50 : decode cX11_keepsPact 50 = .ok (.baload, 1) := by decide +kernel
theorem dX11_keepsPact_51 : decode cX11_keepsPact 51 = .ok (.bastore, 1) := by decide +kernel
theorem dX11_keepsPact_52 : decode cX11_keepsPact 52 = .ok (.iconst 0, 1) := by decide +kernel
theorem dX11_keepsPact_53 : decode cX11_keepsPact 53 = .ok (.istore_n 2, 1) := by decide +kernel
theorem dX11_keepsPact_54 : decode cX11_keepsPact 54 = .ok (.iload_n 2, 1) := by decide +kernel
theorem dX11_keepsPact_55 : decode cX11_keepsPact 55 = .ok (.bipush 6, 2) := by decide +kernel
theorem dX11_keepsPact_57 : decode cX11_keepsPact 57 = .ok (.if_icmp .ge 30, 3) := by decide +kernel
theorem dX11_keepsPact_60 : decode cX11_keepsPact 60 = .ok (.aload_n 0, 1) := by decide +kernel
theorem dX11_keepsPact_61 : decode cX11_keepsPact 61 = .ok (.getfield 96, 3) := by decide +kernel
theorem dX11_keepsPact_64 : decode cX11_keepsPact 64 = .ok (.bipush 6, 2) := by decide +kernel
theorem dX11_keepsPact_66 : decode cX11_keepsPact 66 = .ok (.iload_n 1, 1) := by decide +kernel
theorem dX11_keepsPact_67 : decode cX11_keepsPact 67 = .ok (.imul, 1) := by decide +kernel
theorem dX11_keepsPact_68 : decode cX11_keepsPact 68 = .ok (.iload_n 2, 1) := by decide +kernel
theorem dX11_keepsPact_69 : decode cX11_keepsPact 69 = .ok (.iadd, 1) := by decide +kernel
theorem dX11_keepsPact_70 : decode cX11_keepsPact 70 = .ok (.aload_n 0, 1) := by decide +kernel
theorem dX11_keepsPact_71 : decode cX11_keepsPact 71 = .ok (.getfield 96, 3) := by decide +kernel
theorem dX11_keepsPact_74 : decode cX11_keepsPact 74 = .ok (.sipush 216, 3) := by decide +kernel
theorem dX11_keepsPact_77 : decode cX11_keepsPact 77 = .ok (.iload_n 2, 1) := by decide +kernel
theorem dX11_keepsPact_78 : decode cX11_keepsPact 78 = .ok (.iadd, 1) := by decide +kernel
theorem dX11_keepsPact_79 : decode cX11_keepsPact 79 = .ok (.iaload, 1) := by decide +kernel
theorem dX11_keepsPact_80 : decode cX11_keepsPact 80 = .ok (.iastore, 1) := by decide +kernel
theorem dX11_keepsPact_81 : decode cX11_keepsPact 81 = .ok (.iinc 2 1, 3) := by decide +kernel
theorem dX11_keepsPact_84 : decode cX11_keepsPact 84 = .ok (.goto (-30), 3) := by decide +kernel
theorem dX11_keepsPact_87 : decode cX11_keepsPact 87 = .ok (.iconst 0, 1) := by decide +kernel
theorem dX11_keepsPact_88 : decode cX11_keepsPact 88 = .ok (.istore_n 2, 1) := by decide +kernel
theorem dX11_keepsPact_89 : decode cX11_keepsPact 89 = .ok (.iload_n 2, 1) := by decide +kernel
theorem dX11_keepsPact_90 : decode cX11_keepsPact 90 = .ok (.bipush 20, 2) := by decide +kernel
theorem dX11_keepsPact_92 : decode cX11_keepsPact 92 = .ok (.if_icmp .ge 30, 3) := by decide +kernel
theorem dX11_keepsPact_95 : decode cX11_keepsPact 95 = .ok (.aload_n 0, 1) := by decide +kernel
theorem dX11_keepsPact_96 : decode cX11_keepsPact 96 = .ok (.getfield 90, 3) := by decide +kernel
theorem dX11_keepsPact_99 : decode cX11_keepsPact 99 = .ok (.bipush 20, 2) := by decide +kernel
theorem dX11_keepsPact_101 : decode cX11_keepsPact 101 = .ok (.iload_n 1, 1) := by decide +kernel
theorem dX11_keepsPact_102 : decode cX11_keepsPact 102 = .ok (.imul, 1) := by decide +kernel
theorem dX11_keepsPact_103 : decode cX11_keepsPact 103 = .ok (.iload_n 2, 1) := by decide +kernel
theorem dX11_keepsPact_104 : decode cX11_keepsPact 104 = .ok (.iadd, 1) := by decide +kernel
theorem dX11_keepsPact_105 : decode cX11_keepsPact 105 = .ok (.aload_n 0, 1) := by decide +kernel
theorem dX11_keepsPact_106 : decode cX11_keepsPact 106 = .ok (.getfield 90, 3) := by decide +kernel
theorem dX11_keepsPact_109 : decode cX11_keepsPact 109 = .ok (.sipush 720, 3) := by decide +kernel
theorem dX11_keepsPact_112 : decode cX11_keepsPact 112 = .ok (.iload_n 2, 1) := by decide +kernel
theorem dX11_keepsPact_113 : decode cX11_keepsPact 113 = .ok (.iadd, 1) := by decide +kernel
theorem dX11_keepsPact_114 : decode cX11_keepsPact 114 = .ok (.iaload, 1) := by decide +kernel
theorem dX11_keepsPact_115 : decode cX11_keepsPact 115 = .ok (.iastore, 1) := by decide +kernel
theorem dX11_keepsPact_116 : decode cX11_keepsPact 116 = .ok (.iinc 2 1, 3) := by decide +kernel
theorem dX11_keepsPact_119 : decode cX11_keepsPact 119 = .ok (.goto (-30), 3) := by decide +kernel
theorem dX11_keepsPact_122 : decode cX11_keepsPact 122 = .ok (.return_, 1) := by decide +kernel
theorem dX11_text_0 : decode cX11_text 0 = .ok (.aload_n 0, 1) := by decide +kernel
theorem dX11_text_1 : decode cX11_text 1 = .ok (.iconst 0, 1) := by decide +kernel
theorem dX11_text_2 : decode cX11_text 2 = .ok (.putfield 311, 3) := by decide +kernel
theorem dX11_text_5 : decode cX11_text 5 = .ok (.iload_n 1, 1) := by decide +kernel
theorem dX11_text_6 : decode cX11_text 6 = .ok (.invokestatic 211, 3) := by decide +kernel
theorem dX11_text_9 : decode cX11_text 9 = .ok (.ifCond .eq 19, 3) := by decide +kernel
theorem dX11_text_12 : decode cX11_text 12 = .ok (.iload_n 2, 1) := by decide +kernel
theorem dX11_text_13 : decode cX11_text 13 = .ok (.iconst (-1), 1) := by decide +kernel
theorem dX11_text_14 : decode cX11_text 14 = .ok (.if_icmp .eq 31, 3) := by decide +kernel
theorem dX11_text_17 : decode cX11_text 17 = .ok (.iload_n 2, 1) := by decide +kernel
theorem dX11_text_18 : decode cX11_text 18 = .ok (.iload_n 1, 1) := by decide +kernel
theorem dX11_text_19 : decode cX11_text 19 = .ok (.iconst 1, 1) := by decide +kernel
theorem dX11_text_20 : decode cX11_text 20 = .ok (.iadd, 1) := by decide +kernel
theorem dX11_text_21 : decode cX11_text 21 = .ok (.iconst 5, 1) := by decide +kernel
theorem dX11_text_22 : decode cX11_text 22 = .ok (.invokestatic 1, 3) := by decide +kernel
theorem dX11_text_25 : decode cX11_text 25 = .ok (.ifCond .ne 20, 3) := by decide +kernel
theorem dX11_text_28 : decode cX11_text 28 = .ok (.aload_n 0, 1) := by decide +kernel
theorem dX11_text_29 : decode cX11_text 29 = .ok (.iconst 0, 1) := by decide +kernel
theorem dX11_text_30 : decode cX11_text 30 = .ok (.putfield 215, 3) := by decide +kernel
theorem dX11_text_33 : decode cX11_text 33 = .ok (.aload_n 0, 1) := by decide +kernel
theorem dX11_text_34 : decode cX11_text 34 = .ok (.iconst 0, 1) := by decide +kernel
theorem dX11_text_35 : decode cX11_text 35 = .ok (.putfield 383, 3) := by decide +kernel
theorem dX11_text_38 : decode cX11_text 38 = .ok (.aload_n 0, 1) := by decide +kernel
theorem dX11_text_39 : decode cX11_text 39 = .ok (.iconst (-1), 1) := by decide +kernel
theorem dX11_text_40 : decode cX11_text 40 = .ok (.putfield 114, 3) := by decide +kernel
theorem dX11_text_43 : decode cX11_text 43 = .ok (.iconst (-1), 1) := by decide +kernel
theorem dX11_text_44 : decode cX11_text 44 = .ok (.ireturn, 1) := by decide +kernel
theorem dX11_text_45 : decode cX11_text 45 = .ok (.aload_n 0, 1) := by decide +kernel
theorem dX11_text_46 : decode cX11_text 46 = .ok (.iload_n 2, 1) := by decide +kernel
theorem dX11_text_47 : decode cX11_text 47 = .ok (.iconst (-1), 1) := by decide +kernel
theorem dX11_text_48 : decode cX11_text 48 = .ok (.if_icmp .eq 7, 3) := by decide +kernel
theorem dX11_text_51 : decode cX11_text 51 = .ok (.iconst 1, 1) := by decide +kernel
theorem dX11_text_52 : decode cX11_text 52 = .ok (.goto 4, 3) := by decide +kernel
theorem dX11_text_55 : decode cX11_text 55 = .ok (.iconst 0, 1) := by decide +kernel
theorem dX11_text_56 : decode cX11_text 56 = .ok (.putfield 368, 3) := by decide +kernel
theorem dX11_text_59 : decode cX11_text 59 = .ok (.aload_n 0, 1) := by decide +kernel
theorem dX11_text_60 : decode cX11_text 60 = .ok (.iconst 0, 1) := by decide +kernel
theorem dX11_text_61 : decode cX11_text 61 = .ok (.putfield 218, 3) := by decide +kernel
theorem dX11_text_64 : decode cX11_text 64 = .ok (.aload_n 0, 1) := by decide +kernel
theorem dX11_text_65 : decode cX11_text 65 = .ok (.invokevirtual 386, 3) := by decide +kernel
theorem dX11_text_68 : decode cX11_text 68 = .ok (.aload_n 0, 1) := by decide +kernel
theorem dX11_text_69 : decode cX11_text 69 = .ok (.invokevirtual 320, 3) := by decide +kernel
theorem dX11_text_72 : decode cX11_text 72 = .ok (.iconst 1, 1) := by decide +kernel
theorem dX11_text_73 : decode cX11_text 73 = .ok (.istore_n 3, 1) := by decide +kernel
theorem dX11_text_74 : decode cX11_text 74 = .ok (.iload_n 3, 1) := by decide +kernel
theorem dX11_text_75 : decode cX11_text 75 = .ok (.ifCond .eq 32, 3) := by decide +kernel
theorem dX11_text_78 : decode cX11_text 78 = .ok (.aload_n 0, 1) := by decide +kernel
theorem dX11_text_79 : decode cX11_text 79 = .ok (.getfield 296, 3) := by decide +kernel
theorem dX11_text_82 : decode cX11_text 82 = .ok (.ifCond .eq 25, 3) := by decide +kernel
theorem dX11_text_85 : decode cX11_text 85 = .ok (.aload_n 0, 1) := by decide +kernel
theorem dX11_text_86 : decode cX11_text 86 = .ok (.getfield 368, 3) := by decide +kernel
theorem dX11_text_89 : decode cX11_text 89 = .ok (.ifCond .eq 10, 3) := by decide +kernel
theorem dX11_text_92 : decode cX11_text 92 = .ok (.aload_n 0, 1) := by decide +kernel
theorem dX11_text_93 : decode cX11_text 93 = .ok (.invokevirtual 389, 3) := by decide +kernel
theorem dX11_text_96 : decode cX11_text 96 = .ok (.goto 7, 3) := by decide +kernel
theorem dX11_text_99 : decode cX11_text 99 = .ok (.aload_n 0, 1) := by decide +kernel
theorem dX11_text_100 : decode cX11_text 100 = .ok (.invokevirtual 392, 3) := by decide +kernel
theorem dX11_text_103 : decode cX11_text 103 = .ok (.istore_n 3, 1) := by decide +kernel
theorem dX11_text_104 : decode cX11_text 104 = .ok (.goto (-30), 3) := by decide +kernel
theorem dX11_text_107 : decode cX11_text 107 = .ok (.aload_n 0, 1) := by decide +kernel
theorem dX11_text_108 : decode cX11_text 108 = .ok (.iconst 0, 1) := by decide +kernel
theorem dX11_text_109 : decode cX11_text 109 = .ok (.putfield 215, 3) := by decide +kernel
theorem dX11_text_112 : decode cX11_text 112 = .ok (.aload_n 0, 1) := by decide +kernel
theorem dX11_text_113 : decode cX11_text 113 = .ok (.aload_n 0, 1) := by decide +kernel
theorem dX11_text_114 : decode cX11_text 114 = .ok (.getfield 311, 3) := by decide +kernel
theorem dX11_text_117 : decode cX11_text 117 = .ok (.putfield 383, 3) := by decide +kernel
theorem dX11_text_120 : decode cX11_text 120 = .ok (.aload_n 0, 1) := by decide +kernel
theorem dX11_text_121 : decode cX11_text 121 = .ok (.iload_n 3, 1) := by decide +kernel
theorem dX11_text_122 : decode cX11_text 122 = .ok (.ifCond .eq 7, 3) := by decide +kernel
theorem dX11_text_125 : decode cX11_text 125 = .ok (.iconst (-1), 1) := by decide +kernel
theorem dX11_text_126 : decode cX11_text 126 = .ok (.goto 7, 3) := by decide +kernel
theorem dX11_text_129 : decode cX11_text 129 = .ok (.aload_n 0, 1) := by decide +kernel
theorem dX11_text_130 : decode cX11_text 130 = .ok (.getfield 314, 3) := by decide +kernel
theorem dX11_text_133 : decode cX11_text 133 = .ok (.putfield 114, 3) := by decide +kernel
theorem dX11_text_136 : decode cX11_text 136 = .ok (.iload_n 3, 1) := by decide +kernel
theorem dX11_text_137 : decode cX11_text 137 = .ok (.ifCond .ne 5, 3) := by decide +kernel
theorem dX11_text_140 : decode cX11_text 140 = .ok (.iconst (-1), 1) := by decide +kernel
theorem dX11_text_141 : decode cX11_text 141 = .ok (.ireturn, 1) := by decide +kernel
theorem dX11_text_142 : decode cX11_text 142 = .ok (.aload_n 0, 1) := by decide +kernel
theorem dX11_text_143 : decode cX11_text 143 = .ok (.getfield 368, 3) := by decide +kernel
theorem dX11_text_146 : decode cX11_text 146 = .ok (.ifCond .eq 16, 3) := by decide +kernel
theorem dX11_text_149 : decode cX11_text 149 = .ok (.aload_n 0, 1) := by decide +kernel
theorem dX11_text_150 : decode cX11_text 150 = .ok (.bipush 6, 2) := by decide +kernel
theorem dX11_text_152 : decode cX11_text 152 = .ok (.iload_n 1, 1) := by decide +kernel
theorem dX11_text_153 : decode cX11_text 153 = .ok (.imul, 1) := by decide +kernel
theorem dX11_text_154 : decode cX11_text 154 = .ok (.iload_n 2, 1) := by decide +kernel
theorem dX11_text_155 : decode cX11_text 155 = .ok (.iadd, 1) := by decide +kernel
theorem dX11_text_156 : decode cX11_text 156 = .ok (.invokevirtual 395, 3) := by decide +kernel
theorem dX11_text_159 : decode cX11_text 159 = .ok (.goto 8, 3) := by decide +kernel
theorem dX11_text_162 : decode cX11_text 162 = .ok (.aload_n 0, 1) := by decide +kernel
theorem dX11_text_163 : decode cX11_text 163 = .ok (.iload_n 1, 1) := by decide +kernel
theorem dX11_text_164 : decode cX11_text 164 = .ok (.invokevirtual 398, 3) := by decide +kernel
theorem dX11_text_167 : decode cX11_text 167 = .ok (.aload_n 0, 1) := by decide +kernel
theorem dX11_text_168 : decode cX11_text 168 = .ok (.getfield 362, 3) := by decide +kernel
theorem dX11_text_171 : decode cX11_text 171 = .ok (.ireturn, 1) := by decide +kernel
theorem dX11_fault_0 : decode cX11_fault 0 = .ok (.iload_n 1, 1) := by decide +kernel
theorem dX11_fault_1 : decode cX11_fault 1 = .ok (.ifCond .ne 10, 3) := by decide +kernel
theorem dX11_fault_4 : decode cX11_fault 4 = .ok (.aload_n 0, 1) := by decide +kernel
theorem dX11_fault_5 : decode cX11_fault 5 = .ok (.getfield 383, 3) := by decide +kernel
theorem dX11_fault_8 : decode cX11_fault 8 = .ok (.goto 16, 3) := by decide +kernel
theorem dX11_fault_11 : decode cX11_fault 11 = .ok (.iload_n 1, 1) := by decide +kernel
theorem dX11_fault_12 : decode cX11_fault 12 = .ok (.iconst 1, 1) := by decide +kernel
theorem dX11_fault_13 : decode cX11_fault 13 = .ok (.if_icmp .ne 10, 3) := by decide +kernel
theorem dX11_fault_16 : decode cX11_fault 16 = .ok (.aload_n 0, 1) := by decide +kernel
theorem dX11_fault_17 : decode cX11_fault 17 = .ok (.getfield 114, 3) := by decide +kernel
theorem dX11_fault_20 : decode cX11_fault 20 = .ok (.goto 4, 3) := by decide +kernel
theorem dX11_fault_23 : decode cX11_fault 23 = .ok (.iconst (-1), 1) := by decide +kernel
theorem dX11_fault_24 : decode cX11_fault 24 = .ok (.ireturn, 1) := by decide +kernel
theorem dX11_both_0 : decode cX11_both 0 = .ok (.iload_n 0, 1) := by decide +kernel
theorem dX11_both_1 : decode cX11_both 1 = .ok (.tableswitch 100 9 17 #[51, 55, 59, 100, 63, 74, 85, 100, 96], 51) := by decide +kernel
theorem dX11_both_52 : decode cX11_both 52 = .ok (.iload_n 1, 1) := by decide +kernel
theorem dX11_both_53 : decode cX11_both 53 = .ok (.iload_n 2, 1) := by decide +kernel
theorem dX11_both_54 : decode cX11_both 54 = .ok (.iadd, 1) := by decide +kernel
theorem dX11_both_55 : decode cX11_both 55 = .ok (.ireturn, 1) := by decide +kernel
theorem dX11_both_56 : decode cX11_both 56 = .ok (.iload_n 1, 1) := by decide +kernel
theorem dX11_both_57 : decode cX11_both 57 = .ok (.iload_n 2, 1) := by decide +kernel
theorem dX11_both_58 : decode cX11_both 58 = .ok (.isub, 1) := by decide +kernel
theorem dX11_both_59 : decode cX11_both 59 = .ok (.ireturn, 1) := by decide +kernel
theorem dX11_both_60 : decode cX11_both 60 = .ok (.iload_n 1, 1) := by decide +kernel
theorem dX11_both_61 : decode cX11_both 61 = .ok (.iload_n 2, 1) := by decide +kernel
theorem dX11_both_62 : decode cX11_both 62 = .ok (.imul, 1) := by decide +kernel
theorem dX11_both_63 : decode cX11_both 63 = .ok (.ireturn, 1) := by decide +kernel
theorem dX11_both_64 : decode cX11_both 64 = .ok (.iload_n 1, 1) := by decide +kernel
theorem dX11_both_65 : decode cX11_both 65 = .ok (.iload_n 2, 1) := by decide +kernel
theorem dX11_both_66 : decode cX11_both 66 = .ok (.if_icmp .ge 7, 3) := by decide +kernel
theorem dX11_both_69 : decode cX11_both 69 = .ok (.iconst 1, 1) := by decide +kernel
theorem dX11_both_70 : decode cX11_both 70 = .ok (.goto 4, 3) := by decide +kernel
theorem dX11_both_73 : decode cX11_both 73 = .ok (.iconst 0, 1) := by decide +kernel
theorem dX11_both_74 : decode cX11_both 74 = .ok (.ireturn, 1) := by decide +kernel
theorem dX11_both_75 : decode cX11_both 75 = .ok (.iload_n 1, 1) := by decide +kernel
theorem dX11_both_76 : decode cX11_both 76 = .ok (.iload_n 2, 1) := by decide +kernel
theorem dX11_both_77 : decode cX11_both 77 = .ok (.if_icmp .ne 7, 3) := by decide +kernel
theorem dX11_both_80 : decode cX11_both 80 = .ok (.iconst 1, 1) := by decide +kernel
theorem dX11_both_81 : decode cX11_both 81 = .ok (.goto 4, 3) := by decide +kernel
theorem dX11_both_84 : decode cX11_both 84 = .ok (.iconst 0, 1) := by decide +kernel
theorem dX11_both_85 : decode cX11_both 85 = .ok (.ireturn, 1) := by decide +kernel
theorem dX11_both_86 : decode cX11_both 86 = .ok (.iload_n 1, 1) := by decide +kernel
theorem dX11_both_87 : decode cX11_both 87 = .ok (.iload_n 2, 1) := by decide +kernel
theorem dX11_both_88 : decode cX11_both 88 = .ok (.if_icmp .le 7, 3) := by decide +kernel
theorem dX11_both_91 : decode cX11_both 91 = .ok (.iconst 1, 1) := by decide +kernel
theorem dX11_both_92 : decode cX11_both 92 = .ok (.goto 4, 3) := by decide +kernel
theorem dX11_both_95 : decode cX11_both 95 = .ok (.iconst 0, 1) := by decide +kernel
theorem dX11_both_96 : decode cX11_both 96 = .ok (.ireturn, 1) := by decide +kernel
theorem dX11_both_97 : decode cX11_both 97 = .ok (.iload_n 1, 1) := by decide +kernel
theorem dX11_both_98 : decode cX11_both 98 = .ok (.iload_n 2, 1) := by decide +kernel
theorem dX11_both_99 : decode cX11_both 99 = .ok (.iand, 1) := by decide +kernel
theorem dX11_both_100 : decode cX11_both 100 = .ok (.ireturn, 1) := by decide +kernel
theorem dX11_both_101 : decode cX11_both 101 = .ok (.iload_n 1, 1) := by decide +kernel
theorem dX11_both_102 : decode cX11_both 102 = .ok (.iload_n 2, 1) := by decide +kernel
theorem dX11_both_103 : decode cX11_both 103 = .ok (.ior, 1) := by decide +kernel
theorem dX11_both_104 : decode cX11_both 104 = .ok (.ireturn, 1) := by decide +kernel
theorem dX11_comesTo_0 : decode cX11_comesTo 0 = .ok (.iconst 0, 1) := by decide +kernel
theorem dX11_comesTo_1 : decode cX11_comesTo 1 = .ok (.istore 4, 2) := by decide +kernel
theorem dX11_comesTo_3 : decode cX11_comesTo 3 = .ok (.iload_n 2, 1) := by decide +kernel
theorem dX11_comesTo_4 : decode cX11_comesTo 4 = .ok (.istore 5, 2) := by decide +kernel
theorem dX11_comesTo_6 : decode cX11_comesTo 6 = .ok (.iload 5, 2) := by decide +kernel
theorem dX11_comesTo_8 : decode cX11_comesTo 8 = .ok (.iload_n 3, 1) := by decide +kernel
theorem dX11_comesTo_9 : decode cX11_comesTo 9 = .ok (.if_icmp .ge 169, 3) := by decide +kernel
theorem dX11_comesTo_12 : decode cX11_comesTo 12 = .ok (.aload_n 0, 1) := by decide +kernel
theorem dX11_comesTo_13 : decode cX11_comesTo 13 = .ok (.getfield 59, 3) := by decide +kernel
theorem dX11_comesTo_16 : decode cX11_comesTo 16 = .ok (.sipush 1220, 3) := by decide +kernel
theorem dX11_comesTo_19 : decode cX11_comesTo 19 = .ok (.iload_n 1, 1) := by decide +kernel
theorem dX11_comesTo_20 : decode cX11_comesTo 20 = .ok (.imul, 1) := by decide +kernel
theorem dX11_comesTo_21 : decode cX11_comesTo 21 = .ok (.iconst 2, 1) := by decide +kernel
theorem dX11_comesTo_22 : decode cX11_comesTo 22 = .ok (.iload 5, 2) := by decide +kernel
theorem dX11_comesTo_24 : decode cX11_comesTo 24 = .ok (.imul, 1) := by decide +kernel
theorem dX11_comesTo_25 : decode cX11_comesTo 25 = .ok (.iadd, 1) := by decide +kernel
theorem dX11_comesTo_26 : decode cX11_comesTo 26 = .ok (.iaload, 1) := by decide +kernel
theorem dX11_comesTo_27 : decode cX11_comesTo 27 = .ok (.istore 6, 2) := by decide +kernel
theorem dX11_comesTo_29 : decode cX11_comesTo 29 = .ok (.aload_n 0, 1) := by decide +kernel
theorem dX11_comesTo_30 : decode cX11_comesTo 30 = .ok (.getfield 59, 3) := by decide +kernel
theorem dX11_comesTo_33 : decode cX11_comesTo 33 = .ok (.sipush 1220, 3) := by decide +kernel
theorem dX11_comesTo_36 : decode cX11_comesTo 36 = .ok (.iload_n 1, 1) := by decide +kernel
theorem dX11_comesTo_37 : decode cX11_comesTo 37 = .ok (.imul, 1) := by decide +kernel
theorem dX11_comesTo_38 : decode cX11_comesTo 38 = .ok (.iconst 2, 1) := by decide +kernel
theorem dX11_comesTo_39 : decode cX11_comesTo 39 = .ok (.iload 5, 2) := by decide +kernel
theorem dX11_comesTo_41 : decode cX11_comesTo 41 = .ok (.imul, 1) := by decide +kernel
theorem dX11_comesTo_42 : decode cX11_comesTo 42 = .ok (.iadd, 1) := by decide +kernel
theorem dX11_comesTo_43 : decode cX11_comesTo 43 = .ok (.iconst 1, 1) := by decide +kernel
theorem dX11_comesTo_44 : decode cX11_comesTo 44 = .ok (.iadd, 1) := by decide +kernel
theorem dX11_comesTo_45 : decode cX11_comesTo 45 = .ok (.iaload, 1) := by decide +kernel
theorem dX11_comesTo_46 : decode cX11_comesTo 46 = .ok (.istore 7, 2) := by decide +kernel
theorem dX11_comesTo_48 : decode cX11_comesTo 48 = .ok (.iload 6, 2) := by decide +kernel
theorem dX11_comesTo_50 : decode cX11_comesTo 50 = .ok (.bipush 9, 2) := by decide +kernel
theorem dX11_comesTo_52 : decode cX11_comesTo 52 = .ok (.if_icmp .ge 33, 3) := by decide +kernel
theorem dX11_comesTo_55 : decode cX11_comesTo 55 = .ok (.aload_n 0, 1) := by decide +kernel
theorem dX11_comesTo_56 : decode cX11_comesTo 56 = .ok (.getfield 108, 3) := by decide +kernel
theorem dX11_comesTo_59 : decode cX11_comesTo 59 = .ok (.iload 4, 2) := by decide +kernel
theorem dX11_comesTo_61 : decode cX11_comesTo 61 = .ok (.iload 6, 2) := by decide +kernel
theorem dX11_comesTo_63 : decode cX11_comesTo 63 = .ok (.ifCond .ne 8, 3) := by decide +kernel
theorem dX11_comesTo_66 : decode cX11_comesTo 66 = .ok (.iload 7, 2) := by decide +kernel
theorem dX11_comesTo_68 : decode cX11_comesTo 68 = .ok (.goto 10, 3) := by decide +kernel
theorem dX11_comesTo_71 : decode cX11_comesTo 71 = .ok (.aload_n 0, 1) := by decide +kernel
theorem dX11_comesTo_72 : decode cX11_comesTo 72 = .ok (.getfield 111, 3) := by decide +kernel
theorem dX11_comesTo_75 : decode cX11_comesTo 75 = .ok (.iload 6, 2) := by decide +kernel
theorem dX11_comesTo_77 : decode cX11_comesTo 77 = .ok (.iaload, 1) := by decide +kernel
theorem dX11_comesTo_78 : decode cX11_comesTo 78 = .ok (.iastore, 1) := by decide +kernel
theorem dX11_comesTo_79 : decode cX11_comesTo 79 = .ok (.iinc 4 1, 3) := by decide +kernel
theorem dX11_comesTo_82 : decode cX11_comesTo 82 = .ok (.goto 90, 3) := by decide +kernel
theorem dX11_comesTo_85 : decode cX11_comesTo 85 = .ok (.iload 6, 2) := by decide +kernel
theorem dX11_comesTo_87 : decode cX11_comesTo 87 = .ok (.bipush 12, 2) := by decide +kernel
theorem dX11_comesTo_89 : decode cX11_comesTo 89 = .ok (.if_icmp .ne 20, 3) := by decide +kernel
theorem dX11_comesTo_92 : decode cX11_comesTo 92 = .ok (.aload_n 0, 1) := by decide +kernel
theorem dX11_comesTo_93 : decode cX11_comesTo 93 = .ok (.getfield 108, 3) := by decide +kernel
theorem dX11_comesTo_96 : decode cX11_comesTo 96 = .ok (.iload 4, 2) := by decide +kernel
theorem dX11_comesTo_98 : decode cX11_comesTo 98 = .ok (.iconst 1, 1) := by decide +kernel
theorem dX11_comesTo_99 : decode cX11_comesTo 99 = .ok (.isub, 1) := by decide +kernel
theorem dX11_comesTo_100 : decode cX11_comesTo 100 = .ok (.dup2, 1) := by decide +kernel
theorem dX11_comesTo_101 : decode cX11_comesTo 101 = .ok (.iaload, 1) := by decide +kernel
theorem dX11_comesTo_102 : decode cX11_comesTo 102 = .ok (.iload 7, 2) := by decide +kernel
theorem dX11_comesTo_104 : decode cX11_comesTo 104 = .ok (.idiv, 1) := by decide +kernel
theorem dX11_comesTo_105 : decode cX11_comesTo 105 = .ok (.iastore, 1) := by decide +kernel
theorem dX11_comesTo_106 : decode cX11_comesTo 106 = .ok (.goto 66, 3) := by decide +kernel
theorem dX11_comesTo_109 : decode cX11_comesTo 109 = .ok (.iload 6, 2) := by decide +kernel
theorem dX11_comesTo_111 : decode cX11_comesTo 111 = .ok (.bipush 16, 2) := by decide +kernel
theorem dX11_comesTo_113 : decode cX11_comesTo 113 = .ok (.if_icmp .ne 26, 3) := by decide +kernel
theorem dX11_comesTo_116 : decode cX11_comesTo 116 = .ok (.aload_n 0, 1) := by decide +kernel
theorem dX11_comesTo_117 : decode cX11_comesTo 117 = .ok (.getfield 108, 3) := by decide +kernel
theorem dX11_comesTo_120 : decode cX11_comesTo 120 = .ok (.iload 4, 2) := by decide +kernel
theorem dX11_comesTo_122 : decode cX11_comesTo 122 = .ok (.iconst 1, 1) := by decide +kernel
theorem dX11_comesTo_123 : decode cX11_comesTo 123 = .ok (.isub, 1) := by decide +kernel
theorem dX11_comesTo_124 : decode cX11_comesTo 124 = .ok (.iconst 1, 1) := by decide +kernel
theorem dX11_comesTo_125 : decode cX11_comesTo 125 = .ok (.aload_n 0, 1) := by decide +kernel
theorem dX11_comesTo_126 : decode cX11_comesTo 126 = .ok (.getfield 108, 3) := by decide +kernel
theorem dX11_comesTo_129 : decode cX11_comesTo 129 = .ok (.iload 4, 2) := by decide +kernel
theorem dX11_comesTo_131 : decode cX11_comesTo 131 = .ok (.iconst 1, 1) := by decide +kernel
theorem dX11_comesTo_132 : decode cX11_comesTo 132 = .ok (.isub, 1) := by decide +kernel
theorem dX11_comesTo_133 : decode cX11_comesTo 133 = .ok (.iaload, 1) := by decide +kernel
theorem dX11_comesTo_134 : decode cX11_comesTo 134 = .ok (.isub, 1) := by decide +kernel
theorem dX11_comesTo_135 : decode cX11_comesTo 135 = .ok (.iastore, 1) := by decide +kernel
theorem dX11_comesTo_136 : decode cX11_comesTo 136 = .ok (.goto 36, 3) := by decide +kernel
theorem dX11_comesTo_139 : decode cX11_comesTo 139 = .ok (.iinc 4 (-1), 3) := by decide +kernel
theorem dX11_comesTo_142 : decode cX11_comesTo 142 = .ok (.aload_n 0, 1) := by decide +kernel
theorem dX11_comesTo_143 : decode cX11_comesTo 143 = .ok (.getfield 108, 3) := by decide +kernel
theorem dX11_comesTo_146 : decode cX11_comesTo 146 = .ok (.iload 4, 2) := by decide +kernel
theorem dX11_comesTo_148 : decode cX11_comesTo 148 = .ok (.iconst 1, 1) := by decide +kernel
theorem dX11_comesTo_149 : decode cX11_comesTo 149 = .ok (.isub, 1) := by decide +kernel
theorem dX11_comesTo_150 : decode cX11_comesTo 150 = .ok (.iload 6, 2) := by decide +kernel
theorem dX11_comesTo_152 : decode cX11_comesTo 152 = .ok (.aload_n 0, 1) := by decide +kernel
theorem dX11_comesTo_153 : decode cX11_comesTo 153 = .ok (.getfield 108, 3) := by decide +kernel
theorem dX11_comesTo_156 : decode cX11_comesTo 156 = .ok (.iload 4, 2) := by decide +kernel
theorem dX11_comesTo_158 : decode cX11_comesTo 158 = .ok (.iconst 1, 1) := by decide +kernel
theorem dX11_comesTo_159 : decode cX11_comesTo 159 = .ok (.isub, 1) := by decide +kernel
theorem dX11_comesTo_160 : decode cX11_comesTo 160 = .ok (.iaload, 1) := by decide +kernel
theorem dX11_comesTo_161 : decode cX11_comesTo 161 = .ok (.aload_n 0, 1) := by decide +kernel
theorem dX11_comesTo_162 : decode cX11_comesTo 162 = .ok (.getfield 108, 3) := by decide +kernel
theorem dX11_comesTo_165 : decode cX11_comesTo 165 = .ok (.iload 4, 2) := by decide +kernel
theorem dX11_comesTo_167 : decode cX11_comesTo 167 = .ok (.iaload, 1) := by decide +kernel
theorem dX11_comesTo_168 : decode cX11_comesTo 168 = .ok (.invokestatic 401, 3) := by decide +kernel
theorem dX11_comesTo_171 : decode cX11_comesTo 171 = .ok (.iastore, 1) := by decide +kernel
theorem dX11_comesTo_172 : decode cX11_comesTo 172 = .ok (.iinc 5 1, 3) := by decide +kernel
theorem dX11_comesTo_175 : decode cX11_comesTo 175 = .ok (.goto (-169), 3) := by decide +kernel
theorem dX11_comesTo_178 : decode cX11_comesTo 178 = .ok (.aload_n 0, 1) := by decide +kernel
theorem dX11_comesTo_179 : decode cX11_comesTo 179 = .ok (.getfield 108, 3) := by decide +kernel
theorem dX11_comesTo_182 : decode cX11_comesTo 182 = .ok (.iconst 0, 1) := by decide +kernel
theorem dX11_comesTo_183 : decode cX11_comesTo 183 = .ok (.iaload, 1) := by decide +kernel
theorem dX11_comesTo_184 : decode cX11_comesTo 184 = .ok (.ireturn, 1) := by decide +kernel
theorem dX11_pact_0 : decode cX11_pact 0 = .ok (.iload_n 0, 1) := by decide +kernel
theorem dX11_pact_1 : decode cX11_pact 1 = .ok (.iload_n 1, 1) := by decide +kernel
theorem dX11_pact_2 : decode cX11_pact 2 = .ok (.if_icmp .ge 12, 3) := by decide +kernel
theorem dX11_pact_5 : decode cX11_pact 5 = .ok (.bipush 6, 2) := by decide +kernel
theorem dX11_pact_7 : decode cX11_pact 7 = .ok (.iload_n 0, 1) := by decide +kernel
theorem dX11_pact_8 : decode cX11_pact 8 = .ok (.imul, 1) := by decide +kernel
theorem dX11_pact_9 : decode cX11_pact 9 = .ok (.iload_n 1, 1) := by decide +kernel
theorem dX11_pact_10 : decode cX11_pact 10 = .ok (.iadd, 1) := by decide +kernel
theorem dX11_pact_11 : decode cX11_pact 11 = .ok (.goto 9, 3) := by decide +kernel
theorem dX11_pact_14 : decode cX11_pact 14 = .ok (.bipush 6, 2) := by decide +kernel
theorem dX11_pact_16 : decode cX11_pact 16 = .ok (.iload_n 1, 1) := by decide +kernel
theorem dX11_pact_17 : decode cX11_pact 17 = .ok (.imul, 1) := by decide +kernel
theorem dX11_pact_18 : decode cX11_pact 18 = .ok (.iload_n 0, 1) := by decide +kernel
theorem dX11_pact_19 : decode cX11_pact 19 = .ok (.iadd, 1) := by decide +kernel
theorem dX11_pact_20 : decode cX11_pact 20 = .ok (.ireturn, 1) := by decide +kernel
theorem dX11_laysPacts_0 : decode cX11_laysPacts 0 = .ok (.iconst 0, 1) := by decide +kernel
theorem dX11_laysPacts_1 : decode cX11_laysPacts 1 = .ok (.istore_n 2, 1) := by decide +kernel
theorem dX11_laysPacts_2 : decode cX11_laysPacts 2 = .ok (.iload_n 2, 1) := by decide +kernel
theorem dX11_laysPacts_3 : decode cX11_laysPacts 3 = .ok (.bipush 36, 2) := by decide +kernel
theorem dX11_laysPacts_5 : decode cX11_laysPacts 5 = .ok (.if_icmp .ge 81, 3) := by decide +kernel
theorem dX11_laysPacts_8 : decode cX11_laysPacts 8 = .ok (.aload_n 0, 1) := by decide +kernel
theorem dX11_laysPacts_9 : decode cX11_laysPacts 9 = .ok (.getfield 140, 3) := by decide +kernel
theorem dX11_laysPacts_12 : decode cX11_laysPacts 12 = .ok (.iload_n 2, 1) := by decide +kernel
theorem dX11_laysPacts_13 : decode cX11_laysPacts 13 = .ok (.aload_n 0, 1) := by decide +kernel
theorem dX11_laysPacts_14 : decode cX11_laysPacts 14 = .ok (.getfield 93, 3) := by decide +kernel
theorem dX11_laysPacts_17 : decode cX11_laysPacts 17 = .ok (.iload_n 2, 1) := by decide +kernel
theorem dX11_laysPacts_18 : decode cX11_laysPacts 18 = .ok (.iaload, 1) := by decide +kernel
theorem dX11_laysPacts_19 : decode cX11_laysPacts 19 = .ok (.iastore, 1) := by decide +kernel
theorem dX11_laysPacts_20 : decode cX11_laysPacts 20 = .ok (.aload_n 0, 1) := by decide +kernel
theorem dX11_laysPacts_21 : decode cX11_laysPacts 21 = .ok (.getfield 146, 3) := by decide +kernel
theorem dX11_laysPacts_24 : decode cX11_laysPacts 24 = .ok (.iload_n 2, 1) := by decide +kernel
theorem dX11_laysPacts_25 : decode cX11_laysPacts 25 = .ok (.aload_n 0, 1) := by decide +kernel
theorem dX11_laysPacts_26 : decode cX11_laysPacts 26 = .ok (.getfield 99, 3) := by decide +kernel
theorem dX11_laysPacts_29 : decode cX11_laysPacts 29 = .ok (.iload_n 2, 1) := by decide +kernel
theorem dX11_laysPacts_30 : decode cX11_laysPacts 30 = .ok (.iaload, 1) := by decide +kernel
theorem dX11_laysPacts_31 : decode cX11_laysPacts 31 = .ok (.iastore, 1) := by decide +kernel
theorem dX11_laysPacts_32 : decode cX11_laysPacts 32 = .ok (.aload_n 0, 1) := by decide +kernel
theorem dX11_laysPacts_33 : decode cX11_laysPacts 33 = .ok (.getfield 149, 3) := by decide +kernel
theorem dX11_laysPacts_36 : decode cX11_laysPacts 36 = .ok (.iload_n 2, 1) := by decide +kernel
theorem dX11_laysPacts_37 : decode cX11_laysPacts 37 = .ok (.aload_n 0, 1) := by decide +kernel
theorem dX11_laysPacts_38 : decode cX11_laysPacts 38 = .ok (.getfield 102, 3) := by decide +kernel
theorem dX11_laysPacts_41 : decode cX11_laysPacts 41 = .ok (.iload_n 2, 1) := by decide +kernel
theorem dX11_laysPacts_42 : decode cX11_laysPacts 42 = .ok (.baload, 1) := by decide +kernel
theorem dX11_laysPacts_43 : decode cX11_laysPacts 43 = .ok (.bastore, 1) := by decide +kernel
theorem dX11_laysPacts_44 : decode cX11_laysPacts 44 = .ok (.iconst 0, 1) := by decide +kernel
theorem dX11_laysPacts_45 : decode cX11_laysPacts 45 = .ok (.istore_n 3, 1) := by decide +kernel
theorem dX11_laysPacts_46 : decode cX11_laysPacts 46 = .ok (.iload_n 3, 1) := by decide +kernel
theorem dX11_laysPacts_47 : decode cX11_laysPacts 47 = .ok (.bipush 6, 2) := by decide +kernel
theorem dX11_laysPacts_49 : decode cX11_laysPacts 49 = .ok (.if_icmp .ge 31, 3) := by decide +kernel
theorem dX11_laysPacts_52 : decode cX11_laysPacts 52 = .ok (.aload_n 0, 1) := by decide +kernel
theorem dX11_laysPacts_53 : decode cX11_laysPacts 53 = .ok (.getfield 143, 3) := by decide +kernel
theorem dX11_laysPacts_56 : decode cX11_laysPacts 56 = .ok (.bipush 6, 2) := by decide +kernel
theorem dX11_laysPacts_58 : decode cX11_laysPacts 58 = .ok (.iload_n 2, 1) := by decide +kernel
theorem dX11_laysPacts_59 : decode cX11_laysPacts 59 = .ok (.imul, 1) := by decide +kernel
theorem dX11_laysPacts_60 : decode cX11_laysPacts 60 = .ok (.iload_n 3, 1) := by decide +kernel
theorem dX11_laysPacts_61 : decode cX11_laysPacts 61 = .ok (.iadd, 1) := by decide +kernel
theorem dX11_laysPacts_62 : decode cX11_laysPacts 62 = .ok (.aload_n 0, 1) := by decide +kernel
theorem dX11_laysPacts_63 : decode cX11_laysPacts 63 = .ok (.getfield 96, 3) := by decide +kernel
theorem dX11_laysPacts_66 : decode cX11_laysPacts 66 = .ok (.bipush 6, 2) := by decide +kernel
theorem dX11_laysPacts_68 : decode cX11_laysPacts 68 = .ok (.iload_n 2, 1) := by decide +kernel
theorem dX11_laysPacts_69 : decode cX11_laysPacts 69 = .ok (.imul, 1) := by decide +kernel
theorem dX11_laysPacts_70 : decode cX11_laysPacts 70 = .ok (.iload_n 3, 1) := by decide +kernel
theorem dX11_laysPacts_71 : decode cX11_laysPacts 71 = .ok (.iadd, 1) := by decide +kernel
theorem dX11_laysPacts_72 : decode cX11_laysPacts 72 = .ok (.iaload, 1) := by decide +kernel
theorem dX11_laysPacts_73 : decode cX11_laysPacts 73 = .ok (.iastore, 1) := by decide +kernel
theorem dX11_laysPacts_74 : decode cX11_laysPacts 74 = .ok (.iinc 3 1, 3) := by decide +kernel
theorem dX11_laysPacts_77 : decode cX11_laysPacts 77 = .ok (.goto (-31), 3) := by decide +kernel
theorem dX11_laysPacts_80 : decode cX11_laysPacts 80 = .ok (.iinc 2 1, 3) := by decide +kernel
theorem dX11_laysPacts_83 : decode cX11_laysPacts 83 = .ok (.goto (-81), 3) := by decide +kernel
theorem dX11_laysPacts_86 : decode cX11_laysPacts 86 = .ok (.iconst 0, 1) := by decide +kernel
theorem dX11_laysPacts_87 : decode cX11_laysPacts 87 = .ok (.istore_n 2, 1) := by decide +kernel
theorem dX11_laysPacts_88 : decode cX11_laysPacts 88 = .ok (.iload_n 2, 1) := by decide +kernel
theorem dX11_laysPacts_89 : decode cX11_laysPacts 89 = .ok (.aload_n 0, 1) := by decide +kernel
theorem dX11_laysPacts_90 : decode cX11_laysPacts 90 = .ok (.getfield 405, 3) := by decide +kernel
theorem dX11_laysPacts_93 : decode cX11_laysPacts 93 = .ok (.if_icmp .ge 128, 3) := by decide +kernel
theorem dX11_laysPacts_96 : decode cX11_laysPacts 96 = .ok (.iload_n 1, 1) := by decide +kernel
theorem dX11_laysPacts_97 : decode cX11_laysPacts 97 = .ok (.iload_n 2, 1) := by decide +kernel
theorem dX11_laysPacts_98 : decode cX11_laysPacts 98 = .ok (.ishr, 1) := by decide +kernel
theorem dX11_laysPacts_99 : decode cX11_laysPacts 99 = .ok (.iconst 1, 1) := by decide +kernel
theorem dX11_laysPacts_100 : decode cX11_laysPacts 100 = .ok (.iand, 1) := by decide +kernel
theorem dX11_laysPacts_101 : decode cX11_laysPacts 101 = .ok (.ifCond .ne 6, 3) := by decide +kernel
theorem dX11_laysPacts_104 : decode cX11_laysPacts 104 = .ok (.goto 111, 3) := by decide +kernel
theorem dX11_laysPacts_107 : decode cX11_laysPacts 107 = .ok (.aload_n 0, 1) := by decide +kernel
theorem dX11_laysPacts_108 : decode cX11_laysPacts 108 = .ok (.getfield 186, 3) := by decide +kernel
theorem dX11_laysPacts_111 : decode cX11_laysPacts 111 = .ok (.iload_n 2, 1) := by decide +kernel
theorem dX11_laysPacts_112 : decode cX11_laysPacts 112 = .ok (.iaload, 1) := by decide +kernel
theorem dX11_laysPacts_113 : decode cX11_laysPacts 113 = .ok (.istore_n 3, 1) := by decide +kernel
theorem dX11_laysPacts_114 : decode cX11_laysPacts 114 = .ok (.aload_n 0, 1) := by decide +kernel
theorem dX11_laysPacts_115 : decode cX11_laysPacts 115 = .ok (.getfield 189, 3) := by decide +kernel
theorem dX11_laysPacts_118 : decode cX11_laysPacts 118 = .ok (.iload_n 2, 1) := by decide +kernel
theorem dX11_laysPacts_119 : decode cX11_laysPacts 119 = .ok (.iaload, 1) := by decide +kernel
theorem dX11_laysPacts_120 : decode cX11_laysPacts 120 = .ok (.ifCond .ne 10, 3) := by decide +kernel
theorem dX11_laysPacts_123 : decode cX11_laysPacts 123 = .ok (.aload_n 0, 1) := by decide +kernel
theorem dX11_laysPacts_124 : decode cX11_laysPacts 124 = .ok (.getfield 149, 3) := by decide +kernel
theorem dX11_laysPacts_127 : decode cX11_laysPacts 127 = .ok (.iload_n 3, 1) := by decide +kernel
theorem dX11_laysPacts_128 : decode cX11_laysPacts 128 = .ok (.iconst 1, 1) := by decide +kernel
theorem dX11_laysPacts_129 : decode cX11_laysPacts 129 = .ok (.bastore, 1) := by decide +kernel
theorem dX11_laysPacts_130 : decode cX11_laysPacts 130 = .ok (.aload_n 0, 1) := by decide +kernel
theorem dX11_laysPacts_131 : decode cX11_laysPacts 131 = .ok (.getfield 189, 3) := by decide +kernel
theorem dX11_laysPacts_134 : decode cX11_laysPacts 134 = .ok (.iload_n 2, 1) := by decide +kernel
theorem dX11_laysPacts_135 : decode cX11_laysPacts 135 = .ok (.iaload, 1) := by decide +kernel
theorem dX11_laysPacts_136 : decode cX11_laysPacts 136 = .ok (.iconst 1, 1) := by decide +kernel
theorem dX11_laysPacts_137 : decode cX11_laysPacts 137 = .ok (.if_icmp .ne 20, 3) := by decide +kernel
theorem dX11_laysPacts_140 : decode cX11_laysPacts 140 = .ok (.aload_n 0, 1) := by decide +kernel
theorem dX11_laysPacts_141 : decode cX11_laysPacts 141 = .ok (.getfield 140, 3) := by decide +kernel
theorem dX11_laysPacts_144 : decode cX11_laysPacts 144 = .ok (.iload_n 3, 1) := by decide +kernel
theorem dX11_laysPacts_145 : decode cX11_laysPacts 145 = .ok (.dup2, 1) := by decide +kernel
theorem dX11_laysPacts_146 : decode cX11_laysPacts 146 = .ok (.iaload, 1) := by decide +kernel
theorem dX11_laysPacts_147 : decode cX11_laysPacts 147 = .ok (.iconst 1, 1) := by decide +kernel
theorem dX11_laysPacts_148 : decode cX11_laysPacts 148 = .ok (.aload_n 0, 1) := by decide +kernel
theorem dX11_laysPacts_149 : decode cX11_laysPacts 149 = .ok (.getfield 192, 3) := by decide +kernel
theorem dX11_laysPacts_152 : decode cX11_laysPacts 152 = .ok (.iload_n 2, 1) := by decide +kernel
theorem dX11_laysPacts_153 : decode cX11_laysPacts 153 = .ok (.iaload, 1) := by decide +kernel
theorem dX11_laysPacts_154 : decode cX11_laysPacts 154 = .ok (.ishl, 1) := by decide +kernel
theorem dX11_laysPacts_155 : decode cX11_laysPacts 155 = .ok (.ior, 1) := by decide +kernel
theorem dX11_laysPacts_156 : decode cX11_laysPacts 156 = .ok (.iastore, 1) := by decide +kernel
theorem dX11_laysPacts_157 : decode cX11_laysPacts 157 = .ok (.aload_n 0, 1) := by decide +kernel
theorem dX11_laysPacts_158 : decode cX11_laysPacts 158 = .ok (.getfield 189, 3) := by decide +kernel
theorem dX11_laysPacts_161 : decode cX11_laysPacts 161 = .ok (.iload_n 2, 1) := by decide +kernel
theorem dX11_laysPacts_162 : decode cX11_laysPacts 162 = .ok (.iaload, 1) := by decide +kernel
theorem dX11_laysPacts_163 : decode cX11_laysPacts 163 = .ok (.iconst 2, 1) := by decide +kernel
theorem dX11_laysPacts_164 : decode cX11_laysPacts 164 = .ok (.if_icmp .ne 20, 3) := by decide +kernel
theorem dX11_laysPacts_167 : decode cX11_laysPacts 167 = .ok (.aload_n 0, 1) := by decide +kernel
theorem dX11_laysPacts_168 : decode cX11_laysPacts 168 = .ok (.getfield 143, 3) := by decide +kernel
theorem dX11_laysPacts_171 : decode cX11_laysPacts 171 = .ok (.bipush 6, 2) := by decide +kernel
theorem dX11_laysPacts_173 : decode cX11_laysPacts 173 = .ok (.iload_n 3, 1) := by decide +kernel
theorem dX11_laysPacts_174 : decode cX11_laysPacts 174 = .ok (.imul, 1) := by decide +kernel
theorem dX11_laysPacts_175 : decode cX11_laysPacts 175 = .ok (.aload_n 0, 1) := by decide +kernel
theorem dX11_laysPacts_176 : decode cX11_laysPacts 176 = .ok (.getfield 192, 3) := by decide +kernel
theorem dX11_laysPacts_179 : decode cX11_laysPacts 179 = .ok (.iload_n 2, 1) := by decide +kernel
theorem dX11_laysPacts_180 : decode cX11_laysPacts 180 = .ok (.iaload, 1) := by decide +kernel
theorem dX11_laysPacts_181 : decode cX11_laysPacts 181 = .ok (.iadd, 1) := by decide +kernel
theorem dX11_laysPacts_182 : decode cX11_laysPacts 182 = .ok (.iconst 0, 1) := by decide +kernel
theorem dX11_laysPacts_183 : decode cX11_laysPacts 183 = .ok (.iastore, 1) := by decide +kernel
theorem dX11_laysPacts_184 : decode cX11_laysPacts 184 = .ok (.aload_n 0, 1) := by decide +kernel
theorem dX11_laysPacts_185 : decode cX11_laysPacts 185 = .ok (.getfield 189, 3) := by decide +kernel
theorem dX11_laysPacts_188 : decode cX11_laysPacts 188 = .ok (.iload_n 2, 1) := by decide +kernel
theorem dX11_laysPacts_189 : decode cX11_laysPacts 189 = .ok (.iaload, 1) := by decide +kernel
theorem dX11_laysPacts_190 : decode cX11_laysPacts 190 = .ok (.iconst 2, 1) := by decide +kernel
theorem dX11_laysPacts_191 : decode cX11_laysPacts 191 = .ok (.if_icmp .le 24, 3) := by decide +kernel
theorem dX11_laysPacts_194 : decode cX11_laysPacts 194 = .ok (.aload_n 0, 1) := by decide +kernel
theorem dX11_laysPacts_195 : decode cX11_laysPacts 195 = .ok (.getfield 146, 3) := by decide +kernel
theorem dX11_laysPacts_198 : decode cX11_laysPacts 198 = .ok (.iload_n 3, 1) := by decide +kernel
theorem dX11_laysPacts_199 : decode cX11_laysPacts 199 = .ok (.aload_n 0, 1) := by decide +kernel
theorem dX11_laysPacts_200 : decode cX11_laysPacts 200 = .ok (.getfield 189, 3) := by decide +kernel
theorem dX11_laysPacts_203 : decode cX11_laysPacts 203 = .ok (.iload_n 2, 1) := by decide +kernel
theorem dX11_laysPacts_204 : decode cX11_laysPacts 204 = .ok (.iaload, 1) := by decide +kernel
theorem dX11_laysPacts_205 : decode cX11_laysPacts 205 = .ok (.iconst 3, 1) := by decide +kernel
theorem dX11_laysPacts_206 : decode cX11_laysPacts 206 = .ok (.if_icmp .ne 7, 3) := by decide +kernel
theorem dX11_laysPacts_209 : decode cX11_laysPacts 209 = .ok (.iconst 1, 1) := by decide +kernel
theorem dX11_laysPacts_210 : decode cX11_laysPacts 210 = .ok (.goto 4, 3) := by decide +kernel
theorem dX11_laysPacts_213 : decode cX11_laysPacts 213 = .ok (.iconst 2, 1) := by decide +kernel
theorem dX11_laysPacts_214 : decode cX11_laysPacts 214 = .ok (.iastore, 1) := by decide +kernel
theorem dX11_laysPacts_215 : decode cX11_laysPacts 215 = .ok (.iinc 2 1, 3) := by decide +kernel
theorem dX11_laysPacts_218 : decode cX11_laysPacts 218 = .ok (.goto (-130), 3) := by decide +kernel
theorem dX11_laysPacts_221 : decode cX11_laysPacts 221 = .ok (.return_, 1) := by decide +kernel
theorem dX11_laysNights_0 : decode cX11_laysNights 0 = .ok (.iconst 0, 1) := by decide +kernel
theorem dX11_laysNights_1 : decode cX11_laysNights 1 = .ok (.istore_n 2, 1) := by decide +kernel
theorem dX11_laysNights_2 : decode cX11_laysNights 2 = .ok (.iload_n 2, 1) := by decide +kernel
theorem dX11_laysNights_3 : decode cX11_laysNights 3 = .ok (.bipush 6, 2) := by decide +kernel
theorem dX11_laysNights_5 : decode cX11_laysNights 5 = .ok (.if_icmp .ge 16, 3) := by decide +kernel
theorem dX11_laysNights_8 : decode cX11_laysNights 8 = .ok (.aload_n 0, 1) := by decide +kernel
theorem dX11_laysNights_9 : decode cX11_laysNights 9 = .ok (.getfield 122, 3) := by decide +kernel
theorem dX11_laysNights_12 : decode cX11_laysNights 12 = .ok (.iload_n 2, 1) := by decide +kernel
theorem dX11_laysNights_13 : decode cX11_laysNights 13 = .ok (.iconst 0, 1) := by decide +kernel
theorem dX11_laysNights_14 : decode cX11_laysNights 14 = .ok (.iastore, 1) := by decide +kernel
theorem dX11_laysNights_15 : decode cX11_laysNights 15 = .ok (.iinc 2 1, 3) := by decide +kernel
theorem dX11_laysNights_18 : decode cX11_laysNights 18 = .ok (.goto (-16), 3) := by decide +kernel
theorem dX11_laysNights_21 : decode cX11_laysNights 21 = .ok (.aload_n 0, 1) := by decide +kernel
theorem dX11_laysNights_22 : decode cX11_laysNights 22 = .ok (.iconst 0, 1) := by decide +kernel
theorem dX11_laysNights_23 : decode cX11_laysNights 23 = .ok (.putfield 408, 3) := by decide +kernel
theorem dX11_laysNights_26 : decode cX11_laysNights 26 = .ok (.iconst 0, 1) := by decide +kernel
theorem dX11_laysNights_27 : decode cX11_laysNights 27 = .ok (.istore_n 2, 1) := by decide +kernel
theorem dX11_laysNights_28 : decode cX11_laysNights 28 = .ok (.iload_n 2, 1) := by decide +kernel
theorem dX11_laysNights_29 : decode cX11_laysNights 29 = .ok (.sipush 360, 3) := by decide +kernel
theorem dX11_laysNights_32 : decode cX11_laysNights 32 = .ok (.if_icmp .ge 50, 3) := by decide +kernel
theorem dX11_laysNights_35 : decode cX11_laysNights 35 = .ok (.aload_n 0, 1) := by decide +kernel
theorem dX11_laysNights_36 : decode cX11_laysNights 36 = .ok (.getfield 13, 3) := by decide +kernel
theorem dX11_laysNights_39 : decode cX11_laysNights 39 = .ok (.sipush 360, 3) := by decide +kernel
theorem dX11_laysNights_42 : decode cX11_laysNights 42 = .ok (.iload_n 1, 1) := by decide +kernel
theorem dX11_laysNights_43 : decode cX11_laysNights 43 = .ok (.imul, 1) := by decide +kernel
theorem dX11_laysNights_44 : decode cX11_laysNights 44 = .ok (.iload_n 2, 1) := by decide +kernel
theorem dX11_laysNights_45 : decode cX11_laysNights 45 = .ok (.iadd, 1) := by decide +kernel
theorem dX11_laysNights_46 : decode cX11_laysNights 46 = .ok (.iaload, 1) := by decide +kernel
theorem dX11_laysNights_47 : decode cX11_laysNights 47 = .ok (.istore_n 3, 1) := by decide +kernel
theorem dX11_laysNights_48 : decode cX11_laysNights 48 = .ok (.iload_n 3, 1) := by decide +kernel
theorem dX11_laysNights_49 : decode cX11_laysNights 49 = .ok (.iconst (-1), 1) := by decide +kernel
theorem dX11_laysNights_50 : decode cX11_laysNights 50 = .ok (.if_icmp .ne 16, 3) := by decide +kernel
theorem dX11_laysNights_53 : decode cX11_laysNights 53 = .ok (.aload_n 0, 1) := by decide +kernel
theorem dX11_laysNights_54 : decode cX11_laysNights 54 = .ok (.dup, 1) := by decide +kernel
theorem dX11_laysNights_55 : decode cX11_laysNights 55 = .ok (.getfield 408, 3) := by decide +kernel
theorem dX11_laysNights_58 : decode cX11_laysNights 58 = .ok (.iconst 1, 1) := by decide +kernel
theorem dX11_laysNights_59 : decode cX11_laysNights 59 = .ok (.iadd, 1) := by decide +kernel
theorem dX11_laysNights_60 : decode cX11_laysNights 60 = .ok (.putfield 408, 3) := by decide +kernel
theorem dX11_laysNights_63 : decode cX11_laysNights 63 = .ok (.goto 13, 3) := by decide +kernel
theorem dX11_laysNights_66 : decode cX11_laysNights 66 = .ok (.aload_n 0, 1) := by decide +kernel
theorem dX11_laysNights_67 : decode cX11_laysNights 67 = .ok (.getfield 122, 3) := by decide +kernel
theorem dX11_laysNights_70 : decode cX11_laysNights 70 = .ok (.iload_n 3, 1) := by decide +kernel
theorem dX11_laysNights_71 : decode cX11_laysNights 71 = .ok (.dup2, 1) := by decide +kernel
theorem dX11_laysNights_72 : decode cX11_laysNights 72 = .ok (.iaload, 1) := by decide +kernel
theorem dX11_laysNights_73 : decode cX11_laysNights 73 = .ok (.iconst 1, 1) := by decide +kernel
theorem dX11_laysNights_74 : decode cX11_laysNights 74 = .ok (.iadd, 1) := by decide +kernel
theorem dX11_laysNights_75 : decode cX11_laysNights 75 = .ok (.iastore, 1) := by decide +kernel
theorem dX11_laysNights_76 : decode cX11_laysNights 76 = .ok (.iinc 2 1, 3) := by decide +kernel
theorem dX11_laysNights_79 : decode cX11_laysNights 79 = .ok (.goto (-51), 3) := by decide +kernel
theorem dX11_laysNights_82 : decode cX11_laysNights 82 = .ok (.return_, 1) := by decide +kernel
theorem dX11_lays_0 : decode cX11_lays 0 = .ok (.aload_n 0, 1) := by decide +kernel
theorem dX11_lays_1 : decode cX11_lays 1 = .ok (.iload_n 1, 1) := by decide +kernel
theorem dX11_lays_2 : decode cX11_lays 2 = .ok (.invokevirtual 411, 3) := by decide +kernel
theorem dX11_lays_5 : decode cX11_lays 5 = .ok (.aload_n 0, 1) := by decide +kernel
theorem dX11_lays_6 : decode cX11_lays 6 = .ok (.aload_n 0, 1) := by decide +kernel
theorem dX11_lays_7 : decode cX11_lays 7 = .ok (.getfield 17, 3) := by decide +kernel
theorem dX11_lays_10 : decode cX11_lays 10 = .ok (.iload_n 1, 1) := by decide +kernel
theorem dX11_lays_11 : decode cX11_lays 11 = .ok (.iaload, 1) := by decide +kernel
theorem dX11_lays_12 : decode cX11_lays 12 = .ok (.putfield 414, 3) := by decide +kernel
theorem dX11_lays_15 : decode cX11_lays 15 = .ok (.aload_n 0, 1) := by decide +kernel
theorem dX11_lays_16 : decode cX11_lays 16 = .ok (.aload_n 0, 1) := by decide +kernel
theorem dX11_lays_17 : decode cX11_lays 17 = .ok (.getfield 20, 3) := by decide +kernel
theorem dX11_lays_20 : decode cX11_lays 20 = .ok (.iconst 2, 1) := by decide +kernel
theorem dX11_lays_21 : decode cX11_lays 21 = .ok (.iload_n 1, 1) := by decide +kernel
theorem dX11_lays_22 : decode cX11_lays 22 = .ok (.imul, 1) := by decide +kernel
theorem dX11_lays_23 : decode cX11_lays 23 = .ok (.iaload, 1) := by decide +kernel
theorem dX11_lays_24 : decode cX11_lays 24 = .ok (.putfield 417, 3) := by decide +kernel
theorem dX11_lays_27 : decode cX11_lays 27 = .ok (.aload_n 0, 1) := by decide +kernel
theorem dX11_lays_28 : decode cX11_lays 28 = .ok (.aload_n 0, 1) := by decide +kernel
theorem dX11_lays_29 : decode cX11_lays 29 = .ok (.getfield 20, 3) := by decide +kernel
theorem dX11_lays_32 : decode cX11_lays 32 = .ok (.iconst 2, 1) := by decide +kernel
theorem dX11_lays_33 : decode cX11_lays 33 = .ok (.iload_n 1, 1) := by decide +kernel
theorem dX11_lays_34 : decode cX11_lays 34 = .ok (.imul, 1) := by decide +kernel
theorem dX11_lays_35 : decode cX11_lays 35 = .ok (.iconst 1, 1) := by decide +kernel
theorem dX11_lays_36 : decode cX11_lays 36 = .ok (.iadd, 1) := by decide +kernel
theorem dX11_lays_37 : decode cX11_lays 37 = .ok (.iaload, 1) := by decide +kernel
theorem dX11_lays_38 : decode cX11_lays 38 = .ok (.putfield 419, 3) := by decide +kernel
theorem dX11_lays_41 : decode cX11_lays 41 = .ok (.aload_n 0, 1) := by decide +kernel
theorem dX11_lays_42 : decode cX11_lays 42 = .ok (.aload_n 0, 1) := by decide +kernel
theorem dX11_lays_43 : decode cX11_lays 43 = .ok (.getfield 23, 3) := by decide +kernel
theorem dX11_lays_46 : decode cX11_lays 46 = .ok (.iload_n 1, 1) := by decide +kernel
theorem dX11_lays_47 : decode cX11_lays 47 = .ok (.iaload, 1) := by decide +kernel
theorem dX11_lays_48 : decode cX11_lays 48 = .ok (.putfield 421, 3) := by decide +kernel
theorem dX11_lays_51 : decode cX11_lays 51 = .ok (.aload_n 0, 1) := by decide +kernel
theorem dX11_lays_52 : decode cX11_lays 52 = .ok (.iconst 0, 1) := by decide +kernel
theorem dX11_lays_53 : decode cX11_lays 53 = .ok (.putfield 424, 3) := by decide +kernel
theorem dX11_lays_56 : decode cX11_lays 56 = .ok (.iconst 0, 1) := by decide +kernel
theorem dX11_lays_57 : decode cX11_lays 57 = .ok (.istore_n 2, 1) := by decide +kernel
theorem dX11_lays_58 : decode cX11_lays 58 = .ok (.iload_n 2, 1) := by decide +kernel
theorem dX11_lays_59 : decode cX11_lays 59 = .ok (.aload_n 0, 1) := by decide +kernel
theorem dX11_lays_60 : decode cX11_lays 60 = .ok (.getfield 421, 3) := by decide +kernel
theorem dX11_lays_63 : decode cX11_lays 63 = .ok (.if_icmp .ge 109, 3) := by decide +kernel
theorem dX11_lays_66 : decode cX11_lays 66 = .ok (.aload_n 0, 1) := by decide +kernel
theorem dX11_lays_67 : decode cX11_lays 67 = .ok (.getfield 125, 3) := by decide +kernel
theorem dX11_lays_70 : decode cX11_lays 70 = .ok (.iload_n 2, 1) := by decide +kernel
theorem dX11_lays_71 : decode cX11_lays 71 = .ok (.aload_n 0, 1) := by decide +kernel
theorem dX11_lays_72 : decode cX11_lays 72 = .ok (.getfield 26, 3) := by decide +kernel
theorem dX11_lays_75 : decode cX11_lays 75 = .ok (.bipush 12, 2) := by decide +kernel
theorem dX11_lays_77 : decode cX11_lays 77 = .ok (.iload_n 1, 1) := by decide +kernel
theorem dX11_lays_78 : decode cX11_lays 78 = .ok (.imul, 1) := by decide +kernel
theorem dX11_lays_79 : decode cX11_lays 79 = .ok (.iload_n 2, 1) := by decide +kernel
theorem dX11_lays_80 : decode cX11_lays 80 = .ok (.iadd, 1) := by decide +kernel
theorem dX11_lays_81 : decode cX11_lays 81 = .ok (.iaload, 1) := by decide +kernel
theorem dX11_lays_82 : decode cX11_lays 82 = .ok (.iastore, 1) := by decide +kernel
theorem dX11_lays_83 : decode cX11_lays 83 = .ok (.aload_n 0, 1) := by decide +kernel
theorem dX11_lays_84 : decode cX11_lays 84 = .ok (.getfield 128, 3) := by decide +kernel
theorem dX11_lays_87 : decode cX11_lays 87 = .ok (.iload_n 2, 1) := by decide +kernel
theorem dX11_lays_88 : decode cX11_lays 88 = .ok (.aload_n 0, 1) := by decide +kernel
theorem dX11_lays_89 : decode cX11_lays 89 = .ok (.getfield 29, 3) := by decide +kernel
theorem dX11_lays_92 : decode cX11_lays 92 = .ok (.bipush 12, 2) := by decide +kernel
theorem dX11_lays_94 : decode cX11_lays 94 = .ok (.iload_n 1, 1) := by decide +kernel
theorem dX11_lays_95 : decode cX11_lays 95 = .ok (.imul, 1) := by decide +kernel
theorem dX11_lays_96 : decode cX11_lays 96 = .ok (.iload_n 2, 1) := by decide +kernel
theorem dX11_lays_97 : decode cX11_lays 97 = .ok (.iadd, 1) := by decide +kernel
theorem dX11_lays_98 : decode cX11_lays 98 = .ok (.iaload, 1) := by decide +kernel
theorem dX11_lays_99 : decode cX11_lays 99 = .ok (.iastore, 1) := by decide +kernel
theorem dX11_lays_100 : decode cX11_lays 100 = .ok (.aload_n 0, 1) := by decide +kernel
theorem dX11_lays_101 : decode cX11_lays 101 = .ok (.getfield 131, 3) := by decide +kernel
theorem dX11_lays_104 : decode cX11_lays 104 = .ok (.iload_n 2, 1) := by decide +kernel
theorem dX11_lays_105 : decode cX11_lays 105 = .ok (.aload_n 0, 1) := by decide +kernel
theorem dX11_lays_106 : decode cX11_lays 106 = .ok (.getfield 32, 3) := by decide +kernel
theorem dX11_lays_109 : decode cX11_lays 109 = .ok (.bipush 12, 2) := by decide +kernel
theorem dX11_lays_111 : decode cX11_lays 111 = .ok (.iload_n 1, 1) := by decide +kernel
theorem dX11_lays_112 : decode cX11_lays 112 = .ok (.imul, 1) := by decide +kernel
theorem dX11_lays_113 : decode cX11_lays 113 = .ok (.iload_n 2, 1) := by decide +kernel
theorem dX11_lays_114 : decode cX11_lays 114 = .ok (.iadd, 1) := by decide +kernel
theorem dX11_lays_115 : decode cX11_lays 115 = .ok (.iaload, 1) := by decide +kernel
theorem dX11_lays_116 : decode cX11_lays 116 = .ok (.iastore, 1) := by decide +kernel
theorem dX11_lays_117 : decode cX11_lays 117 = .ok (.aload_n 0, 1) := by decide +kernel
theorem dX11_lays_118 : decode cX11_lays 118 = .ok (.getfield 134, 3) := by decide +kernel
theorem dX11_lays_121 : decode cX11_lays 121 = .ok (.iload_n 2, 1) := by decide +kernel
theorem dX11_lays_122 : decode cX11_lays 122 = .ok (.aload_n 0, 1) := by decide +kernel
theorem dX11_lays_123 : decode cX11_lays 123 = .ok (.getfield 35, 3) := by decide +kernel
theorem dX11_lays_126 : decode cX11_lays 126 = .ok (.bipush 12, 2) := by decide +kernel
theorem dX11_lays_128 : decode cX11_lays 128 = .ok (.iload_n 1, 1) := by decide +kernel
theorem dX11_lays_129 : decode cX11_lays 129 = .ok (.imul, 1) := by decide +kernel
theorem dX11_lays_130 : decode cX11_lays 130 = .ok (.iload_n 2, 1) := by decide +kernel
theorem dX11_lays_131 : decode cX11_lays 131 = .ok (.iadd, 1) := by decide +kernel
theorem dX11_lays_132 : decode cX11_lays 132 = .ok (.iaload, 1) := by decide +kernel
theorem dX11_lays_133 : decode cX11_lays 133 = .ok (.iastore, 1) := by decide +kernel
theorem dX11_lays_134 : decode cX11_lays 134 = .ok (.aload_n 0, 1) := by decide +kernel
theorem dX11_lays_135 : decode cX11_lays 135 = .ok (.getfield 137, 3) := by decide +kernel
theorem dX11_lays_138 : decode cX11_lays 138 = .ok (.iload_n 2, 1) := by decide +kernel
theorem dX11_lays_139 : decode cX11_lays 139 = .ok (.aload_n 0, 1) := by decide +kernel
theorem dX11_lays_140 : decode cX11_lays 140 = .ok (.getfield 38, 3) := by decide +kernel
theorem dX11_lays_143 : decode cX11_lays 143 = .ok (.bipush 12, 2) := by decide +kernel
theorem dX11_lays_145 : decode cX11_lays 145 = .ok (.iload_n 1, 1) := by decide +kernel
theorem dX11_lays_146 : decode cX11_lays 146 = .ok (.imul, 1) := by decide +kernel
theorem dX11_lays_147 : decode cX11_lays 147 = .ok (.iload_n 2, 1) := by decide +kernel
theorem dX11_lays_148 : decode cX11_lays 148 = .ok (.iadd, 1) := by decide +kernel
theorem dX11_lays_149 : decode cX11_lays 149 = .ok (.iaload, 1) := by decide +kernel
theorem dX11_lays_150 : decode cX11_lays 150 = .ok (.iastore, 1) := by decide +kernel
theorem dX11_lays_151 : decode cX11_lays 151 = .ok (.aload_n 0, 1) := by decide +kernel
theorem dX11_lays_152 : decode cX11_lays 152 = .ok (.dup, 1) := by decide +kernel
theorem dX11_lays_153 : decode cX11_lays 153 = .ok (.getfield 424, 3) := by decide +kernel
theorem dX11_lays_156 : decode cX11_lays 156 = .ok (.aload_n 0, 1) := by decide +kernel
theorem dX11_lays_157 : decode cX11_lays 157 = .ok (.getfield 131, 3) := by decide +kernel
theorem dX11_lays_160 : decode cX11_lays 160 = .ok (.iload_n 2, 1) := by decide +kernel
theorem dX11_lays_161 : decode cX11_lays 161 = .ok (.iaload, 1) := by decide +kernel
theorem dX11_lays_162 : decode cX11_lays 162 = .ok (.iadd, 1) := by decide +kernel
theorem dX11_lays_163 : decode cX11_lays 163 = .ok (.putfield 424, 3) := by decide +kernel
theorem dX11_lays_166 : decode cX11_lays 166 = .ok (.iinc 2 1, 3) := by decide +kernel
theorem dX11_lays_169 : decode cX11_lays 169 = .ok (.goto (-111), 3) := by decide +kernel
theorem dX11_lays_172 : decode cX11_lays 172 = .ok (.aload_n 0, 1) := by decide +kernel
theorem dX11_lays_173 : decode cX11_lays 173 = .ok (.iconst 0, 1) := by decide +kernel
theorem dX11_lays_174 : decode cX11_lays 174 = .ok (.invokevirtual 427, 3) := by decide +kernel
theorem dX11_lays_177 : decode cX11_lays 177 = .ok (.return_, 1) := by decide +kernel
theorem dX11_most_0 : decode cX11_most 0 = .ok (.iconst 0, 1) := by decide +kernel
theorem dX11_most_1 : decode cX11_most 1 = .ok (.istore_n 2, 1) := by decide +kernel
theorem dX11_most_2 : decode cX11_most 2 = .ok (.iconst 0, 1) := by decide +kernel
theorem dX11_most_3 : decode cX11_most 3 = .ok (.istore_n 3, 1) := by decide +kernel
theorem dX11_most_4 : decode cX11_most 4 = .ok (.iload_n 3, 1) := by decide +kernel
theorem dX11_most_5 : decode cX11_most 5 = .ok (.bipush 6, 2) := by decide +kernel
theorem dX11_most_7 : decode cX11_most 7 = .ok (.if_icmp .ge 35, 3) := by decide +kernel
theorem dX11_most_10 : decode cX11_most 10 = .ok (.iload_n 3, 1) := by decide +kernel
theorem dX11_most_11 : decode cX11_most 11 = .ok (.iload_n 1, 1) := by decide +kernel
theorem dX11_most_12 : decode cX11_most 12 = .ok (.if_icmp .eq 22, 3) := by decide +kernel
theorem dX11_most_15 : decode cX11_most 15 = .ok (.aload_n 0, 1) := by decide +kernel
theorem dX11_most_16 : decode cX11_most 16 = .ok (.getfield 122, 3) := by decide +kernel
theorem dX11_most_19 : decode cX11_most 19 = .ok (.iload_n 3, 1) := by decide +kernel
theorem dX11_most_20 : decode cX11_most 20 = .ok (.iaload, 1) := by decide +kernel
theorem dX11_most_21 : decode cX11_most 21 = .ok (.iload_n 2, 1) := by decide +kernel
theorem dX11_most_22 : decode cX11_most 22 = .ok (.if_icmp .le 12, 3) := by decide +kernel
theorem dX11_most_25 : decode cX11_most 25 = .ok (.aload_n 0, 1) := by decide +kernel
theorem dX11_most_26 : decode cX11_most 26 = .ok (.getfield 122, 3) := by decide +kernel
theorem dX11_most_29 : decode cX11_most 29 = .ok (.iload_n 3, 1) := by decide +kernel
theorem dX11_most_30 : decode cX11_most 30 = .ok (.iaload, 1) := by decide +kernel
theorem dX11_most_31 : decode cX11_most 31 = .ok (.goto 4, 3) := by decide +kernel
theorem dX11_most_34 : decode cX11_most 34 = .ok (.iload_n 2, 1) := by decide +kernel
theorem dX11_most_35 : decode cX11_most 35 = .ok (.istore_n 2, 1) := by decide +kernel
theorem dX11_most_36 : decode cX11_most 36 = .ok (.iinc 3 1, 3) := by decide +kernel
theorem dX11_most_39 : decode cX11_most 39 = .ok (.goto (-35), 3) := by decide +kernel
theorem dX11_most_42 : decode cX11_most 42 = .ok (.iload_n 2, 1) := by decide +kernel
theorem dX11_most_43 : decode cX11_most 43 = .ok (.ireturn, 1) := by decide +kernel
theorem dX11_gathers_0 : decode cX11_gathers 0 = .ok (.aload_n 0, 1) := by decide +kernel
theorem dX11_gathers_1 : decode cX11_gathers 1 = .ok (.getfield 111, 3) := by decide +kernel
theorem dX11_gathers_4 : decode cX11_gathers 4 = .ok (.iconst 1, 1) := by decide +kernel
theorem dX11_gathers_5 : decode cX11_gathers 5 = .ok (.aload_n 0, 1) := by decide +kernel
theorem dX11_gathers_6 : decode cX11_gathers 6 = .ok (.getfield 122, 3) := by decide +kernel
theorem dX11_gathers_9 : decode cX11_gathers 9 = .ok (.iload_n 1, 1) := by decide +kernel
theorem dX11_gathers_10 : decode cX11_gathers 10 = .ok (.iaload, 1) := by decide +kernel
theorem dX11_gathers_11 : decode cX11_gathers 11 = .ok (.iastore, 1) := by decide +kernel
theorem dX11_gathers_12 : decode cX11_gathers 12 = .ok (.aload_n 0, 1) := by decide +kernel
theorem dX11_gathers_13 : decode cX11_gathers 13 = .ok (.getfield 111, 3) := by decide +kernel
theorem dX11_gathers_16 : decode cX11_gathers 16 = .ok (.iconst 2, 1) := by decide +kernel
theorem dX11_gathers_17 : decode cX11_gathers 17 = .ok (.aload_n 0, 1) := by decide +kernel
theorem dX11_gathers_18 : decode cX11_gathers 18 = .ok (.getfield 414, 3) := by decide +kernel
theorem dX11_gathers_21 : decode cX11_gathers 21 = .ok (.iload_n 1, 1) := by decide +kernel
theorem dX11_gathers_22 : decode cX11_gathers 22 = .ok (.ishr, 1) := by decide +kernel
theorem dX11_gathers_23 : decode cX11_gathers 23 = .ok (.iconst 1, 1) := by decide +kernel
theorem dX11_gathers_24 : decode cX11_gathers 24 = .ok (.iand, 1) := by decide +kernel
theorem dX11_gathers_25 : decode cX11_gathers 25 = .ok (.iastore, 1) := by decide +kernel
theorem dX11_gathers_26 : decode cX11_gathers 26 = .ok (.aload_n 0, 1) := by decide +kernel
theorem dX11_gathers_27 : decode cX11_gathers 27 = .ok (.getfield 111, 3) := by decide +kernel
theorem dX11_gathers_30 : decode cX11_gathers 30 = .ok (.iconst 3, 1) := by decide +kernel
theorem dX11_gathers_31 : decode cX11_gathers 31 = .ok (.aload_n 0, 1) := by decide +kernel
theorem dX11_gathers_32 : decode cX11_gathers 32 = .ok (.getfield 417, 3) := by decide +kernel
theorem dX11_gathers_35 : decode cX11_gathers 35 = .ok (.iload_n 1, 1) := by decide +kernel
theorem dX11_gathers_36 : decode cX11_gathers 36 = .ok (.if_icmp .ne 7, 3) := by decide +kernel
theorem dX11_gathers_39 : decode cX11_gathers 39 = .ok (.iconst 1, 1) := by decide +kernel
theorem dX11_gathers_40 : decode cX11_gathers 40 = .ok (.goto 4, 3) := by decide +kernel
theorem dX11_gathers_43 : decode cX11_gathers 43 = .ok (.iconst 0, 1) := by decide +kernel
theorem dX11_gathers_44 : decode cX11_gathers 44 = .ok (.iastore, 1) := by decide +kernel
theorem dX11_gathers_45 : decode cX11_gathers 45 = .ok (.aload_n 0, 1) := by decide +kernel
theorem dX11_gathers_46 : decode cX11_gathers 46 = .ok (.getfield 111, 3) := by decide +kernel
theorem dX11_gathers_49 : decode cX11_gathers 49 = .ok (.iconst 4, 1) := by decide +kernel
theorem dX11_gathers_50 : decode cX11_gathers 50 = .ok (.aload_n 0, 1) := by decide +kernel
theorem dX11_gathers_51 : decode cX11_gathers 51 = .ok (.getfield 419, 3) := by decide +kernel
theorem dX11_gathers_54 : decode cX11_gathers 54 = .ok (.iload_n 1, 1) := by decide +kernel
theorem dX11_gathers_55 : decode cX11_gathers 55 = .ok (.if_icmp .ne 7, 3) := by decide +kernel
theorem dX11_gathers_58 : decode cX11_gathers 58 = .ok (.iconst 1, 1) := by decide +kernel
theorem dX11_gathers_59 : decode cX11_gathers 59 = .ok (.goto 4, 3) := by decide +kernel
theorem dX11_gathers_62 : decode cX11_gathers 62 = .ok (.iconst 0, 1) := by decide +kernel
theorem dX11_gathers_63 : decode cX11_gathers 63 = .ok (.iastore, 1) := by decide +kernel
theorem dX11_gathers_64 : decode cX11_gathers 64 = .ok (.aload_n 0, 1) := by decide +kernel
theorem dX11_gathers_65 : decode cX11_gathers 65 = .ok (.getfield 111, 3) := by decide +kernel
theorem dX11_gathers_68 : decode cX11_gathers 68 = .ok (.iconst 5, 1) := by decide +kernel
theorem dX11_gathers_69 : decode cX11_gathers 69 = .ok (.aload_n 0, 1) := by decide +kernel
theorem dX11_gathers_70 : decode cX11_gathers 70 = .ok (.iload_n 1, 1) := by decide +kernel
theorem dX11_gathers_71 : decode cX11_gathers 71 = .ok (.invokevirtual 430, 3) := by decide +kernel
theorem dX11_gathers_74 : decode cX11_gathers 74 = .ok (.iastore, 1) := by decide +kernel
theorem dX11_gathers_75 : decode cX11_gathers 75 = .ok (.aload_n 0, 1) := by decide +kernel
theorem dX11_gathers_76 : decode cX11_gathers 76 = .ok (.getfield 111, 3) := by decide +kernel
theorem dX11_gathers_79 : decode cX11_gathers 79 = .ok (.bipush 6, 2) := by decide +kernel
theorem dX11_gathers_81 : decode cX11_gathers 81 = .ok (.iconst 0, 1) := by decide +kernel
theorem dX11_gathers_82 : decode cX11_gathers 82 = .ok (.iastore, 1) := by decide +kernel
theorem dX11_gathers_83 : decode cX11_gathers 83 = .ok (.aload_n 0, 1) := by decide +kernel
theorem dX11_gathers_84 : decode cX11_gathers 84 = .ok (.getfield 111, 3) := by decide +kernel
theorem dX11_gathers_87 : decode cX11_gathers 87 = .ok (.bipush 7, 2) := by decide +kernel
theorem dX11_gathers_89 : decode cX11_gathers 89 = .ok (.iconst 0, 1) := by decide +kernel
theorem dX11_gathers_90 : decode cX11_gathers 90 = .ok (.iastore, 1) := by decide +kernel
theorem dX11_gathers_91 : decode cX11_gathers 91 = .ok (.aload_n 0, 1) := by decide +kernel
theorem dX11_gathers_92 : decode cX11_gathers 92 = .ok (.getfield 111, 3) := by decide +kernel
theorem dX11_gathers_95 : decode cX11_gathers 95 = .ok (.bipush 8, 2) := by decide +kernel
theorem dX11_gathers_97 : decode cX11_gathers 97 = .ok (.iconst 0, 1) := by decide +kernel
theorem dX11_gathers_98 : decode cX11_gathers 98 = .ok (.iastore, 1) := by decide +kernel
theorem dX11_gathers_99 : decode cX11_gathers 99 = .ok (.return_, 1) := by decide +kernel
theorem dX11_says_0 : decode cX11_says 0 = .ok (.aload_n 0, 1) := by decide +kernel
theorem dX11_says_1 : decode cX11_says 1 = .ok (.iload_n 1, 1) := by decide +kernel
theorem dX11_says_2 : decode cX11_says 2 = .ok (.invokevirtual 432, 3) := by decide +kernel
theorem dX11_says_5 : decode cX11_says 5 = .ok (.iconst 0, 1) := by decide +kernel
theorem dX11_says_6 : decode cX11_says 6 = .ok (.istore_n 2, 1) := by decide +kernel
theorem dX11_says_7 : decode cX11_says 7 = .ok (.iload_n 2, 1) := by decide +kernel
theorem dX11_says_8 : decode cX11_says 8 = .ok (.aload_n 0, 1) := by decide +kernel
theorem dX11_says_9 : decode cX11_says 9 = .ok (.getfield 41, 3) := by decide +kernel
theorem dX11_says_12 : decode cX11_says 12 = .ok (.iload_n 1, 1) := by decide +kernel
theorem dX11_says_13 : decode cX11_says 13 = .ok (.iaload, 1) := by decide +kernel
theorem dX11_says_14 : decode cX11_says 14 = .ok (.if_icmp .ge 48, 3) := by decide +kernel
theorem dX11_says_17 : decode cX11_says 17 = .ok (.bipush 20, 2) := by decide +kernel
theorem dX11_says_19 : decode cX11_says 19 = .ok (.iload_n 1, 1) := by decide +kernel
theorem dX11_says_20 : decode cX11_says 20 = .ok (.imul, 1) := by decide +kernel
theorem dX11_says_21 : decode cX11_says 21 = .ok (.iload_n 2, 1) := by decide +kernel
theorem dX11_says_22 : decode cX11_says 22 = .ok (.iadd, 1) := by decide +kernel
theorem dX11_says_23 : decode cX11_says 23 = .ok (.istore_n 3, 1) := by decide +kernel
theorem dX11_says_24 : decode cX11_says 24 = .ok (.aload_n 0, 1) := by decide +kernel
theorem dX11_says_25 : decode cX11_says 25 = .ok (.getfield 44, 3) := by decide +kernel
theorem dX11_says_28 : decode cX11_says 28 = .ok (.iload_n 3, 1) := by decide +kernel
theorem dX11_says_29 : decode cX11_says 29 = .ok (.iaload, 1) := by decide +kernel
theorem dX11_says_30 : decode cX11_says 30 = .ok (.ifCond .ne 26, 3) := by decide +kernel
theorem dX11_says_33 : decode cX11_says 33 = .ok (.aload_n 0, 1) := by decide +kernel
theorem dX11_says_34 : decode cX11_says 34 = .ok (.iload_n 1, 1) := by decide +kernel
theorem dX11_says_35 : decode cX11_says 35 = .ok (.aload_n 0, 1) := by decide +kernel
theorem dX11_says_36 : decode cX11_says 36 = .ok (.getfield 53, 3) := by decide +kernel
theorem dX11_says_39 : decode cX11_says 39 = .ok (.iload_n 3, 1) := by decide +kernel
theorem dX11_says_40 : decode cX11_says 40 = .ok (.iaload, 1) := by decide +kernel
theorem dX11_says_41 : decode cX11_says 41 = .ok (.aload_n 0, 1) := by decide +kernel
theorem dX11_says_42 : decode cX11_says 42 = .ok (.getfield 56, 3) := by decide +kernel
theorem dX11_says_45 : decode cX11_says 45 = .ok (.iload_n 3, 1) := by decide +kernel
theorem dX11_says_46 : decode cX11_says 46 = .ok (.iaload, 1) := by decide +kernel
theorem dX11_says_47 : decode cX11_says 47 = .ok (.invokevirtual 435, 3) := by decide +kernel
theorem dX11_says_50 : decode cX11_says 50 = .ok (.iconst 1, 1) := by decide +kernel
theorem dX11_says_51 : decode cX11_says 51 = .ok (.if_icmp .ne 5, 3) := by decide +kernel
theorem dX11_says_54 : decode cX11_says 54 = .ok (.iconst 1, 1) := by decide +kernel
theorem dX11_says_55 : decode cX11_says 55 = .ok (.ireturn, 1) := by decide +kernel
theorem dX11_says_56 : decode cX11_says 56 = .ok (.iinc 2 1, 3) := by decide +kernel
theorem dX11_says_59 : decode cX11_says 59 = .ok (.goto (-52), 3) := by decide +kernel
theorem dX11_says_62 : decode cX11_says 62 = .ok (.iconst 0, 1) := by decide +kernel
theorem dX11_says_63 : decode cX11_says 63 = .ok (.ireturn, 1) := by decide +kernel
theorem dX11_ofTest_0 : decode cX11_ofTest 0 = .ok (.iload_n 2, 1) := by decide +kernel
theorem dX11_ofTest_1 : decode cX11_ofTest 1 = .ok (.iconst 1, 1) := by decide +kernel
theorem dX11_ofTest_2 : decode cX11_ofTest 2 = .ok (.if_icmp .ne 12, 3) := by decide +kernel
theorem dX11_ofTest_5 : decode cX11_ofTest 5 = .ok (.aload_n 0, 1) := by decide +kernel
theorem dX11_ofTest_6 : decode cX11_ofTest 6 = .ok (.getfield 122, 3) := by decide +kernel
theorem dX11_ofTest_9 : decode cX11_ofTest 9 = .ok (.iload_n 1, 1) := by decide +kernel
theorem dX11_ofTest_10 : decode cX11_ofTest 10 = .ok (.iaload, 1) := by decide +kernel
theorem dX11_ofTest_11 : decode cX11_ofTest 11 = .ok (.goto 53, 3) := by decide +kernel
theorem dX11_ofTest_14 : decode cX11_ofTest 14 = .ok (.iload_n 2, 1) := by decide +kernel
theorem dX11_ofTest_15 : decode cX11_ofTest 15 = .ok (.iconst 2, 1) := by decide +kernel
theorem dX11_ofTest_16 : decode cX11_ofTest 16 = .ok (.if_icmp .ne 14, 3) := by decide +kernel
theorem dX11_ofTest_19 : decode cX11_ofTest 19 = .ok (.aload_n 0, 1) := by decide +kernel
theorem dX11_ofTest_20 : decode cX11_ofTest 20 = .ok (.getfield 414, 3) := by decide +kernel
theorem dX11_ofTest_23 : decode cX11_ofTest 23 = .ok (.iload_n 1, 1) := by decide +kernel
theorem dX11_ofTest_24 : decode cX11_ofTest 24 = .ok (.ishr, 1) := by decide +kernel
theorem dX11_ofTest_25 : decode cX11_ofTest 25 = .ok (.iconst 1, 1) := by decide +kernel
theorem dX11_ofTest_26 : decode cX11_ofTest 26 = .ok (.iand, 1) := by decide +kernel
theorem dX11_ofTest_27 : decode cX11_ofTest 27 = .ok (.goto 37, 3) := by decide +kernel
theorem dX11_ofTest_30 : decode cX11_ofTest 30 = .ok (.iload_n 2, 1) := by decide +kernel
theorem dX11_ofTest_31 : decode cX11_ofTest 31 = .ok (.iconst 3, 1) := by decide +kernel
theorem dX11_ofTest_32 : decode cX11_ofTest 32 = .ok (.if_icmp .ne 19, 3) := by decide +kernel
theorem dX11_ofTest_35 : decode cX11_ofTest 35 = .ok (.aload_n 0, 1) := by decide +kernel
theorem dX11_ofTest_36 : decode cX11_ofTest 36 = .ok (.getfield 417, 3) := by decide +kernel
theorem dX11_ofTest_39 : decode cX11_ofTest 39 = .ok (.iload_n 1, 1) := by decide +kernel
theorem dX11_ofTest_40 : decode cX11_ofTest 40 = .ok (.if_icmp .ne 7, 3) := by decide +kernel
theorem dX11_ofTest_43 : decode cX11_ofTest 43 = .ok (.iconst 1, 1) := by decide +kernel
theorem dX11_ofTest_44 : decode cX11_ofTest 44 = .ok (.goto 20, 3) := by decide +kernel
theorem dX11_ofTest_47 : decode cX11_ofTest 47 = .ok (.iconst 0, 1) := by decide +kernel
theorem dX11_ofTest_48 : decode cX11_ofTest 48 = .ok (.goto 16, 3) := by decide +kernel
theorem dX11_ofTest_51 : decode cX11_ofTest 51 = .ok (.aload_n 0, 1) := by decide +kernel
theorem dX11_ofTest_52 : decode cX11_ofTest 52 = .ok (.getfield 419, 3) := by decide +kernel
theorem dX11_ofTest_55 : decode cX11_ofTest 55 = .ok (.iload_n 1, 1) := by decide +kernel
theorem dX11_ofTest_56 : decode cX11_ofTest 56 = .ok (.if_icmp .ne 7, 3) := by decide +kernel
theorem dX11_ofTest_59 : decode cX11_ofTest 59 = .ok (.iconst 1, 1) := by decide +kernel
theorem dX11_ofTest_60 : decode cX11_ofTest 60 = .ok (.goto 4, 3) := by decide +kernel
theorem dX11_ofTest_63 : decode cX11_ofTest 63 = .ok (.iconst 0, 1) := by decide +kernel
theorem dX11_ofTest_64 : decode cX11_ofTest 64 = .ok (.ireturn, 1) := by decide +kernel
theorem dX11_decider_0 : decode cX11_decider 0 = .ok (.iload_n 1, 1) := by decide +kernel
theorem dX11_decider_1 : decode cX11_decider 1 = .ok (.iload_n 2, 1) := by decide +kernel
theorem dX11_decider_2 : decode cX11_decider 2 = .ok (.invokestatic 438, 3) := by decide +kernel
theorem dX11_decider_5 : decode cX11_decider 5 = .ok (.istore_n 3, 1) := by decide +kernel
theorem dX11_decider_6 : decode cX11_decider 6 = .ok (.iconst 0, 1) := by decide +kernel
theorem dX11_decider_7 : decode cX11_decider 7 = .ok (.istore 4, 2) := by decide +kernel
theorem dX11_decider_9 : decode cX11_decider 9 = .ok (.iload 4, 2) := by decide +kernel
theorem dX11_decider_11 : decode cX11_decider 11 = .ok (.aload_n 0, 1) := by decide +kernel
theorem dX11_decider_12 : decode cX11_decider 12 = .ok (.getfield 87, 3) := by decide +kernel
theorem dX11_decider_15 : decode cX11_decider 15 = .ok (.iload_n 3, 1) := by decide +kernel
theorem dX11_decider_16 : decode cX11_decider 16 = .ok (.iaload, 1) := by decide +kernel
theorem dX11_decider_17 : decode cX11_decider 17 = .ok (.if_icmp .ge 49, 3) := by decide +kernel
theorem dX11_decider_20 : decode cX11_decider 20 = .ok (.aload_n 0, 1) := by decide +kernel
theorem dX11_decider_21 : decode cX11_decider 21 = .ok (.iload_n 1, 1) := by decide +kernel
theorem dX11_decider_22 : decode cX11_decider 22 = .ok (.aload_n 0, 1) := by decide +kernel
theorem dX11_decider_23 : decode cX11_decider 23 = .ok (.getfield 90, 3) := by decide +kernel
theorem dX11_decider_26 : decode cX11_decider 26 = .ok (.bipush 20, 2) := by decide +kernel
theorem dX11_decider_28 : decode cX11_decider 28 = .ok (.iload_n 3, 1) := by decide +kernel
theorem dX11_decider_29 : decode cX11_decider 29 = .ok (.imul, 1) := by decide +kernel
theorem dX11_decider_30 : decode cX11_decider 30 = .ok (.iload 4, 2) := by decide +kernel
theorem dX11_decider_32 : decode cX11_decider 32 = .ok (.iadd, 1) := by decide +kernel
theorem dX11_decider_33 : decode cX11_decider 33 = .ok (.iaload, 1) := by decide +kernel
theorem dX11_decider_34 : decode cX11_decider 34 = .ok (.invokevirtual 442, 3) := by decide +kernel
theorem dX11_decider_37 : decode cX11_decider 37 = .ok (.aload_n 0, 1) := by decide +kernel
theorem dX11_decider_38 : decode cX11_decider 38 = .ok (.iload_n 2, 1) := by decide +kernel
theorem dX11_decider_39 : decode cX11_decider 39 = .ok (.aload_n 0, 1) := by decide +kernel
theorem dX11_decider_40 : decode cX11_decider 40 = .ok (.getfield 90, 3) := by decide +kernel
theorem dX11_decider_43 : decode cX11_decider 43 = .ok (.bipush 20, 2) := by decide +kernel
theorem dX11_decider_45 : decode cX11_decider 45 = .ok (.iload_n 3, 1) := by decide +kernel
theorem dX11_decider_46 : decode cX11_decider 46 = .ok (.imul, 1) := by decide +kernel
theorem dX11_decider_47 : decode cX11_decider 47 = .ok (.iload 4, 2) := by decide +kernel
theorem dX11_decider_49 : decode cX11_decider 49 = .ok (.iadd, 1) := by decide +kernel
theorem dX11_decider_50 : decode cX11_decider 50 = .ok (.iaload, 1) := by decide +kernel
theorem dX11_decider_51 : decode cX11_decider 51 = .ok (.invokevirtual 442, 3) := by decide +kernel
theorem dX11_decider_54 : decode cX11_decider 54 = .ok (.if_icmp .eq 6, 3) := by decide +kernel
theorem dX11_decider_57 : decode cX11_decider 57 = .ok (.iload 4, 2) := by decide +kernel
theorem dX11_decider_59 : decode cX11_decider 59 = .ok (.ireturn, 1) := by decide +kernel
theorem dX11_decider_60 : decode cX11_decider 60 = .ok (.iinc 4 1, 3) := by decide +kernel
theorem dX11_decider_63 : decode cX11_decider 63 = .ok (.goto (-54), 3) := by decide +kernel
theorem dX11_decider_66 : decode cX11_decider 66 = .ok (.iconst (-1), 1) := by decide +kernel
theorem dX11_decider_67 : decode cX11_decider 67 = .ok (.ireturn, 1) := by decide +kernel
theorem dX11_givesWay_0 : decode cX11_givesWay 0 = .ok (.aload_n 0, 1) := by decide +kernel
theorem dX11_givesWay_1 : decode cX11_givesWay 1 = .ok (.getfield 445, 3) := by decide +kernel
theorem dX11_givesWay_4 : decode cX11_givesWay 4 = .ok (.iload_n 1, 1) := by decide +kernel
theorem dX11_givesWay_5 : decode cX11_givesWay 5 = .ok (.ishr, 1) := by decide +kernel
theorem dX11_givesWay_6 : decode cX11_givesWay 6 = .ok (.aload_n 0, 1) := by decide +kernel
theorem dX11_givesWay_7 : decode cX11_givesWay 7 = .ok (.getfield 445, 3) := by decide +kernel
theorem dX11_givesWay_10 : decode cX11_givesWay 10 = .ok (.iload_n 2, 1) := by decide +kernel
theorem dX11_givesWay_11 : decode cX11_givesWay 11 = .ok (.ishr, 1) := by decide +kernel
theorem dX11_givesWay_12 : decode cX11_givesWay 12 = .ok (.iand, 1) := by decide +kernel
theorem dX11_givesWay_13 : decode cX11_givesWay 13 = .ok (.iconst 1, 1) := by decide +kernel
theorem dX11_givesWay_14 : decode cX11_givesWay 14 = .ok (.iand, 1) := by decide +kernel
theorem dX11_givesWay_15 : decode cX11_givesWay 15 = .ok (.ifCond .ne 5, 3) := by decide +kernel
theorem dX11_givesWay_18 : decode cX11_givesWay 18 = .ok (.iconst 0, 1) := by decide +kernel
theorem dX11_givesWay_19 : decode cX11_givesWay 19 = .ok (.ireturn, 1) := by decide +kernel
theorem dX11_givesWay_20 : decode cX11_givesWay 20 = .ok (.aload_n 0, 1) := by decide +kernel
theorem dX11_givesWay_21 : decode cX11_givesWay 21 = .ok (.iload_n 1, 1) := by decide +kernel
theorem dX11_givesWay_22 : decode cX11_givesWay 22 = .ok (.iload_n 2, 1) := by decide +kernel
theorem dX11_givesWay_23 : decode cX11_givesWay 23 = .ok (.invokevirtual 448, 3) := by decide +kernel
theorem dX11_givesWay_26 : decode cX11_givesWay 26 = .ok (.istore_n 3, 1) := by decide +kernel
theorem dX11_givesWay_27 : decode cX11_givesWay 27 = .ok (.iload_n 3, 1) := by decide +kernel
theorem dX11_givesWay_28 : decode cX11_givesWay 28 = .ok (.iconst (-1), 1) := by decide +kernel
theorem dX11_givesWay_29 : decode cX11_givesWay 29 = .ok (.if_icmp .eq 50, 3) := by decide +kernel
theorem dX11_givesWay_32 : decode cX11_givesWay 32 = .ok (.aload_n 0, 1) := by decide +kernel
theorem dX11_givesWay_33 : decode cX11_givesWay 33 = .ok (.iload_n 1, 1) := by decide +kernel
theorem dX11_givesWay_34 : decode cX11_givesWay 34 = .ok (.aload_n 0, 1) := by decide +kernel
theorem dX11_givesWay_35 : decode cX11_givesWay 35 = .ok (.getfield 90, 3) := by decide +kernel
theorem dX11_givesWay_38 : decode cX11_givesWay 38 = .ok (.bipush 20, 2) := by decide +kernel
theorem dX11_givesWay_40 : decode cX11_givesWay 40 = .ok (.iload_n 1, 1) := by decide +kernel
theorem dX11_givesWay_41 : decode cX11_givesWay 41 = .ok (.iload_n 2, 1) := by decide +kernel
theorem dX11_givesWay_42 : decode cX11_givesWay 42 = .ok (.invokestatic 438, 3) := by decide +kernel
theorem dX11_givesWay_45 : decode cX11_givesWay 45 = .ok (.imul, 1) := by decide +kernel
theorem dX11_givesWay_46 : decode cX11_givesWay 46 = .ok (.iload_n 3, 1) := by decide +kernel
theorem dX11_givesWay_47 : decode cX11_givesWay 47 = .ok (.iadd, 1) := by decide +kernel
theorem dX11_givesWay_48 : decode cX11_givesWay 48 = .ok (.iaload, 1) := by decide +kernel
theorem dX11_givesWay_49 : decode cX11_givesWay 49 = .ok (.invokevirtual 442, 3) := by decide +kernel
theorem dX11_givesWay_52 : decode cX11_givesWay 52 = .ok (.aload_n 0, 1) := by decide +kernel
theorem dX11_givesWay_53 : decode cX11_givesWay 53 = .ok (.iload_n 2, 1) := by decide +kernel
theorem dX11_givesWay_54 : decode cX11_givesWay 54 = .ok (.aload_n 0, 1) := by decide +kernel
theorem dX11_givesWay_55 : decode cX11_givesWay 55 = .ok (.getfield 90, 3) := by decide +kernel
theorem dX11_givesWay_58 : decode cX11_givesWay 58 = .ok (.bipush 20, 2) := by decide +kernel
theorem dX11_givesWay_60 : decode cX11_givesWay 60 = .ok (.iload_n 1, 1) := by decide +kernel
theorem dX11_givesWay_61 : decode cX11_givesWay 61 = .ok (.iload_n 2, 1) := by decide +kernel
theorem dX11_givesWay_62 : decode cX11_givesWay 62 = .ok (.invokestatic 438, 3) := by decide +kernel
theorem dX11_givesWay_65 : decode cX11_givesWay 65 = .ok (.imul, 1) := by decide +kernel
theorem dX11_givesWay_66 : decode cX11_givesWay 66 = .ok (.iload_n 3, 1) := by decide +kernel
theorem dX11_givesWay_67 : decode cX11_givesWay 67 = .ok (.iadd, 1) := by decide +kernel
theorem dX11_givesWay_68 : decode cX11_givesWay 68 = .ok (.iaload, 1) := by decide +kernel
theorem dX11_givesWay_69 : decode cX11_givesWay 69 = .ok (.invokevirtual 442, 3) := by decide +kernel
theorem dX11_givesWay_72 : decode cX11_givesWay 72 = .ok (.if_icmp .ge 7, 3) := by decide +kernel
theorem dX11_givesWay_75 : decode cX11_givesWay 75 = .ok (.iconst 1, 1) := by decide +kernel
theorem dX11_givesWay_76 : decode cX11_givesWay 76 = .ok (.goto 4, 3) := by decide +kernel
theorem dX11_givesWay_79 : decode cX11_givesWay 79 = .ok (.iconst 0, 1) := by decide +kernel
theorem dX11_givesWay_80 : decode cX11_givesWay 80 = .ok (.ireturn, 1) := by decide +kernel
theorem dX11_firstAhead_0 : decode cX11_firstAhead 0 = .ok (.iconst 0, 1) := by decide +kernel
theorem dX11_firstAhead_1 : decode cX11_firstAhead 1 = .ok (.istore_n 2, 1) := by decide +kernel
theorem dX11_firstAhead_2 : decode cX11_firstAhead 2 = .ok (.iload_n 2, 1) := by decide +kernel
theorem dX11_firstAhead_3 : decode cX11_firstAhead 3 = .ok (.bipush 6, 2) := by decide +kernel
theorem dX11_firstAhead_5 : decode cX11_firstAhead 5 = .ok (.if_icmp .ge 25, 3) := by decide +kernel
theorem dX11_firstAhead_8 : decode cX11_firstAhead 8 = .ok (.iload_n 2, 1) := by decide +kernel
theorem dX11_firstAhead_9 : decode cX11_firstAhead 9 = .ok (.iload_n 1, 1) := by decide +kernel
theorem dX11_firstAhead_10 : decode cX11_firstAhead 10 = .ok (.if_icmp .eq 14, 3) := by decide +kernel
theorem dX11_firstAhead_13 : decode cX11_firstAhead 13 = .ok (.aload_n 0, 1) := by decide +kernel
theorem dX11_firstAhead_14 : decode cX11_firstAhead 14 = .ok (.iload_n 1, 1) := by decide +kernel
theorem dX11_firstAhead_15 : decode cX11_firstAhead 15 = .ok (.iload_n 2, 1) := by decide +kernel
theorem dX11_firstAhead_16 : decode cX11_firstAhead 16 = .ok (.invokevirtual 451, 3) := by decide +kernel
theorem dX11_firstAhead_19 : decode cX11_firstAhead 19 = .ok (.ifCond .eq 5, 3) := by decide +kernel
theorem dX11_firstAhead_22 : decode cX11_firstAhead 22 = .ok (.iload_n 2, 1) := by decide +kernel
theorem dX11_firstAhead_23 : decode cX11_firstAhead 23 = .ok (.ireturn, 1) := by decide +kernel
theorem dX11_firstAhead_24 : decode cX11_firstAhead 24 = .ok (.iinc 2 1, 3) := by decide +kernel
theorem dX11_firstAhead_27 : decode cX11_firstAhead 27 = .ok (.goto (-25), 3) := by decide +kernel
theorem dX11_firstAhead_30 : decode cX11_firstAhead 30 = .ok (.iconst (-1), 1) := by decide +kernel
theorem dX11_firstAhead_31 : decode cX11_firstAhead 31 = .ok (.ireturn, 1) := by decide +kernel
theorem dX11_findsHis_0 : decode cX11_findsHis 0 = .ok (.aload_n 0, 1) := by decide +kernel
theorem dX11_findsHis_1 : decode cX11_findsHis 1 = .ok (.iconst 0, 1) := by decide +kernel
theorem dX11_findsHis_2 : decode cX11_findsHis 2 = .ok (.putfield 445, 3) := by decide +kernel
theorem dX11_findsHis_5 : decode cX11_findsHis 5 = .ok (.iconst 0, 1) := by decide +kernel
theorem dX11_findsHis_6 : decode cX11_findsHis 6 = .ok (.istore_n 1, 1) := by decide +kernel
theorem dX11_findsHis_7 : decode cX11_findsHis 7 = .ok (.iload_n 1, 1) := by decide +kernel
theorem dX11_findsHis_8 : decode cX11_findsHis 8 = .ok (.bipush 6, 2) := by decide +kernel
theorem dX11_findsHis_10 : decode cX11_findsHis 10 = .ok (.if_icmp .ge 33, 3) := by decide +kernel
theorem dX11_findsHis_13 : decode cX11_findsHis 13 = .ok (.aload_n 0, 1) := by decide +kernel
theorem dX11_findsHis_14 : decode cX11_findsHis 14 = .ok (.dup, 1) := by decide +kernel
theorem dX11_findsHis_15 : decode cX11_findsHis 15 = .ok (.getfield 445, 3) := by decide +kernel
theorem dX11_findsHis_18 : decode cX11_findsHis 18 = .ok (.aload_n 0, 1) := by decide +kernel
theorem dX11_findsHis_19 : decode cX11_findsHis 19 = .ok (.iload_n 1, 1) := by decide +kernel
theorem dX11_findsHis_20 : decode cX11_findsHis 20 = .ok (.invokevirtual 454, 3) := by decide +kernel
theorem dX11_findsHis_23 : decode cX11_findsHis 23 = .ok (.ifCond .eq 9, 3) := by decide +kernel
theorem dX11_findsHis_26 : decode cX11_findsHis 26 = .ok (.iconst 1, 1) := by decide +kernel
theorem dX11_findsHis_27 : decode cX11_findsHis 27 = .ok (.iload_n 1, 1) := by decide +kernel
theorem dX11_findsHis_28 : decode cX11_findsHis 28 = .ok (.ishl, 1) := by decide +kernel
theorem dX11_findsHis_29 : decode cX11_findsHis 29 = .ok (.goto 4, 3) := by decide +kernel
theorem dX11_findsHis_32 : decode cX11_findsHis 32 = .ok (.iconst 0, 1) := by decide +kernel
theorem dX11_findsHis_33 : decode cX11_findsHis 33 = .ok (.ior, 1) := by decide +kernel
theorem dX11_findsHis_34 : decode cX11_findsHis 34 = .ok (.putfield 445, 3) := by decide +kernel
theorem dX11_findsHis_37 : decode cX11_findsHis 37 = .ok (.iinc 1 1, 3) := by decide +kernel
theorem dX11_findsHis_40 : decode cX11_findsHis 40 = .ok (.goto (-33), 3) := by decide +kernel
theorem dX11_findsHis_43 : decode cX11_findsHis 43 = .ok (.aload_n 0, 1) := by decide +kernel
theorem dX11_findsHis_44 : decode cX11_findsHis 44 = .ok (.iconst 0, 1) := by decide +kernel
theorem dX11_findsHis_45 : decode cX11_findsHis 45 = .ok (.putfield 457, 3) := by decide +kernel
theorem dX11_findsHis_48 : decode cX11_findsHis 48 = .ok (.iconst 0, 1) := by decide +kernel
theorem dX11_findsHis_49 : decode cX11_findsHis 49 = .ok (.istore_n 1, 1) := by decide +kernel
theorem dX11_findsHis_50 : decode cX11_findsHis 50 = .ok (.iload_n 1, 1) := by decide +kernel
theorem dX11_findsHis_51 : decode cX11_findsHis 51 = .ok (.bipush 6, 2) := by decide +kernel
theorem dX11_findsHis_53 : decode cX11_findsHis 53 = .ok (.if_icmp .ge 46, 3) := by decide +kernel
theorem dX11_findsHis_56 : decode cX11_findsHis 56 = .ok (.aload_n 0, 1) := by decide +kernel
theorem dX11_findsHis_57 : decode cX11_findsHis 57 = .ok (.dup, 1) := by decide +kernel
theorem dX11_findsHis_58 : decode cX11_findsHis 58 = .ok (.getfield 457, 3) := by decide +kernel
theorem dX11_findsHis_61 : decode cX11_findsHis 61 = .ok (.aload_n 0, 1) := by decide +kernel
theorem dX11_findsHis_62 : decode cX11_findsHis 62 = .ok (.getfield 445, 3) := by decide +kernel
theorem dX11_findsHis_65 : decode cX11_findsHis 65 = .ok (.iload_n 1, 1) := by decide +kernel
theorem dX11_findsHis_66 : decode cX11_findsHis 66 = .ok (.ishr, 1) := by decide +kernel
theorem dX11_findsHis_67 : decode cX11_findsHis 67 = .ok (.iconst 1, 1) := by decide +kernel
theorem dX11_findsHis_68 : decode cX11_findsHis 68 = .ok (.iand, 1) := by decide +kernel
theorem dX11_findsHis_69 : decode cX11_findsHis 69 = .ok (.iconst 1, 1) := by decide +kernel
theorem dX11_findsHis_70 : decode cX11_findsHis 70 = .ok (.if_icmp .ne 18, 3) := by decide +kernel
theorem dX11_findsHis_73 : decode cX11_findsHis 73 = .ok (.aload_n 0, 1) := by decide +kernel
theorem dX11_findsHis_74 : decode cX11_findsHis 74 = .ok (.iload_n 1, 1) := by decide +kernel
theorem dX11_findsHis_75 : decode cX11_findsHis 75 = .ok (.invokevirtual 460, 3) := by decide +kernel
theorem dX11_findsHis_78 : decode cX11_findsHis 78 = .ok (.iconst (-1), 1) := by decide +kernel
theorem dX11_findsHis_79 : decode cX11_findsHis 79 = .ok (.if_icmp .ne 9, 3) := by decide +kernel
theorem dX11_findsHis_82 : decode cX11_findsHis 82 = .ok (.iconst 1, 1) := by decide +kernel
theorem dX11_findsHis_83 : decode cX11_findsHis 83 = .ok (.iload_n 1, 1) := by decide +kernel
theorem dX11_findsHis_84 : decode cX11_findsHis 84 = .ok (.ishl, 1) := by decide +kernel
theorem dX11_findsHis_85 : decode cX11_findsHis 85 = .ok (.goto 4, 3) := by decide +kernel
theorem dX11_findsHis_88 : decode cX11_findsHis 88 = .ok (.iconst 0, 1) := by decide +kernel
theorem dX11_findsHis_89 : decode cX11_findsHis 89 = .ok (.ior, 1) := by decide +kernel
theorem dX11_findsHis_90 : decode cX11_findsHis 90 = .ok (.putfield 457, 3) := by decide +kernel
theorem dX11_findsHis_93 : decode cX11_findsHis 93 = .ok (.iinc 1 1, 3) := by decide +kernel
theorem dX11_findsHis_96 : decode cX11_findsHis 96 = .ok (.goto (-46), 3) := by decide +kernel
theorem dX11_findsHis_99 : decode cX11_findsHis 99 = .ok (.return_, 1) := by decide +kernel
theorem dX11_of_0 : decode cX11_of 0 = .ok (.iload_n 1, 1) := by decide +kernel
theorem dX11_of_1 : decode cX11_of 1 = .ok (.invokestatic 207, 3) := by decide +kernel
theorem dX11_of_4 : decode cX11_of 4 = .ok (.ifCond .eq 10, 3) := by decide +kernel
theorem dX11_of_7 : decode cX11_of 7 = .ok (.iload_n 2, 1) := by decide +kernel
theorem dX11_of_8 : decode cX11_of 8 = .ok (.invokestatic 211, 3) := by decide +kernel
theorem dX11_of_11 : decode cX11_of 11 = .ok (.ifCond .ne 5, 3) := by decide +kernel
theorem dX11_of_14 : decode cX11_of 14 = .ok (.iconst (-1), 1) := by decide +kernel
theorem dX11_of_15 : decode cX11_of 15 = .ok (.ireturn, 1) := by decide +kernel
theorem dX11_of_16 : decode cX11_of 16 = .ok (.aload_n 0, 1) := by decide +kernel
theorem dX11_of_17 : decode cX11_of 17 = .ok (.iload_n 1, 1) := by decide +kernel
theorem dX11_of_18 : decode cX11_of 18 = .ok (.invokevirtual 463, 3) := by decide +kernel
theorem dX11_of_21 : decode cX11_of 21 = .ok (.aload_n 0, 1) := by decide +kernel
theorem dX11_of_22 : decode cX11_of 22 = .ok (.invokevirtual 466, 3) := by decide +kernel
theorem dX11_of_25 : decode cX11_of 25 = .ok (.aload_n 0, 1) := by decide +kernel
theorem dX11_of_26 : decode cX11_of 26 = .ok (.iload_n 2, 1) := by decide +kernel
theorem dX11_of_27 : decode cX11_of 27 = .ok (.invokevirtual 432, 3) := by decide +kernel
theorem dX11_of_30 : decode cX11_of 30 = .ok (.iload_n 3, 1) := by decide +kernel
theorem dX11_of_31 : decode cX11_of 31 = .ok (.tableswitch 104 0 7 #[45, 52, 59, 66, 73, 80, 89, 98], 45) := by decide +kernel
theorem dX11_of_76 : decode cX11_of 76 = .ok (.aload_n 0, 1) := by decide +kernel
theorem dX11_of_77 : decode cX11_of 77 = .ok (.getfield 111, 3) := by decide +kernel
theorem dX11_of_80 : decode cX11_of 80 = .ok (.iconst 1, 1) := by decide +kernel
theorem dX11_of_81 : decode cX11_of 81 = .ok (.iaload, 1) := by decide +kernel
theorem dX11_of_82 : decode cX11_of 82 = .ok (.ireturn, 1) := by decide +kernel
theorem dX11_of_83 : decode cX11_of 83 = .ok (.aload_n 0, 1) := by decide +kernel
theorem dX11_of_84 : decode cX11_of 84 = .ok (.getfield 111, 3) := by decide +kernel
theorem dX11_of_87 : decode cX11_of 87 = .ok (.iconst 2, 1) := by decide +kernel
theorem dX11_of_88 : decode cX11_of 88 = .ok (.iaload, 1) := by decide +kernel
theorem dX11_of_89 : decode cX11_of 89 = .ok (.ireturn, 1) := by decide +kernel
theorem dX11_of_90 : decode cX11_of 90 = .ok (.aload_n 0, 1) := by decide +kernel
theorem dX11_of_91 : decode cX11_of 91 = .ok (.getfield 111, 3) := by decide +kernel
theorem dX11_of_94 : decode cX11_of 94 = .ok (.iconst 3, 1) := by decide +kernel
theorem dX11_of_95 : decode cX11_of 95 = .ok (.iaload, 1) := by decide +kernel
theorem dX11_of_96 : decode cX11_of 96 = .ok (.ireturn, 1) := by decide +kernel
theorem dX11_of_97 : decode cX11_of 97 = .ok (.aload_n 0, 1) := by decide +kernel
theorem dX11_of_98 : decode cX11_of 98 = .ok (.getfield 111, 3) := by decide +kernel
theorem dX11_of_101 : decode cX11_of 101 = .ok (.iconst 4, 1) := by decide +kernel
theorem dX11_of_102 : decode cX11_of 102 = .ok (.iaload, 1) := by decide +kernel
theorem dX11_of_103 : decode cX11_of 103 = .ok (.ireturn, 1) := by decide +kernel
theorem dX11_of_104 : decode cX11_of 104 = .ok (.aload_n 0, 1) := by decide +kernel
theorem dX11_of_105 : decode cX11_of 105 = .ok (.getfield 111, 3) := by decide +kernel
theorem dX11_of_108 : decode cX11_of 108 = .ok (.iconst 5, 1) := by decide +kernel
theorem dX11_of_109 : decode cX11_of 109 = .ok (.iaload, 1) := by decide +kernel
theorem dX11_of_110 : decode cX11_of 110 = .ok (.ireturn, 1) := by decide +kernel
theorem dX11_of_111 : decode cX11_of 111 = .ok (.aload_n 0, 1) := by decide +kernel
theorem dX11_of_112 : decode cX11_of 112 = .ok (.getfield 445, 3) := by decide +kernel
theorem dX11_of_115 : decode cX11_of 115 = .ok (.iload_n 2, 1) := by decide +kernel
theorem dX11_of_116 : decode cX11_of 116 = .ok (.ishr, 1) := by decide +kernel
theorem dX11_of_117 : decode cX11_of 117 = .ok (.iconst 1, 1) := by decide +kernel
theorem dX11_of_118 : decode cX11_of 118 = .ok (.iand, 1) := by decide +kernel
theorem dX11_of_119 : decode cX11_of 119 = .ok (.ireturn, 1) := by decide +kernel
theorem dX11_of_120 : decode cX11_of 120 = .ok (.aload_n 0, 1) := by decide +kernel
theorem dX11_of_121 : decode cX11_of 121 = .ok (.getfield 457, 3) := by decide +kernel
theorem dX11_of_124 : decode cX11_of 124 = .ok (.iload_n 2, 1) := by decide +kernel
theorem dX11_of_125 : decode cX11_of 125 = .ok (.ishr, 1) := by decide +kernel
theorem dX11_of_126 : decode cX11_of 126 = .ok (.iconst 1, 1) := by decide +kernel
theorem dX11_of_127 : decode cX11_of 127 = .ok (.iand, 1) := by decide +kernel
theorem dX11_of_128 : decode cX11_of 128 = .ok (.ireturn, 1) := by decide +kernel
theorem dX11_of_129 : decode cX11_of 129 = .ok (.aload_n 0, 1) := by decide +kernel
theorem dX11_of_130 : decode cX11_of 130 = .ok (.iload_n 2, 1) := by decide +kernel
theorem dX11_of_131 : decode cX11_of 131 = .ok (.invokevirtual 460, 3) := by decide +kernel
theorem dX11_of_134 : decode cX11_of 134 = .ok (.ireturn, 1) := by decide +kernel
theorem dX11_of_135 : decode cX11_of 135 = .ok (.iconst (-1), 1) := by decide +kernel
theorem dX11_of_136 : decode cX11_of 136 = .ok (.ireturn, 1) := by decide +kernel
theorem dX11_decides_0 : decode cX11_decides 0 = .ok (.iload_n 1, 1) := by decide +kernel
theorem dX11_decides_1 : decode cX11_decides 1 = .ok (.invokestatic 207, 3) := by decide +kernel
theorem dX11_decides_4 : decode cX11_decides 4 = .ok (.ifCond .eq 22, 3) := by decide +kernel
theorem dX11_decides_7 : decode cX11_decides 7 = .ok (.iload_n 2, 1) := by decide +kernel
theorem dX11_decides_8 : decode cX11_decides 8 = .ok (.invokestatic 211, 3) := by decide +kernel
theorem dX11_decides_11 : decode cX11_decides 11 = .ok (.ifCond .eq 15, 3) := by decide +kernel
theorem dX11_decides_14 : decode cX11_decides 14 = .ok (.iload_n 3, 1) := by decide +kernel
theorem dX11_decides_15 : decode cX11_decides 15 = .ok (.invokestatic 211, 3) := by decide +kernel
theorem dX11_decides_18 : decode cX11_decides 18 = .ok (.ifCond .eq 8, 3) := by decide +kernel
theorem dX11_decides_21 : decode cX11_decides 21 = .ok (.iload_n 2, 1) := by decide +kernel
theorem dX11_decides_22 : decode cX11_decides 22 = .ok (.iload_n 3, 1) := by decide +kernel
theorem dX11_decides_23 : decode cX11_decides 23 = .ok (.if_icmp .ne 5, 3) := by decide +kernel
theorem dX11_decides_26 : decode cX11_decides 26 = .ok (.iconst (-1), 1) := by decide +kernel
theorem dX11_decides_27 : decode cX11_decides 27 = .ok (.ireturn, 1) := by decide +kernel
theorem dX11_decides_28 : decode cX11_decides 28 = .ok (.aload_n 0, 1) := by decide +kernel
theorem dX11_decides_29 : decode cX11_decides 29 = .ok (.iload_n 1, 1) := by decide +kernel
theorem dX11_decides_30 : decode cX11_decides 30 = .ok (.invokevirtual 463, 3) := by decide +kernel
theorem dX11_decides_33 : decode cX11_decides 33 = .ok (.aload_n 0, 1) := by decide +kernel
theorem dX11_decides_34 : decode cX11_decides 34 = .ok (.invokevirtual 466, 3) := by decide +kernel
theorem dX11_decides_37 : decode cX11_decides 37 = .ok (.aload_n 0, 1) := by decide +kernel
theorem dX11_decides_38 : decode cX11_decides 38 = .ok (.getfield 445, 3) := by decide +kernel
theorem dX11_decides_41 : decode cX11_decides 41 = .ok (.iload_n 2, 1) := by decide +kernel
theorem dX11_decides_42 : decode cX11_decides 42 = .ok (.ishr, 1) := by decide +kernel
theorem dX11_decides_43 : decode cX11_decides 43 = .ok (.aload_n 0, 1) := by decide +kernel
theorem dX11_decides_44 : decode cX11_decides 44 = .ok (.getfield 445, 3) := by decide +kernel
theorem dX11_decides_47 : decode cX11_decides 47 = .ok (.iload_n 3, 1) := by decide +kernel
theorem dX11_decides_48 : decode cX11_decides 48 = .ok (.ishr, 1) := by decide +kernel
theorem dX11_decides_49 : decode cX11_decides 49 = .ok (.iand, 1) := by decide +kernel
theorem dX11_decides_50 : decode cX11_decides 50 = .ok (.iconst 1, 1) := by decide +kernel
theorem dX11_decides_51 : decode cX11_decides 51 = .ok (.iand, 1) := by decide +kernel
theorem dX11_decides_52 : decode cX11_decides 52 = .ok (.iconst 1, 1) := by decide +kernel
theorem dX11_decides_53 : decode cX11_decides 53 = .ok (.if_icmp .ne 12, 3) := by decide +kernel
theorem dX11_decides_56 : decode cX11_decides 56 = .ok (.aload_n 0, 1) := by decide +kernel
theorem dX11_decides_57 : decode cX11_decides 57 = .ok (.iload_n 2, 1) := by decide +kernel
theorem dX11_decides_58 : decode cX11_decides 58 = .ok (.iload_n 3, 1) := by decide +kernel
theorem dX11_decides_59 : decode cX11_decides 59 = .ok (.invokevirtual 448, 3) := by decide +kernel
theorem dX11_decides_62 : decode cX11_decides 62 = .ok (.goto 4, 3) := by decide +kernel
theorem dX11_decides_65 : decode cX11_decides 65 = .ok (.iconst (-1), 1) := by decide +kernel
theorem dX11_decides_66 : decode cX11_decides 66 = .ok (.ireturn, 1) := by decide +kernel
theorem dX11_taxOf_0 : decode cX11_taxOf 0 = .ok (.iload_n 2, 1) := by decide +kernel
theorem dX11_taxOf_1 : decode cX11_taxOf 1 = .ok (.aload_n 0, 1) := by decide +kernel
theorem dX11_taxOf_2 : decode cX11_taxOf 2 = .ok (.getfield 62, 3) := by decide +kernel
theorem dX11_taxOf_5 : decode cX11_taxOf 5 = .ok (.iload_n 1, 1) := by decide +kernel
theorem dX11_taxOf_6 : decode cX11_taxOf 6 = .ok (.iaload, 1) := by decide +kernel
theorem dX11_taxOf_7 : decode cX11_taxOf 7 = .ok (.isub, 1) := by decide +kernel
theorem dX11_taxOf_8 : decode cX11_taxOf 8 = .ok (.istore_n 3, 1) := by decide +kernel
theorem dX11_taxOf_9 : decode cX11_taxOf 9 = .ok (.lconst 0, 1) := by decide +kernel
theorem dX11_taxOf_10 : decode cX11_taxOf 10 = .ok (.lstore 4, 2) := by decide +kernel
theorem dX11_taxOf_12 : decode cX11_taxOf 12 = .ok (.iconst 0, 1) := by decide +kernel
theorem dX11_taxOf_13 : decode cX11_taxOf 13 = .ok (.istore 6, 2) := by decide +kernel
theorem dX11_taxOf_15 : decode cX11_taxOf 15 = .ok (.iload 6, 2) := by decide +kernel
theorem dX11_taxOf_17 : decode cX11_taxOf 17 = .ok (.aload_n 0, 1) := by decide +kernel
theorem dX11_taxOf_18 : decode cX11_taxOf 18 = .ok (.getfield 65, 3) := by decide +kernel
theorem dX11_taxOf_21 : decode cX11_taxOf 21 = .ok (.iload_n 1, 1) := by decide +kernel
theorem dX11_taxOf_22 : decode cX11_taxOf 22 = .ok (.iaload, 1) := by decide +kernel
theorem dX11_taxOf_23 : decode cX11_taxOf 23 = .ok (.if_icmp .ge 96, 3) := by decide +kernel
theorem dX11_taxOf_26 : decode cX11_taxOf 26 = .ok (.bipush 20, 2) := by decide +kernel
theorem dX11_taxOf_28 : decode cX11_taxOf 28 = .ok (.iload_n 1, 1) := by decide +kernel
theorem dX11_taxOf_29 : decode cX11_taxOf 29 = .ok (.imul, 1) := by decide +kernel
theorem dX11_taxOf_30 : decode cX11_taxOf 30 = .ok (.iload 6, 2) := by decide +kernel
theorem dX11_taxOf_32 : decode cX11_taxOf 32 = .ok (.iadd, 1) := by decide +kernel
theorem dX11_taxOf_33 : decode cX11_taxOf 33 = .ok (.istore 7, 2) := by decide +kernel
theorem dX11_taxOf_35 : decode cX11_taxOf 35 = .ok (.iload 6, 2) := by decide +kernel
theorem dX11_taxOf_37 : decode cX11_taxOf 37 = .ok (.iconst 1, 1) := by decide +kernel
theorem dX11_taxOf_38 : decode cX11_taxOf 38 = .ok (.iadd, 1) := by decide +kernel
theorem dX11_taxOf_39 : decode cX11_taxOf 39 = .ok (.aload_n 0, 1) := by decide +kernel
theorem dX11_taxOf_40 : decode cX11_taxOf 40 = .ok (.getfield 65, 3) := by decide +kernel
theorem dX11_taxOf_43 : decode cX11_taxOf 43 = .ok (.iload_n 1, 1) := by decide +kernel
theorem dX11_taxOf_44 : decode cX11_taxOf 44 = .ok (.iaload, 1) := by decide +kernel
theorem dX11_taxOf_45 : decode cX11_taxOf 45 = .ok (.if_icmp .ge 28, 3) := by decide +kernel
theorem dX11_taxOf_48 : decode cX11_taxOf 48 = .ok (.aload_n 0, 1) := by decide +kernel
theorem dX11_taxOf_49 : decode cX11_taxOf 49 = .ok (.getfield 68, 3) := by decide +kernel
theorem dX11_taxOf_52 : decode cX11_taxOf 52 = .ok (.iload 7, 2) := by decide +kernel
theorem dX11_taxOf_54 : decode cX11_taxOf 54 = .ok (.iconst 1, 1) := by decide +kernel
theorem dX11_taxOf_55 : decode cX11_taxOf 55 = .ok (.iadd, 1) := by decide +kernel
theorem dX11_taxOf_56 : decode cX11_taxOf 56 = .ok (.iaload, 1) := by decide +kernel
theorem dX11_taxOf_57 : decode cX11_taxOf 57 = .ok (.iload_n 3, 1) := by decide +kernel
theorem dX11_taxOf_58 : decode cX11_taxOf 58 = .ok (.if_icmp .ge 15, 3) := by decide +kernel
theorem dX11_taxOf_61 : decode cX11_taxOf 61 = .ok (.aload_n 0, 1) := by decide +kernel
theorem dX11_taxOf_62 : decode cX11_taxOf 62 = .ok (.getfield 68, 3) := by decide +kernel
theorem dX11_taxOf_65 : decode cX11_taxOf 65 = .ok (.iload 7, 2) := by decide +kernel
theorem dX11_taxOf_67 : decode cX11_taxOf 67 = .ok (.iconst 1, 1) := by decide +kernel
theorem dX11_taxOf_68 : decode cX11_taxOf 68 = .ok (.iadd, 1) := by decide +kernel
theorem dX11_taxOf_69 : decode cX11_taxOf 69 = .ok (.iaload, 1) := by decide +kernel
theorem dX11_taxOf_70 : decode cX11_taxOf 70 = .ok (.goto 4, 3) := by decide +kernel
theorem dX11_taxOf_73 : decode cX11_taxOf 73 = .ok (.iload_n 3, 1) := by decide +kernel
theorem dX11_taxOf_74 : decode cX11_taxOf 74 = .ok (.istore 8, 2) := by decide +kernel
theorem dX11_taxOf_76 : decode cX11_taxOf 76 = .ok (.iload 8, 2) := by decide +kernel
theorem dX11_taxOf_78 : decode cX11_taxOf 78 = .ok (.aload_n 0, 1) := by decide +kernel
theorem dX11_taxOf_79 : decode cX11_taxOf 79 = .ok (.getfield 68, 3) := by decide +kernel
theorem dX11_taxOf_82 : decode cX11_taxOf 82 = .ok (.iload 7, 2) := by decide +kernel
theorem dX11_taxOf_84 : decode cX11_taxOf 84 = .ok (.iaload, 1) := by decide +kernel
theorem dX11_taxOf_85 : decode cX11_taxOf 85 = .ok (.if_icmp .le 28, 3) := by decide +kernel
theorem dX11_taxOf_88 : decode cX11_taxOf 88 = .ok (.lload 4, 2) := by decide +kernel
theorem dX11_taxOf_90 : decode cX11_taxOf 90 = .ok (.iload 8, 2) := by decide +kernel
theorem dX11_taxOf_92 : decode cX11_taxOf 92 = .ok (.aload_n 0, 1) := by decide +kernel
theorem dX11_taxOf_93 : decode cX11_taxOf 93 = .ok (.getfield 68, 3) := by decide +kernel
theorem dX11_taxOf_96 : decode cX11_taxOf 96 = .ok (.iload 7, 2) := by decide +kernel
theorem dX11_taxOf_98 : decode cX11_taxOf 98 = .ok (.iaload, 1) := by decide +kernel
theorem dX11_taxOf_99 : decode cX11_taxOf 99 = .ok (.isub, 1) := by decide +kernel
theorem dX11_taxOf_100 : decode cX11_taxOf 100 = .ok (.i2l, 1) := by decide +kernel
theorem dX11_taxOf_101 : decode cX11_taxOf 101 = .ok (.aload_n 0, 1) := by decide +kernel
theorem dX11_taxOf_102 : decode cX11_taxOf 102 = .ok (.getfield 71, 3) := by decide +kernel
theorem dX11_taxOf_105 : decode cX11_taxOf 105 = .ok (.iload 7, 2) := by decide +kernel
theorem dX11_taxOf_107 : decode cX11_taxOf 107 = .ok (.iaload, 1) := by decide +kernel
theorem dX11_taxOf_108 : decode cX11_taxOf 108 = .ok (.i2l, 1) := by decide +kernel
theorem dX11_taxOf_109 : decode cX11_taxOf 109 = .ok (.lmul, 1) := by decide +kernel
theorem dX11_taxOf_110 : decode cX11_taxOf 110 = .ok (.ladd, 1) := by decide +kernel
theorem dX11_taxOf_111 : decode cX11_taxOf 111 = .ok (.lstore 4, 2) := by decide +kernel
theorem dX11_taxOf_113 : decode cX11_taxOf 113 = .ok (.iinc 6 1, 3) := by decide +kernel
theorem dX11_taxOf_116 : decode cX11_taxOf 116 = .ok (.goto (-101), 3) := by decide +kernel
theorem dX11_taxOf_119 : decode cX11_taxOf 119 = .ok (.lload 4, 2) := by decide +kernel
theorem dX11_taxOf_121 : decode cX11_taxOf 121 = .ok (.lreturn, 1) := by decide +kernel
theorem dX11_tax_0 : decode cX11_tax 0 = .ok (.iload_n 1, 1) := by decide +kernel
theorem dX11_tax_1 : decode cX11_tax 1 = .ok (.invokestatic 211, 3) := by decide +kernel
theorem dX11_tax_4 : decode cX11_tax 4 = .ok (.ifCond .eq 23, 3) := by decide +kernel
theorem dX11_tax_7 : decode cX11_tax 7 = .ok (.iload_n 2, 1) := by decide +kernel
theorem dX11_tax_8 : decode cX11_tax 8 = .ok (.iconst 0, 1) := by decide +kernel
theorem dX11_tax_9 : decode cX11_tax 9 = .ok (.ldc_w 469, 3) := by decide +kernel
theorem dX11_tax_12 : decode cX11_tax 12 = .ok (.invokestatic 1, 3) := by decide +kernel
theorem dX11_tax_15 : decode cX11_tax 15 = .ok (.ifCond .eq 12, 3) := by decide +kernel
theorem dX11_tax_18 : decode cX11_tax 18 = .ok (.aload_n 0, 1) := by decide +kernel
theorem dX11_tax_19 : decode cX11_tax 19 = .ok (.iload_n 1, 1) := by decide +kernel
theorem dX11_tax_20 : decode cX11_tax 20 = .ok (.iload_n 2, 1) := by decide +kernel
theorem dX11_tax_21 : decode cX11_tax 21 = .ok (.invokevirtual 470, 3) := by decide +kernel
theorem dX11_tax_24 : decode cX11_tax 24 = .ok (.goto 6, 3) := by decide +kernel
theorem dX11_tax_27 : decode cX11_tax 27 = .ok (.ldc2_w 474, 3) := by decide +kernel
theorem dX11_tax_30 : decode cX11_tax 30 = .ok (.lreturn, 1) := by decide +kernel
theorem dX11_reliefWith_0 : decode cX11_reliefWith 0 = .ok (.aload_n 0, 1) := by decide +kernel
theorem dX11_reliefWith_1 : decode cX11_reliefWith 1 = .ok (.getfield 146, 3) := by decide +kernel
theorem dX11_reliefWith_4 : decode cX11_reliefWith 4 = .ok (.iload_n 1, 1) := by decide +kernel
theorem dX11_reliefWith_5 : decode cX11_reliefWith 5 = .ok (.iload_n 2, 1) := by decide +kernel
theorem dX11_reliefWith_6 : decode cX11_reliefWith 6 = .ok (.invokestatic 438, 3) := by decide +kernel
theorem dX11_reliefWith_9 : decode cX11_reliefWith 9 = .ok (.iaload, 1) := by decide +kernel
theorem dX11_reliefWith_10 : decode cX11_reliefWith 10 = .ok (.istore_n 3, 1) := by decide +kernel
theorem dX11_reliefWith_11 : decode cX11_reliefWith 11 = .ok (.iload_n 3, 1) := by decide +kernel
theorem dX11_reliefWith_12 : decode cX11_reliefWith 12 = .ok (.iconst (-1), 1) := by decide +kernel
theorem dX11_reliefWith_13 : decode cX11_reliefWith 13 = .ok (.if_icmp .eq 7, 3) := by decide +kernel
theorem dX11_reliefWith_16 : decode cX11_reliefWith 16 = .ok (.iload_n 3, 1) := by decide +kernel
theorem dX11_reliefWith_17 : decode cX11_reliefWith 17 = .ok (.goto 9, 3) := by decide +kernel
theorem dX11_reliefWith_20 : decode cX11_reliefWith 20 = .ok (.aload_n 0, 1) := by decide +kernel
theorem dX11_reliefWith_21 : decode cX11_reliefWith 21 = .ok (.getfield 74, 3) := by decide +kernel
theorem dX11_reliefWith_24 : decode cX11_reliefWith 24 = .ok (.iload_n 1, 1) := by decide +kernel
theorem dX11_reliefWith_25 : decode cX11_reliefWith 25 = .ok (.iaload, 1) := by decide +kernel
theorem dX11_reliefWith_26 : decode cX11_reliefWith 26 = .ok (.ireturn, 1) := by decide +kernel
theorem dX11_seenAs_0 : decode cX11_seenAs 0 = .ok (.aload_n 0, 1) := by decide +kernel
theorem dX11_seenAs_1 : decode cX11_seenAs 1 = .ok (.getfield 125, 3) := by decide +kernel
theorem dX11_seenAs_4 : decode cX11_seenAs 4 = .ok (.iload_n 1, 1) := by decide +kernel
theorem dX11_seenAs_5 : decode cX11_seenAs 5 = .ok (.iaload, 1) := by decide +kernel
theorem dX11_seenAs_6 : decode cX11_seenAs 6 = .ok (.iconst 5, 1) := by decide +kernel
theorem dX11_seenAs_7 : decode cX11_seenAs 7 = .ok (.if_icmp .eq 10, 3) := by decide +kernel
theorem dX11_seenAs_10 : decode cX11_seenAs 10 = .ok (.aload_n 0, 1) := by decide +kernel
theorem dX11_seenAs_11 : decode cX11_seenAs 11 = .ok (.getfield 125, 3) := by decide +kernel
theorem dX11_seenAs_14 : decode cX11_seenAs 14 = .ok (.iload_n 1, 1) := by decide +kernel
theorem dX11_seenAs_15 : decode cX11_seenAs 15 = .ok (.iaload, 1) := by decide +kernel
theorem dX11_seenAs_16 : decode cX11_seenAs 16 = .ok (.ireturn, 1) := by decide +kernel
theorem dX11_seenAs_17 : decode cX11_seenAs 17 = .ok (.aload_n 0, 1) := by decide +kernel
theorem dX11_seenAs_18 : decode cX11_seenAs 18 = .ok (.getfield 457, 3) := by decide +kernel
theorem dX11_seenAs_21 : decode cX11_seenAs 21 = .ok (.iload_n 2, 1) := by decide +kernel
theorem dX11_seenAs_22 : decode cX11_seenAs 22 = .ok (.ishr, 1) := by decide +kernel
theorem dX11_seenAs_23 : decode cX11_seenAs 23 = .ok (.iconst 1, 1) := by decide +kernel
theorem dX11_seenAs_24 : decode cX11_seenAs 24 = .ok (.iand, 1) := by decide +kernel
theorem dX11_seenAs_25 : decode cX11_seenAs 25 = .ok (.iconst 1, 1) := by decide +kernel
theorem dX11_seenAs_26 : decode cX11_seenAs 26 = .ok (.if_icmp .ne 7, 3) := by decide +kernel
theorem dX11_seenAs_29 : decode cX11_seenAs 29 = .ok (.iconst 1, 1) := by decide +kernel
theorem dX11_seenAs_30 : decode cX11_seenAs 30 = .ok (.goto 4, 3) := by decide +kernel
theorem dX11_seenAs_33 : decode cX11_seenAs 33 = .ok (.iconst 0, 1) := by decide +kernel
theorem dX11_seenAs_34 : decode cX11_seenAs 34 = .ok (.istore_n 3, 1) := by decide +kernel
theorem dX11_seenAs_35 : decode cX11_seenAs 35 = .ok (.iconst 0, 1) := by decide +kernel
theorem dX11_seenAs_36 : decode cX11_seenAs 36 = .ok (.istore 4, 2) := by decide +kernel
theorem dX11_seenAs_38 : decode cX11_seenAs 38 = .ok (.iload 4, 2) := by decide +kernel
theorem dX11_seenAs_40 : decode cX11_seenAs 40 = .ok (.bipush 6, 2) := by decide +kernel
theorem dX11_seenAs_42 : decode cX11_seenAs 42 = .ok (.if_icmp .ge 53, 3) := by decide +kernel
theorem dX11_seenAs_45 : decode cX11_seenAs 45 = .ok (.iload 4, 2) := by decide +kernel
theorem dX11_seenAs_47 : decode cX11_seenAs 47 = .ok (.iload_n 2, 1) := by decide +kernel
theorem dX11_seenAs_48 : decode cX11_seenAs 48 = .ok (.if_icmp .eq 41, 3) := by decide +kernel
theorem dX11_seenAs_51 : decode cX11_seenAs 51 = .ok (.iload_n 3, 1) := by decide +kernel
theorem dX11_seenAs_52 : decode cX11_seenAs 52 = .ok (.ifCond .ne 16, 3) := by decide +kernel
theorem dX11_seenAs_55 : decode cX11_seenAs 55 = .ok (.aload_n 0, 1) := by decide +kernel
theorem dX11_seenAs_56 : decode cX11_seenAs 56 = .ok (.getfield 457, 3) := by decide +kernel
theorem dX11_seenAs_59 : decode cX11_seenAs 59 = .ok (.iload 4, 2) := by decide +kernel
theorem dX11_seenAs_61 : decode cX11_seenAs 61 = .ok (.ishr, 1) := by decide +kernel
theorem dX11_seenAs_62 : decode cX11_seenAs 62 = .ok (.iconst 1, 1) := by decide +kernel
theorem dX11_seenAs_63 : decode cX11_seenAs 63 = .ok (.iand, 1) := by decide +kernel
theorem dX11_seenAs_64 : decode cX11_seenAs 64 = .ok (.iconst 1, 1) := by decide +kernel
theorem dX11_seenAs_65 : decode cX11_seenAs 65 = .ok (.if_icmp .ne 24, 3) := by decide +kernel
theorem dX11_seenAs_68 : decode cX11_seenAs 68 = .ok (.aload_n 0, 1) := by decide +kernel
theorem dX11_seenAs_69 : decode cX11_seenAs 69 = .ok (.getfield 149, 3) := by decide +kernel
theorem dX11_seenAs_72 : decode cX11_seenAs 72 = .ok (.iload_n 2, 1) := by decide +kernel
theorem dX11_seenAs_73 : decode cX11_seenAs 73 = .ok (.iload 4, 2) := by decide +kernel
theorem dX11_seenAs_75 : decode cX11_seenAs 75 = .ok (.invokestatic 438, 3) := by decide +kernel
theorem dX11_seenAs_78 : decode cX11_seenAs 78 = .ok (.baload, 1) := by decide +kernel
theorem dX11_seenAs_79 : decode cX11_seenAs 79 = .ok (.ifCond .eq 10, 3) := by decide +kernel
theorem dX11_seenAs_82 : decode cX11_seenAs 82 = .ok (.aload_n 0, 1) := by decide +kernel
theorem dX11_seenAs_83 : decode cX11_seenAs 83 = .ok (.getfield 128, 3) := by decide +kernel
theorem dX11_seenAs_86 : decode cX11_seenAs 86 = .ok (.iload_n 1, 1) := by decide +kernel
theorem dX11_seenAs_87 : decode cX11_seenAs 87 = .ok (.iaload, 1) := by decide +kernel
theorem dX11_seenAs_88 : decode cX11_seenAs 88 = .ok (.ireturn, 1) := by decide +kernel
theorem dX11_seenAs_89 : decode cX11_seenAs 89 = .ok (.iinc 4 1, 3) := by decide +kernel
theorem dX11_seenAs_92 : decode cX11_seenAs 92 = .ok (.goto (-54), 3) := by decide +kernel
theorem dX11_seenAs_95 : decode cX11_seenAs 95 = .ok (.iconst 5, 1) := by decide +kernel
theorem dX11_seenAs_96 : decode cX11_seenAs 96 = .ok (.ireturn, 1) := by decide +kernel
theorem dX11_isFreed_0 : decode cX11_isFreed 0 = .ok (.aload_n 0, 1) := by decide +kernel
theorem dX11_isFreed_1 : decode cX11_isFreed 1 = .ok (.getfield 457, 3) := by decide +kernel
theorem dX11_isFreed_4 : decode cX11_isFreed 4 = .ok (.iload_n 2, 1) := by decide +kernel
theorem dX11_isFreed_5 : decode cX11_isFreed 5 = .ok (.ishr, 1) := by decide +kernel
theorem dX11_isFreed_6 : decode cX11_isFreed 6 = .ok (.iconst 1, 1) := by decide +kernel
theorem dX11_isFreed_7 : decode cX11_isFreed 7 = .ok (.iand, 1) := by decide +kernel
theorem dX11_isFreed_8 : decode cX11_isFreed 8 = .ok (.iconst 1, 1) := by decide +kernel
theorem dX11_isFreed_9 : decode cX11_isFreed 9 = .ok (.if_icmp .ne 32, 3) := by decide +kernel
theorem dX11_isFreed_12 : decode cX11_isFreed 12 = .ok (.aload_n 0, 1) := by decide +kernel
theorem dX11_isFreed_13 : decode cX11_isFreed 13 = .ok (.getfield 134, 3) := by decide +kernel
theorem dX11_isFreed_16 : decode cX11_isFreed 16 = .ok (.iload_n 1, 1) := by decide +kernel
theorem dX11_isFreed_17 : decode cX11_isFreed 17 = .ok (.iaload, 1) := by decide +kernel
theorem dX11_isFreed_18 : decode cX11_isFreed 18 = .ok (.iload_n 2, 1) := by decide +kernel
theorem dX11_isFreed_19 : decode cX11_isFreed 19 = .ok (.if_icmp .eq 22, 3) := by decide +kernel
theorem dX11_isFreed_22 : decode cX11_isFreed 22 = .ok (.aload_n 0, 1) := by decide +kernel
theorem dX11_isFreed_23 : decode cX11_isFreed 23 = .ok (.iload_n 2, 1) := by decide +kernel
theorem dX11_isFreed_24 : decode cX11_isFreed 24 = .ok (.aload_n 0, 1) := by decide +kernel
theorem dX11_isFreed_25 : decode cX11_isFreed 25 = .ok (.getfield 134, 3) := by decide +kernel
theorem dX11_isFreed_28 : decode cX11_isFreed 28 = .ok (.iload_n 1, 1) := by decide +kernel
theorem dX11_isFreed_29 : decode cX11_isFreed 29 = .ok (.iaload, 1) := by decide +kernel
theorem dX11_isFreed_30 : decode cX11_isFreed 30 = .ok (.invokevirtual 476, 3) := by decide +kernel
theorem dX11_isFreed_33 : decode cX11_isFreed 33 = .ok (.iconst 2, 1) := by decide +kernel
theorem dX11_isFreed_34 : decode cX11_isFreed 34 = .ok (.if_icmp .ne 7, 3) := by decide +kernel
theorem dX11_isFreed_37 : decode cX11_isFreed 37 = .ok (.iconst 1, 1) := by decide +kernel
theorem dX11_isFreed_38 : decode cX11_isFreed 38 = .ok (.goto 4, 3) := by decide +kernel
theorem dX11_isFreed_41 : decode cX11_isFreed 41 = .ok (.iconst 0, 1) := by decide +kernel
theorem dX11_isFreed_42 : decode cX11_isFreed 42 = .ok (.ireturn, 1) := by decide +kernel
theorem dX11_rate_0 : decode cX11_rate 0 = .ok (.iconst 0, 1) := by decide +kernel
theorem dX11_rate_1 : decode cX11_rate 1 = .ok (.istore_n 3, 1) := by decide +kernel
theorem dX11_rate_2 : decode cX11_rate 2 = .ok (.iload_n 3, 1) := by decide +kernel
theorem dX11_rate_3 : decode cX11_rate 3 = .ok (.aload_n 0, 1) := by decide +kernel
theorem dX11_rate_4 : decode cX11_rate 4 = .ok (.getfield 41, 3) := by decide +kernel
theorem dX11_rate_7 : decode cX11_rate 7 = .ok (.iload_n 1, 1) := by decide +kernel
theorem dX11_rate_8 : decode cX11_rate 8 = .ok (.iaload, 1) := by decide +kernel
theorem dX11_rate_9 : decode cX11_rate 9 = .ok (.if_icmp .ge 130, 3) := by decide +kernel
theorem dX11_rate_12 : decode cX11_rate 12 = .ok (.bipush 20, 2) := by decide +kernel
theorem dX11_rate_14 : decode cX11_rate 14 = .ok (.iload_n 1, 1) := by decide +kernel
theorem dX11_rate_15 : decode cX11_rate 15 = .ok (.imul, 1) := by decide +kernel
theorem dX11_rate_16 : decode cX11_rate 16 = .ok (.iload_n 3, 1) := by decide +kernel
theorem dX11_rate_17 : decode cX11_rate 17 = .ok (.iadd, 1) := by decide +kernel
theorem dX11_rate_18 : decode cX11_rate 18 = .ok (.istore 4, 2) := by decide +kernel
theorem dX11_rate_20 : decode cX11_rate 20 = .ok (.aload_n 0, 1) := by decide +kernel
theorem dX11_rate_21 : decode cX11_rate 21 = .ok (.getfield 44, 3) := by decide +kernel
theorem dX11_rate_24 : decode cX11_rate 24 = .ok (.iload 4, 2) := by decide +kernel
theorem dX11_rate_26 : decode cX11_rate 26 = .ok (.iaload, 1) := by decide +kernel
theorem dX11_rate_27 : decode cX11_rate 27 = .ok (.iconst 1, 1) := by decide +kernel
theorem dX11_rate_28 : decode cX11_rate 28 = .ok (.if_icmp .ne 105, 3) := by decide +kernel
theorem dX11_rate_31 : decode cX11_rate 31 = .ok (.aload_n 0, 1) := by decide +kernel
theorem dX11_rate_32 : decode cX11_rate 32 = .ok (.getfield 47, 3) := by decide +kernel
theorem dX11_rate_35 : decode cX11_rate 35 = .ok (.iload 4, 2) := by decide +kernel
theorem dX11_rate_37 : decode cX11_rate 37 = .ok (.iaload, 1) := by decide +kernel
theorem dX11_rate_38 : decode cX11_rate 38 = .ok (.iload_n 2, 1) := by decide +kernel
theorem dX11_rate_39 : decode cX11_rate 39 = .ok (.if_icmp .eq 6, 3) := by decide +kernel
theorem dX11_rate_42 : decode cX11_rate 42 = .ok (.goto 91, 3) := by decide +kernel
theorem dX11_rate_45 : decode cX11_rate 45 = .ok (.aload_n 0, 1) := by decide +kernel
theorem dX11_rate_46 : decode cX11_rate 46 = .ok (.getfield 56, 3) := by decide +kernel
theorem dX11_rate_49 : decode cX11_rate 49 = .ok (.iload 4, 2) := by decide +kernel
theorem dX11_rate_51 : decode cX11_rate 51 = .ok (.iaload, 1) := by decide +kernel
theorem dX11_rate_52 : decode cX11_rate 52 = .ok (.aload_n 0, 1) := by decide +kernel
theorem dX11_rate_53 : decode cX11_rate 53 = .ok (.getfield 53, 3) := by decide +kernel
theorem dX11_rate_56 : decode cX11_rate 56 = .ok (.iload 4, 2) := by decide +kernel
theorem dX11_rate_58 : decode cX11_rate 58 = .ok (.iaload, 1) := by decide +kernel
theorem dX11_rate_59 : decode cX11_rate 59 = .ok (.if_icmp .le 29, 3) := by decide +kernel
theorem dX11_rate_62 : decode cX11_rate 62 = .ok (.aload_n 0, 1) := by decide +kernel
theorem dX11_rate_63 : decode cX11_rate 63 = .ok (.iload_n 1, 1) := by decide +kernel
theorem dX11_rate_64 : decode cX11_rate 64 = .ok (.aload_n 0, 1) := by decide +kernel
theorem dX11_rate_65 : decode cX11_rate 65 = .ok (.getfield 53, 3) := by decide +kernel
theorem dX11_rate_68 : decode cX11_rate 68 = .ok (.iload 4, 2) := by decide +kernel
theorem dX11_rate_70 : decode cX11_rate 70 = .ok (.iaload, 1) := by decide +kernel
theorem dX11_rate_71 : decode cX11_rate 71 = .ok (.aload_n 0, 1) := by decide +kernel
theorem dX11_rate_72 : decode cX11_rate 72 = .ok (.getfield 56, 3) := by decide +kernel
theorem dX11_rate_75 : decode cX11_rate 75 = .ok (.iload 4, 2) := by decide +kernel
theorem dX11_rate_77 : decode cX11_rate 77 = .ok (.iaload, 1) := by decide +kernel
theorem dX11_rate_78 : decode cX11_rate 78 = .ok (.invokevirtual 435, 3) := by decide +kernel
theorem dX11_rate_81 : decode cX11_rate 81 = .ok (.iconst 1, 1) := by decide +kernel
theorem dX11_rate_82 : decode cX11_rate 82 = .ok (.if_icmp .eq 6, 3) := by decide +kernel
theorem dX11_rate_85 : decode cX11_rate 85 = .ok (.goto 48, 3) := by decide +kernel
theorem dX11_rate_88 : decode cX11_rate 88 = .ok (.aload_n 0, 1) := by decide +kernel
theorem dX11_rate_89 : decode cX11_rate 89 = .ok (.iload_n 1, 1) := by decide +kernel
theorem dX11_rate_90 : decode cX11_rate 90 = .ok (.aload_n 0, 1) := by decide +kernel
theorem dX11_rate_91 : decode cX11_rate 91 = .ok (.getfield 50, 3) := by decide +kernel
theorem dX11_rate_94 : decode cX11_rate 94 = .ok (.iload 4, 2) := by decide +kernel
theorem dX11_rate_96 : decode cX11_rate 96 = .ok (.iaload, 1) := by decide +kernel
theorem dX11_rate_97 : decode cX11_rate 97 = .ok (.aload_n 0, 1) := by decide +kernel
theorem dX11_rate_98 : decode cX11_rate 98 = .ok (.getfield 53, 3) := by decide +kernel
theorem dX11_rate_101 : decode cX11_rate 101 = .ok (.iload 4, 2) := by decide +kernel
theorem dX11_rate_103 : decode cX11_rate 103 = .ok (.iaload, 1) := by decide +kernel
theorem dX11_rate_104 : decode cX11_rate 104 = .ok (.invokevirtual 435, 3) := by decide +kernel
theorem dX11_rate_107 : decode cX11_rate 107 = .ok (.istore 5, 2) := by decide +kernel
theorem dX11_rate_109 : decode cX11_rate 109 = .ok (.iload 5, 2) := by decide +kernel
theorem dX11_rate_111 : decode cX11_rate 111 = .ok (.ifCond .ge 7, 3) := by decide +kernel
theorem dX11_rate_114 : decode cX11_rate 114 = .ok (.iconst 0, 1) := by decide +kernel
theorem dX11_rate_115 : decode cX11_rate 115 = .ok (.goto 17, 3) := by decide +kernel
theorem dX11_rate_118 : decode cX11_rate 118 = .ok (.iload 5, 2) := by decide +kernel
theorem dX11_rate_120 : decode cX11_rate 120 = .ok (.bipush 100, 2) := by decide +kernel
theorem dX11_rate_122 : decode cX11_rate 122 = .ok (.if_icmp .le 8, 3) := by decide +kernel
theorem dX11_rate_125 : decode cX11_rate 125 = .ok (.bipush 100, 2) := by decide +kernel
theorem dX11_rate_127 : decode cX11_rate 127 = .ok (.goto 5, 3) := by decide +kernel
theorem dX11_rate_130 : decode cX11_rate 130 = .ok (.iload 5, 2) := by decide +kernel
theorem dX11_rate_132 : decode cX11_rate 132 = .ok (.ireturn, 1) := by decide +kernel
theorem dX11_rate_133 : decode cX11_rate 133 = .ok (.iinc 3 1, 3) := by decide +kernel
theorem dX11_rate_136 : decode cX11_rate 136 = .ok (.goto (-134), 3) := by decide +kernel
theorem dX11_rate_139 : decode cX11_rate 139 = .ok (.iconst 0, 1) := by decide +kernel
theorem dX11_rate_140 : decode cX11_rate 140 = .ok (.ireturn, 1) := by decide +kernel
theorem dX11_bounded_0 : decode cX11_bounded 0 = .ok (.aload_n 0, 1) := by decide +kernel
theorem dX11_bounded_1 : decode cX11_bounded 1 = .ok (.getfield 140, 3) := by decide +kernel
theorem dX11_bounded_4 : decode cX11_bounded 4 = .ok (.iload_n 2, 1) := by decide +kernel
theorem dX11_bounded_5 : decode cX11_bounded 5 = .ok (.iaload, 1) := by decide +kernel
theorem dX11_bounded_6 : decode cX11_bounded 6 = .ok (.iload_n 3, 1) := by decide +kernel
theorem dX11_bounded_7 : decode cX11_bounded 7 = .ok (.ishr, 1) := by decide +kernel
theorem dX11_bounded_8 : decode cX11_bounded 8 = .ok (.iconst 1, 1) := by decide +kernel
theorem dX11_bounded_9 : decode cX11_bounded 9 = .ok (.iand, 1) := by decide +kernel
theorem dX11_bounded_10 : decode cX11_bounded 10 = .ok (.iconst 1, 1) := by decide +kernel
theorem dX11_bounded_11 : decode cX11_bounded 11 = .ok (.if_icmp .ne 5, 3) := by decide +kernel
theorem dX11_bounded_14 : decode cX11_bounded 14 = .ok (.iconst 0, 1) := by decide +kernel
theorem dX11_bounded_15 : decode cX11_bounded 15 = .ok (.ireturn, 1) := by decide +kernel
theorem dX11_bounded_16 : decode cX11_bounded 16 = .ok (.aload_n 0, 1) := by decide +kernel
theorem dX11_bounded_17 : decode cX11_bounded 17 = .ok (.getfield 143, 3) := by decide +kernel
theorem dX11_bounded_20 : decode cX11_bounded 20 = .ok (.bipush 6, 2) := by decide +kernel
theorem dX11_bounded_22 : decode cX11_bounded 22 = .ok (.iload_n 2, 1) := by decide +kernel
theorem dX11_bounded_23 : decode cX11_bounded 23 = .ok (.imul, 1) := by decide +kernel
theorem dX11_bounded_24 : decode cX11_bounded 24 = .ok (.iload_n 3, 1) := by decide +kernel
theorem dX11_bounded_25 : decode cX11_bounded 25 = .ok (.iadd, 1) := by decide +kernel
theorem dX11_bounded_26 : decode cX11_bounded 26 = .ok (.iaload, 1) := by decide +kernel
theorem dX11_bounded_27 : decode cX11_bounded 27 = .ok (.istore 4, 2) := by decide +kernel
theorem dX11_bounded_29 : decode cX11_bounded 29 = .ok (.iload 4, 2) := by decide +kernel
theorem dX11_bounded_31 : decode cX11_bounded 31 = .ok (.iconst (-1), 1) := by decide +kernel
theorem dX11_bounded_32 : decode cX11_bounded 32 = .ok (.if_icmp .eq 14, 3) := by decide +kernel
theorem dX11_bounded_35 : decode cX11_bounded 35 = .ok (.iload 4, 2) := by decide +kernel
theorem dX11_bounded_37 : decode cX11_bounded 37 = .ok (.iload_n 1, 1) := by decide +kernel
theorem dX11_bounded_38 : decode cX11_bounded 38 = .ok (.if_icmp .ge 8, 3) := by decide +kernel
theorem dX11_bounded_41 : decode cX11_bounded 41 = .ok (.iload 4, 2) := by decide +kernel
theorem dX11_bounded_43 : decode cX11_bounded 43 = .ok (.goto 4, 3) := by decide +kernel
theorem dX11_bounded_46 : decode cX11_bounded 46 = .ok (.iload_n 1, 1) := by decide +kernel
theorem dX11_bounded_47 : decode cX11_bounded 47 = .ok (.ireturn, 1) := by decide +kernel
theorem dX11_ahead_0 : decode cX11_ahead 0 = .ok (.aload_n 0, 1) := by decide +kernel
theorem dX11_ahead_1 : decode cX11_ahead 1 = .ok (.getfield 457, 3) := by decide +kernel
theorem dX11_ahead_4 : decode cX11_ahead 4 = .ok (.iload_n 2, 1) := by decide +kernel
theorem dX11_ahead_5 : decode cX11_ahead 5 = .ok (.ishr, 1) := by decide +kernel
theorem dX11_ahead_6 : decode cX11_ahead 6 = .ok (.iconst 1, 1) := by decide +kernel
theorem dX11_ahead_7 : decode cX11_ahead 7 = .ok (.iand, 1) := by decide +kernel
theorem dX11_ahead_8 : decode cX11_ahead 8 = .ok (.iconst 1, 1) := by decide +kernel
theorem dX11_ahead_9 : decode cX11_ahead 9 = .ok (.if_icmp .ne 40, 3) := by decide +kernel
theorem dX11_ahead_12 : decode cX11_ahead 12 = .ok (.aload_n 0, 1) := by decide +kernel
theorem dX11_ahead_13 : decode cX11_ahead 13 = .ok (.iload_n 1, 1) := by decide +kernel
theorem dX11_ahead_14 : decode cX11_ahead 14 = .ok (.iload_n 2, 1) := by decide +kernel
theorem dX11_ahead_15 : decode cX11_ahead 15 = .ok (.invokevirtual 479, 3) := by decide +kernel
theorem dX11_ahead_18 : decode cX11_ahead 18 = .ok (.ifCond .eq 7, 3) := by decide +kernel
theorem dX11_ahead_21 : decode cX11_ahead 21 = .ok (.lconst 0, 1) := by decide +kernel
theorem dX11_ahead_22 : decode cX11_ahead 22 = .ok (.goto 26, 3) := by decide +kernel
theorem dX11_ahead_25 : decode cX11_ahead 25 = .ok (.aload_n 0, 1) := by decide +kernel
theorem dX11_ahead_26 : decode cX11_ahead 26 = .ok (.iload_n 2, 1) := by decide +kernel
theorem dX11_ahead_27 : decode cX11_ahead 27 = .ok (.aload_n 0, 1) := by decide +kernel
theorem dX11_ahead_28 : decode cX11_ahead 28 = .ok (.getfield 424, 3) := by decide +kernel
theorem dX11_ahead_31 : decode cX11_ahead 31 = .ok (.invokevirtual 470, 3) := by decide +kernel
theorem dX11_ahead_34 : decode cX11_ahead 34 = .ok (.aload_n 0, 1) := by decide +kernel
theorem dX11_ahead_35 : decode cX11_ahead 35 = .ok (.getfield 131, 3) := by decide +kernel
theorem dX11_ahead_38 : decode cX11_ahead 38 = .ok (.iload_n 1, 1) := by decide +kernel
theorem dX11_ahead_39 : decode cX11_ahead 39 = .ok (.iaload, 1) := by decide +kernel
theorem dX11_ahead_40 : decode cX11_ahead 40 = .ok (.i2l, 1) := by decide +kernel
theorem dX11_ahead_41 : decode cX11_ahead 41 = .ok (.lmul, 1) := by decide +kernel
theorem dX11_ahead_42 : decode cX11_ahead 42 = .ok (.aload_n 0, 1) := by decide +kernel
theorem dX11_ahead_43 : decode cX11_ahead 43 = .ok (.getfield 424, 3) := by decide +kernel
theorem dX11_ahead_46 : decode cX11_ahead 46 = .ok (.i2l, 1) := by decide +kernel
theorem dX11_ahead_47 : decode cX11_ahead 47 = .ok (.ldiv, 1) := by decide +kernel
theorem dX11_ahead_48 : decode cX11_ahead 48 = .ok (.lreturn, 1) := by decide +kernel
theorem dX11_ahead_49 : decode cX11_ahead 49 = .ok (.aload_n 0, 1) := by decide +kernel
theorem dX11_ahead_50 : decode cX11_ahead 50 = .ok (.iload_n 1, 1) := by decide +kernel
theorem dX11_ahead_51 : decode cX11_ahead 51 = .ok (.iload_n 2, 1) := by decide +kernel
theorem dX11_ahead_52 : decode cX11_ahead 52 = .ok (.invokevirtual 482, 3) := by decide +kernel
theorem dX11_ahead_55 : decode cX11_ahead 55 = .ok (.istore_n 3, 1) := by decide +kernel
