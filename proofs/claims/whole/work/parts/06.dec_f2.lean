theorem dX11_ahead_56 : decode cX11_ahead 56 = .ok (.aload_n 0, 1) := by decide +kernel
theorem dX11_ahead_57 : decode cX11_ahead 57 = .ok (.iload_n 2, 1) := by decide +kernel
theorem dX11_ahead_58 : decode cX11_ahead 58 = .ok (.invokevirtual 432, 3) := by decide +kernel
theorem dX11_ahead_61 : decode cX11_ahead 61 = .ok (.aload_n 0, 1) := by decide +kernel
theorem dX11_ahead_62 : decode cX11_ahead 62 = .ok (.getfield 111, 3) := by decide +kernel
theorem dX11_ahead_65 : decode cX11_ahead 65 = .ok (.bipush 6, 2) := by decide +kernel
theorem dX11_ahead_67 : decode cX11_ahead 67 = .ok (.aload_n 0, 1) := by decide +kernel
theorem dX11_ahead_68 : decode cX11_ahead 68 = .ok (.getfield 134, 3) := by decide +kernel
theorem dX11_ahead_71 : decode cX11_ahead 71 = .ok (.iload_n 1, 1) := by decide +kernel
theorem dX11_ahead_72 : decode cX11_ahead 72 = .ok (.iaload, 1) := by decide +kernel
theorem dX11_ahead_73 : decode cX11_ahead 73 = .ok (.iload_n 2, 1) := by decide +kernel
theorem dX11_ahead_74 : decode cX11_ahead 74 = .ok (.if_icmp .ne 7, 3) := by decide +kernel
theorem dX11_ahead_77 : decode cX11_ahead 77 = .ok (.iconst 1, 1) := by decide +kernel
theorem dX11_ahead_78 : decode cX11_ahead 78 = .ok (.goto 4, 3) := by decide +kernel
theorem dX11_ahead_81 : decode cX11_ahead 81 = .ok (.iconst 0, 1) := by decide +kernel
theorem dX11_ahead_82 : decode cX11_ahead 82 = .ok (.iastore, 1) := by decide +kernel
theorem dX11_ahead_83 : decode cX11_ahead 83 = .ok (.aload_n 0, 1) := by decide +kernel
theorem dX11_ahead_84 : decode cX11_ahead 84 = .ok (.getfield 111, 3) := by decide +kernel
theorem dX11_ahead_87 : decode cX11_ahead 87 = .ok (.bipush 7, 2) := by decide +kernel
theorem dX11_ahead_89 : decode cX11_ahead 89 = .ok (.aload_n 0, 1) := by decide +kernel
theorem dX11_ahead_90 : decode cX11_ahead 90 = .ok (.getfield 137, 3) := by decide +kernel
theorem dX11_ahead_93 : decode cX11_ahead 93 = .ok (.iload_n 1, 1) := by decide +kernel
theorem dX11_ahead_94 : decode cX11_ahead 94 = .ok (.iaload, 1) := by decide +kernel
theorem dX11_ahead_95 : decode cX11_ahead 95 = .ok (.iload_n 2, 1) := by decide +kernel
theorem dX11_ahead_96 : decode cX11_ahead 96 = .ok (.if_icmp .ne 7, 3) := by decide +kernel
theorem dX11_ahead_99 : decode cX11_ahead 99 = .ok (.iconst 1, 1) := by decide +kernel
theorem dX11_ahead_100 : decode cX11_ahead 100 = .ok (.goto 4, 3) := by decide +kernel
theorem dX11_ahead_103 : decode cX11_ahead 103 = .ok (.iconst 0, 1) := by decide +kernel
theorem dX11_ahead_104 : decode cX11_ahead 104 = .ok (.iastore, 1) := by decide +kernel
theorem dX11_ahead_105 : decode cX11_ahead 105 = .ok (.aload_n 0, 1) := by decide +kernel
theorem dX11_ahead_106 : decode cX11_ahead 106 = .ok (.getfield 111, 3) := by decide +kernel
theorem dX11_ahead_109 : decode cX11_ahead 109 = .ok (.bipush 8, 2) := by decide +kernel
theorem dX11_ahead_111 : decode cX11_ahead 111 = .ok (.aload_n 0, 1) := by decide +kernel
theorem dX11_ahead_112 : decode cX11_ahead 112 = .ok (.getfield 131, 3) := by decide +kernel
theorem dX11_ahead_115 : decode cX11_ahead 115 = .ok (.iload_n 1, 1) := by decide +kernel
theorem dX11_ahead_116 : decode cX11_ahead 116 = .ok (.iaload, 1) := by decide +kernel
theorem dX11_ahead_117 : decode cX11_ahead 117 = .ok (.iastore, 1) := by decide +kernel
theorem dX11_ahead_118 : decode cX11_ahead 118 = .ok (.aload_n 0, 1) := by decide +kernel
theorem dX11_ahead_119 : decode cX11_ahead 119 = .ok (.iload_n 2, 1) := by decide +kernel
theorem dX11_ahead_120 : decode cX11_ahead 120 = .ok (.iload_n 3, 1) := by decide +kernel
theorem dX11_ahead_121 : decode cX11_ahead 121 = .ok (.invokevirtual 485, 3) := by decide +kernel
theorem dX11_ahead_124 : decode cX11_ahead 124 = .ok (.istore 4, 2) := by decide +kernel
theorem dX11_ahead_126 : decode cX11_ahead 126 = .ok (.iconst 0, 1) := by decide +kernel
theorem dX11_ahead_127 : decode cX11_ahead 127 = .ok (.istore 5, 2) := by decide +kernel
theorem dX11_ahead_129 : decode cX11_ahead 129 = .ok (.iload 5, 2) := by decide +kernel
theorem dX11_ahead_131 : decode cX11_ahead 131 = .ok (.bipush 6, 2) := by decide +kernel
theorem dX11_ahead_133 : decode cX11_ahead 133 = .ok (.if_icmp .ge 37, 3) := by decide +kernel
theorem dX11_ahead_136 : decode cX11_ahead 136 = .ok (.aload_n 0, 1) := by decide +kernel
theorem dX11_ahead_137 : decode cX11_ahead 137 = .ok (.getfield 457, 3) := by decide +kernel
theorem dX11_ahead_140 : decode cX11_ahead 140 = .ok (.iload 5, 2) := by decide +kernel
theorem dX11_ahead_142 : decode cX11_ahead 142 = .ok (.ishr, 1) := by decide +kernel
theorem dX11_ahead_143 : decode cX11_ahead 143 = .ok (.iconst 1, 1) := by decide +kernel
theorem dX11_ahead_144 : decode cX11_ahead 144 = .ok (.iand, 1) := by decide +kernel
theorem dX11_ahead_145 : decode cX11_ahead 145 = .ok (.iconst 1, 1) := by decide +kernel
theorem dX11_ahead_146 : decode cX11_ahead 146 = .ok (.if_icmp .ne 18, 3) := by decide +kernel
theorem dX11_ahead_149 : decode cX11_ahead 149 = .ok (.aload_n 0, 1) := by decide +kernel
theorem dX11_ahead_150 : decode cX11_ahead 150 = .ok (.iload 4, 2) := by decide +kernel
theorem dX11_ahead_152 : decode cX11_ahead 152 = .ok (.iload_n 2, 1) := by decide +kernel
theorem dX11_ahead_153 : decode cX11_ahead 153 = .ok (.iload 5, 2) := by decide +kernel
theorem dX11_ahead_155 : decode cX11_ahead 155 = .ok (.invokestatic 438, 3) := by decide +kernel
theorem dX11_ahead_158 : decode cX11_ahead 158 = .ok (.iload_n 3, 1) := by decide +kernel
theorem dX11_ahead_159 : decode cX11_ahead 159 = .ok (.invokevirtual 488, 3) := by decide +kernel
theorem dX11_ahead_162 : decode cX11_ahead 162 = .ok (.istore 4, 2) := by decide +kernel
theorem dX11_ahead_164 : decode cX11_ahead 164 = .ok (.iinc 5 1, 3) := by decide +kernel
theorem dX11_ahead_167 : decode cX11_ahead 167 = .ok (.goto (-38), 3) := by decide +kernel
theorem dX11_ahead_170 : decode cX11_ahead 170 = .ok (.iload 4, 2) := by decide +kernel
theorem dX11_ahead_172 : decode cX11_ahead 172 = .ok (.i2l, 1) := by decide +kernel
theorem dX11_ahead_173 : decode cX11_ahead 173 = .ok (.aload_n 0, 1) := by decide +kernel
theorem dX11_ahead_174 : decode cX11_ahead 174 = .ok (.getfield 131, 3) := by decide +kernel
theorem dX11_ahead_177 : decode cX11_ahead 177 = .ok (.iload_n 1, 1) := by decide +kernel
theorem dX11_ahead_178 : decode cX11_ahead 178 = .ok (.iaload, 1) := by decide +kernel
theorem dX11_ahead_179 : decode cX11_ahead 179 = .ok (.i2l, 1) := by decide +kernel
theorem dX11_ahead_180 : decode cX11_ahead 180 = .ok (.lmul, 1) := by decide +kernel
theorem dX11_ahead_181 : decode cX11_ahead 181 = .ok (.lreturn, 1) := by decide +kernel
theorem dX11_isOff_0 : decode cX11_isOff 0 = .ok (.iload_n 1, 1) := by decide +kernel
theorem dX11_isOff_1 : decode cX11_isOff 1 = .ok (.iload_n 2, 1) := by decide +kernel
theorem dX11_isOff_2 : decode cX11_isOff 2 = .ok (.if_icmp .eq 17, 3) := by decide +kernel
theorem dX11_isOff_5 : decode cX11_isOff 5 = .ok (.aload_n 0, 1) := by decide +kernel
theorem dX11_isOff_6 : decode cX11_isOff 6 = .ok (.iload_n 1, 1) := by decide +kernel
theorem dX11_isOff_7 : decode cX11_isOff 7 = .ok (.iload_n 2, 1) := by decide +kernel
theorem dX11_isOff_8 : decode cX11_isOff 8 = .ok (.invokevirtual 476, 3) := by decide +kernel
theorem dX11_isOff_11 : decode cX11_isOff 11 = .ok (.iconst 1, 1) := by decide +kernel
theorem dX11_isOff_12 : decode cX11_isOff 12 = .ok (.if_icmp .ne 7, 3) := by decide +kernel
theorem dX11_isOff_15 : decode cX11_isOff 15 = .ok (.iconst 1, 1) := by decide +kernel
theorem dX11_isOff_16 : decode cX11_isOff 16 = .ok (.goto 4, 3) := by decide +kernel
theorem dX11_isOff_19 : decode cX11_isOff 19 = .ok (.iconst 0, 1) := by decide +kernel
theorem dX11_isOff_20 : decode cX11_isOff 20 = .ok (.ireturn, 1) := by decide +kernel
theorem dX11_lessOthers_0 : decode cX11_lessOthers 0 = .ok (.aload_n 0, 1) := by decide +kernel
theorem dX11_lessOthers_1 : decode cX11_lessOthers 1 = .ok (.getfield 152, 3) := by decide +kernel
theorem dX11_lessOthers_4 : decode cX11_lessOthers 4 = .ok (.iload_n 1, 1) := by decide +kernel
theorem dX11_lessOthers_5 : decode cX11_lessOthers 5 = .ok (.laload, 1) := by decide +kernel
theorem dX11_lessOthers_6 : decode cX11_lessOthers 6 = .ok (.lstore_n 2, 1) := by decide +kernel
theorem dX11_lessOthers_7 : decode cX11_lessOthers 7 = .ok (.iconst 0, 1) := by decide +kernel
theorem dX11_lessOthers_8 : decode cX11_lessOthers 8 = .ok (.istore 4, 2) := by decide +kernel
theorem dX11_lessOthers_10 : decode cX11_lessOthers 10 = .ok (.iload 4, 2) := by decide +kernel
theorem dX11_lessOthers_12 : decode cX11_lessOthers 12 = .ok (.bipush 6, 2) := by decide +kernel
theorem dX11_lessOthers_14 : decode cX11_lessOthers 14 = .ok (.if_icmp .ge 41, 3) := by decide +kernel
theorem dX11_lessOthers_17 : decode cX11_lessOthers 17 = .ok (.aload_n 0, 1) := by decide +kernel
theorem dX11_lessOthers_18 : decode cX11_lessOthers 18 = .ok (.getfield 457, 3) := by decide +kernel
theorem dX11_lessOthers_21 : decode cX11_lessOthers 21 = .ok (.iload 4, 2) := by decide +kernel
theorem dX11_lessOthers_23 : decode cX11_lessOthers 23 = .ok (.ishr, 1) := by decide +kernel
theorem dX11_lessOthers_24 : decode cX11_lessOthers 24 = .ok (.iconst 1, 1) := by decide +kernel
theorem dX11_lessOthers_25 : decode cX11_lessOthers 25 = .ok (.iand, 1) := by decide +kernel
theorem dX11_lessOthers_26 : decode cX11_lessOthers 26 = .ok (.ifCond .ne 23, 3) := by decide +kernel
theorem dX11_lessOthers_29 : decode cX11_lessOthers 29 = .ok (.aload_n 0, 1) := by decide +kernel
theorem dX11_lessOthers_30 : decode cX11_lessOthers 30 = .ok (.iload_n 1, 1) := by decide +kernel
theorem dX11_lessOthers_31 : decode cX11_lessOthers 31 = .ok (.iload 4, 2) := by decide +kernel
theorem dX11_lessOthers_33 : decode cX11_lessOthers 33 = .ok (.invokevirtual 491, 3) := by decide +kernel
theorem dX11_lessOthers_36 : decode cX11_lessOthers 36 = .ok (.ifCond .eq 13, 3) := by decide +kernel
theorem dX11_lessOthers_39 : decode cX11_lessOthers 39 = .ok (.lload_n 2, 1) := by decide +kernel
theorem dX11_lessOthers_40 : decode cX11_lessOthers 40 = .ok (.aload_n 0, 1) := by decide +kernel
theorem dX11_lessOthers_41 : decode cX11_lessOthers 41 = .ok (.getfield 152, 3) := by decide +kernel
theorem dX11_lessOthers_44 : decode cX11_lessOthers 44 = .ok (.iload 4, 2) := by decide +kernel
theorem dX11_lessOthers_46 : decode cX11_lessOthers 46 = .ok (.laload, 1) := by decide +kernel
theorem dX11_lessOthers_47 : decode cX11_lessOthers 47 = .ok (.lsub, 1) := by decide +kernel
theorem dX11_lessOthers_48 : decode cX11_lessOthers 48 = .ok (.lstore_n 2, 1) := by decide +kernel
theorem dX11_lessOthers_49 : decode cX11_lessOthers 49 = .ok (.iinc 4 1, 3) := by decide +kernel
theorem dX11_lessOthers_52 : decode cX11_lessOthers 52 = .ok (.goto (-42), 3) := by decide +kernel
theorem dX11_lessOthers_55 : decode cX11_lessOthers 55 = .ok (.lload_n 2, 1) := by decide +kernel
theorem dX11_lessOthers_56 : decode cX11_lessOthers 56 = .ok (.lreturn, 1) := by decide +kernel
theorem dX11_swapsRows_0 : decode cX11_swapsRows 0 = .ok (.iconst 0, 1) := by decide +kernel
theorem dX11_swapsRows_1 : decode cX11_swapsRows 1 = .ok (.istore 4, 2) := by decide +kernel
theorem dX11_swapsRows_3 : decode cX11_swapsRows 3 = .ok (.iload 4, 2) := by decide +kernel
theorem dX11_swapsRows_5 : decode cX11_swapsRows 5 = .ok (.iload_n 1, 1) := by decide +kernel
theorem dX11_swapsRows_6 : decode cX11_swapsRows 6 = .ok (.if_icmp .gt 61, 3) := by decide +kernel
theorem dX11_swapsRows_9 : decode cX11_swapsRows 9 = .ok (.aload_n 0, 1) := by decide +kernel
theorem dX11_swapsRows_10 : decode cX11_swapsRows 10 = .ok (.getfield 165, 3) := by decide +kernel
theorem dX11_swapsRows_13 : decode cX11_swapsRows 13 = .ok (.bipush 7, 2) := by decide +kernel
theorem dX11_swapsRows_15 : decode cX11_swapsRows 15 = .ok (.iload_n 2, 1) := by decide +kernel
theorem dX11_swapsRows_16 : decode cX11_swapsRows 16 = .ok (.imul, 1) := by decide +kernel
theorem dX11_swapsRows_17 : decode cX11_swapsRows 17 = .ok (.iload 4, 2) := by decide +kernel
theorem dX11_swapsRows_19 : decode cX11_swapsRows 19 = .ok (.iadd, 1) := by decide +kernel
theorem dX11_swapsRows_20 : decode cX11_swapsRows 20 = .ok (.laload, 1) := by decide +kernel
theorem dX11_swapsRows_21 : decode cX11_swapsRows 21 = .ok (.lstore 5, 2) := by decide +kernel
theorem dX11_swapsRows_23 : decode cX11_swapsRows 23 = .ok (.aload_n 0, 1) := by decide +kernel
theorem dX11_swapsRows_24 : decode cX11_swapsRows 24 = .ok (.getfield 165, 3) := by decide +kernel
theorem dX11_swapsRows_27 : decode cX11_swapsRows 27 = .ok (.bipush 7, 2) := by decide +kernel
theorem dX11_swapsRows_29 : decode cX11_swapsRows 29 = .ok (.iload_n 2, 1) := by decide +kernel
theorem dX11_swapsRows_30 : decode cX11_swapsRows 30 = .ok (.imul, 1) := by decide +kernel
theorem dX11_swapsRows_31 : decode cX11_swapsRows 31 = .ok (.iload 4, 2) := by decide +kernel
theorem dX11_swapsRows_33 : decode cX11_swapsRows 33 = .ok (.iadd, 1) := by decide +kernel
theorem dX11_swapsRows_34 : decode cX11_swapsRows 34 = .ok (.aload_n 0, 1) := by decide +kernel
theorem dX11_swapsRows_35 : decode cX11_swapsRows 35 = .ok (.getfield 165, 3) := by decide +kernel
theorem dX11_swapsRows_38 : decode cX11_swapsRows 38 = .ok (.bipush 7, 2) := by decide +kernel
theorem dX11_swapsRows_40 : decode cX11_swapsRows 40 = .ok (.iload_n 3, 1) := by decide +kernel
theorem dX11_swapsRows_41 : decode cX11_swapsRows 41 = .ok (.imul, 1) := by decide +kernel
theorem dX11_swapsRows_42 : decode cX11_swapsRows 42 = .ok (.iload 4, 2) := by decide +kernel
theorem dX11_swapsRows_44 : decode cX11_swapsRows 44 = .ok (.iadd, 1) := by decide +kernel
theorem dX11_swapsRows_45 : decode cX11_swapsRows 45 = .ok (.laload, 1) := by decide +kernel
theorem dX11_swapsRows_46 : decode cX11_swapsRows 46 = .ok (.lastore, 1) := by decide +kernel
theorem dX11_swapsRows_47 : decode cX11_swapsRows 47 = .ok (.aload_n 0, 1) := by decide +kernel
theorem dX11_swapsRows_48 : decode cX11_swapsRows 48 = .ok (.getfield 165, 3) := by decide +kernel
theorem dX11_swapsRows_51 : decode cX11_swapsRows 51 = .ok (.bipush 7, 2) := by decide +kernel
theorem dX11_swapsRows_53 : decode cX11_swapsRows 53 = .ok (.iload_n 3, 1) := by decide +kernel
theorem dX11_swapsRows_54 : decode cX11_swapsRows 54 = .ok (.imul, 1) := by decide +kernel
theorem dX11_swapsRows_55 : decode cX11_swapsRows 55 = .ok (.iload 4, 2) := by decide +kernel
theorem dX11_swapsRows_57 : decode cX11_swapsRows 57 = .ok (.iadd, 1) := by decide +kernel
theorem dX11_swapsRows_58 : decode cX11_swapsRows 58 = .ok (.lload 5, 2) := by decide +kernel
theorem dX11_swapsRows_60 : decode cX11_swapsRows 60 = .ok (.lastore, 1) := by decide +kernel
theorem dX11_swapsRows_61 : decode cX11_swapsRows 61 = .ok (.iinc 4 1, 3) := by decide +kernel
theorem dX11_swapsRows_64 : decode cX11_swapsRows 64 = .ok (.goto (-61), 3) := by decide +kernel
theorem dX11_swapsRows_67 : decode cX11_swapsRows 67 = .ok (.return_, 1) := by decide +kernel
theorem dX11_solves_0 : decode cX11_solves 0 = .ok (.lconst 1, 1) := by decide +kernel
theorem dX11_solves_1 : decode cX11_solves 1 = .ok (.lstore_n 2, 1) := by decide +kernel
theorem dX11_solves_2 : decode cX11_solves 2 = .ok (.iconst 0, 1) := by decide +kernel
theorem dX11_solves_3 : decode cX11_solves 3 = .ok (.istore 4, 2) := by decide +kernel
theorem dX11_solves_5 : decode cX11_solves 5 = .ok (.iload 4, 2) := by decide +kernel
theorem dX11_solves_7 : decode cX11_solves 7 = .ok (.iload_n 1, 1) := by decide +kernel
theorem dX11_solves_8 : decode cX11_solves 8 = .ok (.if_icmp .ge 195, 3) := by decide +kernel
theorem dX11_solves_11 : decode cX11_solves 11 = .ok (.iload 4, 2) := by decide +kernel
theorem dX11_solves_13 : decode cX11_solves 13 = .ok (.istore 5, 2) := by decide +kernel
theorem dX11_solves_15 : decode cX11_solves 15 = .ok (.iload 5, 2) := by decide +kernel
theorem dX11_solves_17 : decode cX11_solves 17 = .ok (.iload_n 1, 1) := by decide +kernel
theorem dX11_solves_18 : decode cX11_solves 18 = .ok (.if_icmp .ge 27, 3) := by decide +kernel
theorem dX11_solves_21 : decode cX11_solves 21 = .ok (.aload_n 0, 1) := by decide +kernel
theorem dX11_solves_22 : decode cX11_solves 22 = .ok (.getfield 165, 3) := by decide +kernel
theorem dX11_solves_25 : decode cX11_solves 25 = .ok (.bipush 7, 2) := by decide +kernel
theorem dX11_solves_27 : decode cX11_solves 27 = .ok (.iload 5, 2) := by decide +kernel
theorem dX11_solves_29 : decode cX11_solves 29 = .ok (.imul, 1) := by decide +kernel
theorem dX11_solves_30 : decode cX11_solves 30 = .ok (.iload 4, 2) := by decide +kernel
theorem dX11_solves_32 : decode cX11_solves 32 = .ok (.iadd, 1) := by decide +kernel
theorem dX11_solves_33 : decode cX11_solves 33 = .ok (.laload, 1) := by decide +kernel
theorem dX11_solves_34 : decode cX11_solves 34 = .ok (.lconst 0, 1) := by decide +kernel
theorem dX11_solves_35 : decode cX11_solves 35 = .ok (.lcmp, 1) := by decide +kernel
theorem dX11_solves_36 : decode cX11_solves 36 = .ok (.ifCond .ne 9, 3) := by decide +kernel
theorem dX11_solves_39 : decode cX11_solves 39 = .ok (.iinc 5 1, 3) := by decide +kernel
theorem dX11_solves_42 : decode cX11_solves 42 = .ok (.goto (-27), 3) := by decide +kernel
theorem dX11_solves_45 : decode cX11_solves 45 = .ok (.iload 5, 2) := by decide +kernel
theorem dX11_solves_47 : decode cX11_solves 47 = .ok (.iload_n 1, 1) := by decide +kernel
theorem dX11_solves_48 : decode cX11_solves 48 = .ok (.if_icmp .ne 5, 3) := by decide +kernel
theorem dX11_solves_51 : decode cX11_solves 51 = .ok (.iconst 0, 1) := by decide +kernel
theorem dX11_solves_52 : decode cX11_solves 52 = .ok (.ireturn, 1) := by decide +kernel
theorem dX11_solves_53 : decode cX11_solves 53 = .ok (.iload 5, 2) := by decide +kernel
theorem dX11_solves_55 : decode cX11_solves 55 = .ok (.iload 4, 2) := by decide +kernel
theorem dX11_solves_57 : decode cX11_solves 57 = .ok (.if_icmp .eq 12, 3) := by decide +kernel
theorem dX11_solves_60 : decode cX11_solves 60 = .ok (.aload_n 0, 1) := by decide +kernel
theorem dX11_solves_61 : decode cX11_solves 61 = .ok (.iload_n 1, 1) := by decide +kernel
theorem dX11_solves_62 : decode cX11_solves 62 = .ok (.iload 5, 2) := by decide +kernel
theorem dX11_solves_64 : decode cX11_solves 64 = .ok (.iload 4, 2) := by decide +kernel
theorem dX11_solves_66 : decode cX11_solves 66 = .ok (.invokevirtual 494, 3) := by decide +kernel
theorem dX11_solves_69 : decode cX11_solves 69 = .ok (.iconst 0, 1) := by decide +kernel
theorem dX11_solves_70 : decode cX11_solves 70 = .ok (.istore 6, 2) := by decide +kernel
theorem dX11_solves_72 : decode cX11_solves 72 = .ok (.iload 6, 2) := by decide +kernel
theorem dX11_solves_74 : decode cX11_solves 74 = .ok (.iload_n 1, 1) := by decide +kernel
theorem dX11_solves_75 : decode cX11_solves 75 = .ok (.if_icmp .ge 108, 3) := by decide +kernel
theorem dX11_solves_78 : decode cX11_solves 78 = .ok (.iload 6, 2) := by decide +kernel
theorem dX11_solves_80 : decode cX11_solves 80 = .ok (.iload 4, 2) := by decide +kernel
theorem dX11_solves_82 : decode cX11_solves 82 = .ok (.if_icmp .ne 6, 3) := by decide +kernel
theorem dX11_solves_85 : decode cX11_solves 85 = .ok (.goto 92, 3) := by decide +kernel
theorem dX11_solves_88 : decode cX11_solves 88 = .ok (.aload_n 0, 1) := by decide +kernel
theorem dX11_solves_89 : decode cX11_solves 89 = .ok (.getfield 165, 3) := by decide +kernel
theorem dX11_solves_92 : decode cX11_solves 92 = .ok (.bipush 7, 2) := by decide +kernel
theorem dX11_solves_94 : decode cX11_solves 94 = .ok (.iload 6, 2) := by decide +kernel
theorem dX11_solves_96 : decode cX11_solves 96 = .ok (.imul, 1) := by decide +kernel
theorem dX11_solves_97 : decode cX11_solves 97 = .ok (.iload 4, 2) := by decide +kernel
theorem dX11_solves_99 : decode cX11_solves 99 = .ok (.iadd, 1) := by decide +kernel
theorem dX11_solves_100 : decode cX11_solves 100 = .ok (.laload, 1) := by decide +kernel
theorem dX11_solves_101 : decode cX11_solves 101 = .ok (.lstore 7, 2) := by decide +kernel
theorem dX11_solves_103 : decode cX11_solves 103 = .ok (.iconst 0, 1) := by decide +kernel
theorem dX11_solves_104 : decode cX11_solves 104 = .ok (.istore 9, 2) := by decide +kernel
theorem dX11_solves_106 : decode cX11_solves 106 = .ok (.iload 9, 2) := by decide +kernel
theorem dX11_solves_108 : decode cX11_solves 108 = .ok (.iload_n 1, 1) := by decide +kernel
theorem dX11_solves_109 : decode cX11_solves 109 = .ok (.if_icmp .gt 68, 3) := by decide +kernel
theorem dX11_solves_112 : decode cX11_solves 112 = .ok (.aload_n 0, 1) := by decide +kernel
theorem dX11_solves_113 : decode cX11_solves 113 = .ok (.getfield 165, 3) := by decide +kernel
theorem dX11_solves_116 : decode cX11_solves 116 = .ok (.bipush 7, 2) := by decide +kernel
theorem dX11_solves_118 : decode cX11_solves 118 = .ok (.iload 6, 2) := by decide +kernel
theorem dX11_solves_120 : decode cX11_solves 120 = .ok (.imul, 1) := by decide +kernel
theorem dX11_solves_121 : decode cX11_solves 121 = .ok (.iload 9, 2) := by decide +kernel
theorem dX11_solves_123 : decode cX11_solves 123 = .ok (.iadd, 1) := by decide +kernel
theorem dX11_solves_124 : decode cX11_solves 124 = .ok (.aload_n 0, 1) := by decide +kernel
theorem dX11_solves_125 : decode cX11_solves 125 = .ok (.getfield 165, 3) := by decide +kernel
theorem dX11_solves_128 : decode cX11_solves 128 = .ok (.bipush 7, 2) := by decide +kernel
theorem dX11_solves_130 : decode cX11_solves 130 = .ok (.iload 6, 2) := by decide +kernel
theorem dX11_solves_132 : decode cX11_solves 132 = .ok (.imul, 1) := by decide +kernel
theorem dX11_solves_133 : decode cX11_solves 133 = .ok (.iload 9, 2) := by decide +kernel
theorem dX11_solves_135 : decode cX11_solves 135 = .ok (.iadd, 1) := by decide +kernel
theorem dX11_solves_136 : decode cX11_solves 136 = .ok (.laload, 1) := by decide +kernel
theorem dX11_solves_137 : decode cX11_solves 137 = .ok (.aload_n 0, 1) := by decide +kernel
theorem dX11_solves_138 : decode cX11_solves 138 = .ok (.getfield 165, 3) := by decide +kernel
theorem dX11_solves_141 : decode cX11_solves 141 = .ok (.bipush 7, 2) := by decide +kernel
theorem dX11_solves_143 : decode cX11_solves 143 = .ok (.iload 4, 2) := by decide +kernel
theorem dX11_solves_145 : decode cX11_solves 145 = .ok (.imul, 1) := by decide +kernel
theorem dX11_solves_146 : decode cX11_solves 146 = .ok (.iload 4, 2) := by decide +kernel
theorem dX11_solves_148 : decode cX11_solves 148 = .ok (.iadd, 1) := by decide +kernel
theorem dX11_solves_149 : decode cX11_solves 149 = .ok (.laload, 1) := by decide +kernel
theorem dX11_solves_150 : decode cX11_solves 150 = .ok (.lmul, 1) := by decide +kernel
theorem dX11_solves_151 : decode cX11_solves 151 = .ok (.lload 7, 2) := by decide +kernel
theorem dX11_solves_153 : decode cX11_solves 153 = .ok (.aload_n 0, 1) := by decide +kernel
theorem dX11_solves_154 : decode cX11_solves 154 = .ok (.getfield 165, 3) := by decide +kernel
theorem dX11_solves_157 : decode cX11_solves 157 = .ok (.bipush 7, 2) := by decide +kernel
theorem dX11_solves_159 : decode cX11_solves 159 = .ok (.iload 4, 2) := by decide +kernel
theorem dX11_solves_161 : decode cX11_solves 161 = .ok (.imul, 1) := by decide +kernel
theorem dX11_solves_162 : decode cX11_solves 162 = .ok (.iload 9, 2) := by decide +kernel
theorem dX11_solves_164 : decode cX11_solves 164 = .ok (.iadd, 1) := by decide +kernel
theorem dX11_solves_165 : decode cX11_solves 165 = .ok (.laload, 1) := by decide +kernel
theorem dX11_solves_166 : decode cX11_solves 166 = .ok (.lmul, 1) := by decide +kernel
theorem dX11_solves_167 : decode cX11_solves 167 = .ok (.lsub, 1) := by decide +kernel
theorem dX11_solves_168 : decode cX11_solves 168 = .ok (.lload_n 2, 1) := by decide +kernel
theorem dX11_solves_169 : decode cX11_solves 169 = .ok (.ldiv, 1) := by decide +kernel
theorem dX11_solves_170 : decode cX11_solves 170 = .ok (.lastore, 1) := by decide +kernel
theorem dX11_solves_171 : decode cX11_solves 171 = .ok (.iinc 9 1, 3) := by decide +kernel
theorem dX11_solves_174 : decode cX11_solves 174 = .ok (.goto (-68), 3) := by decide +kernel
theorem dX11_solves_177 : decode cX11_solves 177 = .ok (.iinc 6 1, 3) := by decide +kernel
theorem dX11_solves_180 : decode cX11_solves 180 = .ok (.goto (-108), 3) := by decide +kernel
theorem dX11_solves_183 : decode cX11_solves 183 = .ok (.aload_n 0, 1) := by decide +kernel
theorem dX11_solves_184 : decode cX11_solves 184 = .ok (.getfield 165, 3) := by decide +kernel
theorem dX11_solves_187 : decode cX11_solves 187 = .ok (.bipush 7, 2) := by decide +kernel
theorem dX11_solves_189 : decode cX11_solves 189 = .ok (.iload 4, 2) := by decide +kernel
theorem dX11_solves_191 : decode cX11_solves 191 = .ok (.imul, 1) := by decide +kernel
theorem dX11_solves_192 : decode cX11_solves 192 = .ok (.iload 4, 2) := by decide +kernel
theorem dX11_solves_194 : decode cX11_solves 194 = .ok (.iadd, 1) := by decide +kernel
theorem dX11_solves_195 : decode cX11_solves 195 = .ok (.laload, 1) := by decide +kernel
theorem dX11_solves_196 : decode cX11_solves 196 = .ok (.lstore_n 2, 1) := by decide +kernel
theorem dX11_solves_197 : decode cX11_solves 197 = .ok (.iinc 4 1, 3) := by decide +kernel
theorem dX11_solves_200 : decode cX11_solves 200 = .ok (.goto (-195), 3) := by decide +kernel
theorem dX11_solves_203 : decode cX11_solves 203 = .ok (.aload_n 0, 1) := by decide +kernel
theorem dX11_solves_204 : decode cX11_solves 204 = .ok (.lload_n 2, 1) := by decide +kernel
theorem dX11_solves_205 : decode cX11_solves 205 = .ok (.putfield 498, 3) := by decide +kernel
theorem dX11_solves_208 : decode cX11_solves 208 = .ok (.iconst 0, 1) := by decide +kernel
theorem dX11_solves_209 : decode cX11_solves 209 = .ok (.istore 4, 2) := by decide +kernel
theorem dX11_solves_211 : decode cX11_solves 211 = .ok (.iload 4, 2) := by decide +kernel
theorem dX11_solves_213 : decode cX11_solves 213 = .ok (.iload_n 1, 1) := by decide +kernel
theorem dX11_solves_214 : decode cX11_solves 214 = .ok (.if_icmp .ge 52, 3) := by decide +kernel
theorem dX11_solves_217 : decode cX11_solves 217 = .ok (.aload_n 0, 1) := by decide +kernel
theorem dX11_solves_218 : decode cX11_solves 218 = .ok (.getfield 162, 3) := by decide +kernel
theorem dX11_solves_221 : decode cX11_solves 221 = .ok (.aload_n 0, 1) := by decide +kernel
theorem dX11_solves_222 : decode cX11_solves 222 = .ok (.getfield 168, 3) := by decide +kernel
theorem dX11_solves_225 : decode cX11_solves 225 = .ok (.iload 4, 2) := by decide +kernel
theorem dX11_solves_227 : decode cX11_solves 227 = .ok (.iaload, 1) := by decide +kernel
theorem dX11_solves_228 : decode cX11_solves 228 = .ok (.aload_n 0, 1) := by decide +kernel
theorem dX11_solves_229 : decode cX11_solves 229 = .ok (.getfield 165, 3) := by decide +kernel
theorem dX11_solves_232 : decode cX11_solves 232 = .ok (.bipush 7, 2) := by decide +kernel
theorem dX11_solves_234 : decode cX11_solves 234 = .ok (.iload 4, 2) := by decide +kernel
theorem dX11_solves_236 : decode cX11_solves 236 = .ok (.imul, 1) := by decide +kernel
theorem dX11_solves_237 : decode cX11_solves 237 = .ok (.iload_n 1, 1) := by decide +kernel
theorem dX11_solves_238 : decode cX11_solves 238 = .ok (.iadd, 1) := by decide +kernel
theorem dX11_solves_239 : decode cX11_solves 239 = .ok (.laload, 1) := by decide +kernel
theorem dX11_solves_240 : decode cX11_solves 240 = .ok (.aload_n 0, 1) := by decide +kernel
theorem dX11_solves_241 : decode cX11_solves 241 = .ok (.getfield 498, 3) := by decide +kernel
theorem dX11_solves_244 : decode cX11_solves 244 = .ok (.aload_n 0, 1) := by decide +kernel
theorem dX11_solves_245 : decode cX11_solves 245 = .ok (.getfield 165, 3) := by decide +kernel
theorem dX11_solves_248 : decode cX11_solves 248 = .ok (.bipush 7, 2) := by decide +kernel
theorem dX11_solves_250 : decode cX11_solves 250 = .ok (.iload 4, 2) := by decide +kernel
theorem dX11_solves_252 : decode cX11_solves 252 = .ok (.imul, 1) := by decide +kernel
theorem dX11_solves_253 : decode cX11_solves 253 = .ok (.iload 4, 2) := by decide +kernel
theorem dX11_solves_255 : decode cX11_solves 255 = .ok (.iadd, 1) := by decide +kernel
theorem dX11_solves_256 : decode cX11_solves 256 = .ok (.laload, 1) := by decide +kernel
theorem dX11_solves_257 : decode cX11_solves 257 = .ok (.ldiv, 1) := by decide +kernel
theorem dX11_solves_258 : decode cX11_solves 258 = .ok (.lmul, 1) := by decide +kernel
theorem dX11_solves_259 : decode cX11_solves 259 = .ok (.lastore, 1) := by decide +kernel
theorem dX11_solves_260 : decode cX11_solves 260 = .ok (.iinc 4 1, 3) := by decide +kernel
theorem dX11_solves_263 : decode cX11_solves 263 = .ok (.goto (-52), 3) := by decide +kernel
theorem dX11_solves_266 : decode cX11_solves 266 = .ok (.iconst 1, 1) := by decide +kernel
theorem dX11_solves_267 : decode cX11_solves 267 = .ok (.ireturn, 1) := by decide +kernel
theorem dX11_isAnswer_0 : decode cX11_isAnswer 0 = .ok (.iconst 0, 1) := by decide +kernel
theorem dX11_isAnswer_1 : decode cX11_isAnswer 1 = .ok (.istore_n 2, 1) := by decide +kernel
theorem dX11_isAnswer_2 : decode cX11_isAnswer 2 = .ok (.iconst 0, 1) := by decide +kernel
theorem dX11_isAnswer_3 : decode cX11_isAnswer 3 = .ok (.istore_n 3, 1) := by decide +kernel
theorem dX11_isAnswer_4 : decode cX11_isAnswer 4 = .ok (.iload_n 3, 1) := by decide +kernel
theorem dX11_isAnswer_5 : decode cX11_isAnswer 5 = .ok (.bipush 6, 2) := by decide +kernel
theorem dX11_isAnswer_7 : decode cX11_isAnswer 7 = .ok (.if_icmp .ge 37, 3) := by decide +kernel
theorem dX11_isAnswer_10 : decode cX11_isAnswer 10 = .ok (.aload_n 0, 1) := by decide +kernel
theorem dX11_isAnswer_11 : decode cX11_isAnswer 11 = .ok (.getfield 162, 3) := by decide +kernel
theorem dX11_isAnswer_14 : decode cX11_isAnswer 14 = .ok (.iload_n 3, 1) := by decide +kernel
theorem dX11_isAnswer_15 : decode cX11_isAnswer 15 = .ok (.lconst 0, 1) := by decide +kernel
theorem dX11_isAnswer_16 : decode cX11_isAnswer 16 = .ok (.lastore, 1) := by decide +kernel
theorem dX11_isAnswer_17 : decode cX11_isAnswer 17 = .ok (.iload_n 1, 1) := by decide +kernel
theorem dX11_isAnswer_18 : decode cX11_isAnswer 18 = .ok (.iload_n 3, 1) := by decide +kernel
theorem dX11_isAnswer_19 : decode cX11_isAnswer 19 = .ok (.ishr, 1) := by decide +kernel
theorem dX11_isAnswer_20 : decode cX11_isAnswer 20 = .ok (.iconst 1, 1) := by decide +kernel
theorem dX11_isAnswer_21 : decode cX11_isAnswer 21 = .ok (.iand, 1) := by decide +kernel
theorem dX11_isAnswer_22 : decode cX11_isAnswer 22 = .ok (.ifCond .ne 6, 3) := by decide +kernel
theorem dX11_isAnswer_25 : decode cX11_isAnswer 25 = .ok (.goto 13, 3) := by decide +kernel
theorem dX11_isAnswer_28 : decode cX11_isAnswer 28 = .ok (.aload_n 0, 1) := by decide +kernel
theorem dX11_isAnswer_29 : decode cX11_isAnswer 29 = .ok (.getfield 168, 3) := by decide +kernel
theorem dX11_isAnswer_32 : decode cX11_isAnswer 32 = .ok (.iload_n 2, 1) := by decide +kernel
theorem dX11_isAnswer_33 : decode cX11_isAnswer 33 = .ok (.iload_n 3, 1) := by decide +kernel
theorem dX11_isAnswer_34 : decode cX11_isAnswer 34 = .ok (.iastore, 1) := by decide +kernel
theorem dX11_isAnswer_35 : decode cX11_isAnswer 35 = .ok (.iinc 2 1, 3) := by decide +kernel
theorem dX11_isAnswer_38 : decode cX11_isAnswer 38 = .ok (.iinc 3 1, 3) := by decide +kernel
theorem dX11_isAnswer_41 : decode cX11_isAnswer 41 = .ok (.goto (-37), 3) := by decide +kernel
theorem dX11_isAnswer_44 : decode cX11_isAnswer 44 = .ok (.iconst 0, 1) := by decide +kernel
theorem dX11_isAnswer_45 : decode cX11_isAnswer 45 = .ok (.istore_n 3, 1) := by decide +kernel
theorem dX11_isAnswer_46 : decode cX11_isAnswer 46 = .ok (.iload_n 3, 1) := by decide +kernel
theorem dX11_isAnswer_47 : decode cX11_isAnswer 47 = .ok (.iload_n 2, 1) := by decide +kernel
theorem dX11_isAnswer_48 : decode cX11_isAnswer 48 = .ok (.if_icmp .ge 88, 3) := by decide +kernel
theorem dX11_isAnswer_51 : decode cX11_isAnswer 51 = .ok (.iconst 0, 1) := by decide +kernel
theorem dX11_isAnswer_52 : decode cX11_isAnswer 52 = .ok (.istore 4, 2) := by decide +kernel
theorem dX11_isAnswer_54 : decode cX11_isAnswer 54 = .ok (.iload 4, 2) := by decide +kernel
theorem dX11_isAnswer_56 : decode cX11_isAnswer 56 = .ok (.iload_n 2, 1) := by decide +kernel
theorem dX11_isAnswer_57 : decode cX11_isAnswer 57 = .ok (.if_icmp .ge 52, 3) := by decide +kernel
theorem dX11_isAnswer_60 : decode cX11_isAnswer 60 = .ok (.aload_n 0, 1) := by decide +kernel
theorem dX11_isAnswer_61 : decode cX11_isAnswer 61 = .ok (.getfield 165, 3) := by decide +kernel
theorem dX11_isAnswer_64 : decode cX11_isAnswer 64 = .ok (.bipush 7, 2) := by decide +kernel
theorem dX11_isAnswer_66 : decode cX11_isAnswer 66 = .ok (.iload_n 3, 1) := by decide +kernel
theorem dX11_isAnswer_67 : decode cX11_isAnswer 67 = .ok (.imul, 1) := by decide +kernel
theorem dX11_isAnswer_68 : decode cX11_isAnswer 68 = .ok (.iload 4, 2) := by decide +kernel
theorem dX11_isAnswer_70 : decode cX11_isAnswer 70 = .ok (.iadd, 1) := by decide +kernel
theorem dX11_isAnswer_71 : decode cX11_isAnswer 71 = .ok (.iload_n 3, 1) := by decide +kernel
theorem dX11_isAnswer_72 : decode cX11_isAnswer 72 = .ok (.iload 4, 2) := by decide +kernel
theorem dX11_isAnswer_74 : decode cX11_isAnswer 74 = .ok (.if_icmp .eq 23, 3) := by decide +kernel
theorem dX11_isAnswer_77 : decode cX11_isAnswer 77 = .ok (.aload_n 0, 1) := by decide +kernel
theorem dX11_isAnswer_78 : decode cX11_isAnswer 78 = .ok (.aload_n 0, 1) := by decide +kernel
theorem dX11_isAnswer_79 : decode cX11_isAnswer 79 = .ok (.getfield 168, 3) := by decide +kernel
theorem dX11_isAnswer_82 : decode cX11_isAnswer 82 = .ok (.iload_n 3, 1) := by decide +kernel
theorem dX11_isAnswer_83 : decode cX11_isAnswer 83 = .ok (.iaload, 1) := by decide +kernel
theorem dX11_isAnswer_84 : decode cX11_isAnswer 84 = .ok (.aload_n 0, 1) := by decide +kernel
theorem dX11_isAnswer_85 : decode cX11_isAnswer 85 = .ok (.getfield 168, 3) := by decide +kernel
theorem dX11_isAnswer_88 : decode cX11_isAnswer 88 = .ok (.iload 4, 2) := by decide +kernel
theorem dX11_isAnswer_90 : decode cX11_isAnswer 90 = .ok (.iaload, 1) := by decide +kernel
theorem dX11_isAnswer_91 : decode cX11_isAnswer 91 = .ok (.invokevirtual 491, 3) := by decide +kernel
theorem dX11_isAnswer_94 : decode cX11_isAnswer 94 = .ok (.ifCond .eq 7, 3) := by decide +kernel
theorem dX11_isAnswer_97 : decode cX11_isAnswer 97 = .ok (.lconst 1, 1) := by decide +kernel
theorem dX11_isAnswer_98 : decode cX11_isAnswer 98 = .ok (.goto 4, 3) := by decide +kernel
theorem dX11_isAnswer_101 : decode cX11_isAnswer 101 = .ok (.lconst 0, 1) := by decide +kernel
theorem dX11_isAnswer_102 : decode cX11_isAnswer 102 = .ok (.lastore, 1) := by decide +kernel
theorem dX11_isAnswer_103 : decode cX11_isAnswer 103 = .ok (.iinc 4 1, 3) := by decide +kernel
theorem dX11_isAnswer_106 : decode cX11_isAnswer 106 = .ok (.goto (-52), 3) := by decide +kernel
theorem dX11_isAnswer_109 : decode cX11_isAnswer 109 = .ok (.aload_n 0, 1) := by decide +kernel
theorem dX11_isAnswer_110 : decode cX11_isAnswer 110 = .ok (.getfield 165, 3) := by decide +kernel
theorem dX11_isAnswer_113 : decode cX11_isAnswer 113 = .ok (.bipush 7, 2) := by decide +kernel
theorem dX11_isAnswer_115 : decode cX11_isAnswer 115 = .ok (.iload_n 3, 1) := by decide +kernel
theorem dX11_isAnswer_116 : decode cX11_isAnswer 116 = .ok (.imul, 1) := by decide +kernel
theorem dX11_isAnswer_117 : decode cX11_isAnswer 117 = .ok (.iload_n 2, 1) := by decide +kernel
theorem dX11_isAnswer_118 : decode cX11_isAnswer 118 = .ok (.iadd, 1) := by decide +kernel
theorem dX11_isAnswer_119 : decode cX11_isAnswer 119 = .ok (.aload_n 0, 1) := by decide +kernel
theorem dX11_isAnswer_120 : decode cX11_isAnswer 120 = .ok (.aload_n 0, 1) := by decide +kernel
theorem dX11_isAnswer_121 : decode cX11_isAnswer 121 = .ok (.getfield 168, 3) := by decide +kernel
theorem dX11_isAnswer_124 : decode cX11_isAnswer 124 = .ok (.iload_n 3, 1) := by decide +kernel
theorem dX11_isAnswer_125 : decode cX11_isAnswer 125 = .ok (.iaload, 1) := by decide +kernel
theorem dX11_isAnswer_126 : decode cX11_isAnswer 126 = .ok (.invokevirtual 502, 3) := by decide +kernel
theorem dX11_isAnswer_129 : decode cX11_isAnswer 129 = .ok (.lastore, 1) := by decide +kernel
theorem dX11_isAnswer_130 : decode cX11_isAnswer 130 = .ok (.iinc 3 1, 3) := by decide +kernel
theorem dX11_isAnswer_133 : decode cX11_isAnswer 133 = .ok (.goto (-87), 3) := by decide +kernel
theorem dX11_isAnswer_136 : decode cX11_isAnswer 136 = .ok (.aload_n 0, 1) := by decide +kernel
theorem dX11_isAnswer_137 : decode cX11_isAnswer 137 = .ok (.iload_n 2, 1) := by decide +kernel
theorem dX11_isAnswer_138 : decode cX11_isAnswer 138 = .ok (.invokevirtual 506, 3) := by decide +kernel
theorem dX11_isAnswer_141 : decode cX11_isAnswer 141 = .ok (.ifCond .ne 5, 3) := by decide +kernel
theorem dX11_isAnswer_144 : decode cX11_isAnswer 144 = .ok (.iconst 0, 1) := by decide +kernel
theorem dX11_isAnswer_145 : decode cX11_isAnswer 145 = .ok (.ireturn, 1) := by decide +kernel
theorem dX11_isAnswer_146 : decode cX11_isAnswer 146 = .ok (.aload_n 0, 1) := by decide +kernel
theorem dX11_isAnswer_147 : decode cX11_isAnswer 147 = .ok (.getfield 498, 3) := by decide +kernel
theorem dX11_isAnswer_150 : decode cX11_isAnswer 150 = .ok (.lconst 0, 1) := by decide +kernel
theorem dX11_isAnswer_151 : decode cX11_isAnswer 151 = .ok (.lcmp, 1) := by decide +kernel
theorem dX11_isAnswer_152 : decode cX11_isAnswer 152 = .ok (.ifCond .ge 9, 3) := by decide +kernel
theorem dX11_isAnswer_155 : decode cX11_isAnswer 155 = .ok (.ldc2_w 474, 3) := by decide +kernel
theorem dX11_isAnswer_158 : decode cX11_isAnswer 158 = .ok (.goto 4, 3) := by decide +kernel
theorem dX11_isAnswer_161 : decode cX11_isAnswer 161 = .ok (.lconst 1, 1) := by decide +kernel
theorem dX11_isAnswer_162 : decode cX11_isAnswer 162 = .ok (.lstore_n 3, 1) := by decide +kernel
theorem dX11_isAnswer_163 : decode cX11_isAnswer 163 = .ok (.iconst 0, 1) := by decide +kernel
theorem dX11_isAnswer_164 : decode cX11_isAnswer 164 = .ok (.istore 5, 2) := by decide +kernel
theorem dX11_isAnswer_166 : decode cX11_isAnswer 166 = .ok (.iload 5, 2) := by decide +kernel
theorem dX11_isAnswer_168 : decode cX11_isAnswer 168 = .ok (.bipush 6, 2) := by decide +kernel
theorem dX11_isAnswer_170 : decode cX11_isAnswer 170 = .ok (.if_icmp .ge 123, 3) := by decide +kernel
theorem dX11_isAnswer_173 : decode cX11_isAnswer 173 = .ok (.aload_n 0, 1) := by decide +kernel
theorem dX11_isAnswer_174 : decode cX11_isAnswer 174 = .ok (.getfield 457, 3) := by decide +kernel
theorem dX11_isAnswer_177 : decode cX11_isAnswer 177 = .ok (.iload 5, 2) := by decide +kernel
theorem dX11_isAnswer_179 : decode cX11_isAnswer 179 = .ok (.ishr, 1) := by decide +kernel
theorem dX11_isAnswer_180 : decode cX11_isAnswer 180 = .ok (.iconst 1, 1) := by decide +kernel
theorem dX11_isAnswer_181 : decode cX11_isAnswer 181 = .ok (.iand, 1) := by decide +kernel
theorem dX11_isAnswer_182 : decode cX11_isAnswer 182 = .ok (.ifCond .ne 6, 3) := by decide +kernel
theorem dX11_isAnswer_185 : decode cX11_isAnswer 185 = .ok (.goto 102, 3) := by decide +kernel
theorem dX11_isAnswer_188 : decode cX11_isAnswer 188 = .ok (.iload_n 1, 1) := by decide +kernel
theorem dX11_isAnswer_189 : decode cX11_isAnswer 189 = .ok (.iload 5, 2) := by decide +kernel
theorem dX11_isAnswer_191 : decode cX11_isAnswer 191 = .ok (.ishr, 1) := by decide +kernel
theorem dX11_isAnswer_192 : decode cX11_isAnswer 192 = .ok (.iconst 1, 1) := by decide +kernel
theorem dX11_isAnswer_193 : decode cX11_isAnswer 193 = .ok (.iand, 1) := by decide +kernel
theorem dX11_isAnswer_194 : decode cX11_isAnswer 194 = .ok (.iconst 1, 1) := by decide +kernel
theorem dX11_isAnswer_195 : decode cX11_isAnswer 195 = .ok (.if_icmp .ne 19, 3) := by decide +kernel
theorem dX11_isAnswer_198 : decode cX11_isAnswer 198 = .ok (.aload_n 0, 1) := by decide +kernel
theorem dX11_isAnswer_199 : decode cX11_isAnswer 199 = .ok (.getfield 162, 3) := by decide +kernel
theorem dX11_isAnswer_202 : decode cX11_isAnswer 202 = .ok (.iload 5, 2) := by decide +kernel
theorem dX11_isAnswer_204 : decode cX11_isAnswer 204 = .ok (.laload, 1) := by decide +kernel
theorem dX11_isAnswer_205 : decode cX11_isAnswer 205 = .ok (.lload_n 3, 1) := by decide +kernel
theorem dX11_isAnswer_206 : decode cX11_isAnswer 206 = .ok (.lmul, 1) := by decide +kernel
theorem dX11_isAnswer_207 : decode cX11_isAnswer 207 = .ok (.lconst 0, 1) := by decide +kernel
theorem dX11_isAnswer_208 : decode cX11_isAnswer 208 = .ok (.lcmp, 1) := by decide +kernel
theorem dX11_isAnswer_209 : decode cX11_isAnswer 209 = .ok (.ifCond .gt 78, 3) := by decide +kernel
theorem dX11_isAnswer_212 : decode cX11_isAnswer 212 = .ok (.iconst 0, 1) := by decide +kernel
theorem dX11_isAnswer_213 : decode cX11_isAnswer 213 = .ok (.ireturn, 1) := by decide +kernel
theorem dX11_isAnswer_214 : decode cX11_isAnswer 214 = .ok (.aload_n 0, 1) := by decide +kernel
theorem dX11_isAnswer_215 : decode cX11_isAnswer 215 = .ok (.iload 5, 2) := by decide +kernel
theorem dX11_isAnswer_217 : decode cX11_isAnswer 217 = .ok (.invokevirtual 502, 3) := by decide +kernel
theorem dX11_isAnswer_220 : decode cX11_isAnswer 220 = .ok (.aload_n 0, 1) := by decide +kernel
theorem dX11_isAnswer_221 : decode cX11_isAnswer 221 = .ok (.getfield 498, 3) := by decide +kernel
theorem dX11_isAnswer_224 : decode cX11_isAnswer 224 = .ok (.lmul, 1) := by decide +kernel
theorem dX11_isAnswer_225 : decode cX11_isAnswer 225 = .ok (.lstore 6, 2) := by decide +kernel
theorem dX11_isAnswer_227 : decode cX11_isAnswer 227 = .ok (.iconst 0, 1) := by decide +kernel
theorem dX11_isAnswer_228 : decode cX11_isAnswer 228 = .ok (.istore 8, 2) := by decide +kernel
theorem dX11_isAnswer_230 : decode cX11_isAnswer 230 = .ok (.iload 8, 2) := by decide +kernel
theorem dX11_isAnswer_232 : decode cX11_isAnswer 232 = .ok (.bipush 6, 2) := by decide +kernel
theorem dX11_isAnswer_234 : decode cX11_isAnswer 234 = .ok (.if_icmp .ge 42, 3) := by decide +kernel
theorem dX11_isAnswer_237 : decode cX11_isAnswer 237 = .ok (.iload_n 1, 1) := by decide +kernel
theorem dX11_isAnswer_238 : decode cX11_isAnswer 238 = .ok (.iload 8, 2) := by decide +kernel
theorem dX11_isAnswer_240 : decode cX11_isAnswer 240 = .ok (.ishr, 1) := by decide +kernel
theorem dX11_isAnswer_241 : decode cX11_isAnswer 241 = .ok (.iconst 1, 1) := by decide +kernel
theorem dX11_isAnswer_242 : decode cX11_isAnswer 242 = .ok (.iand, 1) := by decide +kernel
theorem dX11_isAnswer_243 : decode cX11_isAnswer 243 = .ok (.iconst 1, 1) := by decide +kernel
theorem dX11_isAnswer_244 : decode cX11_isAnswer 244 = .ok (.if_icmp .ne 26, 3) := by decide +kernel
theorem dX11_isAnswer_247 : decode cX11_isAnswer 247 = .ok (.aload_n 0, 1) := by decide +kernel
theorem dX11_isAnswer_248 : decode cX11_isAnswer 248 = .ok (.iload 5, 2) := by decide +kernel
theorem dX11_isAnswer_250 : decode cX11_isAnswer 250 = .ok (.iload 8, 2) := by decide +kernel
theorem dX11_isAnswer_252 : decode cX11_isAnswer 252 = .ok (.invokevirtual 491, 3) := by decide +kernel
theorem dX11_isAnswer_255 : decode cX11_isAnswer 255 = .ok (.ifCond .eq 15, 3) := by decide +kernel
theorem dX11_isAnswer_258 : decode cX11_isAnswer 258 = .ok (.lload 6, 2) := by decide +kernel
theorem dX11_isAnswer_260 : decode cX11_isAnswer 260 = .ok (.aload_n 0, 1) := by decide +kernel
theorem dX11_isAnswer_261 : decode cX11_isAnswer 261 = .ok (.getfield 162, 3) := by decide +kernel
theorem dX11_isAnswer_264 : decode cX11_isAnswer 264 = .ok (.iload 8, 2) := by decide +kernel
theorem dX11_isAnswer_266 : decode cX11_isAnswer 266 = .ok (.laload, 1) := by decide +kernel
theorem dX11_isAnswer_267 : decode cX11_isAnswer 267 = .ok (.lsub, 1) := by decide +kernel
theorem dX11_isAnswer_268 : decode cX11_isAnswer 268 = .ok (.lstore 6, 2) := by decide +kernel
theorem dX11_isAnswer_270 : decode cX11_isAnswer 270 = .ok (.iinc 8 1, 3) := by decide +kernel
theorem dX11_isAnswer_273 : decode cX11_isAnswer 273 = .ok (.goto (-43), 3) := by decide +kernel
theorem dX11_isAnswer_276 : decode cX11_isAnswer 276 = .ok (.lload 6, 2) := by decide +kernel
theorem dX11_isAnswer_278 : decode cX11_isAnswer 278 = .ok (.lload_n 3, 1) := by decide +kernel
theorem dX11_isAnswer_279 : decode cX11_isAnswer 279 = .ok (.lmul, 1) := by decide +kernel
theorem dX11_isAnswer_280 : decode cX11_isAnswer 280 = .ok (.lconst 0, 1) := by decide +kernel
theorem dX11_isAnswer_281 : decode cX11_isAnswer 281 = .ok (.lcmp, 1) := by decide +kernel
theorem dX11_isAnswer_282 : decode cX11_isAnswer 282 = .ok (.ifCond .le 5, 3) := by decide +kernel
theorem dX11_isAnswer_285 : decode cX11_isAnswer 285 = .ok (.iconst 0, 1) := by decide +kernel
theorem dX11_isAnswer_286 : decode cX11_isAnswer 286 = .ok (.ireturn, 1) := by decide +kernel
theorem dX11_isAnswer_287 : decode cX11_isAnswer 287 = .ok (.iinc 5 1, 3) := by decide +kernel
theorem dX11_isAnswer_290 : decode cX11_isAnswer 290 = .ok (.goto (-124), 3) := by decide +kernel
theorem dX11_isAnswer_293 : decode cX11_isAnswer 293 = .ok (.iconst 1, 1) := by decide +kernel
theorem dX11_isAnswer_294 : decode cX11_isAnswer 294 = .ok (.ireturn, 1) := by decide +kernel
theorem dX11_findsTaken_0 : decode cX11_findsTaken 0 = .ok (.iconst 0, 1) := by decide +kernel
theorem dX11_findsTaken_1 : decode cX11_findsTaken 1 = .ok (.istore_n 2, 1) := by decide +kernel
theorem dX11_findsTaken_2 : decode cX11_findsTaken 2 = .ok (.iload_n 2, 1) := by decide +kernel
theorem dX11_findsTaken_3 : decode cX11_findsTaken 3 = .ok (.bipush 6, 2) := by decide +kernel
theorem dX11_findsTaken_5 : decode cX11_findsTaken 5 = .ok (.if_icmp .ge 33, 3) := by decide +kernel
theorem dX11_findsTaken_8 : decode cX11_findsTaken 8 = .ok (.aload_n 0, 1) := by decide +kernel
theorem dX11_findsTaken_9 : decode cX11_findsTaken 9 = .ok (.getfield 152, 3) := by decide +kernel
theorem dX11_findsTaken_12 : decode cX11_findsTaken 12 = .ok (.iload_n 2, 1) := by decide +kernel
theorem dX11_findsTaken_13 : decode cX11_findsTaken 13 = .ok (.aload_n 0, 1) := by decide +kernel
theorem dX11_findsTaken_14 : decode cX11_findsTaken 14 = .ok (.iload_n 1, 1) := by decide +kernel
theorem dX11_findsTaken_15 : decode cX11_findsTaken 15 = .ok (.iload_n 2, 1) := by decide +kernel
theorem dX11_findsTaken_16 : decode cX11_findsTaken 16 = .ok (.invokevirtual 509, 3) := by decide +kernel
theorem dX11_findsTaken_19 : decode cX11_findsTaken 19 = .ok (.lastore, 1) := by decide +kernel
theorem dX11_findsTaken_20 : decode cX11_findsTaken 20 = .ok (.aload_n 0, 1) := by decide +kernel
theorem dX11_findsTaken_21 : decode cX11_findsTaken 21 = .ok (.getfield 159, 3) := by decide +kernel
theorem dX11_findsTaken_24 : decode cX11_findsTaken 24 = .ok (.iload_n 2, 1) := by decide +kernel
theorem dX11_findsTaken_25 : decode cX11_findsTaken 25 = .ok (.aload_n 0, 1) := by decide +kernel
theorem dX11_findsTaken_26 : decode cX11_findsTaken 26 = .ok (.getfield 152, 3) := by decide +kernel
theorem dX11_findsTaken_29 : decode cX11_findsTaken 29 = .ok (.iload_n 2, 1) := by decide +kernel
theorem dX11_findsTaken_30 : decode cX11_findsTaken 30 = .ok (.laload, 1) := by decide +kernel
theorem dX11_findsTaken_31 : decode cX11_findsTaken 31 = .ok (.lastore, 1) := by decide +kernel
theorem dX11_findsTaken_32 : decode cX11_findsTaken 32 = .ok (.iinc 2 1, 3) := by decide +kernel
theorem dX11_findsTaken_35 : decode cX11_findsTaken 35 = .ok (.goto (-33), 3) := by decide +kernel
theorem dX11_findsTaken_38 : decode cX11_findsTaken 38 = .ok (.iconst 0, 1) := by decide +kernel
theorem dX11_findsTaken_39 : decode cX11_findsTaken 39 = .ok (.istore_n 2, 1) := by decide +kernel
theorem dX11_findsTaken_40 : decode cX11_findsTaken 40 = .ok (.iconst 0, 1) := by decide +kernel
theorem dX11_findsTaken_41 : decode cX11_findsTaken 41 = .ok (.istore_n 3, 1) := by decide +kernel
theorem dX11_findsTaken_42 : decode cX11_findsTaken 42 = .ok (.iload_n 3, 1) := by decide +kernel
theorem dX11_findsTaken_43 : decode cX11_findsTaken 43 = .ok (.bipush 64, 2) := by decide +kernel
theorem dX11_findsTaken_45 : decode cX11_findsTaken 45 = .ok (.if_icmp .ge 86, 3) := by decide +kernel
theorem dX11_findsTaken_48 : decode cX11_findsTaken 48 = .ok (.iload_n 3, 1) := by decide +kernel
theorem dX11_findsTaken_49 : decode cX11_findsTaken 49 = .ok (.aload_n 0, 1) := by decide +kernel
theorem dX11_findsTaken_50 : decode cX11_findsTaken 50 = .ok (.getfield 457, 3) := by decide +kernel
theorem dX11_findsTaken_53 : decode cX11_findsTaken 53 = .ok (.iconst (-1), 1) := by decide +kernel
theorem dX11_findsTaken_54 : decode cX11_findsTaken 54 = .ok (.ixor, 1) := by decide +kernel
theorem dX11_findsTaken_55 : decode cX11_findsTaken 55 = .ok (.iand, 1) := by decide +kernel
theorem dX11_findsTaken_56 : decode cX11_findsTaken 56 = .ok (.ifCond .ne 69, 3) := by decide +kernel
theorem dX11_findsTaken_59 : decode cX11_findsTaken 59 = .ok (.aload_n 0, 1) := by decide +kernel
theorem dX11_findsTaken_60 : decode cX11_findsTaken 60 = .ok (.iload_n 3, 1) := by decide +kernel
theorem dX11_findsTaken_61 : decode cX11_findsTaken 61 = .ok (.invokevirtual 512, 3) := by decide +kernel
theorem dX11_findsTaken_64 : decode cX11_findsTaken 64 = .ok (.ifCond .ne 6, 3) := by decide +kernel
theorem dX11_findsTaken_67 : decode cX11_findsTaken 67 = .ok (.goto 58, 3) := by decide +kernel
theorem dX11_findsTaken_70 : decode cX11_findsTaken 70 = .ok (.iconst 0, 1) := by decide +kernel
theorem dX11_findsTaken_71 : decode cX11_findsTaken 71 = .ok (.istore 4, 2) := by decide +kernel
theorem dX11_findsTaken_73 : decode cX11_findsTaken 73 = .ok (.iload 4, 2) := by decide +kernel
theorem dX11_findsTaken_75 : decode cX11_findsTaken 75 = .ok (.bipush 6, 2) := by decide +kernel
theorem dX11_findsTaken_77 : decode cX11_findsTaken 77 = .ok (.if_icmp .ge 45, 3) := by decide +kernel
theorem dX11_findsTaken_80 : decode cX11_findsTaken 80 = .ok (.iload_n 2, 1) := by decide +kernel
theorem dX11_findsTaken_81 : decode cX11_findsTaken 81 = .ok (.ifCond .ne 41, 3) := by decide +kernel
theorem dX11_findsTaken_84 : decode cX11_findsTaken 84 = .ok (.aload_n 0, 1) := by decide +kernel
theorem dX11_findsTaken_85 : decode cX11_findsTaken 85 = .ok (.getfield 457, 3) := by decide +kernel
theorem dX11_findsTaken_88 : decode cX11_findsTaken 88 = .ok (.iload 4, 2) := by decide +kernel
theorem dX11_findsTaken_90 : decode cX11_findsTaken 90 = .ok (.ishr, 1) := by decide +kernel
theorem dX11_findsTaken_91 : decode cX11_findsTaken 91 = .ok (.iconst 1, 1) := by decide +kernel
theorem dX11_findsTaken_92 : decode cX11_findsTaken 92 = .ok (.iand, 1) := by decide +kernel
theorem dX11_findsTaken_93 : decode cX11_findsTaken 93 = .ok (.iconst 1, 1) := by decide +kernel
theorem dX11_findsTaken_94 : decode cX11_findsTaken 94 = .ok (.if_icmp .ne 22, 3) := by decide +kernel
theorem dX11_findsTaken_97 : decode cX11_findsTaken 97 = .ok (.aload_n 0, 1) := by decide +kernel
theorem dX11_findsTaken_98 : decode cX11_findsTaken 98 = .ok (.getfield 159, 3) := by decide +kernel
theorem dX11_findsTaken_101 : decode cX11_findsTaken 101 = .ok (.iload 4, 2) := by decide +kernel
theorem dX11_findsTaken_103 : decode cX11_findsTaken 103 = .ok (.aload_n 0, 1) := by decide +kernel
theorem dX11_findsTaken_104 : decode cX11_findsTaken 104 = .ok (.getfield 162, 3) := by decide +kernel
theorem dX11_findsTaken_107 : decode cX11_findsTaken 107 = .ok (.iload 4, 2) := by decide +kernel
theorem dX11_findsTaken_109 : decode cX11_findsTaken 109 = .ok (.laload, 1) := by decide +kernel
theorem dX11_findsTaken_110 : decode cX11_findsTaken 110 = .ok (.aload_n 0, 1) := by decide +kernel
theorem dX11_findsTaken_111 : decode cX11_findsTaken 111 = .ok (.getfield 498, 3) := by decide +kernel
theorem dX11_findsTaken_114 : decode cX11_findsTaken 114 = .ok (.ldiv, 1) := by decide +kernel
theorem dX11_findsTaken_115 : decode cX11_findsTaken 115 = .ok (.lastore, 1) := by decide +kernel
theorem dX11_findsTaken_116 : decode cX11_findsTaken 116 = .ok (.iinc 4 1, 3) := by decide +kernel
theorem dX11_findsTaken_119 : decode cX11_findsTaken 119 = .ok (.goto (-46), 3) := by decide +kernel
theorem dX11_findsTaken_122 : decode cX11_findsTaken 122 = .ok (.iinc 2 1, 3) := by decide +kernel
theorem dX11_findsTaken_125 : decode cX11_findsTaken 125 = .ok (.iinc 3 1, 3) := by decide +kernel
theorem dX11_findsTaken_128 : decode cX11_findsTaken 128 = .ok (.goto (-86), 3) := by decide +kernel
theorem dX11_findsTaken_131 : decode cX11_findsTaken 131 = .ok (.iconst 0, 1) := by decide +kernel
theorem dX11_findsTaken_132 : decode cX11_findsTaken 132 = .ok (.istore_n 3, 1) := by decide +kernel
theorem dX11_findsTaken_133 : decode cX11_findsTaken 133 = .ok (.iload_n 3, 1) := by decide +kernel
theorem dX11_findsTaken_134 : decode cX11_findsTaken 134 = .ok (.bipush 6, 2) := by decide +kernel
theorem dX11_findsTaken_136 : decode cX11_findsTaken 136 = .ok (.if_icmp .ge 21, 3) := by decide +kernel
theorem dX11_findsTaken_139 : decode cX11_findsTaken 139 = .ok (.aload_n 0, 1) := by decide +kernel
theorem dX11_findsTaken_140 : decode cX11_findsTaken 140 = .ok (.getfield 156, 3) := by decide +kernel
theorem dX11_findsTaken_143 : decode cX11_findsTaken 143 = .ok (.iload_n 3, 1) := by decide +kernel
theorem dX11_findsTaken_144 : decode cX11_findsTaken 144 = .ok (.aload_n 0, 1) := by decide +kernel
theorem dX11_findsTaken_145 : decode cX11_findsTaken 145 = .ok (.getfield 159, 3) := by decide +kernel
theorem dX11_findsTaken_148 : decode cX11_findsTaken 148 = .ok (.iload_n 3, 1) := by decide +kernel
theorem dX11_findsTaken_149 : decode cX11_findsTaken 149 = .ok (.laload, 1) := by decide +kernel
theorem dX11_findsTaken_150 : decode cX11_findsTaken 150 = .ok (.lastore, 1) := by decide +kernel
theorem dX11_findsTaken_151 : decode cX11_findsTaken 151 = .ok (.iinc 3 1, 3) := by decide +kernel
theorem dX11_findsTaken_154 : decode cX11_findsTaken 154 = .ok (.goto (-21), 3) := by decide +kernel
theorem dX11_findsTaken_157 : decode cX11_findsTaken 157 = .ok (.iload_n 2, 1) := by decide +kernel
theorem dX11_findsTaken_158 : decode cX11_findsTaken 158 = .ok (.ireturn, 1) := by decide +kernel
theorem dX11_takes_0 : decode cX11_takes 0 = .ok (.iload_n 1, 1) := by decide +kernel
theorem dX11_takes_1 : decode cX11_takes 1 = .ok (.invokestatic 207, 3) := by decide +kernel
theorem dX11_takes_4 : decode cX11_takes 4 = .ok (.ifCond .eq 42, 3) := by decide +kernel
theorem dX11_takes_7 : decode cX11_takes 7 = .ok (.iload_n 2, 1) := by decide +kernel
theorem dX11_takes_8 : decode cX11_takes 8 = .ok (.iconst 0, 1) := by decide +kernel
theorem dX11_takes_9 : decode cX11_takes 9 = .ok (.aload_n 0, 1) := by decide +kernel
theorem dX11_takes_10 : decode cX11_takes 10 = .ok (.getfield 23, 3) := by decide +kernel
theorem dX11_takes_13 : decode cX11_takes 13 = .ok (.iload_n 1, 1) := by decide +kernel
theorem dX11_takes_14 : decode cX11_takes 14 = .ok (.iaload, 1) := by decide +kernel
theorem dX11_takes_15 : decode cX11_takes 15 = .ok (.iconst 1, 1) := by decide +kernel
theorem dX11_takes_16 : decode cX11_takes 16 = .ok (.isub, 1) := by decide +kernel
theorem dX11_takes_17 : decode cX11_takes 17 = .ok (.invokestatic 1, 3) := by decide +kernel
theorem dX11_takes_20 : decode cX11_takes 20 = .ok (.ifCond .eq 26, 3) := by decide +kernel
theorem dX11_takes_23 : decode cX11_takes 23 = .ok (.iload 4, 2) := by decide +kernel
theorem dX11_takes_25 : decode cX11_takes 25 = .ok (.iconst 0, 1) := by decide +kernel
theorem dX11_takes_26 : decode cX11_takes 26 = .ok (.iconst 4, 1) := by decide +kernel
theorem dX11_takes_27 : decode cX11_takes 27 = .ok (.invokestatic 1, 3) := by decide +kernel
theorem dX11_takes_30 : decode cX11_takes 30 = .ok (.ifCond .eq 16, 3) := by decide +kernel
theorem dX11_takes_33 : decode cX11_takes 33 = .ok (.iload 4, 2) := by decide +kernel
theorem dX11_takes_35 : decode cX11_takes 35 = .ok (.iconst 3, 1) := by decide +kernel
theorem dX11_takes_36 : decode cX11_takes 36 = .ok (.if_icmp .eq 14, 3) := by decide +kernel
theorem dX11_takes_39 : decode cX11_takes 39 = .ok (.iload_n 3, 1) := by decide +kernel
theorem dX11_takes_40 : decode cX11_takes 40 = .ok (.invokestatic 211, 3) := by decide +kernel
theorem dX11_takes_43 : decode cX11_takes 43 = .ok (.ifCond .ne 7, 3) := by decide +kernel
theorem dX11_takes_46 : decode cX11_takes 46 = .ok (.ldc2_w 474, 3) := by decide +kernel
theorem dX11_takes_49 : decode cX11_takes 49 = .ok (.lreturn, 1) := by decide +kernel
theorem dX11_takes_50 : decode cX11_takes 50 = .ok (.aload_n 0, 1) := by decide +kernel
theorem dX11_takes_51 : decode cX11_takes 51 = .ok (.iload_n 1, 1) := by decide +kernel
theorem dX11_takes_52 : decode cX11_takes 52 = .ok (.invokevirtual 463, 3) := by decide +kernel
theorem dX11_takes_55 : decode cX11_takes 55 = .ok (.aload_n 0, 1) := by decide +kernel
theorem dX11_takes_56 : decode cX11_takes 56 = .ok (.invokevirtual 466, 3) := by decide +kernel
theorem dX11_takes_59 : decode cX11_takes 59 = .ok (.aload_n 0, 1) := by decide +kernel
theorem dX11_takes_60 : decode cX11_takes 60 = .ok (.iload_n 2, 1) := by decide +kernel
theorem dX11_takes_61 : decode cX11_takes 61 = .ok (.invokevirtual 515, 3) := by decide +kernel
theorem dX11_takes_64 : decode cX11_takes 64 = .ok (.istore 5, 2) := by decide +kernel
theorem dX11_takes_66 : decode cX11_takes 66 = .ok (.iload 4, 2) := by decide +kernel
theorem dX11_takes_68 : decode cX11_takes 68 = .ok (.tableswitch 58 0 3 #[32, 40, 47, 54], 32) := by decide +kernel
theorem dX11_takes_100 : decode cX11_takes 100 = .ok (.aload_n 0, 1) := by decide +kernel
theorem dX11_takes_101 : decode cX11_takes 101 = .ok (.iload_n 2, 1) := by decide +kernel
theorem dX11_takes_102 : decode cX11_takes 102 = .ok (.iload_n 3, 1) := by decide +kernel
theorem dX11_takes_103 : decode cX11_takes 103 = .ok (.invokevirtual 482, 3) := by decide +kernel
theorem dX11_takes_106 : decode cX11_takes 106 = .ok (.i2l, 1) := by decide +kernel
theorem dX11_takes_107 : decode cX11_takes 107 = .ok (.lreturn, 1) := by decide +kernel
theorem dX11_takes_108 : decode cX11_takes 108 = .ok (.aload_n 0, 1) := by decide +kernel
theorem dX11_takes_109 : decode cX11_takes 109 = .ok (.getfield 152, 3) := by decide +kernel
theorem dX11_takes_112 : decode cX11_takes 112 = .ok (.iload_n 3, 1) := by decide +kernel
theorem dX11_takes_113 : decode cX11_takes 113 = .ok (.laload, 1) := by decide +kernel
theorem dX11_takes_114 : decode cX11_takes 114 = .ok (.lreturn, 1) := by decide +kernel
theorem dX11_takes_115 : decode cX11_takes 115 = .ok (.aload_n 0, 1) := by decide +kernel
theorem dX11_takes_116 : decode cX11_takes 116 = .ok (.getfield 156, 3) := by decide +kernel
theorem dX11_takes_119 : decode cX11_takes 119 = .ok (.iload_n 3, 1) := by decide +kernel
theorem dX11_takes_120 : decode cX11_takes 120 = .ok (.laload, 1) := by decide +kernel
theorem dX11_takes_121 : decode cX11_takes 121 = .ok (.lreturn, 1) := by decide +kernel
theorem dX11_takes_122 : decode cX11_takes 122 = .ok (.iload 5, 2) := by decide +kernel
theorem dX11_takes_124 : decode cX11_takes 124 = .ok (.i2l, 1) := by decide +kernel
theorem dX11_takes_125 : decode cX11_takes 125 = .ok (.lreturn, 1) := by decide +kernel
theorem dX11_takes_126 : decode cX11_takes 126 = .ok (.aload_n 0, 1) := by decide +kernel
theorem dX11_takes_127 : decode cX11_takes 127 = .ok (.iload_n 2, 1) := by decide +kernel
theorem dX11_takes_128 : decode cX11_takes 128 = .ok (.iload_n 3, 1) := by decide +kernel
theorem dX11_takes_129 : decode cX11_takes 129 = .ok (.invokevirtual 479, 3) := by decide +kernel
theorem dX11_takes_132 : decode cX11_takes 132 = .ok (.ifCond .eq 7, 3) := by decide +kernel
theorem dX11_takes_135 : decode cX11_takes 135 = .ok (.lconst 1, 1) := by decide +kernel
theorem dX11_takes_136 : decode cX11_takes 136 = .ok (.goto 4, 3) := by decide +kernel
theorem dX11_takes_139 : decode cX11_takes 139 = .ok (.lconst 0, 1) := by decide +kernel
theorem dX11_takes_140 : decode cX11_takes 140 = .ok (.lreturn, 1) := by decide +kernel
theorem dX11_owesNow_0 : decode cX11_owesNow 0 = .ok (.aload_n 0, 1) := by decide +kernel
theorem dX11_owesNow_1 : decode cX11_owesNow 1 = .ok (.invokevirtual 466, 3) := by decide +kernel
theorem dX11_owesNow_4 : decode cX11_owesNow 4 = .ok (.lconst 0, 1) := by decide +kernel
theorem dX11_owesNow_5 : decode cX11_owesNow 5 = .ok (.lstore_n 1, 1) := by decide +kernel
theorem dX11_owesNow_6 : decode cX11_owesNow 6 = .ok (.aload_n 0, 1) := by decide +kernel
theorem dX11_owesNow_7 : decode cX11_owesNow 7 = .ok (.iconst 0, 1) := by decide +kernel
theorem dX11_owesNow_8 : decode cX11_owesNow 8 = .ok (.putfield 518, 3) := by decide +kernel
theorem dX11_owesNow_11 : decode cX11_owesNow 11 = .ok (.aload_n 0, 1) := by decide +kernel
theorem dX11_owesNow_12 : decode cX11_owesNow 12 = .ok (.iconst 0, 1) := by decide +kernel
theorem dX11_owesNow_13 : decode cX11_owesNow 13 = .ok (.putfield 521, 3) := by decide +kernel
theorem dX11_owesNow_16 : decode cX11_owesNow 16 = .ok (.iconst 0, 1) := by decide +kernel
theorem dX11_owesNow_17 : decode cX11_owesNow 17 = .ok (.istore_n 3, 1) := by decide +kernel
theorem dX11_owesNow_18 : decode cX11_owesNow 18 = .ok (.iload_n 3, 1) := by decide +kernel
theorem dX11_owesNow_19 : decode cX11_owesNow 19 = .ok (.aload_n 0, 1) := by decide +kernel
theorem dX11_owesNow_20 : decode cX11_owesNow 20 = .ok (.getfield 421, 3) := by decide +kernel
theorem dX11_owesNow_23 : decode cX11_owesNow 23 = .ok (.if_icmp .ge 109, 3) := by decide +kernel
theorem dX11_owesNow_26 : decode cX11_owesNow 26 = .ok (.aload_n 0, 1) := by decide +kernel
theorem dX11_owesNow_27 : decode cX11_owesNow 27 = .ok (.iload_n 3, 1) := by decide +kernel
theorem dX11_owesNow_28 : decode cX11_owesNow 28 = .ok (.invokevirtual 515, 3) := by decide +kernel
theorem dX11_owesNow_31 : decode cX11_owesNow 31 = .ok (.pop, 1) := by decide +kernel
theorem dX11_owesNow_32 : decode cX11_owesNow 32 = .ok (.iconst 0, 1) := by decide +kernel
theorem dX11_owesNow_33 : decode cX11_owesNow 33 = .ok (.istore 4, 2) := by decide +kernel
theorem dX11_owesNow_35 : decode cX11_owesNow 35 = .ok (.iconst 0, 1) := by decide +kernel
theorem dX11_owesNow_36 : decode cX11_owesNow 36 = .ok (.istore 5, 2) := by decide +kernel
theorem dX11_owesNow_38 : decode cX11_owesNow 38 = .ok (.iload 5, 2) := by decide +kernel
theorem dX11_owesNow_40 : decode cX11_owesNow 40 = .ok (.bipush 6, 2) := by decide +kernel
theorem dX11_owesNow_42 : decode cX11_owesNow 42 = .ok (.if_icmp .ge 41, 3) := by decide +kernel
theorem dX11_owesNow_45 : decode cX11_owesNow 45 = .ok (.lload_n 1, 1) := by decide +kernel
theorem dX11_owesNow_46 : decode cX11_owesNow 46 = .ok (.aload_n 0, 1) := by decide +kernel
theorem dX11_owesNow_47 : decode cX11_owesNow 47 = .ok (.getfield 156, 3) := by decide +kernel
theorem dX11_owesNow_50 : decode cX11_owesNow 50 = .ok (.iload 5, 2) := by decide +kernel
theorem dX11_owesNow_52 : decode cX11_owesNow 52 = .ok (.laload, 1) := by decide +kernel
theorem dX11_owesNow_53 : decode cX11_owesNow 53 = .ok (.ladd, 1) := by decide +kernel
theorem dX11_owesNow_54 : decode cX11_owesNow 54 = .ok (.lstore_n 1, 1) := by decide +kernel
theorem dX11_owesNow_55 : decode cX11_owesNow 55 = .ok (.iload 4, 2) := by decide +kernel
theorem dX11_owesNow_57 : decode cX11_owesNow 57 = .ok (.aload_n 0, 1) := by decide +kernel
theorem dX11_owesNow_58 : decode cX11_owesNow 58 = .ok (.getfield 156, 3) := by decide +kernel
theorem dX11_owesNow_61 : decode cX11_owesNow 61 = .ok (.iload 5, 2) := by decide +kernel
theorem dX11_owesNow_63 : decode cX11_owesNow 63 = .ok (.laload, 1) := by decide +kernel
theorem dX11_owesNow_64 : decode cX11_owesNow 64 = .ok (.lconst 0, 1) := by decide +kernel
theorem dX11_owesNow_65 : decode cX11_owesNow 65 = .ok (.lcmp, 1) := by decide +kernel
theorem dX11_owesNow_66 : decode cX11_owesNow 66 = .ok (.ifCond .le 7, 3) := by decide +kernel
theorem dX11_owesNow_69 : decode cX11_owesNow 69 = .ok (.iconst 1, 1) := by decide +kernel
theorem dX11_owesNow_70 : decode cX11_owesNow 70 = .ok (.goto 4, 3) := by decide +kernel
theorem dX11_owesNow_73 : decode cX11_owesNow 73 = .ok (.iconst 0, 1) := by decide +kernel
theorem dX11_owesNow_74 : decode cX11_owesNow 74 = .ok (.iadd, 1) := by decide +kernel
theorem dX11_owesNow_75 : decode cX11_owesNow 75 = .ok (.istore 4, 2) := by decide +kernel
theorem dX11_owesNow_77 : decode cX11_owesNow 77 = .ok (.iinc 5 1, 3) := by decide +kernel
theorem dX11_owesNow_80 : decode cX11_owesNow 80 = .ok (.goto (-42), 3) := by decide +kernel
theorem dX11_owesNow_83 : decode cX11_owesNow 83 = .ok (.aload_n 0, 1) := by decide +kernel
theorem dX11_owesNow_84 : decode cX11_owesNow 84 = .ok (.dup, 1) := by decide +kernel
theorem dX11_owesNow_85 : decode cX11_owesNow 85 = .ok (.getfield 518, 3) := by decide +kernel
theorem dX11_owesNow_88 : decode cX11_owesNow 88 = .ok (.iload 4, 2) := by decide +kernel
theorem dX11_owesNow_90 : decode cX11_owesNow 90 = .ok (.ifCond .ne 9, 3) := by decide +kernel
theorem dX11_owesNow_93 : decode cX11_owesNow 93 = .ok (.iconst 1, 1) := by decide +kernel
theorem dX11_owesNow_94 : decode cX11_owesNow 94 = .ok (.iload_n 3, 1) := by decide +kernel
theorem dX11_owesNow_95 : decode cX11_owesNow 95 = .ok (.ishl, 1) := by decide +kernel
theorem dX11_owesNow_96 : decode cX11_owesNow 96 = .ok (.goto 4, 3) := by decide +kernel
theorem dX11_owesNow_99 : decode cX11_owesNow 99 = .ok (.iconst 0, 1) := by decide +kernel
theorem dX11_owesNow_100 : decode cX11_owesNow 100 = .ok (.ior, 1) := by decide +kernel
theorem dX11_owesNow_101 : decode cX11_owesNow 101 = .ok (.putfield 518, 3) := by decide +kernel
theorem dX11_owesNow_104 : decode cX11_owesNow 104 = .ok (.aload_n 0, 1) := by decide +kernel
theorem dX11_owesNow_105 : decode cX11_owesNow 105 = .ok (.dup, 1) := by decide +kernel
theorem dX11_owesNow_106 : decode cX11_owesNow 106 = .ok (.getfield 521, 3) := by decide +kernel
theorem dX11_owesNow_109 : decode cX11_owesNow 109 = .ok (.iload 4, 2) := by decide +kernel
theorem dX11_owesNow_111 : decode cX11_owesNow 111 = .ok (.iconst 1, 1) := by decide +kernel
theorem dX11_owesNow_112 : decode cX11_owesNow 112 = .ok (.if_icmp .le 9, 3) := by decide +kernel
theorem dX11_owesNow_115 : decode cX11_owesNow 115 = .ok (.iconst 1, 1) := by decide +kernel
theorem dX11_owesNow_116 : decode cX11_owesNow 116 = .ok (.iload_n 3, 1) := by decide +kernel
theorem dX11_owesNow_117 : decode cX11_owesNow 117 = .ok (.ishl, 1) := by decide +kernel
theorem dX11_owesNow_118 : decode cX11_owesNow 118 = .ok (.goto 4, 3) := by decide +kernel
theorem dX11_owesNow_121 : decode cX11_owesNow 121 = .ok (.iconst 0, 1) := by decide +kernel
theorem dX11_owesNow_122 : decode cX11_owesNow 122 = .ok (.ior, 1) := by decide +kernel
theorem dX11_owesNow_123 : decode cX11_owesNow 123 = .ok (.putfield 521, 3) := by decide +kernel
theorem dX11_owesNow_126 : decode cX11_owesNow 126 = .ok (.iinc 3 1, 3) := by decide +kernel
theorem dX11_owesNow_129 : decode cX11_owesNow 129 = .ok (.goto (-111), 3) := by decide +kernel
theorem dX11_owesNow_132 : decode cX11_owesNow 132 = .ok (.lload_n 1, 1) := by decide +kernel
theorem dX11_owesNow_133 : decode cX11_owesNow 133 = .ok (.lreturn, 1) := by decide +kernel
theorem dX11_owes_0 : decode cX11_owes 0 = .ok (.iload_n 1, 1) := by decide +kernel
theorem dX11_owes_1 : decode cX11_owes 1 = .ok (.invokestatic 207, 3) := by decide +kernel
theorem dX11_owes_4 : decode cX11_owes 4 = .ok (.ifCond .ne 7, 3) := by decide +kernel
theorem dX11_owes_7 : decode cX11_owes 7 = .ok (.ldc2_w 474, 3) := by decide +kernel
theorem dX11_owes_10 : decode cX11_owes 10 = .ok (.lreturn, 1) := by decide +kernel
theorem dX11_owes_11 : decode cX11_owes 11 = .ok (.aload_n 0, 1) := by decide +kernel
theorem dX11_owes_12 : decode cX11_owes 12 = .ok (.iload_n 1, 1) := by decide +kernel
theorem dX11_owes_13 : decode cX11_owes 13 = .ok (.invokevirtual 463, 3) := by decide +kernel
theorem dX11_owes_16 : decode cX11_owes 16 = .ok (.aload_n 0, 1) := by decide +kernel
theorem dX11_owes_17 : decode cX11_owes 17 = .ok (.invokevirtual 524, 3) := by decide +kernel
theorem dX11_owes_20 : decode cX11_owes 20 = .ok (.lstore_n 3, 1) := by decide +kernel
theorem dX11_owes_21 : decode cX11_owes 21 = .ok (.iload_n 2, 1) := by decide +kernel
theorem dX11_owes_22 : decode cX11_owes 22 = .ok (.tableswitch 70 0 5 #[38, 40, 46, 52, 58, 64], 38) := by decide +kernel
theorem dX11_owes_60 : decode cX11_owes 60 = .ok (.lload_n 3, 1) := by decide +kernel
theorem dX11_owes_61 : decode cX11_owes 61 = .ok (.lreturn, 1) := by decide +kernel
theorem dX11_owes_62 : decode cX11_owes 62 = .ok (.aload_n 0, 1) := by decide +kernel
theorem dX11_owes_63 : decode cX11_owes 63 = .ok (.getfield 518, 3) := by decide +kernel
theorem dX11_owes_66 : decode cX11_owes 66 = .ok (.i2l, 1) := by decide +kernel
theorem dX11_owes_67 : decode cX11_owes 67 = .ok (.lreturn, 1) := by decide +kernel
theorem dX11_owes_68 : decode cX11_owes 68 = .ok (.aload_n 0, 1) := by decide +kernel
theorem dX11_owes_69 : decode cX11_owes 69 = .ok (.getfield 521, 3) := by decide +kernel
theorem dX11_owes_72 : decode cX11_owes 72 = .ok (.i2l, 1) := by decide +kernel
theorem dX11_owes_73 : decode cX11_owes 73 = .ok (.lreturn, 1) := by decide +kernel
theorem dX11_owes_74 : decode cX11_owes 74 = .ok (.aload_n 0, 1) := by decide +kernel
theorem dX11_owes_75 : decode cX11_owes 75 = .ok (.getfield 457, 3) := by decide +kernel
theorem dX11_owes_78 : decode cX11_owes 78 = .ok (.i2l, 1) := by decide +kernel
theorem dX11_owes_79 : decode cX11_owes 79 = .ok (.lreturn, 1) := by decide +kernel
theorem dX11_owes_80 : decode cX11_owes 80 = .ok (.aload_n 0, 1) := by decide +kernel
theorem dX11_owes_81 : decode cX11_owes 81 = .ok (.getfield 424, 3) := by decide +kernel
theorem dX11_owes_84 : decode cX11_owes 84 = .ok (.i2l, 1) := by decide +kernel
theorem dX11_owes_85 : decode cX11_owes 85 = .ok (.lreturn, 1) := by decide +kernel
theorem dX11_owes_86 : decode cX11_owes 86 = .ok (.aload_n 0, 1) := by decide +kernel
theorem dX11_owes_87 : decode cX11_owes 87 = .ok (.getfield 408, 3) := by decide +kernel
theorem dX11_owes_90 : decode cX11_owes 90 = .ok (.i2l, 1) := by decide +kernel
theorem dX11_owes_91 : decode cX11_owes 91 = .ok (.lreturn, 1) := by decide +kernel
theorem dX11_owes_92 : decode cX11_owes 92 = .ok (.ldc2_w 474, 3) := by decide +kernel
theorem dX11_owes_95 : decode cX11_owes 95 = .ok (.lreturn, 1) := by decide +kernel
theorem dX11_edge_0 : decode cX11_edge 0 = .ok (.iload 4, 2) := by decide +kernel
theorem dX11_edge_2 : decode cX11_edge 2 = .ok (.iconst 1, 1) := by decide +kernel
theorem dX11_edge_3 : decode cX11_edge 3 = .ok (.if_icmp .ne 9, 3) := by decide +kernel
theorem dX11_edge_6 : decode cX11_edge 6 = .ok (.ldc2_w 528, 3) := by decide +kernel
theorem dX11_edge_9 : decode cX11_edge 9 = .ok (.goto 6, 3) := by decide +kernel
theorem dX11_edge_12 : decode cX11_edge 12 = .ok (.ldc2_w 474, 3) := by decide +kernel
theorem dX11_edge_15 : decode cX11_edge 15 = .ok (.lstore 5, 2) := by decide +kernel
theorem dX11_edge_17 : decode cX11_edge 17 = .ok (.iload_n 1, 1) := by decide +kernel
theorem dX11_edge_18 : decode cX11_edge 18 = .ok (.invokestatic 207, 3) := by decide +kernel
theorem dX11_edge_21 : decode cX11_edge 21 = .ok (.ifCond .eq 32, 3) := by decide +kernel
theorem dX11_edge_24 : decode cX11_edge 24 = .ok (.iload_n 2, 1) := by decide +kernel
theorem dX11_edge_25 : decode cX11_edge 25 = .ok (.invokestatic 211, 3) := by decide +kernel
theorem dX11_edge_28 : decode cX11_edge 28 = .ok (.ifCond .eq 25, 3) := by decide +kernel
theorem dX11_edge_31 : decode cX11_edge 31 = .ok (.iload_n 3, 1) := by decide +kernel
theorem dX11_edge_32 : decode cX11_edge 32 = .ok (.invokestatic 211, 3) := by decide +kernel
theorem dX11_edge_35 : decode cX11_edge 35 = .ok (.ifCond .eq 18, 3) := by decide +kernel
theorem dX11_edge_38 : decode cX11_edge 38 = .ok (.iload_n 2, 1) := by decide +kernel
theorem dX11_edge_39 : decode cX11_edge 39 = .ok (.iload_n 3, 1) := by decide +kernel
theorem dX11_edge_40 : decode cX11_edge 40 = .ok (.if_icmp .eq 13, 3) := by decide +kernel
theorem dX11_edge_43 : decode cX11_edge 43 = .ok (.iload 4, 2) := by decide +kernel
theorem dX11_edge_45 : decode cX11_edge 45 = .ok (.iconst 0, 1) := by decide +kernel
theorem dX11_edge_46 : decode cX11_edge 46 = .ok (.iconst 1, 1) := by decide +kernel
theorem dX11_edge_47 : decode cX11_edge 47 = .ok (.invokestatic 1, 3) := by decide +kernel
theorem dX11_edge_50 : decode cX11_edge 50 = .ok (.ifCond .ne 6, 3) := by decide +kernel
theorem dX11_edge_53 : decode cX11_edge 53 = .ok (.lload 5, 2) := by decide +kernel
theorem dX11_edge_55 : decode cX11_edge 55 = .ok (.lreturn, 1) := by decide +kernel
theorem dX11_edge_56 : decode cX11_edge 56 = .ok (.aload_n 0, 1) := by decide +kernel
theorem dX11_edge_57 : decode cX11_edge 57 = .ok (.iload_n 1, 1) := by decide +kernel
theorem dX11_edge_58 : decode cX11_edge 58 = .ok (.invokevirtual 463, 3) := by decide +kernel
theorem dX11_edge_61 : decode cX11_edge 61 = .ok (.aload_n 0, 1) := by decide +kernel
theorem dX11_edge_62 : decode cX11_edge 62 = .ok (.invokevirtual 524, 3) := by decide +kernel
theorem dX11_edge_65 : decode cX11_edge 65 = .ok (.lstore 7, 2) := by decide +kernel
theorem dX11_edge_67 : decode cX11_edge 67 = .ok (.aload_n 0, 1) := by decide +kernel
theorem dX11_edge_68 : decode cX11_edge 68 = .ok (.iload_n 2, 1) := by decide +kernel
theorem dX11_edge_69 : decode cX11_edge 69 = .ok (.invokevirtual 454, 3) := by decide +kernel
theorem dX11_edge_72 : decode cX11_edge 72 = .ok (.istore 9, 2) := by decide +kernel
theorem dX11_edge_74 : decode cX11_edge 74 = .ok (.aload_n 0, 1) := by decide +kernel
theorem dX11_edge_75 : decode cX11_edge 75 = .ok (.getfield 122, 3) := by decide +kernel
theorem dX11_edge_78 : decode cX11_edge 78 = .ok (.iload_n 2, 1) := by decide +kernel
theorem dX11_edge_79 : decode cX11_edge 79 = .ok (.iaload, 1) := by decide +kernel
theorem dX11_edge_80 : decode cX11_edge 80 = .ok (.istore 10, 2) := by decide +kernel
theorem dX11_edge_82 : decode cX11_edge 82 = .ok (.aload_n 0, 1) := by decide +kernel
theorem dX11_edge_83 : decode cX11_edge 83 = .ok (.getfield 122, 3) := by decide +kernel
theorem dX11_edge_86 : decode cX11_edge 86 = .ok (.iload_n 3, 1) := by decide +kernel
theorem dX11_edge_87 : decode cX11_edge 87 = .ok (.iaload, 1) := by decide +kernel
theorem dX11_edge_88 : decode cX11_edge 88 = .ok (.istore 11, 2) := by decide +kernel
theorem dX11_edge_90 : decode cX11_edge 90 = .ok (.iconst 1, 1) := by decide +kernel
theorem dX11_edge_91 : decode cX11_edge 91 = .ok (.istore 12, 2) := by decide +kernel
theorem dX11_edge_93 : decode cX11_edge 93 = .ok (.iload 12, 2) := by decide +kernel
theorem dX11_edge_95 : decode cX11_edge 95 = .ok (.iload 10, 2) := by decide +kernel
theorem dX11_edge_97 : decode cX11_edge 97 = .ok (.if_icmp .le 10, 3) := by decide +kernel
theorem dX11_edge_100 : decode cX11_edge 100 = .ok (.iload 12, 2) := by decide +kernel
theorem dX11_edge_102 : decode cX11_edge 102 = .ok (.iload 11, 2) := by decide +kernel
theorem dX11_edge_104 : decode cX11_edge 104 = .ok (.if_icmp .gt 121, 3) := by decide +kernel
theorem dX11_edge_107 : decode cX11_edge 107 = .ok (.iconst 0, 1) := by decide +kernel
theorem dX11_edge_108 : decode cX11_edge 108 = .ok (.istore 13, 2) := by decide +kernel
theorem dX11_edge_110 : decode cX11_edge 110 = .ok (.iload 13, 2) := by decide +kernel
theorem dX11_edge_112 : decode cX11_edge 112 = .ok (.iconst 2, 1) := by decide +kernel
theorem dX11_edge_113 : decode cX11_edge 113 = .ok (.if_icmp .ge 106, 3) := by decide +kernel
theorem dX11_edge_116 : decode cX11_edge 116 = .ok (.iload 12, 2) := by decide +kernel
theorem dX11_edge_118 : decode cX11_edge 118 = .ok (.iload 13, 2) := by decide +kernel
theorem dX11_edge_120 : decode cX11_edge 120 = .ok (.ifCond .ne 8, 3) := by decide +kernel
theorem dX11_edge_123 : decode cX11_edge 123 = .ok (.iload 10, 2) := by decide +kernel
theorem dX11_edge_125 : decode cX11_edge 125 = .ok (.goto 5, 3) := by decide +kernel
theorem dX11_edge_128 : decode cX11_edge 128 = .ok (.iload 11, 2) := by decide +kernel
theorem dX11_edge_130 : decode cX11_edge 130 = .ok (.if_icmp .le 6, 3) := by decide +kernel
theorem dX11_edge_133 : decode cX11_edge 133 = .ok (.goto 80, 3) := by decide +kernel
theorem dX11_edge_136 : decode cX11_edge 136 = .ok (.aload_n 0, 1) := by decide +kernel
theorem dX11_edge_137 : decode cX11_edge 137 = .ok (.getfield 122, 3) := by decide +kernel
theorem dX11_edge_140 : decode cX11_edge 140 = .ok (.iload_n 2, 1) := by decide +kernel
theorem dX11_edge_141 : decode cX11_edge 141 = .ok (.iload 13, 2) := by decide +kernel
theorem dX11_edge_143 : decode cX11_edge 143 = .ok (.ifCond .ne 11, 3) := by decide +kernel
theorem dX11_edge_146 : decode cX11_edge 146 = .ok (.iload 10, 2) := by decide +kernel
theorem dX11_edge_148 : decode cX11_edge 148 = .ok (.iload 12, 2) := by decide +kernel
theorem dX11_edge_150 : decode cX11_edge 150 = .ok (.isub, 1) := by decide +kernel
theorem dX11_edge_151 : decode cX11_edge 151 = .ok (.goto 8, 3) := by decide +kernel
theorem dX11_edge_154 : decode cX11_edge 154 = .ok (.iload 10, 2) := by decide +kernel
theorem dX11_edge_156 : decode cX11_edge 156 = .ok (.iload 12, 2) := by decide +kernel
theorem dX11_edge_158 : decode cX11_edge 158 = .ok (.iadd, 1) := by decide +kernel
theorem dX11_edge_159 : decode cX11_edge 159 = .ok (.iastore, 1) := by decide +kernel
theorem dX11_edge_160 : decode cX11_edge 160 = .ok (.aload_n 0, 1) := by decide +kernel
theorem dX11_edge_161 : decode cX11_edge 161 = .ok (.getfield 122, 3) := by decide +kernel
theorem dX11_edge_164 : decode cX11_edge 164 = .ok (.iload_n 3, 1) := by decide +kernel
theorem dX11_edge_165 : decode cX11_edge 165 = .ok (.iload 13, 2) := by decide +kernel
theorem dX11_edge_167 : decode cX11_edge 167 = .ok (.ifCond .ne 11, 3) := by decide +kernel
theorem dX11_edge_170 : decode cX11_edge 170 = .ok (.iload 11, 2) := by decide +kernel
theorem dX11_edge_172 : decode cX11_edge 172 = .ok (.iload 12, 2) := by decide +kernel
theorem dX11_edge_174 : decode cX11_edge 174 = .ok (.iadd, 1) := by decide +kernel
theorem dX11_edge_175 : decode cX11_edge 175 = .ok (.goto 8, 3) := by decide +kernel
theorem dX11_edge_178 : decode cX11_edge 178 = .ok (.iload 11, 2) := by decide +kernel
theorem dX11_edge_180 : decode cX11_edge 180 = .ok (.iload 12, 2) := by decide +kernel
theorem dX11_edge_182 : decode cX11_edge 182 = .ok (.isub, 1) := by decide +kernel
theorem dX11_edge_183 : decode cX11_edge 183 = .ok (.iastore, 1) := by decide +kernel
theorem dX11_edge_184 : decode cX11_edge 184 = .ok (.aload_n 0, 1) := by decide +kernel
theorem dX11_edge_185 : decode cX11_edge 185 = .ok (.iload_n 2, 1) := by decide +kernel
theorem dX11_edge_186 : decode cX11_edge 186 = .ok (.invokevirtual 454, 3) := by decide +kernel
theorem dX11_edge_189 : decode cX11_edge 189 = .ok (.iload 9, 2) := by decide +kernel
theorem dX11_edge_191 : decode cX11_edge 191 = .ok (.if_icmp .eq 22, 3) := by decide +kernel
theorem dX11_edge_194 : decode cX11_edge 194 = .ok (.iload 4, 2) := by decide +kernel
theorem dX11_edge_196 : decode cX11_edge 196 = .ok (.ifCond .ne 9, 3) := by decide +kernel
theorem dX11_edge_199 : decode cX11_edge 199 = .ok (.iload 12, 2) := by decide +kernel
theorem dX11_edge_201 : decode cX11_edge 201 = .ok (.i2l, 1) := by decide +kernel
theorem dX11_edge_202 : decode cX11_edge 202 = .ok (.goto 10, 3) := by decide +kernel
theorem dX11_edge_205 : decode cX11_edge 205 = .ok (.aload_n 0, 1) := by decide +kernel
theorem dX11_edge_206 : decode cX11_edge 206 = .ok (.invokevirtual 524, 3) := by decide +kernel
theorem dX11_edge_209 : decode cX11_edge 209 = .ok (.lload 7, 2) := by decide +kernel
theorem dX11_edge_211 : decode cX11_edge 211 = .ok (.lsub, 1) := by decide +kernel
theorem dX11_edge_212 : decode cX11_edge 212 = .ok (.lreturn, 1) := by decide +kernel
theorem dX11_edge_213 : decode cX11_edge 213 = .ok (.iinc 13 1, 3) := by decide +kernel
theorem dX11_edge_216 : decode cX11_edge 216 = .ok (.goto (-106), 3) := by decide +kernel
theorem dX11_edge_219 : decode cX11_edge 219 = .ok (.iinc 12 1, 3) := by decide +kernel
theorem dX11_edge_222 : decode cX11_edge 222 = .ok (.goto (-129), 3) := by decide +kernel
theorem dX11_edge_225 : decode cX11_edge 225 = .ok (.lload 5, 2) := by decide +kernel
theorem dX11_edge_227 : decode cX11_edge 227 = .ok (.lreturn, 1) := by decide +kernel
theorem dX11_hangs_0 : decode cX11_hangs 0 = .ok (.iload_n 1, 1) := by decide +kernel
theorem dX11_hangs_1 : decode cX11_hangs 1 = .ok (.invokestatic 207, 3) := by decide +kernel
theorem dX11_hangs_4 : decode cX11_hangs 4 = .ok (.ifCond .eq 10, 3) := by decide +kernel
theorem dX11_hangs_7 : decode cX11_hangs 7 = .ok (.iload_n 2, 1) := by decide +kernel
theorem dX11_hangs_8 : decode cX11_hangs 8 = .ok (.invokestatic 211, 3) := by decide +kernel
theorem dX11_hangs_11 : decode cX11_hangs 11 = .ok (.ifCond .ne 5, 3) := by decide +kernel
theorem dX11_hangs_14 : decode cX11_hangs 14 = .ok (.iconst (-1), 1) := by decide +kernel
theorem dX11_hangs_15 : decode cX11_hangs 15 = .ok (.ireturn, 1) := by decide +kernel
theorem dX11_hangs_16 : decode cX11_hangs 16 = .ok (.aload_n 0, 1) := by decide +kernel
theorem dX11_hangs_17 : decode cX11_hangs 17 = .ok (.iload_n 1, 1) := by decide +kernel
theorem dX11_hangs_18 : decode cX11_hangs 18 = .ok (.invokevirtual 463, 3) := by decide +kernel
theorem dX11_hangs_21 : decode cX11_hangs 21 = .ok (.iconst 0, 1) := by decide +kernel
theorem dX11_hangs_22 : decode cX11_hangs 22 = .ok (.istore_n 3, 1) := by decide +kernel
theorem dX11_hangs_23 : decode cX11_hangs 23 = .ok (.iconst 0, 1) := by decide +kernel
theorem dX11_hangs_24 : decode cX11_hangs 24 = .ok (.istore 4, 2) := by decide +kernel
theorem dX11_hangs_26 : decode cX11_hangs 26 = .ok (.aload_n 0, 1) := by decide +kernel
theorem dX11_hangs_27 : decode cX11_hangs 27 = .ok (.getfield 122, 3) := by decide +kernel
theorem dX11_hangs_30 : decode cX11_hangs 30 = .ok (.iload_n 2, 1) := by decide +kernel
theorem dX11_hangs_31 : decode cX11_hangs 31 = .ok (.iaload, 1) := by decide +kernel
theorem dX11_hangs_32 : decode cX11_hangs 32 = .ok (.istore 5, 2) := by decide +kernel
theorem dX11_hangs_34 : decode cX11_hangs 34 = .ok (.iconst 0, 1) := by decide +kernel
theorem dX11_hangs_35 : decode cX11_hangs 35 = .ok (.istore 6, 2) := by decide +kernel
theorem dX11_hangs_37 : decode cX11_hangs 37 = .ok (.iload 6, 2) := by decide +kernel
theorem dX11_hangs_39 : decode cX11_hangs 39 = .ok (.aload_n 0, 1) := by decide +kernel
theorem dX11_hangs_40 : decode cX11_hangs 40 = .ok (.getfield 408, 3) := by decide +kernel
theorem dX11_hangs_43 : decode cX11_hangs 43 = .ok (.if_icmp .gt 118, 3) := by decide +kernel
theorem dX11_hangs_46 : decode cX11_hangs 46 = .ok (.iconst 0, 1) := by decide +kernel
theorem dX11_hangs_47 : decode cX11_hangs 47 = .ok (.istore 7, 2) := by decide +kernel
theorem dX11_hangs_49 : decode cX11_hangs 49 = .ok (.iload 7, 2) := by decide +kernel
theorem dX11_hangs_51 : decode cX11_hangs 51 = .ok (.bipush 6, 2) := by decide +kernel
theorem dX11_hangs_53 : decode cX11_hangs 53 = .ok (.if_icmp .ge 102, 3) := by decide +kernel
theorem dX11_hangs_56 : decode cX11_hangs 56 = .ok (.iload 7, 2) := by decide +kernel
theorem dX11_hangs_58 : decode cX11_hangs 58 = .ok (.iload_n 2, 1) := by decide +kernel
theorem dX11_hangs_59 : decode cX11_hangs 59 = .ok (.if_icmp .ne 6, 3) := by decide +kernel
theorem dX11_hangs_62 : decode cX11_hangs 62 = .ok (.goto 87, 3) := by decide +kernel
theorem dX11_hangs_65 : decode cX11_hangs 65 = .ok (.aload_n 0, 1) := by decide +kernel
theorem dX11_hangs_66 : decode cX11_hangs 66 = .ok (.getfield 122, 3) := by decide +kernel
theorem dX11_hangs_69 : decode cX11_hangs 69 = .ok (.iload_n 2, 1) := by decide +kernel
theorem dX11_hangs_70 : decode cX11_hangs 70 = .ok (.iload 5, 2) := by decide +kernel
theorem dX11_hangs_72 : decode cX11_hangs 72 = .ok (.iload 6, 2) := by decide +kernel
theorem dX11_hangs_74 : decode cX11_hangs 74 = .ok (.iadd, 1) := by decide +kernel
theorem dX11_hangs_75 : decode cX11_hangs 75 = .ok (.iastore, 1) := by decide +kernel
theorem dX11_hangs_76 : decode cX11_hangs 76 = .ok (.aload_n 0, 1) := by decide +kernel
theorem dX11_hangs_77 : decode cX11_hangs 77 = .ok (.getfield 122, 3) := by decide +kernel
theorem dX11_hangs_80 : decode cX11_hangs 80 = .ok (.iload 7, 2) := by decide +kernel
theorem dX11_hangs_82 : decode cX11_hangs 82 = .ok (.dup2, 1) := by decide +kernel
theorem dX11_hangs_83 : decode cX11_hangs 83 = .ok (.iaload, 1) := by decide +kernel
theorem dX11_hangs_84 : decode cX11_hangs 84 = .ok (.aload_n 0, 1) := by decide +kernel
theorem dX11_hangs_85 : decode cX11_hangs 85 = .ok (.getfield 408, 3) := by decide +kernel
theorem dX11_hangs_88 : decode cX11_hangs 88 = .ok (.iload 6, 2) := by decide +kernel
theorem dX11_hangs_90 : decode cX11_hangs 90 = .ok (.isub, 1) := by decide +kernel
theorem dX11_hangs_91 : decode cX11_hangs 91 = .ok (.iadd, 1) := by decide +kernel
theorem dX11_hangs_92 : decode cX11_hangs 92 = .ok (.iastore, 1) := by decide +kernel
theorem dX11_hangs_93 : decode cX11_hangs 93 = .ok (.aload_n 0, 1) := by decide +kernel
theorem dX11_hangs_94 : decode cX11_hangs 94 = .ok (.iload_n 2, 1) := by decide +kernel
theorem dX11_hangs_95 : decode cX11_hangs 95 = .ok (.invokevirtual 454, 3) := by decide +kernel
theorem dX11_hangs_98 : decode cX11_hangs 98 = .ok (.istore 8, 2) := by decide +kernel
theorem dX11_hangs_100 : decode cX11_hangs 100 = .ok (.aload_n 0, 1) := by decide +kernel
theorem dX11_hangs_101 : decode cX11_hangs 101 = .ok (.getfield 122, 3) := by decide +kernel
theorem dX11_hangs_104 : decode cX11_hangs 104 = .ok (.iload 7, 2) := by decide +kernel
theorem dX11_hangs_106 : decode cX11_hangs 106 = .ok (.dup2, 1) := by decide +kernel
theorem dX11_hangs_107 : decode cX11_hangs 107 = .ok (.iaload, 1) := by decide +kernel
theorem dX11_hangs_108 : decode cX11_hangs 108 = .ok (.aload_n 0, 1) := by decide +kernel
theorem dX11_hangs_109 : decode cX11_hangs 109 = .ok (.getfield 408, 3) := by decide +kernel
theorem dX11_hangs_112 : decode cX11_hangs 112 = .ok (.iload 6, 2) := by decide +kernel
theorem dX11_hangs_114 : decode cX11_hangs 114 = .ok (.isub, 1) := by decide +kernel
theorem dX11_hangs_115 : decode cX11_hangs 115 = .ok (.isub, 1) := by decide +kernel
theorem dX11_hangs_116 : decode cX11_hangs 116 = .ok (.iastore, 1) := by decide +kernel
theorem dX11_hangs_117 : decode cX11_hangs 117 = .ok (.iload_n 3, 1) := by decide +kernel
theorem dX11_hangs_118 : decode cX11_hangs 118 = .ok (.ifCond .ne 8, 3) := by decide +kernel
theorem dX11_hangs_121 : decode cX11_hangs 121 = .ok (.iload 8, 2) := by decide +kernel
theorem dX11_hangs_123 : decode cX11_hangs 123 = .ok (.ifCond .eq 7, 3) := by decide +kernel
theorem dX11_hangs_126 : decode cX11_hangs 126 = .ok (.iconst 1, 1) := by decide +kernel
theorem dX11_hangs_127 : decode cX11_hangs 127 = .ok (.goto 4, 3) := by decide +kernel
theorem dX11_hangs_130 : decode cX11_hangs 130 = .ok (.iconst 0, 1) := by decide +kernel
theorem dX11_hangs_131 : decode cX11_hangs 131 = .ok (.istore_n 3, 1) := by decide +kernel
theorem dX11_hangs_132 : decode cX11_hangs 132 = .ok (.iload 4, 2) := by decide +kernel
theorem dX11_hangs_134 : decode cX11_hangs 134 = .ok (.ifCond .ne 8, 3) := by decide +kernel
theorem dX11_hangs_137 : decode cX11_hangs 137 = .ok (.iload 8, 2) := by decide +kernel
theorem dX11_hangs_139 : decode cX11_hangs 139 = .ok (.ifCond .ne 7, 3) := by decide +kernel
theorem dX11_hangs_142 : decode cX11_hangs 142 = .ok (.iconst 1, 1) := by decide +kernel
theorem dX11_hangs_143 : decode cX11_hangs 143 = .ok (.goto 4, 3) := by decide +kernel
theorem dX11_hangs_146 : decode cX11_hangs 146 = .ok (.iconst 0, 1) := by decide +kernel
theorem dX11_hangs_147 : decode cX11_hangs 147 = .ok (.istore 4, 2) := by decide +kernel
theorem dX11_hangs_149 : decode cX11_hangs 149 = .ok (.iinc 7 1, 3) := by decide +kernel
theorem dX11_hangs_152 : decode cX11_hangs 152 = .ok (.goto (-103), 3) := by decide +kernel
theorem dX11_hangs_155 : decode cX11_hangs 155 = .ok (.iinc 6 1, 3) := by decide +kernel
theorem dX11_hangs_158 : decode cX11_hangs 158 = .ok (.goto (-121), 3) := by decide +kernel
theorem dX11_hangs_161 : decode cX11_hangs 161 = .ok (.iload_n 3, 1) := by decide +kernel
theorem dX11_hangs_162 : decode cX11_hangs 162 = .ok (.ifCond .eq 16, 3) := by decide +kernel
theorem dX11_hangs_165 : decode cX11_hangs 165 = .ok (.iload 4, 2) := by decide +kernel
theorem dX11_hangs_167 : decode cX11_hangs 167 = .ok (.ifCond .eq 7, 3) := by decide +kernel
theorem dX11_hangs_170 : decode cX11_hangs 170 = .ok (.iconst 2, 1) := by decide +kernel
theorem dX11_hangs_171 : decode cX11_hangs 171 = .ok (.goto 8, 3) := by decide +kernel
theorem dX11_hangs_174 : decode cX11_hangs 174 = .ok (.iconst 1, 1) := by decide +kernel
theorem dX11_hangs_175 : decode cX11_hangs 175 = .ok (.goto 4, 3) := by decide +kernel
theorem dX11_hangs_178 : decode cX11_hangs 178 = .ok (.iconst 0, 1) := by decide +kernel
theorem dX11_hangs_179 : decode cX11_hangs 179 = .ok (.ireturn, 1) := by decide +kernel
theorem dX11_move_0 : decode cX11_move 0 = .ok (.iload_n 1, 1) := by decide +kernel
theorem dX11_move_1 : decode cX11_move 1 = .ok (.iconst 0, 1) := by decide +kernel
theorem dX11_move_2 : decode cX11_move 2 = .ok (.sipush 359, 3) := by decide +kernel
theorem dX11_move_5 : decode cX11_move 5 = .ok (.invokestatic 1, 3) := by decide +kernel
theorem dX11_move_8 : decode cX11_move 8 = .ok (.ifCond .eq 19, 3) := by decide +kernel
theorem dX11_move_11 : decode cX11_move 11 = .ok (.iload_n 2, 1) := by decide +kernel
theorem dX11_move_12 : decode cX11_move 12 = .ok (.invokestatic 211, 3) := by decide +kernel
theorem dX11_move_15 : decode cX11_move 15 = .ok (.ifCond .eq 12, 3) := by decide +kernel
theorem dX11_move_18 : decode cX11_move 18 = .ok (.aload_n 0, 1) := by decide +kernel
theorem dX11_move_19 : decode cX11_move 19 = .ok (.getfield 530, 3) := by decide +kernel
theorem dX11_move_22 : decode cX11_move 22 = .ok (.bipush 20, 2) := by decide +kernel
theorem dX11_move_24 : decode cX11_move 24 = .ok (.if_icmp .ne 5, 3) := by decide +kernel
theorem dX11_move_27 : decode cX11_move 27 = .ok (.iconst (-1), 1) := by decide +kernel
theorem dX11_move_28 : decode cX11_move 28 = .ok (.ireturn, 1) := by decide +kernel
theorem dX11_move_29 : decode cX11_move 29 = .ok (.aload_n 0, 1) := by decide +kernel
theorem dX11_move_30 : decode cX11_move 30 = .ok (.getfield 171, 3) := by decide +kernel
theorem dX11_move_33 : decode cX11_move 33 = .ok (.aload_n 0, 1) := by decide +kernel
theorem dX11_move_34 : decode cX11_move 34 = .ok (.getfield 530, 3) := by decide +kernel
theorem dX11_move_37 : decode cX11_move 37 = .ok (.iload_n 1, 1) := by decide +kernel
theorem dX11_move_38 : decode cX11_move 38 = .ok (.iastore, 1) := by decide +kernel
theorem dX11_move_39 : decode cX11_move 39 = .ok (.aload_n 0, 1) := by decide +kernel
theorem dX11_move_40 : decode cX11_move 40 = .ok (.getfield 174, 3) := by decide +kernel
theorem dX11_move_43 : decode cX11_move 43 = .ok (.aload_n 0, 1) := by decide +kernel
theorem dX11_move_44 : decode cX11_move 44 = .ok (.getfield 530, 3) := by decide +kernel
theorem dX11_move_47 : decode cX11_move 47 = .ok (.iload_n 2, 1) := by decide +kernel
theorem dX11_move_48 : decode cX11_move 48 = .ok (.iastore, 1) := by decide +kernel
theorem dX11_move_49 : decode cX11_move 49 = .ok (.aload_n 0, 1) := by decide +kernel
theorem dX11_move_50 : decode cX11_move 50 = .ok (.dup, 1) := by decide +kernel
theorem dX11_move_51 : decode cX11_move 51 = .ok (.getfield 530, 3) := by decide +kernel
theorem dX11_move_54 : decode cX11_move 54 = .ok (.iconst 1, 1) := by decide +kernel
theorem dX11_move_55 : decode cX11_move 55 = .ok (.iadd, 1) := by decide +kernel
theorem dX11_move_56 : decode cX11_move 56 = .ok (.putfield 530, 3) := by decide +kernel
theorem dX11_move_59 : decode cX11_move 59 = .ok (.aload_n 0, 1) := by decide +kernel
theorem dX11_move_60 : decode cX11_move 60 = .ok (.getfield 530, 3) := by decide +kernel
theorem dX11_move_63 : decode cX11_move 63 = .ok (.iconst 1, 1) := by decide +kernel
theorem dX11_move_64 : decode cX11_move 64 = .ok (.isub, 1) := by decide +kernel
theorem dX11_move_65 : decode cX11_move 65 = .ok (.ireturn, 1) := by decide +kernel
theorem dX11_owesByMove_0 : decode cX11_owesByMove 0 = .ok (.aload_n 0, 1) := by decide +kernel
theorem dX11_owesByMove_1 : decode cX11_owesByMove 1 = .ok (.iload_n 1, 1) := by decide +kernel
theorem dX11_owesByMove_2 : decode cX11_owesByMove 2 = .ok (.invokevirtual 463, 3) := by decide +kernel
theorem dX11_owesByMove_5 : decode cX11_owesByMove 5 = .ok (.aload_n 0, 1) := by decide +kernel
theorem dX11_owesByMove_6 : decode cX11_owesByMove 6 = .ok (.getfield 171, 3) := by decide +kernel
theorem dX11_owesByMove_9 : decode cX11_owesByMove 9 = .ok (.iload_n 2, 1) := by decide +kernel
theorem dX11_owesByMove_10 : decode cX11_owesByMove 10 = .ok (.iaload, 1) := by decide +kernel
theorem dX11_owesByMove_11 : decode cX11_owesByMove 11 = .ok (.istore_n 3, 1) := by decide +kernel
theorem dX11_owesByMove_12 : decode cX11_owesByMove 12 = .ok (.iload_n 3, 1) := by decide +kernel
theorem dX11_owesByMove_13 : decode cX11_owesByMove 13 = .ok (.sipush 360, 3) := by decide +kernel
theorem dX11_owesByMove_16 : decode cX11_owesByMove 16 = .ok (.if_icmp .ge 40, 3) := by decide +kernel
theorem dX11_owesByMove_19 : decode cX11_owesByMove 19 = .ok (.aload_n 0, 1) := by decide +kernel
theorem dX11_owesByMove_20 : decode cX11_owesByMove 20 = .ok (.getfield 13, 3) := by decide +kernel
theorem dX11_owesByMove_23 : decode cX11_owesByMove 23 = .ok (.sipush 360, 3) := by decide +kernel
theorem dX11_owesByMove_26 : decode cX11_owesByMove 26 = .ok (.iload_n 1, 1) := by decide +kernel
theorem dX11_owesByMove_27 : decode cX11_owesByMove 27 = .ok (.imul, 1) := by decide +kernel
theorem dX11_owesByMove_28 : decode cX11_owesByMove 28 = .ok (.iload_n 3, 1) := by decide +kernel
theorem dX11_owesByMove_29 : decode cX11_owesByMove 29 = .ok (.iadd, 1) := by decide +kernel
theorem dX11_owesByMove_30 : decode cX11_owesByMove 30 = .ok (.iaload, 1) := by decide +kernel
theorem dX11_owesByMove_31 : decode cX11_owesByMove 31 = .ok (.istore 4, 2) := by decide +kernel
theorem dX11_owesByMove_33 : decode cX11_owesByMove 33 = .ok (.iload 4, 2) := by decide +kernel
theorem dX11_owesByMove_35 : decode cX11_owesByMove 35 = .ok (.iconst (-1), 1) := by decide +kernel
theorem dX11_owesByMove_36 : decode cX11_owesByMove 36 = .ok (.if_icmp .eq 14, 3) := by decide +kernel
theorem dX11_owesByMove_39 : decode cX11_owesByMove 39 = .ok (.aload_n 0, 1) := by decide +kernel
theorem dX11_owesByMove_40 : decode cX11_owesByMove 40 = .ok (.getfield 122, 3) := by decide +kernel
theorem dX11_owesByMove_43 : decode cX11_owesByMove 43 = .ok (.iload 4, 2) := by decide +kernel
theorem dX11_owesByMove_45 : decode cX11_owesByMove 45 = .ok (.dup2, 1) := by decide +kernel
theorem dX11_owesByMove_46 : decode cX11_owesByMove 46 = .ok (.iaload, 1) := by decide +kernel
theorem dX11_owesByMove_47 : decode cX11_owesByMove 47 = .ok (.iconst 1, 1) := by decide +kernel
theorem dX11_owesByMove_48 : decode cX11_owesByMove 48 = .ok (.isub, 1) := by decide +kernel
theorem dX11_owesByMove_49 : decode cX11_owesByMove 49 = .ok (.iastore, 1) := by decide +kernel
theorem dX11_owesByMove_50 : decode cX11_owesByMove 50 = .ok (.iinc 3 1, 3) := by decide +kernel
theorem dX11_owesByMove_53 : decode cX11_owesByMove 53 = .ok (.goto (-41), 3) := by decide +kernel
theorem dX11_owesByMove_56 : decode cX11_owesByMove 56 = .ok (.aload_n 0, 1) := by decide +kernel
theorem dX11_owesByMove_57 : decode cX11_owesByMove 57 = .ok (.getfield 122, 3) := by decide +kernel
theorem dX11_owesByMove_60 : decode cX11_owesByMove 60 = .ok (.aload_n 0, 1) := by decide +kernel
theorem dX11_owesByMove_61 : decode cX11_owesByMove 61 = .ok (.getfield 174, 3) := by decide +kernel
theorem dX11_owesByMove_64 : decode cX11_owesByMove 64 = .ok (.iload_n 2, 1) := by decide +kernel
theorem dX11_owesByMove_65 : decode cX11_owesByMove 65 = .ok (.iaload, 1) := by decide +kernel
theorem dX11_owesByMove_66 : decode cX11_owesByMove 66 = .ok (.dup2, 1) := by decide +kernel
theorem dX11_owesByMove_67 : decode cX11_owesByMove 67 = .ok (.iaload, 1) := by decide +kernel
theorem dX11_owesByMove_68 : decode cX11_owesByMove 68 = .ok (.sipush 360, 3) := by decide +kernel
theorem dX11_owesByMove_71 : decode cX11_owesByMove 71 = .ok (.aload_n 0, 1) := by decide +kernel
theorem dX11_owesByMove_72 : decode cX11_owesByMove 72 = .ok (.getfield 171, 3) := by decide +kernel
theorem dX11_owesByMove_75 : decode cX11_owesByMove 75 = .ok (.iload_n 2, 1) := by decide +kernel
theorem dX11_owesByMove_76 : decode cX11_owesByMove 76 = .ok (.iaload, 1) := by decide +kernel
theorem dX11_owesByMove_77 : decode cX11_owesByMove 77 = .ok (.isub, 1) := by decide +kernel
theorem dX11_owesByMove_78 : decode cX11_owesByMove 78 = .ok (.iadd, 1) := by decide +kernel
theorem dX11_owesByMove_79 : decode cX11_owesByMove 79 = .ok (.iastore, 1) := by decide +kernel
theorem dX11_owesByMove_80 : decode cX11_owesByMove 80 = .ok (.aload_n 0, 1) := by decide +kernel
theorem dX11_owesByMove_81 : decode cX11_owesByMove 81 = .ok (.iconst 1, 1) := by decide +kernel
theorem dX11_owesByMove_82 : decode cX11_owesByMove 82 = .ok (.aload_n 0, 1) := by decide +kernel
theorem dX11_owesByMove_83 : decode cX11_owesByMove 83 = .ok (.getfield 174, 3) := by decide +kernel
theorem dX11_owesByMove_86 : decode cX11_owesByMove 86 = .ok (.iload_n 2, 1) := by decide +kernel
theorem dX11_owesByMove_87 : decode cX11_owesByMove 87 = .ok (.iaload, 1) := by decide +kernel
theorem dX11_owesByMove_88 : decode cX11_owesByMove 88 = .ok (.ishl, 1) := by decide +kernel
theorem dX11_owesByMove_89 : decode cX11_owesByMove 89 = .ok (.putfield 414, 3) := by decide +kernel
theorem dX11_owesByMove_92 : decode cX11_owesByMove 92 = .ok (.aload_n 0, 1) := by decide +kernel
theorem dX11_owesByMove_93 : decode cX11_owesByMove 93 = .ok (.invokevirtual 524, 3) := by decide +kernel
theorem dX11_owesByMove_96 : decode cX11_owesByMove 96 = .ok (.lreturn, 1) := by decide +kernel
theorem dX11_best_0 : decode cX11_best 0 = .ok (.iload_n 1, 1) := by decide +kernel
theorem dX11_best_1 : decode cX11_best 1 = .ok (.invokestatic 207, 3) := by decide +kernel
theorem dX11_best_4 : decode cX11_best 4 = .ok (.ifCond .eq 7, 3) := by decide +kernel
theorem dX11_best_7 : decode cX11_best 7 = .ok (.iload_n 2, 1) := by decide +kernel
theorem dX11_best_8 : decode cX11_best 8 = .ok (.ifCond .ge 7, 3) := by decide +kernel
theorem dX11_best_11 : decode cX11_best 11 = .ok (.ldc2_w 474, 3) := by decide +kernel
theorem dX11_best_14 : decode cX11_best 14 = .ok (.lreturn, 1) := by decide +kernel
theorem dX11_best_15 : decode cX11_best 15 = .ok (.iload_n 2, 1) := by decide +kernel
theorem dX11_best_16 : decode cX11_best 16 = .ok (.bipush 10, 2) := by decide +kernel
theorem dX11_best_18 : decode cX11_best 18 = .ok (.bipush 9, 2) := by decide +kernel
theorem dX11_best_20 : decode cX11_best 20 = .ok (.aload_n 0, 1) := by decide +kernel
theorem dX11_best_21 : decode cX11_best 21 = .ok (.getfield 530, 3) := by decide +kernel
theorem dX11_best_24 : decode cX11_best 24 = .ok (.iadd, 1) := by decide +kernel
theorem dX11_best_25 : decode cX11_best 25 = .ok (.invokestatic 1, 3) := by decide +kernel
theorem dX11_best_28 : decode cX11_best 28 = .ok (.ifCond .eq 13, 3) := by decide +kernel
theorem dX11_best_31 : decode cX11_best 31 = .ok (.aload_n 0, 1) := by decide +kernel
theorem dX11_best_32 : decode cX11_best 32 = .ok (.iload_n 1, 1) := by decide +kernel
theorem dX11_best_33 : decode cX11_best 33 = .ok (.iload_n 2, 1) := by decide +kernel
theorem dX11_best_34 : decode cX11_best 34 = .ok (.bipush 10, 2) := by decide +kernel
theorem dX11_best_36 : decode cX11_best 36 = .ok (.isub, 1) := by decide +kernel
theorem dX11_best_37 : decode cX11_best 37 = .ok (.invokevirtual 533, 3) := by decide +kernel
theorem dX11_best_40 : decode cX11_best 40 = .ok (.lreturn, 1) := by decide +kernel
theorem dX11_best_41 : decode cX11_best 41 = .ok (.iload_n 2, 1) := by decide +kernel
theorem dX11_best_42 : decode cX11_best 42 = .ok (.iconst 1, 1) := by decide +kernel
theorem dX11_best_43 : decode cX11_best 43 = .ok (.if_icmp .le 7, 3) := by decide +kernel
theorem dX11_best_46 : decode cX11_best 46 = .ok (.ldc2_w 474, 3) := by decide +kernel
theorem dX11_best_49 : decode cX11_best 49 = .ok (.lreturn, 1) := by decide +kernel
theorem dX11_best_50 : decode cX11_best 50 = .ok (.aload_n 0, 1) := by decide +kernel
theorem dX11_best_51 : decode cX11_best 51 = .ok (.iload_n 1, 1) := by decide +kernel
theorem dX11_best_52 : decode cX11_best 52 = .ok (.invokevirtual 463, 3) := by decide +kernel
theorem dX11_best_55 : decode cX11_best 55 = .ok (.aload_n 0, 1) := by decide +kernel
theorem dX11_best_56 : decode cX11_best 56 = .ok (.invokevirtual 524, 3) := by decide +kernel
theorem dX11_best_59 : decode cX11_best 59 = .ok (.lstore_n 3, 1) := by decide +kernel
theorem dX11_best_60 : decode cX11_best 60 = .ok (.iconst (-1), 1) := by decide +kernel
theorem dX11_best_61 : decode cX11_best 61 = .ok (.istore 5, 2) := by decide +kernel
theorem dX11_best_63 : decode cX11_best 63 = .ok (.iconst 0, 1) := by decide +kernel
theorem dX11_best_64 : decode cX11_best 64 = .ok (.istore 6, 2) := by decide +kernel
theorem dX11_best_66 : decode cX11_best 66 = .ok (.iload 6, 2) := by decide +kernel
theorem dX11_best_68 : decode cX11_best 68 = .ok (.aload_n 0, 1) := by decide +kernel
theorem dX11_best_69 : decode cX11_best 69 = .ok (.getfield 530, 3) := by decide +kernel
theorem dX11_best_72 : decode cX11_best 72 = .ok (.if_icmp .ge 35, 3) := by decide +kernel
theorem dX11_best_75 : decode cX11_best 75 = .ok (.aload_n 0, 1) := by decide +kernel
theorem dX11_best_76 : decode cX11_best 76 = .ok (.iload_n 1, 1) := by decide +kernel
theorem dX11_best_77 : decode cX11_best 77 = .ok (.iload 6, 2) := by decide +kernel
theorem dX11_best_79 : decode cX11_best 79 = .ok (.invokevirtual 533, 3) := by decide +kernel
theorem dX11_best_82 : decode cX11_best 82 = .ok (.lstore 7, 2) := by decide +kernel
theorem dX11_best_84 : decode cX11_best 84 = .ok (.lload 7, 2) := by decide +kernel
theorem dX11_best_86 : decode cX11_best 86 = .ok (.lload_n 3, 1) := by decide +kernel
theorem dX11_best_87 : decode cX11_best 87 = .ok (.lcmp, 1) := by decide +kernel
theorem dX11_best_88 : decode cX11_best 88 = .ok (.ifCond .lt 6, 3) := by decide +kernel
theorem dX11_best_91 : decode cX11_best 91 = .ok (.goto 10, 3) := by decide +kernel
theorem dX11_best_94 : decode cX11_best 94 = .ok (.lload 7, 2) := by decide +kernel
theorem dX11_best_96 : decode cX11_best 96 = .ok (.lstore_n 3, 1) := by decide +kernel
theorem dX11_best_97 : decode cX11_best 97 = .ok (.iload 6, 2) := by decide +kernel
theorem dX11_best_99 : decode cX11_best 99 = .ok (.istore 5, 2) := by decide +kernel
theorem dX11_best_101 : decode cX11_best 101 = .ok (.iinc 6 1, 3) := by decide +kernel
theorem dX11_best_104 : decode cX11_best 104 = .ok (.goto (-38), 3) := by decide +kernel
theorem dX11_best_107 : decode cX11_best 107 = .ok (.iload_n 2, 1) := by decide +kernel
theorem dX11_best_108 : decode cX11_best 108 = .ok (.ifCond .ne 9, 3) := by decide +kernel
theorem dX11_best_111 : decode cX11_best 111 = .ok (.iload 5, 2) := by decide +kernel
theorem dX11_best_113 : decode cX11_best 113 = .ok (.i2l, 1) := by decide +kernel
theorem dX11_best_114 : decode cX11_best 114 = .ok (.goto 4, 3) := by decide +kernel
theorem dX11_best_117 : decode cX11_best 117 = .ok (.lload_n 3, 1) := by decide +kernel
theorem dX11_best_118 : decode cX11_best 118 = .ok (.lreturn, 1) := by decide +kernel
theorem dX11_turning_0 : decode cX11_turning 0 = .ok (.iload_n 1, 1) := by decide +kernel
theorem dX11_turning_1 : decode cX11_turning 1 = .ok (.iconst 0, 1) := by decide +kernel
theorem dX11_turning_2 : decode cX11_turning 2 = .ok (.aload_n 0, 1) := by decide +kernel
theorem dX11_turning_3 : decode cX11_turning 3 = .ok (.getfield 23, 3) := by decide +kernel
theorem dX11_turning_6 : decode cX11_turning 6 = .ok (.iconst 0, 1) := by decide +kernel
theorem dX11_turning_7 : decode cX11_turning 7 = .ok (.iaload, 1) := by decide +kernel
theorem dX11_turning_8 : decode cX11_turning 8 = .ok (.iconst 1, 1) := by decide +kernel
theorem dX11_turning_9 : decode cX11_turning 9 = .ok (.isub, 1) := by decide +kernel
theorem dX11_turning_10 : decode cX11_turning 10 = .ok (.invokestatic 1, 3) := by decide +kernel
theorem dX11_turning_13 : decode cX11_turning 13 = .ok (.ifCond .eq 29, 3) := by decide +kernel
theorem dX11_turning_16 : decode cX11_turning 16 = .ok (.iload_n 2, 1) := by decide +kernel
theorem dX11_turning_17 : decode cX11_turning 17 = .ok (.invokestatic 211, 3) := by decide +kernel
theorem dX11_turning_20 : decode cX11_turning 20 = .ok (.ifCond .eq 22, 3) := by decide +kernel
theorem dX11_turning_23 : decode cX11_turning 23 = .ok (.iload_n 3, 1) := by decide +kernel
theorem dX11_turning_24 : decode cX11_turning 24 = .ok (.iconst 0, 1) := by decide +kernel
theorem dX11_turning_25 : decode cX11_turning 25 = .ok (.ldc 214, 2) := by decide +kernel
theorem dX11_turning_27 : decode cX11_turning 27 = .ok (.invokestatic 1, 3) := by decide +kernel
theorem dX11_turning_30 : decode cX11_turning 30 = .ok (.ifCond .eq 12, 3) := by decide +kernel
theorem dX11_turning_33 : decode cX11_turning 33 = .ok (.aload_n 0, 1) := by decide +kernel
theorem dX11_turning_34 : decode cX11_turning 34 = .ok (.getfield 536, 3) := by decide +kernel
theorem dX11_turning_37 : decode cX11_turning 37 = .ok (.bipush 6, 2) := by decide +kernel
theorem dX11_turning_39 : decode cX11_turning 39 = .ok (.if_icmp .ne 5, 3) := by decide +kernel
theorem dX11_turning_42 : decode cX11_turning 42 = .ok (.iconst (-1), 1) := by decide +kernel
theorem dX11_turning_43 : decode cX11_turning 43 = .ok (.ireturn, 1) := by decide +kernel
theorem dX11_turning_44 : decode cX11_turning 44 = .ok (.aload_n 0, 1) := by decide +kernel
theorem dX11_turning_45 : decode cX11_turning 45 = .ok (.getfield 177, 3) := by decide +kernel
theorem dX11_turning_48 : decode cX11_turning 48 = .ok (.aload_n 0, 1) := by decide +kernel
theorem dX11_turning_49 : decode cX11_turning 49 = .ok (.getfield 536, 3) := by decide +kernel
theorem dX11_turning_52 : decode cX11_turning 52 = .ok (.iload_n 1, 1) := by decide +kernel
theorem dX11_turning_53 : decode cX11_turning 53 = .ok (.iastore, 1) := by decide +kernel
theorem dX11_turning_54 : decode cX11_turning 54 = .ok (.aload_n 0, 1) := by decide +kernel
theorem dX11_turning_55 : decode cX11_turning 55 = .ok (.getfield 180, 3) := by decide +kernel
theorem dX11_turning_58 : decode cX11_turning 58 = .ok (.aload_n 0, 1) := by decide +kernel
theorem dX11_turning_59 : decode cX11_turning 59 = .ok (.getfield 536, 3) := by decide +kernel
theorem dX11_turning_62 : decode cX11_turning 62 = .ok (.iload_n 2, 1) := by decide +kernel
theorem dX11_turning_63 : decode cX11_turning 63 = .ok (.iastore, 1) := by decide +kernel
theorem dX11_turning_64 : decode cX11_turning 64 = .ok (.aload_n 0, 1) := by decide +kernel
theorem dX11_turning_65 : decode cX11_turning 65 = .ok (.getfield 183, 3) := by decide +kernel
theorem dX11_turning_68 : decode cX11_turning 68 = .ok (.aload_n 0, 1) := by decide +kernel
theorem dX11_turning_69 : decode cX11_turning 69 = .ok (.getfield 536, 3) := by decide +kernel
theorem dX11_turning_72 : decode cX11_turning 72 = .ok (.iload_n 3, 1) := by decide +kernel
theorem dX11_turning_73 : decode cX11_turning 73 = .ok (.iastore, 1) := by decide +kernel
theorem dX11_turning_74 : decode cX11_turning 74 = .ok (.aload_n 0, 1) := by decide +kernel
theorem dX11_turning_75 : decode cX11_turning 75 = .ok (.dup, 1) := by decide +kernel
theorem dX11_turning_76 : decode cX11_turning 76 = .ok (.getfield 536, 3) := by decide +kernel
theorem dX11_turning_79 : decode cX11_turning 79 = .ok (.iconst 1, 1) := by decide +kernel
theorem dX11_turning_80 : decode cX11_turning 80 = .ok (.iadd, 1) := by decide +kernel
theorem dX11_turning_81 : decode cX11_turning 81 = .ok (.putfield 536, 3) := by decide +kernel
theorem dX11_turning_84 : decode cX11_turning 84 = .ok (.aload_n 0, 1) := by decide +kernel
theorem dX11_turning_85 : decode cX11_turning 85 = .ok (.getfield 536, 3) := by decide +kernel
theorem dX11_turning_88 : decode cX11_turning 88 = .ok (.iconst 1, 1) := by decide +kernel
theorem dX11_turning_89 : decode cX11_turning 89 = .ok (.isub, 1) := by decide +kernel
theorem dX11_turning_90 : decode cX11_turning 90 = .ok (.ireturn, 1) := by decide +kernel
theorem dX11_canTurn_0 : decode cX11_canTurn 0 = .ok (.iconst 0, 1) := by decide +kernel
theorem dX11_canTurn_1 : decode cX11_canTurn 1 = .ok (.istore_n 2, 1) := by decide +kernel
theorem dX11_canTurn_2 : decode cX11_canTurn 2 = .ok (.iconst 0, 1) := by decide +kernel
theorem dX11_canTurn_3 : decode cX11_canTurn 3 = .ok (.istore_n 3, 1) := by decide +kernel
theorem dX11_canTurn_4 : decode cX11_canTurn 4 = .ok (.iload_n 3, 1) := by decide +kernel
theorem dX11_canTurn_5 : decode cX11_canTurn 5 = .ok (.aload_n 0, 1) := by decide +kernel
theorem dX11_canTurn_6 : decode cX11_canTurn 6 = .ok (.getfield 536, 3) := by decide +kernel
theorem dX11_canTurn_9 : decode cX11_canTurn 9 = .ok (.if_icmp .ge 47, 3) := by decide +kernel
theorem dX11_canTurn_12 : decode cX11_canTurn 12 = .ok (.iload_n 1, 1) := by decide +kernel
theorem dX11_canTurn_13 : decode cX11_canTurn 13 = .ok (.iload_n 3, 1) := by decide +kernel
theorem dX11_canTurn_14 : decode cX11_canTurn 14 = .ok (.ishr, 1) := by decide +kernel
theorem dX11_canTurn_15 : decode cX11_canTurn 15 = .ok (.iconst 1, 1) := by decide +kernel
theorem dX11_canTurn_16 : decode cX11_canTurn 16 = .ok (.iand, 1) := by decide +kernel
theorem dX11_canTurn_17 : decode cX11_canTurn 17 = .ok (.ifCond .ne 6, 3) := by decide +kernel
theorem dX11_canTurn_20 : decode cX11_canTurn 20 = .ok (.goto 30, 3) := by decide +kernel
theorem dX11_canTurn_23 : decode cX11_canTurn 23 = .ok (.iload_n 2, 1) := by decide +kernel
theorem dX11_canTurn_24 : decode cX11_canTurn 24 = .ok (.aload_n 0, 1) := by decide +kernel
theorem dX11_canTurn_25 : decode cX11_canTurn 25 = .ok (.getfield 177, 3) := by decide +kernel
theorem dX11_canTurn_28 : decode cX11_canTurn 28 = .ok (.iload_n 3, 1) := by decide +kernel
theorem dX11_canTurn_29 : decode cX11_canTurn 29 = .ok (.iaload, 1) := by decide +kernel
theorem dX11_canTurn_30 : decode cX11_canTurn 30 = .ok (.ishr, 1) := by decide +kernel
theorem dX11_canTurn_31 : decode cX11_canTurn 31 = .ok (.iconst 1, 1) := by decide +kernel
theorem dX11_canTurn_32 : decode cX11_canTurn 32 = .ok (.iand, 1) := by decide +kernel
theorem dX11_canTurn_33 : decode cX11_canTurn 33 = .ok (.iconst 1, 1) := by decide +kernel
theorem dX11_canTurn_34 : decode cX11_canTurn 34 = .ok (.if_icmp .ne 5, 3) := by decide +kernel
theorem dX11_canTurn_37 : decode cX11_canTurn 37 = .ok (.iconst 0, 1) := by decide +kernel
theorem dX11_canTurn_38 : decode cX11_canTurn 38 = .ok (.ireturn, 1) := by decide +kernel
theorem dX11_canTurn_39 : decode cX11_canTurn 39 = .ok (.iload_n 2, 1) := by decide +kernel
theorem dX11_canTurn_40 : decode cX11_canTurn 40 = .ok (.iconst 1, 1) := by decide +kernel
theorem dX11_canTurn_41 : decode cX11_canTurn 41 = .ok (.aload_n 0, 1) := by decide +kernel
theorem dX11_canTurn_42 : decode cX11_canTurn 42 = .ok (.getfield 177, 3) := by decide +kernel
theorem dX11_canTurn_45 : decode cX11_canTurn 45 = .ok (.iload_n 3, 1) := by decide +kernel
theorem dX11_canTurn_46 : decode cX11_canTurn 46 = .ok (.iaload, 1) := by decide +kernel
theorem dX11_canTurn_47 : decode cX11_canTurn 47 = .ok (.ishl, 1) := by decide +kernel
theorem dX11_canTurn_48 : decode cX11_canTurn 48 = .ok (.ior, 1) := by decide +kernel
theorem dX11_canTurn_49 : decode cX11_canTurn 49 = .ok (.istore_n 2, 1) := by decide +kernel
theorem dX11_canTurn_50 : decode cX11_canTurn 50 = .ok (.iinc 3 1, 3) := by decide +kernel
theorem dX11_canTurn_53 : decode cX11_canTurn 53 = .ok (.goto (-49), 3) := by decide +kernel
theorem dX11_canTurn_56 : decode cX11_canTurn 56 = .ok (.iconst 1, 1) := by decide +kernel
theorem dX11_canTurn_57 : decode cX11_canTurn 57 = .ok (.ireturn, 1) := by decide +kernel
theorem dX11_owesTurned_0 : decode cX11_owesTurned 0 = .ok (.aload_n 0, 1) := by decide +kernel
theorem dX11_owesTurned_1 : decode cX11_owesTurned 1 = .ok (.iconst 0, 1) := by decide +kernel
theorem dX11_owesTurned_2 : decode cX11_owesTurned 2 = .ok (.invokevirtual 463, 3) := by decide +kernel
theorem dX11_owesTurned_5 : decode cX11_owesTurned 5 = .ok (.aload_n 0, 1) := by decide +kernel
theorem dX11_owesTurned_6 : decode cX11_owesTurned 6 = .ok (.iload_n 2, 1) := by decide +kernel
theorem dX11_owesTurned_7 : decode cX11_owesTurned 7 = .ok (.invokevirtual 427, 3) := by decide +kernel
theorem dX11_owesTurned_10 : decode cX11_owesTurned 10 = .ok (.lconst 0, 1) := by decide +kernel
theorem dX11_owesTurned_11 : decode cX11_owesTurned 11 = .ok (.lstore_n 3, 1) := by decide +kernel
theorem dX11_owesTurned_12 : decode cX11_owesTurned 12 = .ok (.iconst 0, 1) := by decide +kernel
theorem dX11_owesTurned_13 : decode cX11_owesTurned 13 = .ok (.istore 5, 2) := by decide +kernel
theorem dX11_owesTurned_15 : decode cX11_owesTurned 15 = .ok (.iload 5, 2) := by decide +kernel
theorem dX11_owesTurned_17 : decode cX11_owesTurned 17 = .ok (.aload_n 0, 1) := by decide +kernel
theorem dX11_owesTurned_18 : decode cX11_owesTurned 18 = .ok (.getfield 536, 3) := by decide +kernel
theorem dX11_owesTurned_21 : decode cX11_owesTurned 21 = .ok (.if_icmp .ge 81, 3) := by decide +kernel
theorem dX11_owesTurned_24 : decode cX11_owesTurned 24 = .ok (.iload_n 1, 1) := by decide +kernel
theorem dX11_owesTurned_25 : decode cX11_owesTurned 25 = .ok (.iload 5, 2) := by decide +kernel
theorem dX11_owesTurned_27 : decode cX11_owesTurned 27 = .ok (.ishr, 1) := by decide +kernel
theorem dX11_owesTurned_28 : decode cX11_owesTurned 28 = .ok (.iconst 1, 1) := by decide +kernel
theorem dX11_owesTurned_29 : decode cX11_owesTurned 29 = .ok (.iand, 1) := by decide +kernel
theorem dX11_owesTurned_30 : decode cX11_owesTurned 30 = .ok (.ifCond .ne 6, 3) := by decide +kernel
theorem dX11_owesTurned_33 : decode cX11_owesTurned 33 = .ok (.goto 63, 3) := by decide +kernel
theorem dX11_owesTurned_36 : decode cX11_owesTurned 36 = .ok (.aload_n 0, 1) := by decide +kernel
theorem dX11_owesTurned_37 : decode cX11_owesTurned 37 = .ok (.getfield 177, 3) := by decide +kernel
theorem dX11_owesTurned_40 : decode cX11_owesTurned 40 = .ok (.iload 5, 2) := by decide +kernel
theorem dX11_owesTurned_42 : decode cX11_owesTurned 42 = .ok (.iaload, 1) := by decide +kernel
theorem dX11_owesTurned_43 : decode cX11_owesTurned 43 = .ok (.istore 6, 2) := by decide +kernel
theorem dX11_owesTurned_45 : decode cX11_owesTurned 45 = .ok (.aload_n 0, 1) := by decide +kernel
theorem dX11_owesTurned_46 : decode cX11_owesTurned 46 = .ok (.getfield 125, 3) := by decide +kernel
theorem dX11_owesTurned_49 : decode cX11_owesTurned 49 = .ok (.iload 6, 2) := by decide +kernel
theorem dX11_owesTurned_51 : decode cX11_owesTurned 51 = .ok (.iconst 5, 1) := by decide +kernel
theorem dX11_owesTurned_52 : decode cX11_owesTurned 52 = .ok (.iastore, 1) := by decide +kernel
theorem dX11_owesTurned_53 : decode cX11_owesTurned 53 = .ok (.aload_n 0, 1) := by decide +kernel
theorem dX11_owesTurned_54 : decode cX11_owesTurned 54 = .ok (.getfield 134, 3) := by decide +kernel
theorem dX11_owesTurned_57 : decode cX11_owesTurned 57 = .ok (.iload 6, 2) := by decide +kernel
theorem dX11_owesTurned_59 : decode cX11_owesTurned 59 = .ok (.aload_n 0, 1) := by decide +kernel
theorem dX11_owesTurned_60 : decode cX11_owesTurned 60 = .ok (.getfield 180, 3) := by decide +kernel
theorem dX11_owesTurned_63 : decode cX11_owesTurned 63 = .ok (.iload 5, 2) := by decide +kernel
theorem dX11_owesTurned_65 : decode cX11_owesTurned 65 = .ok (.iaload, 1) := by decide +kernel
theorem dX11_owesTurned_66 : decode cX11_owesTurned 66 = .ok (.iastore, 1) := by decide +kernel
theorem dX11_owesTurned_67 : decode cX11_owesTurned 67 = .ok (.aload_n 0, 1) := by decide +kernel
theorem dX11_owesTurned_68 : decode cX11_owesTurned 68 = .ok (.getfield 137, 3) := by decide +kernel
theorem dX11_owesTurned_71 : decode cX11_owesTurned 71 = .ok (.iload 6, 2) := by decide +kernel
theorem dX11_owesTurned_73 : decode cX11_owesTurned 73 = .ok (.aload_n 0, 1) := by decide +kernel
theorem dX11_owesTurned_74 : decode cX11_owesTurned 74 = .ok (.getfield 180, 3) := by decide +kernel
theorem dX11_owesTurned_77 : decode cX11_owesTurned 77 = .ok (.iload 5, 2) := by decide +kernel
theorem dX11_owesTurned_79 : decode cX11_owesTurned 79 = .ok (.iaload, 1) := by decide +kernel
theorem dX11_owesTurned_80 : decode cX11_owesTurned 80 = .ok (.iastore, 1) := by decide +kernel
theorem dX11_owesTurned_81 : decode cX11_owesTurned 81 = .ok (.lload_n 3, 1) := by decide +kernel
theorem dX11_owesTurned_82 : decode cX11_owesTurned 82 = .ok (.ldc2_w 539, 3) := by decide +kernel
theorem dX11_owesTurned_85 : decode cX11_owesTurned 85 = .ok (.aload_n 0, 1) := by decide +kernel
theorem dX11_owesTurned_86 : decode cX11_owesTurned 86 = .ok (.getfield 183, 3) := by decide +kernel
theorem dX11_owesTurned_89 : decode cX11_owesTurned 89 = .ok (.iload 5, 2) := by decide +kernel
theorem dX11_owesTurned_91 : decode cX11_owesTurned 91 = .ok (.iaload, 1) := by decide +kernel
theorem dX11_owesTurned_92 : decode cX11_owesTurned 92 = .ok (.i2l, 1) := by decide +kernel
theorem dX11_owesTurned_93 : decode cX11_owesTurned 93 = .ok (.lmul, 1) := by decide +kernel
theorem dX11_owesTurned_94 : decode cX11_owesTurned 94 = .ok (.ladd, 1) := by decide +kernel
theorem dX11_owesTurned_95 : decode cX11_owesTurned 95 = .ok (.lstore_n 3, 1) := by decide +kernel
theorem dX11_owesTurned_96 : decode cX11_owesTurned 96 = .ok (.iinc 5 1, 3) := by decide +kernel
theorem dX11_owesTurned_99 : decode cX11_owesTurned 99 = .ok (.goto (-84), 3) := by decide +kernel
theorem dX11_owesTurned_102 : decode cX11_owesTurned 102 = .ok (.lload_n 3, 1) := by decide +kernel
theorem dX11_owesTurned_103 : decode cX11_owesTurned 103 = .ok (.aload_n 0, 1) := by decide +kernel
theorem dX11_owesTurned_104 : decode cX11_owesTurned 104 = .ok (.invokevirtual 524, 3) := by decide +kernel
theorem dX11_owesTurned_107 : decode cX11_owesTurned 107 = .ok (.ladd, 1) := by decide +kernel
theorem dX11_owesTurned_108 : decode cX11_owesTurned 108 = .ok (.lreturn, 1) := by decide +kernel
theorem dX11_sly_0 : decode cX11_sly 0 = .ok (.iload_n 1, 1) := by decide +kernel
theorem dX11_sly_1 : decode cX11_sly 1 = .ok (.iconst 0, 1) := by decide +kernel
theorem dX11_sly_2 : decode cX11_sly 2 = .ok (.iconst 1, 1) := by decide +kernel
theorem dX11_sly_3 : decode cX11_sly 3 = .ok (.invokestatic 1, 3) := by decide +kernel
theorem dX11_sly_6 : decode cX11_sly 6 = .ok (.ifCond .ne 7, 3) := by decide +kernel
theorem dX11_sly_9 : decode cX11_sly 9 = .ok (.ldc2_w 474, 3) := by decide +kernel
theorem dX11_sly_12 : decode cX11_sly 12 = .ok (.lreturn, 1) := by decide +kernel
theorem dX11_sly_13 : decode cX11_sly 13 = .ok (.aload_n 0, 1) := by decide +kernel
theorem dX11_sly_14 : decode cX11_sly 14 = .ok (.iconst 0, 1) := by decide +kernel
theorem dX11_sly_15 : decode cX11_sly 15 = .ok (.iconst 0, 1) := by decide +kernel
theorem dX11_sly_16 : decode cX11_sly 16 = .ok (.invokevirtual 541, 3) := by decide +kernel
theorem dX11_sly_19 : decode cX11_sly 19 = .ok (.lstore_n 2, 1) := by decide +kernel
theorem dX11_sly_20 : decode cX11_sly 20 = .ok (.iconst 0, 1) := by decide +kernel
theorem dX11_sly_21 : decode cX11_sly 21 = .ok (.istore 4, 2) := by decide +kernel
theorem dX11_sly_23 : decode cX11_sly 23 = .ok (.iconst 1, 1) := by decide +kernel
theorem dX11_sly_24 : decode cX11_sly 24 = .ok (.istore 5, 2) := by decide +kernel
theorem dX11_sly_26 : decode cX11_sly 26 = .ok (.iload 5, 2) := by decide +kernel
theorem dX11_sly_28 : decode cX11_sly 28 = .ok (.iconst 1, 1) := by decide +kernel
theorem dX11_sly_29 : decode cX11_sly 29 = .ok (.aload_n 0, 1) := by decide +kernel
theorem dX11_sly_30 : decode cX11_sly 30 = .ok (.getfield 536, 3) := by decide +kernel
theorem dX11_sly_33 : decode cX11_sly 33 = .ok (.ishl, 1) := by decide +kernel
theorem dX11_sly_34 : decode cX11_sly 34 = .ok (.if_icmp .ge 47, 3) := by decide +kernel
theorem dX11_sly_37 : decode cX11_sly 37 = .ok (.aload_n 0, 1) := by decide +kernel
theorem dX11_sly_38 : decode cX11_sly 38 = .ok (.iload 5, 2) := by decide +kernel
theorem dX11_sly_40 : decode cX11_sly 40 = .ok (.invokevirtual 544, 3) := by decide +kernel
theorem dX11_sly_43 : decode cX11_sly 43 = .ok (.ifCond .ne 6, 3) := by decide +kernel
theorem dX11_sly_46 : decode cX11_sly 46 = .ok (.goto 29, 3) := by decide +kernel
theorem dX11_sly_49 : decode cX11_sly 49 = .ok (.aload_n 0, 1) := by decide +kernel
theorem dX11_sly_50 : decode cX11_sly 50 = .ok (.iload 5, 2) := by decide +kernel
theorem dX11_sly_52 : decode cX11_sly 52 = .ok (.iconst 0, 1) := by decide +kernel
theorem dX11_sly_53 : decode cX11_sly 53 = .ok (.invokevirtual 541, 3) := by decide +kernel
theorem dX11_sly_56 : decode cX11_sly 56 = .ok (.lstore 6, 2) := by decide +kernel
theorem dX11_sly_58 : decode cX11_sly 58 = .ok (.lload 6, 2) := by decide +kernel
theorem dX11_sly_60 : decode cX11_sly 60 = .ok (.lload_n 2, 1) := by decide +kernel
theorem dX11_sly_61 : decode cX11_sly 61 = .ok (.lcmp, 1) := by decide +kernel
theorem dX11_sly_62 : decode cX11_sly 62 = .ok (.ifCond .lt 6, 3) := by decide +kernel
theorem dX11_sly_65 : decode cX11_sly 65 = .ok (.goto 10, 3) := by decide +kernel
theorem dX11_sly_68 : decode cX11_sly 68 = .ok (.lload 6, 2) := by decide +kernel
theorem dX11_sly_70 : decode cX11_sly 70 = .ok (.lstore_n 2, 1) := by decide +kernel
theorem dX11_sly_71 : decode cX11_sly 71 = .ok (.iload 5, 2) := by decide +kernel
theorem dX11_sly_73 : decode cX11_sly 73 = .ok (.istore 4, 2) := by decide +kernel
theorem dX11_sly_75 : decode cX11_sly 75 = .ok (.iinc 5 1, 3) := by decide +kernel
theorem dX11_sly_78 : decode cX11_sly 78 = .ok (.goto (-52), 3) := by decide +kernel
theorem dX11_sly_81 : decode cX11_sly 81 = .ok (.iload_n 1, 1) := by decide +kernel
theorem dX11_sly_82 : decode cX11_sly 82 = .ok (.ifCond .ne 9, 3) := by decide +kernel
theorem dX11_sly_85 : decode cX11_sly 85 = .ok (.iload 4, 2) := by decide +kernel
theorem dX11_sly_87 : decode cX11_sly 87 = .ok (.i2l, 1) := by decide +kernel
theorem dX11_sly_88 : decode cX11_sly 88 = .ok (.goto 4, 3) := by decide +kernel
theorem dX11_sly_91 : decode cX11_sly 91 = .ok (.lload_n 2, 1) := by decide +kernel
theorem dX11_sly_92 : decode cX11_sly 92 = .ok (.lreturn, 1) := by decide +kernel
theorem dX11_word__0 : decode cX11_word_ 0 = .ok (.iload_n 1, 1) := by decide +kernel
theorem dX11_word__1 : decode cX11_word_ 1 = .ok (.invokestatic 211, 3) := by decide +kernel
theorem dX11_word__4 : decode cX11_word_ 4 = .ok (.ifCond .eq 53, 3) := by decide +kernel
theorem dX11_word__7 : decode cX11_word_ 7 = .ok (.iload_n 2, 1) := by decide +kernel
theorem dX11_word__8 : decode cX11_word_ 8 = .ok (.invokestatic 211, 3) := by decide +kernel
theorem dX11_word__11 : decode cX11_word_ 11 = .ok (.ifCond .eq 46, 3) := by decide +kernel
theorem dX11_word__14 : decode cX11_word_ 14 = .ok (.iload_n 1, 1) := by decide +kernel
theorem dX11_word__15 : decode cX11_word_ 15 = .ok (.iload_n 2, 1) := by decide +kernel
theorem dX11_word__16 : decode cX11_word_ 16 = .ok (.if_icmp .eq 41, 3) := by decide +kernel
theorem dX11_word__19 : decode cX11_word_ 19 = .ok (.iload_n 3, 1) := by decide +kernel
theorem dX11_word__20 : decode cX11_word_ 20 = .ok (.iconst 0, 1) := by decide +kernel
theorem dX11_word__21 : decode cX11_word_ 21 = .ok (.iconst 4, 1) := by decide +kernel
theorem dX11_word__22 : decode cX11_word_ 22 = .ok (.invokestatic 1, 3) := by decide +kernel
theorem dX11_word__25 : decode cX11_word_ 25 = .ok (.ifCond .eq 32, 3) := by decide +kernel
theorem dX11_word__28 : decode cX11_word_ 28 = .ok (.iload_n 3, 1) := by decide +kernel
theorem dX11_word__29 : decode cX11_word_ 29 = .ok (.iconst 1, 1) := by decide +kernel
theorem dX11_word__30 : decode cX11_word_ 30 = .ok (.if_icmp .eq 8, 3) := by decide +kernel
theorem dX11_word__33 : decode cX11_word_ 33 = .ok (.iload_n 3, 1) := by decide +kernel
theorem dX11_word__34 : decode cX11_word_ 34 = .ok (.iconst 2, 1) := by decide +kernel
theorem dX11_word__35 : decode cX11_word_ 35 = .ok (.if_icmp .ne 13, 3) := by decide +kernel
theorem dX11_word__38 : decode cX11_word_ 38 = .ok (.iload 4, 2) := by decide +kernel
theorem dX11_word__40 : decode cX11_word_ 40 = .ok (.iconst 0, 1) := by decide +kernel
theorem dX11_word__41 : decode cX11_word_ 41 = .ok (.iconst 5, 1) := by decide +kernel
theorem dX11_word__42 : decode cX11_word_ 42 = .ok (.invokestatic 1, 3) := by decide +kernel
theorem dX11_word__45 : decode cX11_word_ 45 = .ok (.ifCond .eq 12, 3) := by decide +kernel
theorem dX11_word__48 : decode cX11_word_ 48 = .ok (.aload_n 0, 1) := by decide +kernel
theorem dX11_word__49 : decode cX11_word_ 49 = .ok (.getfield 405, 3) := by decide +kernel
theorem dX11_word__52 : decode cX11_word_ 52 = .ok (.bipush 6, 2) := by decide +kernel
theorem dX11_word__54 : decode cX11_word_ 54 = .ok (.if_icmp .ne 5, 3) := by decide +kernel
theorem dX11_word__57 : decode cX11_word_ 57 = .ok (.iconst (-1), 1) := by decide +kernel
theorem dX11_word__58 : decode cX11_word_ 58 = .ok (.ireturn, 1) := by decide +kernel
theorem dX11_word__59 : decode cX11_word_ 59 = .ok (.aload_n 0, 1) := by decide +kernel
theorem dX11_word__60 : decode cX11_word_ 60 = .ok (.getfield 186, 3) := by decide +kernel
theorem dX11_word__63 : decode cX11_word_ 63 = .ok (.aload_n 0, 1) := by decide +kernel
theorem dX11_word__64 : decode cX11_word_ 64 = .ok (.getfield 405, 3) := by decide +kernel
theorem dX11_word__67 : decode cX11_word_ 67 = .ok (.iload_n 1, 1) := by decide +kernel
theorem dX11_word__68 : decode cX11_word_ 68 = .ok (.iload_n 2, 1) := by decide +kernel
theorem dX11_word__69 : decode cX11_word_ 69 = .ok (.invokestatic 438, 3) := by decide +kernel
theorem dX11_word__72 : decode cX11_word_ 72 = .ok (.iastore, 1) := by decide +kernel
theorem dX11_word__73 : decode cX11_word_ 73 = .ok (.aload_n 0, 1) := by decide +kernel
theorem dX11_word__74 : decode cX11_word_ 74 = .ok (.getfield 189, 3) := by decide +kernel
theorem dX11_word__77 : decode cX11_word_ 77 = .ok (.aload_n 0, 1) := by decide +kernel
theorem dX11_word__78 : decode cX11_word_ 78 = .ok (.getfield 405, 3) := by decide +kernel
theorem dX11_word__81 : decode cX11_word_ 81 = .ok (.iload_n 3, 1) := by decide +kernel
theorem dX11_word__82 : decode cX11_word_ 82 = .ok (.iastore, 1) := by decide +kernel
theorem dX11_word__83 : decode cX11_word_ 83 = .ok (.aload_n 0, 1) := by decide +kernel
theorem dX11_word__84 : decode cX11_word_ 84 = .ok (.getfield 192, 3) := by decide +kernel
theorem dX11_word__87 : decode cX11_word_ 87 = .ok (.aload_n 0, 1) := by decide +kernel
theorem dX11_word__88 : decode cX11_word_ 88 = .ok (.getfield 405, 3) := by decide +kernel
theorem dX11_word__91 : decode cX11_word_ 91 = .ok (.iload 4, 2) := by decide +kernel
theorem dX11_word__93 : decode cX11_word_ 93 = .ok (.iastore, 1) := by decide +kernel
theorem dX11_word__94 : decode cX11_word_ 94 = .ok (.aload_n 0, 1) := by decide +kernel
theorem dX11_word__95 : decode cX11_word_ 95 = .ok (.dup, 1) := by decide +kernel
theorem dX11_word__96 : decode cX11_word_ 96 = .ok (.getfield 405, 3) := by decide +kernel
theorem dX11_word__99 : decode cX11_word_ 99 = .ok (.iconst 1, 1) := by decide +kernel
theorem dX11_word__100 : decode cX11_word_ 100 = .ok (.iadd, 1) := by decide +kernel
theorem dX11_word__101 : decode cX11_word_ 101 = .ok (.putfield 405, 3) := by decide +kernel
theorem dX11_word__104 : decode cX11_word_ 104 = .ok (.aload_n 0, 1) := by decide +kernel
theorem dX11_word__105 : decode cX11_word_ 105 = .ok (.getfield 405, 3) := by decide +kernel
theorem dX11_word__108 : decode cX11_word_ 108 = .ok (.iconst 1, 1) := by decide +kernel
theorem dX11_word__109 : decode cX11_word_ 109 = .ok (.isub, 1) := by decide +kernel
theorem dX11_word__110 : decode cX11_word_ 110 = .ok (.ireturn, 1) := by decide +kernel
theorem dX11_closes_0 : decode cX11_closes 0 = .ok (.aload_n 0, 1) := by decide +kernel
theorem dX11_closes_1 : decode cX11_closes 1 = .ok (.iconst 1, 1) := by decide +kernel
theorem dX11_closes_2 : decode cX11_closes 2 = .ok (.invokevirtual 463, 3) := by decide +kernel
theorem dX11_closes_5 : decode cX11_closes 5 = .ok (.aload_n 0, 1) := by decide +kernel
theorem dX11_closes_6 : decode cX11_closes 6 = .ok (.invokevirtual 524, 3) := by decide +kernel
theorem dX11_closes_9 : decode cX11_closes 9 = .ok (.lstore_n 2, 1) := by decide +kernel
theorem dX11_closes_10 : decode cX11_closes 10 = .ok (.aload_n 0, 1) := by decide +kernel
theorem dX11_closes_11 : decode cX11_closes 11 = .ok (.iload_n 1, 1) := by decide +kernel
theorem dX11_closes_12 : decode cX11_closes 12 = .ok (.invokevirtual 427, 3) := by decide +kernel
theorem dX11_closes_15 : decode cX11_closes 15 = .ok (.aload_n 0, 1) := by decide +kernel
theorem dX11_closes_16 : decode cX11_closes 16 = .ok (.invokevirtual 524, 3) := by decide +kernel
theorem dX11_closes_19 : decode cX11_closes 19 = .ok (.lload_n 2, 1) := by decide +kernel
theorem dX11_closes_20 : decode cX11_closes 20 = .ok (.lcmp, 1) := by decide +kernel
theorem dX11_closes_21 : decode cX11_closes 21 = .ok (.ifCond .le 5, 3) := by decide +kernel
theorem dX11_closes_24 : decode cX11_closes 24 = .ok (.iconst 0, 1) := by decide +kernel
theorem dX11_closes_25 : decode cX11_closes 25 = .ok (.ireturn, 1) := by decide +kernel
theorem dX11_closes_26 : decode cX11_closes 26 = .ok (.aload_n 0, 1) := by decide +kernel
theorem dX11_closes_27 : decode cX11_closes 27 = .ok (.iconst 0, 1) := by decide +kernel
theorem dX11_closes_28 : decode cX11_closes 28 = .ok (.iload_n 1, 1) := by decide +kernel
theorem dX11_closes_29 : decode cX11_closes 29 = .ok (.invokevirtual 541, 3) := by decide +kernel
theorem dX11_closes_32 : decode cX11_closes 32 = .ok (.lstore 4, 2) := by decide +kernel
theorem dX11_closes_34 : decode cX11_closes 34 = .ok (.iconst 1, 1) := by decide +kernel
theorem dX11_closes_35 : decode cX11_closes 35 = .ok (.istore 6, 2) := by decide +kernel
theorem dX11_closes_37 : decode cX11_closes 37 = .ok (.iload 6, 2) := by decide +kernel
theorem dX11_closes_39 : decode cX11_closes 39 = .ok (.iconst 1, 1) := by decide +kernel
theorem dX11_closes_40 : decode cX11_closes 40 = .ok (.aload_n 0, 1) := by decide +kernel
theorem dX11_closes_41 : decode cX11_closes 41 = .ok (.getfield 536, 3) := by decide +kernel
theorem dX11_closes_44 : decode cX11_closes 44 = .ok (.ishl, 1) := by decide +kernel
theorem dX11_closes_45 : decode cX11_closes 45 = .ok (.if_icmp .ge 33, 3) := by decide +kernel
theorem dX11_closes_48 : decode cX11_closes 48 = .ok (.aload_n 0, 1) := by decide +kernel
theorem dX11_closes_49 : decode cX11_closes 49 = .ok (.iload 6, 2) := by decide +kernel
theorem dX11_closes_51 : decode cX11_closes 51 = .ok (.invokevirtual 544, 3) := by decide +kernel
theorem dX11_closes_54 : decode cX11_closes 54 = .ok (.ifCond .eq 18, 3) := by decide +kernel
theorem dX11_closes_57 : decode cX11_closes 57 = .ok (.aload_n 0, 1) := by decide +kernel
theorem dX11_closes_58 : decode cX11_closes 58 = .ok (.iload 6, 2) := by decide +kernel
theorem dX11_closes_60 : decode cX11_closes 60 = .ok (.iload_n 1, 1) := by decide +kernel
theorem dX11_closes_61 : decode cX11_closes 61 = .ok (.invokevirtual 541, 3) := by decide +kernel
theorem dX11_closes_64 : decode cX11_closes 64 = .ok (.lload 4, 2) := by decide +kernel
theorem dX11_closes_66 : decode cX11_closes 66 = .ok (.lcmp, 1) := by decide +kernel
theorem dX11_closes_67 : decode cX11_closes 67 = .ok (.ifCond .ge 5, 3) := by decide +kernel
theorem dX11_closes_70 : decode cX11_closes 70 = .ok (.iconst 0, 1) := by decide +kernel
theorem dX11_closes_71 : decode cX11_closes 71 = .ok (.ireturn, 1) := by decide +kernel
theorem dX11_closes_72 : decode cX11_closes 72 = .ok (.iinc 6 1, 3) := by decide +kernel
theorem dX11_closes_75 : decode cX11_closes 75 = .ok (.goto (-38), 3) := by decide +kernel
theorem dX11_closes_78 : decode cX11_closes 78 = .ok (.iconst 1, 1) := by decide +kernel
theorem dX11_closes_79 : decode cX11_closes 79 = .ok (.ireturn, 1) := by decide +kernel
theorem dX11_mend_0 : decode cX11_mend 0 = .ok (.iconst (-1), 1) := by decide +kernel
theorem dX11_mend_1 : decode cX11_mend 1 = .ok (.istore_n 1, 1) := by decide +kernel
theorem dX11_mend_2 : decode cX11_mend 2 = .ok (.iconst 0, 1) := by decide +kernel
theorem dX11_mend_3 : decode cX11_mend 3 = .ok (.istore_n 2, 1) := by decide +kernel
theorem dX11_mend_4 : decode cX11_mend 4 = .ok (.iload_n 2, 1) := by decide +kernel
theorem dX11_mend_5 : decode cX11_mend 5 = .ok (.iconst 1, 1) := by decide +kernel
theorem dX11_mend_6 : decode cX11_mend 6 = .ok (.aload_n 0, 1) := by decide +kernel
theorem dX11_mend_7 : decode cX11_mend 7 = .ok (.getfield 405, 3) := by decide +kernel
theorem dX11_mend_10 : decode cX11_mend 10 = .ok (.ishl, 1) := by decide +kernel
theorem dX11_mend_11 : decode cX11_mend 11 = .ok (.if_icmp .ge 35, 3) := by decide +kernel
theorem dX11_mend_14 : decode cX11_mend 14 = .ok (.iload_n 1, 1) := by decide +kernel
theorem dX11_mend_15 : decode cX11_mend 15 = .ok (.iconst (-1), 1) := by decide +kernel
theorem dX11_mend_16 : decode cX11_mend 16 = .ok (.if_icmp .eq 14, 3) := by decide +kernel
theorem dX11_mend_19 : decode cX11_mend 19 = .ok (.iload_n 2, 1) := by decide +kernel
theorem dX11_mend_20 : decode cX11_mend 20 = .ok (.invokestatic 547, 3) := by decide +kernel
theorem dX11_mend_23 : decode cX11_mend 23 = .ok (.iload_n 1, 1) := by decide +kernel
theorem dX11_mend_24 : decode cX11_mend 24 = .ok (.invokestatic 547, 3) := by decide +kernel
theorem dX11_mend_27 : decode cX11_mend 27 = .ok (.if_icmp .ge 13, 3) := by decide +kernel
theorem dX11_mend_30 : decode cX11_mend 30 = .ok (.aload_n 0, 1) := by decide +kernel
theorem dX11_mend_31 : decode cX11_mend 31 = .ok (.iload_n 2, 1) := by decide +kernel
theorem dX11_mend_32 : decode cX11_mend 32 = .ok (.invokevirtual 550, 3) := by decide +kernel
theorem dX11_mend_35 : decode cX11_mend 35 = .ok (.ifCond .eq 5, 3) := by decide +kernel
theorem dX11_mend_38 : decode cX11_mend 38 = .ok (.iload_n 2, 1) := by decide +kernel
theorem dX11_mend_39 : decode cX11_mend 39 = .ok (.istore_n 1, 1) := by decide +kernel
theorem dX11_mend_40 : decode cX11_mend 40 = .ok (.iinc 2 1, 3) := by decide +kernel
theorem dX11_mend_43 : decode cX11_mend 43 = .ok (.goto (-39), 3) := by decide +kernel
theorem dX11_mend_46 : decode cX11_mend 46 = .ok (.iload_n 1, 1) := by decide +kernel
theorem dX11_mend_47 : decode cX11_mend 47 = .ok (.ireturn, 1) := by decide +kernel
theorem dX11_legTakes_0 : decode cX11_legTakes 0 = .ok (.iconst 0, 1) := by decide +kernel
theorem dX11_legTakes_1 : decode cX11_legTakes 1 = .ok (.istore 4, 2) := by decide +kernel
theorem dX11_legTakes_3 : decode cX11_legTakes 3 = .ok (.iload 4, 2) := by decide +kernel
theorem dX11_legTakes_5 : decode cX11_legTakes 5 = .ok (.bipush 9, 2) := by decide +kernel
theorem dX11_legTakes_7 : decode cX11_legTakes 7 = .ok (.if_icmp .ge 17, 3) := by decide +kernel
theorem dX11_legTakes_10 : decode cX11_legTakes 10 = .ok (.aload_n 0, 1) := by decide +kernel
theorem dX11_legTakes_11 : decode cX11_legTakes 11 = .ok (.getfield 111, 3) := by decide +kernel
theorem dX11_legTakes_14 : decode cX11_legTakes 14 = .ok (.iload 4, 2) := by decide +kernel
theorem dX11_legTakes_16 : decode cX11_legTakes 16 = .ok (.iconst 0, 1) := by decide +kernel
theorem dX11_legTakes_17 : decode cX11_legTakes 17 = .ok (.iastore, 1) := by decide +kernel
theorem dX11_legTakes_18 : decode cX11_legTakes 18 = .ok (.iinc 4 1, 3) := by decide +kernel
theorem dX11_legTakes_21 : decode cX11_legTakes 21 = .ok (.goto (-18), 3) := by decide +kernel
theorem dX11_legTakes_24 : decode cX11_legTakes 24 = .ok (.aload_n 0, 1) := by decide +kernel
theorem dX11_legTakes_25 : decode cX11_legTakes 25 = .ok (.getfield 111, 3) := by decide +kernel
theorem dX11_legTakes_28 : decode cX11_legTakes 28 = .ok (.bipush 6, 2) := by decide +kernel
theorem dX11_legTakes_30 : decode cX11_legTakes 30 = .ok (.iconst 1, 1) := by decide +kernel
theorem dX11_legTakes_31 : decode cX11_legTakes 31 = .ok (.iastore, 1) := by decide +kernel
theorem dX11_legTakes_32 : decode cX11_legTakes 32 = .ok (.aload_n 0, 1) := by decide +kernel
theorem dX11_legTakes_33 : decode cX11_legTakes 33 = .ok (.getfield 111, 3) := by decide +kernel
theorem dX11_legTakes_36 : decode cX11_legTakes 36 = .ok (.bipush 7, 2) := by decide +kernel
theorem dX11_legTakes_38 : decode cX11_legTakes 38 = .ok (.iconst 1, 1) := by decide +kernel
theorem dX11_legTakes_39 : decode cX11_legTakes 39 = .ok (.iastore, 1) := by decide +kernel
theorem dX11_legTakes_40 : decode cX11_legTakes 40 = .ok (.aload_n 0, 1) := by decide +kernel
theorem dX11_legTakes_41 : decode cX11_legTakes 41 = .ok (.getfield 111, 3) := by decide +kernel
theorem dX11_legTakes_44 : decode cX11_legTakes 44 = .ok (.bipush 8, 2) := by decide +kernel
theorem dX11_legTakes_46 : decode cX11_legTakes 46 = .ok (.bipush 100, 2) := by decide +kernel
theorem dX11_legTakes_48 : decode cX11_legTakes 48 = .ok (.iastore, 1) := by decide +kernel
theorem dX11_legTakes_49 : decode cX11_legTakes 49 = .ok (.aload_n 0, 1) := by decide +kernel
theorem dX11_legTakes_50 : decode cX11_legTakes 50 = .ok (.aload_n 0, 1) := by decide +kernel
theorem dX11_legTakes_51 : decode cX11_legTakes 51 = .ok (.iload_n 2, 1) := by decide +kernel
theorem dX11_legTakes_52 : decode cX11_legTakes 52 = .ok (.iload_n 1, 1) := by decide +kernel
theorem dX11_legTakes_53 : decode cX11_legTakes 53 = .ok (.invokevirtual 485, 3) := by decide +kernel
theorem dX11_legTakes_56 : decode cX11_legTakes 56 = .ok (.iload_n 2, 1) := by decide +kernel
theorem dX11_legTakes_57 : decode cX11_legTakes 57 = .ok (.iload_n 3, 1) := by decide +kernel
theorem dX11_legTakes_58 : decode cX11_legTakes 58 = .ok (.invokestatic 438, 3) := by decide +kernel
theorem dX11_legTakes_61 : decode cX11_legTakes 61 = .ok (.iload_n 1, 1) := by decide +kernel
theorem dX11_legTakes_62 : decode cX11_legTakes 62 = .ok (.invokevirtual 488, 3) := by decide +kernel
theorem dX11_legTakes_65 : decode cX11_legTakes 65 = .ok (.ireturn, 1) := by decide +kernel
theorem dX11_round_0 : decode cX11_round 0 = .ok (.iload_n 1, 1) := by decide +kernel
theorem dX11_round_1 : decode cX11_round 1 = .ok (.iconst 0, 1) := by decide +kernel
theorem dX11_round_2 : decode cX11_round 2 = .ok (.iconst 4, 1) := by decide +kernel
theorem dX11_round_3 : decode cX11_round 3 = .ok (.invokestatic 1, 3) := by decide +kernel
theorem dX11_round_6 : decode cX11_round 6 = .ok (.ifCond .eq 32, 3) := by decide +kernel
theorem dX11_round_9 : decode cX11_round 9 = .ok (.iload_n 2, 1) := by decide +kernel
theorem dX11_round_10 : decode cX11_round 10 = .ok (.invokestatic 211, 3) := by decide +kernel
theorem dX11_round_13 : decode cX11_round 13 = .ok (.ifCond .eq 25, 3) := by decide +kernel
theorem dX11_round_16 : decode cX11_round 16 = .ok (.iload_n 3, 1) := by decide +kernel
theorem dX11_round_17 : decode cX11_round 17 = .ok (.invokestatic 211, 3) := by decide +kernel
theorem dX11_round_20 : decode cX11_round 20 = .ok (.ifCond .eq 18, 3) := by decide +kernel
theorem dX11_round_23 : decode cX11_round 23 = .ok (.iload_n 2, 1) := by decide +kernel
theorem dX11_round_24 : decode cX11_round 24 = .ok (.iload_n 3, 1) := by decide +kernel
theorem dX11_round_25 : decode cX11_round 25 = .ok (.if_icmp .eq 13, 3) := by decide +kernel
theorem dX11_round_28 : decode cX11_round 28 = .ok (.iload 4, 2) := by decide +kernel
theorem dX11_round_30 : decode cX11_round 30 = .ok (.iconst 0, 1) := by decide +kernel
theorem dX11_round_31 : decode cX11_round 31 = .ok (.iconst 2, 1) := by decide +kernel
theorem dX11_round_32 : decode cX11_round 32 = .ok (.invokestatic 1, 3) := by decide +kernel
theorem dX11_round_35 : decode cX11_round 35 = .ok (.ifCond .ne 5, 3) := by decide +kernel
theorem dX11_round_38 : decode cX11_round 38 = .ok (.iconst (-1), 1) := by decide +kernel
theorem dX11_round_39 : decode cX11_round 39 = .ok (.ireturn, 1) := by decide +kernel
theorem dX11_round_40 : decode cX11_round 40 = .ok (.aload_n 0, 1) := by decide +kernel
theorem dX11_round_41 : decode cX11_round 41 = .ok (.iconst 0, 1) := by decide +kernel
theorem dX11_round_42 : decode cX11_round 42 = .ok (.invokevirtual 427, 3) := by decide +kernel
theorem dX11_round_45 : decode cX11_round 45 = .ok (.aload_n 0, 1) := by decide +kernel
theorem dX11_round_46 : decode cX11_round 46 = .ok (.iload_n 1, 1) := by decide +kernel
theorem dX11_round_47 : decode cX11_round 47 = .ok (.iload_n 2, 1) := by decide +kernel
theorem dX11_round_48 : decode cX11_round 48 = .ok (.iload_n 3, 1) := by decide +kernel
theorem dX11_round_49 : decode cX11_round 49 = .ok (.invokevirtual 553, 3) := by decide +kernel
theorem dX11_round_52 : decode cX11_round 52 = .ok (.istore 5, 2) := by decide +kernel
theorem dX11_round_54 : decode cX11_round 54 = .ok (.iload 5, 2) := by decide +kernel
theorem dX11_round_56 : decode cX11_round 56 = .ok (.istore 6, 2) := by decide +kernel
theorem dX11_round_58 : decode cX11_round 58 = .ok (.iconst (-1), 1) := by decide +kernel
theorem dX11_round_59 : decode cX11_round 59 = .ok (.istore 7, 2) := by decide +kernel
theorem dX11_round_61 : decode cX11_round 61 = .ok (.iconst 0, 1) := by decide +kernel
theorem dX11_round_62 : decode cX11_round 62 = .ok (.istore 8, 2) := by decide +kernel
theorem dX11_round_64 : decode cX11_round 64 = .ok (.iload 8, 2) := by decide +kernel
theorem dX11_round_66 : decode cX11_round 66 = .ok (.bipush 6, 2) := by decide +kernel
theorem dX11_round_68 : decode cX11_round 68 = .ok (.if_icmp .ge 61, 3) := by decide +kernel
theorem dX11_round_71 : decode cX11_round 71 = .ok (.iload 8, 2) := by decide +kernel
theorem dX11_round_73 : decode cX11_round 73 = .ok (.iload_n 2, 1) := by decide +kernel
theorem dX11_round_74 : decode cX11_round 74 = .ok (.if_icmp .eq 49, 3) := by decide +kernel
theorem dX11_round_77 : decode cX11_round 77 = .ok (.iload 8, 2) := by decide +kernel
theorem dX11_round_79 : decode cX11_round 79 = .ok (.iload_n 3, 1) := by decide +kernel
theorem dX11_round_80 : decode cX11_round 80 = .ok (.if_icmp .ne 6, 3) := by decide +kernel
theorem dX11_round_83 : decode cX11_round 83 = .ok (.goto 40, 3) := by decide +kernel
theorem dX11_round_86 : decode cX11_round 86 = .ok (.aload_n 0, 1) := by decide +kernel
theorem dX11_round_87 : decode cX11_round 87 = .ok (.iload_n 1, 1) := by decide +kernel
theorem dX11_round_88 : decode cX11_round 88 = .ok (.iload_n 2, 1) := by decide +kernel
theorem dX11_round_89 : decode cX11_round 89 = .ok (.iload 8, 2) := by decide +kernel
theorem dX11_round_91 : decode cX11_round 91 = .ok (.invokevirtual 553, 3) := by decide +kernel
theorem dX11_round_94 : decode cX11_round 94 = .ok (.aload_n 0, 1) := by decide +kernel
theorem dX11_round_95 : decode cX11_round 95 = .ok (.iload_n 1, 1) := by decide +kernel
theorem dX11_round_96 : decode cX11_round 96 = .ok (.iload 8, 2) := by decide +kernel
theorem dX11_round_98 : decode cX11_round 98 = .ok (.iload_n 3, 1) := by decide +kernel
theorem dX11_round_99 : decode cX11_round 99 = .ok (.invokevirtual 553, 3) := by decide +kernel
theorem dX11_round_102 : decode cX11_round 102 = .ok (.iadd, 1) := by decide +kernel
theorem dX11_round_103 : decode cX11_round 103 = .ok (.istore 9, 2) := by decide +kernel
theorem dX11_round_105 : decode cX11_round 105 = .ok (.iload 9, 2) := by decide +kernel
theorem dX11_round_107 : decode cX11_round 107 = .ok (.iload 6, 2) := by decide +kernel
theorem dX11_round_109 : decode cX11_round 109 = .ok (.if_icmp .lt 6, 3) := by decide +kernel
theorem dX11_round_112 : decode cX11_round 112 = .ok (.goto 11, 3) := by decide +kernel
theorem dX11_round_115 : decode cX11_round 115 = .ok (.iload 9, 2) := by decide +kernel
theorem dX11_round_117 : decode cX11_round 117 = .ok (.istore 6, 2) := by decide +kernel
theorem dX11_round_119 : decode cX11_round 119 = .ok (.iload 8, 2) := by decide +kernel
theorem dX11_round_121 : decode cX11_round 121 = .ok (.istore 7, 2) := by decide +kernel
theorem dX11_round_123 : decode cX11_round 123 = .ok (.iinc 8 1, 3) := by decide +kernel
theorem dX11_round_126 : decode cX11_round 126 = .ok (.goto (-62), 3) := by decide +kernel
theorem dX11_round_129 : decode cX11_round 129 = .ok (.iload 4, 2) := by decide +kernel
theorem dX11_round_131 : decode cX11_round 131 = .ok (.ifCond .ne 8, 3) := by decide +kernel
theorem dX11_round_134 : decode cX11_round 134 = .ok (.iload 5, 2) := by decide +kernel
theorem dX11_round_136 : decode cX11_round 136 = .ok (.goto 16, 3) := by decide +kernel
theorem dX11_round_139 : decode cX11_round 139 = .ok (.iload 4, 2) := by decide +kernel
theorem dX11_round_141 : decode cX11_round 141 = .ok (.iconst 1, 1) := by decide +kernel
theorem dX11_round_142 : decode cX11_round 142 = .ok (.if_icmp .ne 8, 3) := by decide +kernel
theorem dX11_round_145 : decode cX11_round 145 = .ok (.iload 7, 2) := by decide +kernel
theorem dX11_round_147 : decode cX11_round 147 = .ok (.goto 5, 3) := by decide +kernel
theorem dX11_round_150 : decode cX11_round 150 = .ok (.iload 6, 2) := by decide +kernel
theorem dX11_round_152 : decode cX11_round 152 = .ok (.ireturn, 1) := by decide +kernel
theorem dX11_answer_0 : decode cX11_answer 0 = .ok (.iload_n 1, 1) := by decide +kernel
theorem dX11_answer_1 : decode cX11_answer 1 = .ok (.iconst 0, 1) := by decide +kernel
theorem dX11_answer_2 : decode cX11_answer 2 = .ok (.iconst 2, 1) := by decide +kernel
theorem dX11_answer_3 : decode cX11_answer 3 = .ok (.invokestatic 1, 3) := by decide +kernel
theorem dX11_answer_6 : decode cX11_answer 6 = .ok (.ifCond .eq 63, 3) := by decide +kernel
theorem dX11_answer_9 : decode cX11_answer 9 = .ok (.iload_n 1, 1) := by decide +kernel
theorem dX11_answer_10 : decode cX11_answer 10 = .ok (.iconst 2, 1) := by decide +kernel
theorem dX11_answer_11 : decode cX11_answer 11 = .ok (.if_icmp .ge 10, 3) := by decide +kernel
theorem dX11_answer_14 : decode cX11_answer 14 = .ok (.iload_n 2, 1) := by decide +kernel
theorem dX11_answer_15 : decode cX11_answer 15 = .ok (.invokestatic 211, 3) := by decide +kernel
theorem dX11_answer_18 : decode cX11_answer 18 = .ok (.ifCond .eq 51, 3) := by decide +kernel
theorem dX11_answer_21 : decode cX11_answer 21 = .ok (.iload_n 1, 1) := by decide +kernel
theorem dX11_answer_22 : decode cX11_answer 22 = .ok (.iconst 1, 1) := by decide +kernel
theorem dX11_answer_23 : decode cX11_answer 23 = .ok (.if_icmp .ne 19, 3) := by decide +kernel
theorem dX11_answer_26 : decode cX11_answer 26 = .ok (.iload_n 3, 1) := by decide +kernel
theorem dX11_answer_27 : decode cX11_answer 27 = .ok (.iconst 0, 1) := by decide +kernel
theorem dX11_answer_28 : decode cX11_answer 28 = .ok (.aload_n 0, 1) := by decide +kernel
theorem dX11_answer_29 : decode cX11_answer 29 = .ok (.getfield 23, 3) := by decide +kernel
theorem dX11_answer_32 : decode cX11_answer 32 = .ok (.iconst 0, 1) := by decide +kernel
theorem dX11_answer_33 : decode cX11_answer 33 = .ok (.iaload, 1) := by decide +kernel
theorem dX11_answer_34 : decode cX11_answer 34 = .ok (.iconst 1, 1) := by decide +kernel
theorem dX11_answer_35 : decode cX11_answer 35 = .ok (.isub, 1) := by decide +kernel
theorem dX11_answer_36 : decode cX11_answer 36 = .ok (.invokestatic 1, 3) := by decide +kernel
theorem dX11_answer_39 : decode cX11_answer 39 = .ok (.ifCond .eq 30, 3) := by decide +kernel
theorem dX11_answer_42 : decode cX11_answer 42 = .ok (.iload_n 1, 1) := by decide +kernel
theorem dX11_answer_43 : decode cX11_answer 43 = .ok (.ifCond .ne 17, 3) := by decide +kernel
theorem dX11_answer_46 : decode cX11_answer 46 = .ok (.lload 4, 2) := by decide +kernel
theorem dX11_answer_48 : decode cX11_answer 48 = .ok (.lconst 0, 1) := by decide +kernel
theorem dX11_answer_49 : decode cX11_answer 49 = .ok (.lcmp, 1) := by decide +kernel
theorem dX11_answer_50 : decode cX11_answer 50 = .ok (.ifCond .eq 10, 3) := by decide +kernel
theorem dX11_answer_53 : decode cX11_answer 53 = .ok (.lload 4, 2) := by decide +kernel
theorem dX11_answer_55 : decode cX11_answer 55 = .ok (.lconst 1, 1) := by decide +kernel
theorem dX11_answer_56 : decode cX11_answer 56 = .ok (.lcmp, 1) := by decide +kernel
theorem dX11_answer_57 : decode cX11_answer 57 = .ok (.ifCond .ne 12, 3) := by decide +kernel
theorem dX11_answer_60 : decode cX11_answer 60 = .ok (.aload_n 0, 1) := by decide +kernel
theorem dX11_answer_61 : decode cX11_answer 61 = .ok (.getfield 556, 3) := by decide +kernel
theorem dX11_answer_64 : decode cX11_answer 64 = .ok (.bipush 10, 2) := by decide +kernel
theorem dX11_answer_66 : decode cX11_answer 66 = .ok (.if_icmp .ne 5, 3) := by decide +kernel
theorem dX11_answer_69 : decode cX11_answer 69 = .ok (.iconst (-1), 1) := by decide +kernel
theorem dX11_answer_70 : decode cX11_answer 70 = .ok (.ireturn, 1) := by decide +kernel
theorem dX11_answer_71 : decode cX11_answer 71 = .ok (.aload_n 0, 1) := by decide +kernel
theorem dX11_answer_72 : decode cX11_answer 72 = .ok (.getfield 195, 3) := by decide +kernel
theorem dX11_answer_75 : decode cX11_answer 75 = .ok (.aload_n 0, 1) := by decide +kernel
theorem dX11_answer_76 : decode cX11_answer 76 = .ok (.getfield 556, 3) := by decide +kernel
theorem dX11_answer_79 : decode cX11_answer 79 = .ok (.iload_n 1, 1) := by decide +kernel
theorem dX11_answer_80 : decode cX11_answer 80 = .ok (.iastore, 1) := by decide +kernel
theorem dX11_answer_81 : decode cX11_answer 81 = .ok (.aload_n 0, 1) := by decide +kernel
theorem dX11_answer_82 : decode cX11_answer 82 = .ok (.getfield 198, 3) := by decide +kernel
theorem dX11_answer_85 : decode cX11_answer 85 = .ok (.aload_n 0, 1) := by decide +kernel
theorem dX11_answer_86 : decode cX11_answer 86 = .ok (.getfield 556, 3) := by decide +kernel
theorem dX11_answer_89 : decode cX11_answer 89 = .ok (.iload_n 2, 1) := by decide +kernel
theorem dX11_answer_90 : decode cX11_answer 90 = .ok (.iastore, 1) := by decide +kernel
theorem dX11_answer_91 : decode cX11_answer 91 = .ok (.aload_n 0, 1) := by decide +kernel
theorem dX11_answer_92 : decode cX11_answer 92 = .ok (.getfield 201, 3) := by decide +kernel
theorem dX11_answer_95 : decode cX11_answer 95 = .ok (.aload_n 0, 1) := by decide +kernel
theorem dX11_answer_96 : decode cX11_answer 96 = .ok (.getfield 556, 3) := by decide +kernel
theorem dX11_answer_99 : decode cX11_answer 99 = .ok (.iload_n 3, 1) := by decide +kernel
theorem dX11_answer_100 : decode cX11_answer 100 = .ok (.iastore, 1) := by decide +kernel
theorem dX11_answer_101 : decode cX11_answer 101 = .ok (.aload_n 0, 1) := by decide +kernel
theorem dX11_answer_102 : decode cX11_answer 102 = .ok (.getfield 204, 3) := by decide +kernel
theorem dX11_answer_105 : decode cX11_answer 105 = .ok (.aload_n 0, 1) := by decide +kernel
theorem dX11_answer_106 : decode cX11_answer 106 = .ok (.getfield 556, 3) := by decide +kernel
theorem dX11_answer_109 : decode cX11_answer 109 = .ok (.lload 4, 2) := by decide +kernel
theorem dX11_answer_111 : decode cX11_answer 111 = .ok (.lastore, 1) := by decide +kernel
theorem dX11_answer_112 : decode cX11_answer 112 = .ok (.aload_n 0, 1) := by decide +kernel
theorem dX11_answer_113 : decode cX11_answer 113 = .ok (.dup, 1) := by decide +kernel
theorem dX11_answer_114 : decode cX11_answer 114 = .ok (.getfield 556, 3) := by decide +kernel
theorem dX11_answer_117 : decode cX11_answer 117 = .ok (.iconst 1, 1) := by decide +kernel
theorem dX11_answer_118 : decode cX11_answer 118 = .ok (.iadd, 1) := by decide +kernel
theorem dX11_answer_119 : decode cX11_answer 119 = .ok (.putfield 556, 3) := by decide +kernel
theorem dX11_answer_122 : decode cX11_answer 122 = .ok (.aload_n 0, 1) := by decide +kernel
theorem dX11_answer_123 : decode cX11_answer 123 = .ok (.getfield 556, 3) := by decide +kernel
theorem dX11_answer_126 : decode cX11_answer 126 = .ok (.iconst 1, 1) := by decide +kernel
theorem dX11_answer_127 : decode cX11_answer 127 = .ok (.isub, 1) := by decide +kernel
theorem dX11_answer_128 : decode cX11_answer 128 = .ok (.ireturn, 1) := by decide +kernel
theorem dX11_judged_0 : decode cX11_judged 0 = .ok (.iconst 0, 1) := by decide +kernel
theorem dX11_judged_1 : decode cX11_judged 1 = .ok (.istore_n 1, 1) := by decide +kernel
theorem dX11_judged_2 : decode cX11_judged 2 = .ok (.iload_n 1, 1) := by decide +kernel
theorem dX11_judged_3 : decode cX11_judged 3 = .ok (.aload_n 0, 1) := by decide +kernel
theorem dX11_judged_4 : decode cX11_judged 4 = .ok (.getfield 556, 3) := by decide +kernel
theorem dX11_judged_7 : decode cX11_judged 7 = .ok (.if_icmp .ge 86, 3) := by decide +kernel
theorem dX11_judged_10 : decode cX11_judged 10 = .ok (.aload_n 0, 1) := by decide +kernel
theorem dX11_judged_11 : decode cX11_judged 11 = .ok (.getfield 195, 3) := by decide +kernel
theorem dX11_judged_14 : decode cX11_judged 14 = .ok (.iload_n 1, 1) := by decide +kernel
theorem dX11_judged_15 : decode cX11_judged 15 = .ok (.iaload, 1) := by decide +kernel
theorem dX11_judged_16 : decode cX11_judged 16 = .ok (.ifCond .ne 20, 3) := by decide +kernel
theorem dX11_judged_19 : decode cX11_judged 19 = .ok (.aload_n 0, 1) := by decide +kernel
theorem dX11_judged_20 : decode cX11_judged 20 = .ok (.iconst 0, 1) := by decide +kernel
theorem dX11_judged_21 : decode cX11_judged 21 = .ok (.aload_n 0, 1) := by decide +kernel
theorem dX11_judged_22 : decode cX11_judged 22 = .ok (.getfield 198, 3) := by decide +kernel
theorem dX11_judged_25 : decode cX11_judged 25 = .ok (.iload_n 1, 1) := by decide +kernel
theorem dX11_judged_26 : decode cX11_judged 26 = .ok (.iaload, 1) := by decide +kernel
theorem dX11_judged_27 : decode cX11_judged 27 = .ok (.bipush 6, 2) := by decide +kernel
theorem dX11_judged_29 : decode cX11_judged 29 = .ok (.invokevirtual 559, 3) := by decide +kernel
theorem dX11_judged_32 : decode cX11_judged 32 = .ok (.i2l, 1) := by decide +kernel
theorem dX11_judged_33 : decode cX11_judged 33 = .ok (.goto 40, 3) := by decide +kernel
theorem dX11_judged_36 : decode cX11_judged 36 = .ok (.aload_n 0, 1) := by decide +kernel
theorem dX11_judged_37 : decode cX11_judged 37 = .ok (.getfield 195, 3) := by decide +kernel
theorem dX11_judged_40 : decode cX11_judged 40 = .ok (.iload_n 1, 1) := by decide +kernel
theorem dX11_judged_41 : decode cX11_judged 41 = .ok (.iaload, 1) := by decide +kernel
theorem dX11_judged_42 : decode cX11_judged 42 = .ok (.iconst 1, 1) := by decide +kernel
theorem dX11_judged_43 : decode cX11_judged 43 = .ok (.if_icmp .ne 24, 3) := by decide +kernel
theorem dX11_judged_46 : decode cX11_judged 46 = .ok (.aload_n 0, 1) := by decide +kernel
theorem dX11_judged_47 : decode cX11_judged 47 = .ok (.iconst 0, 1) := by decide +kernel
theorem dX11_judged_48 : decode cX11_judged 48 = .ok (.aload_n 0, 1) := by decide +kernel
theorem dX11_judged_49 : decode cX11_judged 49 = .ok (.getfield 201, 3) := by decide +kernel
theorem dX11_judged_52 : decode cX11_judged 52 = .ok (.iload_n 1, 1) := by decide +kernel
theorem dX11_judged_53 : decode cX11_judged 53 = .ok (.iaload, 1) := by decide +kernel
theorem dX11_judged_54 : decode cX11_judged 54 = .ok (.aload_n 0, 1) := by decide +kernel
theorem dX11_judged_55 : decode cX11_judged 55 = .ok (.getfield 198, 3) := by decide +kernel
theorem dX11_judged_58 : decode cX11_judged 58 = .ok (.iload_n 1, 1) := by decide +kernel
theorem dX11_judged_59 : decode cX11_judged 59 = .ok (.iaload, 1) := by decide +kernel
theorem dX11_judged_60 : decode cX11_judged 60 = .ok (.iconst 2, 1) := by decide +kernel
theorem dX11_judged_61 : decode cX11_judged 61 = .ok (.invokevirtual 562, 3) := by decide +kernel
theorem dX11_judged_64 : decode cX11_judged 64 = .ok (.goto 9, 3) := by decide +kernel
theorem dX11_judged_67 : decode cX11_judged 67 = .ok (.aload_n 0, 1) := by decide +kernel
theorem dX11_judged_68 : decode cX11_judged 68 = .ok (.iconst 0, 1) := by decide +kernel
theorem dX11_judged_69 : decode cX11_judged 69 = .ok (.iconst 0, 1) := by decide +kernel
theorem dX11_judged_70 : decode cX11_judged 70 = .ok (.invokevirtual 566, 3) := by decide +kernel
theorem dX11_judged_73 : decode cX11_judged 73 = .ok (.lstore_n 2, 1) := by decide +kernel
theorem dX11_judged_74 : decode cX11_judged 74 = .ok (.lload_n 2, 1) := by decide +kernel
theorem dX11_judged_75 : decode cX11_judged 75 = .ok (.aload_n 0, 1) := by decide +kernel
theorem dX11_judged_76 : decode cX11_judged 76 = .ok (.getfield 204, 3) := by decide +kernel
theorem dX11_judged_79 : decode cX11_judged 79 = .ok (.iload_n 1, 1) := by decide +kernel
theorem dX11_judged_80 : decode cX11_judged 80 = .ok (.laload, 1) := by decide +kernel
theorem dX11_judged_81 : decode cX11_judged 81 = .ok (.lcmp, 1) := by decide +kernel
theorem dX11_judged_82 : decode cX11_judged 82 = .ok (.ifCond .eq 5, 3) := by decide +kernel
theorem dX11_judged_85 : decode cX11_judged 85 = .ok (.iload_n 1, 1) := by decide +kernel
theorem dX11_judged_86 : decode cX11_judged 86 = .ok (.ireturn, 1) := by decide +kernel
theorem dX11_judged_87 : decode cX11_judged 87 = .ok (.iinc 1 1, 3) := by decide +kernel
theorem dX11_judged_90 : decode cX11_judged 90 = .ok (.goto (-88), 3) := by decide +kernel
theorem dX11_judged_93 : decode cX11_judged 93 = .ok (.iconst (-1), 1) := by decide +kernel
theorem dX11_judged_94 : decode cX11_judged 94 = .ok (.ireturn, 1) := by decide +kernel
theorem dX11_look_0 : decode cX11_look 0 = .ok (.iload_n 1, 1) := by decide +kernel
theorem dX11_look_1 : decode cX11_look 1 = .ok (.tableswitch 73 0 5 #[39, 46, 53, 58, 63, 68], 39) := by decide +kernel
theorem dX11_look_40 : decode cX11_look 40 = .ok (.aload_n 0, 1) := by decide +kernel
theorem dX11_look_41 : decode cX11_look 41 = .ok (.getfield 23, 3) := by decide +kernel
theorem dX11_look_44 : decode cX11_look 44 = .ok (.iconst 0, 1) := by decide +kernel
theorem dX11_look_45 : decode cX11_look 45 = .ok (.iaload, 1) := by decide +kernel
theorem dX11_look_46 : decode cX11_look 46 = .ok (.ireturn, 1) := by decide +kernel
theorem dX11_look_47 : decode cX11_look 47 = .ok (.aload_n 0, 1) := by decide +kernel
theorem dX11_look_48 : decode cX11_look 48 = .ok (.getfield 23, 3) := by decide +kernel
theorem dX11_look_51 : decode cX11_look 51 = .ok (.iconst 1, 1) := by decide +kernel
theorem dX11_look_52 : decode cX11_look 52 = .ok (.iaload, 1) := by decide +kernel
theorem dX11_look_53 : decode cX11_look 53 = .ok (.ireturn, 1) := by decide +kernel
theorem dX11_look_54 : decode cX11_look 54 = .ok (.aload_n 0, 1) := by decide +kernel
theorem dX11_look_55 : decode cX11_look 55 = .ok (.getfield 530, 3) := by decide +kernel
theorem dX11_look_58 : decode cX11_look 58 = .ok (.ireturn, 1) := by decide +kernel
theorem dX11_look_59 : decode cX11_look 59 = .ok (.aload_n 0, 1) := by decide +kernel
theorem dX11_look_60 : decode cX11_look 60 = .ok (.getfield 536, 3) := by decide +kernel
theorem dX11_look_63 : decode cX11_look 63 = .ok (.ireturn, 1) := by decide +kernel
theorem dX11_look_64 : decode cX11_look 64 = .ok (.aload_n 0, 1) := by decide +kernel
theorem dX11_look_65 : decode cX11_look 65 = .ok (.getfield 405, 3) := by decide +kernel
theorem dX11_look_68 : decode cX11_look 68 = .ok (.ireturn, 1) := by decide +kernel
theorem dX11_look_69 : decode cX11_look 69 = .ok (.aload_n 0, 1) := by decide +kernel
theorem dX11_look_70 : decode cX11_look 70 = .ok (.getfield 556, 3) := by decide +kernel
theorem dX11_look_73 : decode cX11_look 73 = .ok (.ireturn, 1) := by decide +kernel
theorem dX11_look_74 : decode cX11_look 74 = .ok (.iconst (-1), 1) := by decide +kernel
theorem dX11_look_75 : decode cX11_look 75 = .ok (.ireturn, 1) := by decide +kernel
