theorem dX0_init_0 : decode cX0_init 0 = .ok (.aload_n 0, 1) := by decide +kernel
theorem dX0_init_1 : decode cX0_init 1 = .ok (.invokespecial 3, 3) := by decide +kernel
theorem dX0_init_4 : decode cX0_init 4 = .ok (.aload_n 0, 1) := by decide +kernel
theorem dX0_init_5 : decode cX0_init 5 = .ok (.bipush 10, 2) := by decide +kernel
theorem dX0_init_7 : decode cX0_init 7 = .ok (.newarray .int, 2) := by decide +kernel
theorem dX0_init_9 : decode cX0_init 9 = .ok (.putfield 9, 3) := by decide +kernel
theorem dX0_init_12 : decode cX0_init 12 = .ok (.aload_n 0, 1) := by decide +kernel
theorem dX0_init_13 : decode cX0_init 13 = .ok (.bipush 10, 2) := by decide +kernel
theorem dX0_init_15 : decode cX0_init 15 = .ok (.newarray .int, 2) := by decide +kernel
theorem dX0_init_17 : decode cX0_init 17 = .ok (.putfield 15, 3) := by decide +kernel
theorem dX0_init_20 : decode cX0_init 20 = .ok (.aload_n 0, 1) := by decide +kernel
theorem dX0_init_21 : decode cX0_init 21 = .ok (.bipush 10, 2) := by decide +kernel
theorem dX0_init_23 : decode cX0_init 23 = .ok (.newarray .int, 2) := by decide +kernel
theorem dX0_init_25 : decode cX0_init 25 = .ok (.putfield 18, 3) := by decide +kernel
theorem dX0_init_28 : decode cX0_init 28 = .ok (.aload_n 0, 1) := by decide +kernel
theorem dX0_init_29 : decode cX0_init 29 = .ok (.bipush 10, 2) := by decide +kernel
theorem dX0_init_31 : decode cX0_init 31 = .ok (.newarray .long, 2) := by decide +kernel
theorem dX0_init_33 : decode cX0_init 33 = .ok (.putfield 21, 3) := by decide +kernel
theorem dX0_init_36 : decode cX0_init 36 = .ok (.return_, 1) := by decide +kernel
theorem dX1_init_0 : decode cX1_init 0 = .ok (.aload_n 0, 1) := by decide +kernel
theorem dX1_init_1 : decode cX1_init 1 = .ok (.invokespecial 3, 3) := by decide +kernel
theorem dX1_init_4 : decode cX1_init 4 = .ok (.aload_n 0, 1) := by decide +kernel
theorem dX1_init_5 : decode cX1_init 5 = .ok (.sipush 600, 3) := by decide +kernel
theorem dX1_init_8 : decode cX1_init 8 = .ok (.newarray .int, 2) := by decide +kernel
theorem dX1_init_10 : decode cX1_init 10 = .ok (.putfield 9, 3) := by decide +kernel
theorem dX1_init_13 : decode cX1_init 13 = .ok (.aload_n 0, 1) := by decide +kernel
theorem dX1_init_14 : decode cX1_init 14 = .ok (.bipush 20, 2) := by decide +kernel
theorem dX1_init_16 : decode cX1_init 16 = .ok (.newarray .int, 2) := by decide +kernel
theorem dX1_init_18 : decode cX1_init 18 = .ok (.putfield 15, 3) := by decide +kernel
theorem dX1_init_21 : decode cX1_init 21 = .ok (.aload_n 0, 1) := by decide +kernel
theorem dX1_init_22 : decode cX1_init 22 = .ok (.bipush 20, 2) := by decide +kernel
theorem dX1_init_24 : decode cX1_init 24 = .ok (.newarray .int, 2) := by decide +kernel
theorem dX1_init_26 : decode cX1_init 26 = .ok (.putfield 18, 3) := by decide +kernel
theorem dX1_init_29 : decode cX1_init 29 = .ok (.aload_n 0, 1) := by decide +kernel
theorem dX1_init_30 : decode cX1_init 30 = .ok (.bipush 20, 2) := by decide +kernel
theorem dX1_init_32 : decode cX1_init 32 = .ok (.newarray .int, 2) := by decide +kernel
theorem dX1_init_34 : decode cX1_init 34 = .ok (.putfield 21, 3) := by decide +kernel
theorem dX1_init_37 : decode cX1_init 37 = .ok (.aload_n 0, 1) := by decide +kernel
theorem dX1_init_38 : decode cX1_init 38 = .ok (.bipush 20, 2) := by decide +kernel
theorem dX1_init_40 : decode cX1_init 40 = .ok (.newarray .int, 2) := by decide +kernel
theorem dX1_init_42 : decode cX1_init 42 = .ok (.putfield 24, 3) := by decide +kernel
theorem dX1_init_45 : decode cX1_init 45 = .ok (.aload_n 0, 1) := by decide +kernel
theorem dX1_init_46 : decode cX1_init 46 = .ok (.bipush 20, 2) := by decide +kernel
theorem dX1_init_48 : decode cX1_init 48 = .ok (.newarray .int, 2) := by decide +kernel
theorem dX1_init_50 : decode cX1_init 50 = .ok (.putfield 27, 3) := by decide +kernel
theorem dX1_init_53 : decode cX1_init 53 = .ok (.aload_n 0, 1) := by decide +kernel
theorem dX1_init_54 : decode cX1_init 54 = .ok (.bipush 20, 2) := by decide +kernel
theorem dX1_init_56 : decode cX1_init 56 = .ok (.newarray .int, 2) := by decide +kernel
theorem dX1_init_58 : decode cX1_init 58 = .ok (.putfield 30, 3) := by decide +kernel
theorem dX1_init_61 : decode cX1_init 61 = .ok (.return_, 1) := by decide +kernel
theorem dX1_clear_0 : decode cX1_clear 0 = .ok (.aload_n 0, 1) := by decide +kernel
theorem dX1_clear_1 : decode cX1_clear 1 = .ok (.iconst 0, 1) := by decide +kernel
theorem dX1_clear_2 : decode cX1_clear 2 = .ok (.putfield 33, 3) := by decide +kernel
theorem dX1_clear_5 : decode cX1_clear 5 = .ok (.aload_n 0, 1) := by decide +kernel
theorem dX1_clear_6 : decode cX1_clear 6 = .ok (.iconst 0, 1) := by decide +kernel
theorem dX1_clear_7 : decode cX1_clear 7 = .ok (.putfield 37, 3) := by decide +kernel
theorem dX1_clear_10 : decode cX1_clear 10 = .ok (.aload_n 0, 1) := by decide +kernel
theorem dX1_clear_11 : decode cX1_clear 11 = .ok (.iconst 0, 1) := by decide +kernel
theorem dX1_clear_12 : decode cX1_clear 12 = .ok (.putfield 40, 3) := by decide +kernel
theorem dX1_clear_15 : decode cX1_clear 15 = .ok (.aload_n 0, 1) := by decide +kernel
theorem dX1_clear_16 : decode cX1_clear 16 = .ok (.iconst 0, 1) := by decide +kernel
theorem dX1_clear_17 : decode cX1_clear 17 = .ok (.putfield 43, 3) := by decide +kernel
theorem dX1_clear_20 : decode cX1_clear 20 = .ok (.aload_n 0, 1) := by decide +kernel
theorem dX1_clear_21 : decode cX1_clear 21 = .ok (.iconst 0, 1) := by decide +kernel
theorem dX1_clear_22 : decode cX1_clear 22 = .ok (.putfield 46, 3) := by decide +kernel
theorem dX1_clear_25 : decode cX1_clear 25 = .ok (.return_, 1) := by decide +kernel
theorem dX1_emit_0 : decode cX1_emit 0 = .ok (.aload_n 0, 1) := by decide +kernel
theorem dX1_emit_1 : decode cX1_emit 1 = .ok (.getfield 33, 3) := by decide +kernel
theorem dX1_emit_4 : decode cX1_emit 4 = .ok (.aload_n 0, 1) := by decide +kernel
theorem dX1_emit_5 : decode cX1_emit 5 = .ok (.getfield 9, 3) := by decide +kernel
theorem dX1_emit_8 : decode cX1_emit 8 = .ok (.arraylength, 1) := by decide +kernel
theorem dX1_emit_9 : decode cX1_emit 9 = .ok (.if_icmp .ge 23, 3) := by decide +kernel
theorem dX1_emit_12 : decode cX1_emit 12 = .ok (.aload_n 0, 1) := by decide +kernel
theorem dX1_emit_13 : decode cX1_emit 13 = .ok (.getfield 9, 3) := by decide +kernel
theorem dX1_emit_16 : decode cX1_emit 16 = .ok (.aload_n 0, 1) := by decide +kernel
theorem dX1_emit_17 : decode cX1_emit 17 = .ok (.getfield 33, 3) := by decide +kernel
theorem dX1_emit_20 : decode cX1_emit 20 = .ok (.iload_n 1, 1) := by decide +kernel
theorem dX1_emit_21 : decode cX1_emit 21 = .ok (.iastore, 1) := by decide +kernel
theorem dX1_emit_22 : decode cX1_emit 22 = .ok (.aload_n 0, 1) := by decide +kernel
theorem dX1_emit_23 : decode cX1_emit 23 = .ok (.dup, 1) := by decide +kernel
theorem dX1_emit_24 : decode cX1_emit 24 = .ok (.getfield 33, 3) := by decide +kernel
theorem dX1_emit_27 : decode cX1_emit 27 = .ok (.iconst 1, 1) := by decide +kernel
theorem dX1_emit_28 : decode cX1_emit 28 = .ok (.iadd, 1) := by decide +kernel
theorem dX1_emit_29 : decode cX1_emit 29 = .ok (.putfield 33, 3) := by decide +kernel
theorem dX1_emit_32 : decode cX1_emit 32 = .ok (.return_, 1) := by decide +kernel
theorem dX1_addRule_0 : decode cX1_addRule 0 = .ok (.aload_n 0, 1) := by decide +kernel
theorem dX1_addRule_1 : decode cX1_addRule 1 = .ok (.getfield 37, 3) := by decide +kernel
theorem dX1_addRule_4 : decode cX1_addRule 4 = .ok (.bipush 20, 2) := by decide +kernel
theorem dX1_addRule_6 : decode cX1_addRule 6 = .ok (.if_icmp .ge 56, 3) := by decide +kernel
theorem dX1_addRule_9 : decode cX1_addRule 9 = .ok (.aload_n 0, 1) := by decide +kernel
theorem dX1_addRule_10 : decode cX1_addRule 10 = .ok (.getfield 15, 3) := by decide +kernel
theorem dX1_addRule_13 : decode cX1_addRule 13 = .ok (.aload_n 0, 1) := by decide +kernel
theorem dX1_addRule_14 : decode cX1_addRule 14 = .ok (.getfield 37, 3) := by decide +kernel
theorem dX1_addRule_17 : decode cX1_addRule 17 = .ok (.iload_n 1, 1) := by decide +kernel
theorem dX1_addRule_18 : decode cX1_addRule 18 = .ok (.iastore, 1) := by decide +kernel
theorem dX1_addRule_19 : decode cX1_addRule 19 = .ok (.aload_n 0, 1) := by decide +kernel
theorem dX1_addRule_20 : decode cX1_addRule 20 = .ok (.getfield 18, 3) := by decide +kernel
theorem dX1_addRule_23 : decode cX1_addRule 23 = .ok (.aload_n 0, 1) := by decide +kernel
theorem dX1_addRule_24 : decode cX1_addRule 24 = .ok (.getfield 37, 3) := by decide +kernel
theorem dX1_addRule_27 : decode cX1_addRule 27 = .ok (.iload_n 2, 1) := by decide +kernel
theorem dX1_addRule_28 : decode cX1_addRule 28 = .ok (.iastore, 1) := by decide +kernel
theorem dX1_addRule_29 : decode cX1_addRule 29 = .ok (.aload_n 0, 1) := by decide +kernel
theorem dX1_addRule_30 : decode cX1_addRule 30 = .ok (.getfield 21, 3) := by decide +kernel
theorem dX1_addRule_33 : decode cX1_addRule 33 = .ok (.aload_n 0, 1) := by decide +kernel
theorem dX1_addRule_34 : decode cX1_addRule 34 = .ok (.getfield 37, 3) := by decide +kernel
theorem dX1_addRule_37 : decode cX1_addRule 37 = .ok (.iload_n 3, 1) := by decide +kernel
theorem dX1_addRule_38 : decode cX1_addRule 38 = .ok (.iastore, 1) := by decide +kernel
theorem dX1_addRule_39 : decode cX1_addRule 39 = .ok (.aload_n 0, 1) := by decide +kernel
theorem dX1_addRule_40 : decode cX1_addRule 40 = .ok (.getfield 24, 3) := by decide +kernel
theorem dX1_addRule_43 : decode cX1_addRule 43 = .ok (.aload_n 0, 1) := by decide +kernel
theorem dX1_addRule_44 : decode cX1_addRule 44 = .ok (.getfield 37, 3) := by decide +kernel
theorem dX1_addRule_47 : decode cX1_addRule 47 = .ok (.aload_n 0, 1) := by decide +kernel
theorem dX1_addRule_48 : decode cX1_addRule 48 = .ok (.getfield 33, 3) := by decide +kernel
theorem dX1_addRule_51 : decode cX1_addRule 51 = .ok (.iastore, 1) := by decide +kernel
theorem dX1_addRule_52 : decode cX1_addRule 52 = .ok (.aload_n 0, 1) := by decide +kernel
theorem dX1_addRule_53 : decode cX1_addRule 53 = .ok (.dup, 1) := by decide +kernel
theorem dX1_addRule_54 : decode cX1_addRule 54 = .ok (.getfield 37, 3) := by decide +kernel
theorem dX1_addRule_57 : decode cX1_addRule 57 = .ok (.iconst 1, 1) := by decide +kernel
theorem dX1_addRule_58 : decode cX1_addRule 58 = .ok (.iadd, 1) := by decide +kernel
theorem dX1_addRule_59 : decode cX1_addRule 59 = .ok (.putfield 37, 3) := by decide +kernel
theorem dX1_addRule_62 : decode cX1_addRule 62 = .ok (.return_, 1) := by decide +kernel
theorem dX1_addStep_0 : decode cX1_addStep 0 = .ok (.aload_n 0, 1) := by decide +kernel
theorem dX1_addStep_1 : decode cX1_addStep 1 = .ok (.getfield 40, 3) := by decide +kernel
theorem dX1_addStep_4 : decode cX1_addStep 4 = .ok (.bipush 20, 2) := by decide +kernel
theorem dX1_addStep_6 : decode cX1_addStep 6 = .ok (.if_icmp .ge 33, 3) := by decide +kernel
theorem dX1_addStep_9 : decode cX1_addStep 9 = .ok (.aload_n 0, 1) := by decide +kernel
theorem dX1_addStep_10 : decode cX1_addStep 10 = .ok (.getfield 27, 3) := by decide +kernel
theorem dX1_addStep_13 : decode cX1_addStep 13 = .ok (.aload_n 0, 1) := by decide +kernel
theorem dX1_addStep_14 : decode cX1_addStep 14 = .ok (.getfield 40, 3) := by decide +kernel
theorem dX1_addStep_17 : decode cX1_addStep 17 = .ok (.iload_n 1, 1) := by decide +kernel
theorem dX1_addStep_18 : decode cX1_addStep 18 = .ok (.iastore, 1) := by decide +kernel
theorem dX1_addStep_19 : decode cX1_addStep 19 = .ok (.aload_n 0, 1) := by decide +kernel
theorem dX1_addStep_20 : decode cX1_addStep 20 = .ok (.getfield 30, 3) := by decide +kernel
theorem dX1_addStep_23 : decode cX1_addStep 23 = .ok (.aload_n 0, 1) := by decide +kernel
theorem dX1_addStep_24 : decode cX1_addStep 24 = .ok (.getfield 40, 3) := by decide +kernel
theorem dX1_addStep_27 : decode cX1_addStep 27 = .ok (.iload_n 2, 1) := by decide +kernel
theorem dX1_addStep_28 : decode cX1_addStep 28 = .ok (.iastore, 1) := by decide +kernel
theorem dX1_addStep_29 : decode cX1_addStep 29 = .ok (.aload_n 0, 1) := by decide +kernel
theorem dX1_addStep_30 : decode cX1_addStep 30 = .ok (.dup, 1) := by decide +kernel
theorem dX1_addStep_31 : decode cX1_addStep 31 = .ok (.getfield 40, 3) := by decide +kernel
theorem dX1_addStep_34 : decode cX1_addStep 34 = .ok (.iconst 1, 1) := by decide +kernel
theorem dX1_addStep_35 : decode cX1_addStep 35 = .ok (.iadd, 1) := by decide +kernel
theorem dX1_addStep_36 : decode cX1_addStep 36 = .ok (.putfield 40, 3) := by decide +kernel
theorem dX1_addStep_39 : decode cX1_addStep 39 = .ok (.return_, 1) := by decide +kernel
theorem dX1_saysMine_0 : decode cX1_saysMine 0 = .ok (.iconst 0, 1) := by decide +kernel
theorem dX1_saysMine_1 : decode cX1_saysMine 1 = .ok (.istore_n 3, 1) := by decide +kernel
theorem dX1_saysMine_2 : decode cX1_saysMine 2 = .ok (.iload_n 3, 1) := by decide +kernel
theorem dX1_saysMine_3 : decode cX1_saysMine 3 = .ok (.aload_n 0, 1) := by decide +kernel
theorem dX1_saysMine_4 : decode cX1_saysMine 4 = .ok (.getfield 37, 3) := by decide +kernel
theorem dX1_saysMine_7 : decode cX1_saysMine 7 = .ok (.if_icmp .ge 44, 3) := by decide +kernel
theorem dX1_saysMine_10 : decode cX1_saysMine 10 = .ok (.aload_n 0, 1) := by decide +kernel
theorem dX1_saysMine_11 : decode cX1_saysMine 11 = .ok (.getfield 15, 3) := by decide +kernel
theorem dX1_saysMine_14 : decode cX1_saysMine 14 = .ok (.iload_n 3, 1) := by decide +kernel
theorem dX1_saysMine_15 : decode cX1_saysMine 15 = .ok (.iaload, 1) := by decide +kernel
theorem dX1_saysMine_16 : decode cX1_saysMine 16 = .ok (.bipush 6, 2) := by decide +kernel
theorem dX1_saysMine_18 : decode cX1_saysMine 18 = .ok (.if_icmp .ne 27, 3) := by decide +kernel
theorem dX1_saysMine_21 : decode cX1_saysMine 21 = .ok (.aload_n 0, 1) := by decide +kernel
theorem dX1_saysMine_22 : decode cX1_saysMine 22 = .ok (.aload_n 0, 1) := by decide +kernel
theorem dX1_saysMine_23 : decode cX1_saysMine 23 = .ok (.getfield 18, 3) := by decide +kernel
theorem dX1_saysMine_26 : decode cX1_saysMine 26 = .ok (.iload_n 3, 1) := by decide +kernel
theorem dX1_saysMine_27 : decode cX1_saysMine 27 = .ok (.iaload, 1) := by decide +kernel
theorem dX1_saysMine_28 : decode cX1_saysMine 28 = .ok (.aload_n 0, 1) := by decide +kernel
theorem dX1_saysMine_29 : decode cX1_saysMine 29 = .ok (.getfield 24, 3) := by decide +kernel
theorem dX1_saysMine_32 : decode cX1_saysMine 32 = .ok (.iload_n 3, 1) := by decide +kernel
theorem dX1_saysMine_33 : decode cX1_saysMine 33 = .ok (.iaload, 1) := by decide +kernel
theorem dX1_saysMine_34 : decode cX1_saysMine 34 = .ok (.aload_n 1, 1) := by decide +kernel
theorem dX1_saysMine_35 : decode cX1_saysMine 35 = .ok (.aload_n 2, 1) := by decide +kernel
theorem dX1_saysMine_36 : decode cX1_saysMine 36 = .ok (.invokevirtual 49, 3) := by decide +kernel
theorem dX1_saysMine_39 : decode cX1_saysMine 39 = .ok (.iconst 1, 1) := by decide +kernel
theorem dX1_saysMine_40 : decode cX1_saysMine 40 = .ok (.if_icmp .ne 5, 3) := by decide +kernel
theorem dX1_saysMine_43 : decode cX1_saysMine 43 = .ok (.iconst 1, 1) := by decide +kernel
theorem dX1_saysMine_44 : decode cX1_saysMine 44 = .ok (.ireturn, 1) := by decide +kernel
theorem dX1_saysMine_45 : decode cX1_saysMine 45 = .ok (.iinc 3 1, 3) := by decide +kernel
theorem dX1_saysMine_48 : decode cX1_saysMine 48 = .ok (.goto (-46), 3) := by decide +kernel
theorem dX1_saysMine_51 : decode cX1_saysMine 51 = .ok (.iconst 0, 1) := by decide +kernel
theorem dX1_saysMine_52 : decode cX1_saysMine 52 = .ok (.ireturn, 1) := by decide +kernel
theorem dX1_part_0 : decode cX1_part 0 = .ok (.iconst 0, 1) := by decide +kernel
theorem dX1_part_1 : decode cX1_part 1 = .ok (.istore 4, 2) := by decide +kernel
theorem dX1_part_3 : decode cX1_part 3 = .ok (.iload 4, 2) := by decide +kernel
theorem dX1_part_5 : decode cX1_part 5 = .ok (.aload_n 0, 1) := by decide +kernel
theorem dX1_part_6 : decode cX1_part 6 = .ok (.getfield 37, 3) := by decide +kernel
theorem dX1_part_9 : decode cX1_part 9 = .ok (.if_icmp .ge 85, 3) := by decide +kernel
theorem dX1_part_12 : decode cX1_part 12 = .ok (.aload_n 0, 1) := by decide +kernel
theorem dX1_part_13 : decode cX1_part 13 = .ok (.getfield 15, 3) := by decide +kernel
theorem dX1_part_16 : decode cX1_part 16 = .ok (.iload 4, 2) := by decide +kernel
theorem dX1_part_18 : decode cX1_part 18 = .ok (.iaload, 1) := by decide +kernel
theorem dX1_part_19 : decode cX1_part 19 = .ok (.iload_n 1, 1) := by decide +kernel
theorem dX1_part_20 : decode cX1_part 20 = .ok (.if_icmp .ne 68, 3) := by decide +kernel
theorem dX1_part_23 : decode cX1_part 23 = .ok (.aload_n 0, 1) := by decide +kernel
theorem dX1_part_24 : decode cX1_part 24 = .ok (.getfield 21, 3) := by decide +kernel
theorem dX1_part_27 : decode cX1_part 27 = .ok (.iload 4, 2) := by decide +kernel
theorem dX1_part_29 : decode cX1_part 29 = .ok (.iaload, 1) := by decide +kernel
theorem dX1_part_30 : decode cX1_part 30 = .ok (.istore 5, 2) := by decide +kernel
theorem dX1_part_32 : decode cX1_part 32 = .ok (.iload 5, 2) := by decide +kernel
theorem dX1_part_34 : decode cX1_part 34 = .ok (.aload_n 0, 1) := by decide +kernel
theorem dX1_part_35 : decode cX1_part 35 = .ok (.getfield 24, 3) := by decide +kernel
theorem dX1_part_38 : decode cX1_part 38 = .ok (.iload 4, 2) := by decide +kernel
theorem dX1_part_40 : decode cX1_part 40 = .ok (.iaload, 1) := by decide +kernel
theorem dX1_part_41 : decode cX1_part 41 = .ok (.if_icmp .eq 22, 3) := by decide +kernel
theorem dX1_part_44 : decode cX1_part 44 = .ok (.aload_n 0, 1) := by decide +kernel
theorem dX1_part_45 : decode cX1_part 45 = .ok (.iload 5, 2) := by decide +kernel
theorem dX1_part_47 : decode cX1_part 47 = .ok (.aload_n 0, 1) := by decide +kernel
theorem dX1_part_48 : decode cX1_part 48 = .ok (.getfield 24, 3) := by decide +kernel
theorem dX1_part_51 : decode cX1_part 51 = .ok (.iload 4, 2) := by decide +kernel
theorem dX1_part_53 : decode cX1_part 53 = .ok (.iaload, 1) := by decide +kernel
theorem dX1_part_54 : decode cX1_part 54 = .ok (.aload_n 2, 1) := by decide +kernel
theorem dX1_part_55 : decode cX1_part 55 = .ok (.aload_n 3, 1) := by decide +kernel
theorem dX1_part_56 : decode cX1_part 56 = .ok (.invokevirtual 49, 3) := by decide +kernel
theorem dX1_part_59 : decode cX1_part 59 = .ok (.iconst 1, 1) := by decide +kernel
theorem dX1_part_60 : decode cX1_part 60 = .ok (.if_icmp .ne 28, 3) := by decide +kernel
theorem dX1_part_63 : decode cX1_part 63 = .ok (.iconst 0, 1) := by decide +kernel
theorem dX1_part_64 : decode cX1_part 64 = .ok (.bipush 100, 2) := by decide +kernel
theorem dX1_part_66 : decode cX1_part 66 = .ok (.aload_n 0, 1) := by decide +kernel
theorem dX1_part_67 : decode cX1_part 67 = .ok (.aload_n 0, 1) := by decide +kernel
theorem dX1_part_68 : decode cX1_part 68 = .ok (.getfield 18, 3) := by decide +kernel
theorem dX1_part_71 : decode cX1_part 71 = .ok (.iload 4, 2) := by decide +kernel
theorem dX1_part_73 : decode cX1_part 73 = .ok (.iaload, 1) := by decide +kernel
theorem dX1_part_74 : decode cX1_part 74 = .ok (.iload 5, 2) := by decide +kernel
theorem dX1_part_76 : decode cX1_part 76 = .ok (.aload_n 2, 1) := by decide +kernel
theorem dX1_part_77 : decode cX1_part 77 = .ok (.aload_n 3, 1) := by decide +kernel
theorem dX1_part_78 : decode cX1_part 78 = .ok (.invokevirtual 49, 3) := by decide +kernel
theorem dX1_part_81 : decode cX1_part 81 = .ok (.invokestatic 53, 3) := by decide +kernel
theorem dX1_part_84 : decode cX1_part 84 = .ok (.invokestatic 59, 3) := by decide +kernel
theorem dX1_part_87 : decode cX1_part 87 = .ok (.ireturn, 1) := by decide +kernel
theorem dX1_part_88 : decode cX1_part 88 = .ok (.iinc 4 1, 3) := by decide +kernel
theorem dX1_part_91 : decode cX1_part 91 = .ok (.goto (-88), 3) := by decide +kernel
theorem dX1_part_94 : decode cX1_part 94 = .ok (.iconst 0, 1) := by decide +kernel
theorem dX1_part_95 : decode cX1_part 95 = .ok (.ireturn, 1) := by decide +kernel
theorem dX1_bySteps_0 : decode cX1_bySteps 0 = .ok (.lconst 0, 1) := by decide +kernel
theorem dX1_bySteps_1 : decode cX1_bySteps 1 = .ok (.lload_n 1, 1) := by decide +kernel
theorem dX1_bySteps_2 : decode cX1_bySteps 2 = .ok (.aload_n 0, 1) := by decide +kernel
theorem dX1_bySteps_3 : decode cX1_bySteps 3 = .ok (.getfield 43, 3) := by decide +kernel
theorem dX1_bySteps_6 : decode cX1_bySteps 6 = .ok (.i2l, 1) := by decide +kernel
theorem dX1_bySteps_7 : decode cX1_bySteps 7 = .ok (.lsub, 1) := by decide +kernel
theorem dX1_bySteps_8 : decode cX1_bySteps 8 = .ok (.invokestatic 62, 3) := by decide +kernel
theorem dX1_bySteps_11 : decode cX1_bySteps 11 = .ok (.lstore_n 3, 1) := by decide +kernel
theorem dX1_bySteps_12 : decode cX1_bySteps 12 = .ok (.lconst 0, 1) := by decide +kernel
theorem dX1_bySteps_13 : decode cX1_bySteps 13 = .ok (.lstore 5, 2) := by decide +kernel
theorem dX1_bySteps_15 : decode cX1_bySteps 15 = .ok (.iconst 0, 1) := by decide +kernel
theorem dX1_bySteps_16 : decode cX1_bySteps 16 = .ok (.istore 7, 2) := by decide +kernel
theorem dX1_bySteps_18 : decode cX1_bySteps 18 = .ok (.iload 7, 2) := by decide +kernel
theorem dX1_bySteps_20 : decode cX1_bySteps 20 = .ok (.aload_n 0, 1) := by decide +kernel
theorem dX1_bySteps_21 : decode cX1_bySteps 21 = .ok (.getfield 40, 3) := by decide +kernel
theorem dX1_bySteps_24 : decode cX1_bySteps 24 = .ok (.if_icmp .ge 79, 3) := by decide +kernel
theorem dX1_bySteps_27 : decode cX1_bySteps 27 = .ok (.iload 7, 2) := by decide +kernel
theorem dX1_bySteps_29 : decode cX1_bySteps 29 = .ok (.iconst 1, 1) := by decide +kernel
theorem dX1_bySteps_30 : decode cX1_bySteps 30 = .ok (.iadd, 1) := by decide +kernel
theorem dX1_bySteps_31 : decode cX1_bySteps 31 = .ok (.aload_n 0, 1) := by decide +kernel
theorem dX1_bySteps_32 : decode cX1_bySteps 32 = .ok (.getfield 40, 3) := by decide +kernel
theorem dX1_bySteps_35 : decode cX1_bySteps 35 = .ok (.if_icmp .ge 20, 3) := by decide +kernel
theorem dX1_bySteps_38 : decode cX1_bySteps 38 = .ok (.lload_n 3, 1) := by decide +kernel
theorem dX1_bySteps_39 : decode cX1_bySteps 39 = .ok (.aload_n 0, 1) := by decide +kernel
theorem dX1_bySteps_40 : decode cX1_bySteps 40 = .ok (.getfield 27, 3) := by decide +kernel
theorem dX1_bySteps_43 : decode cX1_bySteps 43 = .ok (.iload 7, 2) := by decide +kernel
theorem dX1_bySteps_45 : decode cX1_bySteps 45 = .ok (.iconst 1, 1) := by decide +kernel
theorem dX1_bySteps_46 : decode cX1_bySteps 46 = .ok (.iadd, 1) := by decide +kernel
theorem dX1_bySteps_47 : decode cX1_bySteps 47 = .ok (.iaload, 1) := by decide +kernel
theorem dX1_bySteps_48 : decode cX1_bySteps 48 = .ok (.i2l, 1) := by decide +kernel
theorem dX1_bySteps_49 : decode cX1_bySteps 49 = .ok (.invokestatic 65, 3) := by decide +kernel
theorem dX1_bySteps_52 : decode cX1_bySteps 52 = .ok (.goto 4, 3) := by decide +kernel
theorem dX1_bySteps_55 : decode cX1_bySteps 55 = .ok (.lload_n 3, 1) := by decide +kernel
theorem dX1_bySteps_56 : decode cX1_bySteps 56 = .ok (.lstore 8, 2) := by decide +kernel
theorem dX1_bySteps_58 : decode cX1_bySteps 58 = .ok (.lload 8, 2) := by decide +kernel
theorem dX1_bySteps_60 : decode cX1_bySteps 60 = .ok (.aload_n 0, 1) := by decide +kernel
theorem dX1_bySteps_61 : decode cX1_bySteps 61 = .ok (.getfield 27, 3) := by decide +kernel
theorem dX1_bySteps_64 : decode cX1_bySteps 64 = .ok (.iload 7, 2) := by decide +kernel
theorem dX1_bySteps_66 : decode cX1_bySteps 66 = .ok (.iaload, 1) := by decide +kernel
theorem dX1_bySteps_67 : decode cX1_bySteps 67 = .ok (.i2l, 1) := by decide +kernel
theorem dX1_bySteps_68 : decode cX1_bySteps 68 = .ok (.lcmp, 1) := by decide +kernel
theorem dX1_bySteps_69 : decode cX1_bySteps 69 = .ok (.ifCond .le 28, 3) := by decide +kernel
theorem dX1_bySteps_72 : decode cX1_bySteps 72 = .ok (.lload 5, 2) := by decide +kernel
theorem dX1_bySteps_74 : decode cX1_bySteps 74 = .ok (.lload 8, 2) := by decide +kernel
theorem dX1_bySteps_76 : decode cX1_bySteps 76 = .ok (.aload_n 0, 1) := by decide +kernel
theorem dX1_bySteps_77 : decode cX1_bySteps 77 = .ok (.getfield 27, 3) := by decide +kernel
theorem dX1_bySteps_80 : decode cX1_bySteps 80 = .ok (.iload 7, 2) := by decide +kernel
theorem dX1_bySteps_82 : decode cX1_bySteps 82 = .ok (.iaload, 1) := by decide +kernel
theorem dX1_bySteps_83 : decode cX1_bySteps 83 = .ok (.i2l, 1) := by decide +kernel
theorem dX1_bySteps_84 : decode cX1_bySteps 84 = .ok (.lsub, 1) := by decide +kernel
theorem dX1_bySteps_85 : decode cX1_bySteps 85 = .ok (.aload_n 0, 1) := by decide +kernel
theorem dX1_bySteps_86 : decode cX1_bySteps 86 = .ok (.getfield 30, 3) := by decide +kernel
theorem dX1_bySteps_89 : decode cX1_bySteps 89 = .ok (.iload 7, 2) := by decide +kernel
theorem dX1_bySteps_91 : decode cX1_bySteps 91 = .ok (.iaload, 1) := by decide +kernel
theorem dX1_bySteps_92 : decode cX1_bySteps 92 = .ok (.i2l, 1) := by decide +kernel
theorem dX1_bySteps_93 : decode cX1_bySteps 93 = .ok (.lmul, 1) := by decide +kernel
theorem dX1_bySteps_94 : decode cX1_bySteps 94 = .ok (.ladd, 1) := by decide +kernel
theorem dX1_bySteps_95 : decode cX1_bySteps 95 = .ok (.lstore 5, 2) := by decide +kernel
theorem dX1_bySteps_97 : decode cX1_bySteps 97 = .ok (.iinc 7 1, 3) := by decide +kernel
theorem dX1_bySteps_100 : decode cX1_bySteps 100 = .ok (.goto (-82), 3) := by decide +kernel
theorem dX1_bySteps_103 : decode cX1_bySteps 103 = .ok (.lload 5, 2) := by decide +kernel
theorem dX1_bySteps_105 : decode cX1_bySteps 105 = .ok (.lreturn, 1) := by decide +kernel
theorem dX1_run_0 : decode cX1_run 0 = .ok (.iconst 0, 1) := by decide +kernel
theorem dX1_run_1 : decode cX1_run 1 = .ok (.istore 5, 2) := by decide +kernel
theorem dX1_run_3 : decode cX1_run 3 = .ok (.iload_n 1, 1) := by decide +kernel
theorem dX1_run_4 : decode cX1_run 4 = .ok (.istore 6, 2) := by decide +kernel
theorem dX1_run_6 : decode cX1_run 6 = .ok (.iload 6, 2) := by decide +kernel
theorem dX1_run_8 : decode cX1_run 8 = .ok (.iload_n 2, 1) := by decide +kernel
theorem dX1_run_9 : decode cX1_run 9 = .ok (.if_icmp .ge 134, 3) := by decide +kernel
theorem dX1_run_12 : decode cX1_run 12 = .ok (.iload 6, 2) := by decide +kernel
theorem dX1_run_14 : decode cX1_run 14 = .ok (.aload_n 0, 1) := by decide +kernel
theorem dX1_run_15 : decode cX1_run 15 = .ok (.getfield 9, 3) := by decide +kernel
theorem dX1_run_18 : decode cX1_run 18 = .ok (.arraylength, 1) := by decide +kernel
theorem dX1_run_19 : decode cX1_run 19 = .ok (.if_icmp .ge 124, 3) := by decide +kernel
theorem dX1_run_22 : decode cX1_run 22 = .ok (.aload_n 0, 1) := by decide +kernel
theorem dX1_run_23 : decode cX1_run 23 = .ok (.getfield 9, 3) := by decide +kernel
theorem dX1_run_26 : decode cX1_run 26 = .ok (.iload 6, 2) := by decide +kernel
theorem dX1_run_28 : decode cX1_run 28 = .ok (.iaload, 1) := by decide +kernel
theorem dX1_run_29 : decode cX1_run 29 = .ok (.istore 7, 2) := by decide +kernel
theorem dX1_run_31 : decode cX1_run 31 = .ok (.iload 7, 2) := by decide +kernel
theorem dX1_run_33 : decode cX1_run 33 = .ok (.bipush (-9), 2) := by decide +kernel
theorem dX1_run_35 : decode cX1_run 35 = .ok (.if_icmp .le 38, 3) := by decide +kernel
theorem dX1_run_38 : decode cX1_run 38 = .ok (.iload 5, 2) := by decide +kernel
theorem dX1_run_40 : decode cX1_run 40 = .ok (.aload 4, 2) := by decide +kernel
theorem dX1_run_42 : decode cX1_run 42 = .ok (.arraylength, 1) := by decide +kernel
theorem dX1_run_43 : decode cX1_run 43 = .ok (.if_icmp .ge 94, 3) := by decide +kernel
theorem dX1_run_46 : decode cX1_run 46 = .ok (.aload 4, 2) := by decide +kernel
theorem dX1_run_48 : decode cX1_run 48 = .ok (.iload 5, 2) := by decide +kernel
theorem dX1_run_50 : decode cX1_run 50 = .ok (.iload 7, 2) := by decide +kernel
theorem dX1_run_52 : decode cX1_run 52 = .ok (.ifCond .lt 8, 3) := by decide +kernel
theorem dX1_run_55 : decode cX1_run 55 = .ok (.iload 7, 2) := by decide +kernel
theorem dX1_run_57 : decode cX1_run 57 = .ok (.goto 9, 3) := by decide +kernel
theorem dX1_run_60 : decode cX1_run 60 = .ok (.aload_n 3, 1) := by decide +kernel
theorem dX1_run_61 : decode cX1_run 61 = .ok (.iconst (-1), 1) := by decide +kernel
theorem dX1_run_62 : decode cX1_run 62 = .ok (.iload 7, 2) := by decide +kernel
theorem dX1_run_64 : decode cX1_run 64 = .ok (.isub, 1) := by decide +kernel
theorem dX1_run_65 : decode cX1_run 65 = .ok (.iaload, 1) := by decide +kernel
theorem dX1_run_66 : decode cX1_run 66 = .ok (.iastore, 1) := by decide +kernel
theorem dX1_run_67 : decode cX1_run 67 = .ok (.iinc 5 1, 3) := by decide +kernel
theorem dX1_run_70 : decode cX1_run 70 = .ok (.goto 67, 3) := by decide +kernel
theorem dX1_run_73 : decode cX1_run 73 = .ok (.iload 7, 2) := by decide +kernel
theorem dX1_run_75 : decode cX1_run 75 = .ok (.bipush (-18), 2) := by decide +kernel
theorem dX1_run_77 : decode cX1_run 77 = .ok (.if_icmp .ne 27, 3) := by decide +kernel
theorem dX1_run_80 : decode cX1_run 80 = .ok (.iload 5, 2) := by decide +kernel
theorem dX1_run_82 : decode cX1_run 82 = .ok (.ifCond .le 55, 3) := by decide +kernel
theorem dX1_run_85 : decode cX1_run 85 = .ok (.aload 4, 2) := by decide +kernel
theorem dX1_run_87 : decode cX1_run 87 = .ok (.iload 5, 2) := by decide +kernel
theorem dX1_run_89 : decode cX1_run 89 = .ok (.iconst 1, 1) := by decide +kernel
theorem dX1_run_90 : decode cX1_run 90 = .ok (.isub, 1) := by decide +kernel
theorem dX1_run_91 : decode cX1_run 91 = .ok (.iconst 1, 1) := by decide +kernel
theorem dX1_run_92 : decode cX1_run 92 = .ok (.aload 4, 2) := by decide +kernel
theorem dX1_run_94 : decode cX1_run 94 = .ok (.iload 5, 2) := by decide +kernel
theorem dX1_run_96 : decode cX1_run 96 = .ok (.iconst 1, 1) := by decide +kernel
theorem dX1_run_97 : decode cX1_run 97 = .ok (.isub, 1) := by decide +kernel
theorem dX1_run_98 : decode cX1_run 98 = .ok (.iaload, 1) := by decide +kernel
theorem dX1_run_99 : decode cX1_run 99 = .ok (.isub, 1) := by decide +kernel
theorem dX1_run_100 : decode cX1_run 100 = .ok (.iastore, 1) := by decide +kernel
theorem dX1_run_101 : decode cX1_run 101 = .ok (.goto 36, 3) := by decide +kernel
theorem dX1_run_104 : decode cX1_run 104 = .ok (.iload 5, 2) := by decide +kernel
theorem dX1_run_106 : decode cX1_run 106 = .ok (.iconst 1, 1) := by decide +kernel
theorem dX1_run_107 : decode cX1_run 107 = .ok (.if_icmp .le 30, 3) := by decide +kernel
theorem dX1_run_110 : decode cX1_run 110 = .ok (.iinc 5 (-1), 3) := by decide +kernel
theorem dX1_run_113 : decode cX1_run 113 = .ok (.aload 4, 2) := by decide +kernel
theorem dX1_run_115 : decode cX1_run 115 = .ok (.iload 5, 2) := by decide +kernel
theorem dX1_run_117 : decode cX1_run 117 = .ok (.iconst 1, 1) := by decide +kernel
theorem dX1_run_118 : decode cX1_run 118 = .ok (.isub, 1) := by decide +kernel
theorem dX1_run_119 : decode cX1_run 119 = .ok (.iload 7, 2) := by decide +kernel
theorem dX1_run_121 : decode cX1_run 121 = .ok (.aload 4, 2) := by decide +kernel
theorem dX1_run_123 : decode cX1_run 123 = .ok (.iload 5, 2) := by decide +kernel
theorem dX1_run_125 : decode cX1_run 125 = .ok (.iconst 1, 1) := by decide +kernel
theorem dX1_run_126 : decode cX1_run 126 = .ok (.isub, 1) := by decide +kernel
theorem dX1_run_127 : decode cX1_run 127 = .ok (.iaload, 1) := by decide +kernel
theorem dX1_run_128 : decode cX1_run 128 = .ok (.aload 4, 2) := by decide +kernel
theorem dX1_run_130 : decode cX1_run 130 = .ok (.iload 5, 2) := by decide +kernel
theorem dX1_run_132 : decode cX1_run 132 = .ok (.iaload, 1) := by decide +kernel
theorem dX1_run_133 : decode cX1_run 133 = .ok (.invokestatic 67, 3) := by decide +kernel
theorem dX1_run_136 : decode cX1_run 136 = .ok (.iastore, 1) := by decide +kernel
theorem dX1_run_137 : decode cX1_run 137 = .ok (.iinc 6 1, 3) := by decide +kernel
theorem dX1_run_140 : decode cX1_run 140 = .ok (.goto (-134), 3) := by decide +kernel
theorem dX1_run_143 : decode cX1_run 143 = .ok (.iload 5, 2) := by decide +kernel
theorem dX1_run_145 : decode cX1_run 145 = .ok (.ifCond .le 10, 3) := by decide +kernel
theorem dX1_run_148 : decode cX1_run 148 = .ok (.aload 4, 2) := by decide +kernel
theorem dX1_run_150 : decode cX1_run 150 = .ok (.iconst 0, 1) := by decide +kernel
theorem dX1_run_151 : decode cX1_run 151 = .ok (.iaload, 1) := by decide +kernel
theorem dX1_run_152 : decode cX1_run 152 = .ok (.goto 4, 3) := by decide +kernel
theorem dX1_run_155 : decode cX1_run 155 = .ok (.iconst 0, 1) := by decide +kernel
theorem dX1_run_156 : decode cX1_run 156 = .ok (.ireturn, 1) := by decide +kernel
theorem dX1_join_0 : decode cX1_join 0 = .ok (.iload_n 0, 1) := by decide +kernel
theorem dX1_join_1 : decode cX1_join 1 = .ok (.tableswitch 116 (-17) (-9) #[112, 108, 97, 86, 75, 63, 59, 55, 51], 51) := by decide +kernel
theorem dX1_join_52 : decode cX1_join 52 = .ok (.iload_n 1, 1) := by decide +kernel
theorem dX1_join_53 : decode cX1_join 53 = .ok (.iload_n 2, 1) := by decide +kernel
theorem dX1_join_54 : decode cX1_join 54 = .ok (.iadd, 1) := by decide +kernel
theorem dX1_join_55 : decode cX1_join 55 = .ok (.ireturn, 1) := by decide +kernel
theorem dX1_join_56 : decode cX1_join 56 = .ok (.iload_n 1, 1) := by decide +kernel
theorem dX1_join_57 : decode cX1_join 57 = .ok (.iload_n 2, 1) := by decide +kernel
theorem dX1_join_58 : decode cX1_join 58 = .ok (.isub, 1) := by decide +kernel
theorem dX1_join_59 : decode cX1_join 59 = .ok (.ireturn, 1) := by decide +kernel
theorem dX1_join_60 : decode cX1_join 60 = .ok (.iload_n 1, 1) := by decide +kernel
theorem dX1_join_61 : decode cX1_join 61 = .ok (.iload_n 2, 1) := by decide +kernel
theorem dX1_join_62 : decode cX1_join 62 = .ok (.imul, 1) := by decide +kernel
theorem dX1_join_63 : decode cX1_join 63 = .ok (.ireturn, 1) := by decide +kernel
theorem dX1_join_64 : decode cX1_join 64 = .ok (.iload_n 2, 1) := by decide +kernel
theorem dX1_join_65 : decode cX1_join 65 = .ok (.ifCond .ne 7, 3) := by decide +kernel
theorem dX1_join_68 : decode cX1_join 68 = .ok (.iconst 0, 1) := by decide +kernel
theorem dX1_join_69 : decode cX1_join 69 = .ok (.goto 6, 3) := by decide +kernel
theorem dX1_join_72 : decode cX1_join 72 = .ok (.iload_n 1, 1) := by decide +kernel
theorem dX1_join_73 : decode cX1_join 73 = .ok (.iload_n 2, 1) := by decide +kernel
theorem dX1_join_74 : decode cX1_join 74 = .ok (.idiv, 1) := by decide +kernel
theorem dX1_join_75 : decode cX1_join 75 = .ok (.ireturn, 1) := by decide +kernel
theorem dX1_join_76 : decode cX1_join 76 = .ok (.iload_n 1, 1) := by decide +kernel
theorem dX1_join_77 : decode cX1_join 77 = .ok (.iload_n 2, 1) := by decide +kernel
theorem dX1_join_78 : decode cX1_join 78 = .ok (.if_icmp .ge 7, 3) := by decide +kernel
theorem dX1_join_81 : decode cX1_join 81 = .ok (.iconst 1, 1) := by decide +kernel
theorem dX1_join_82 : decode cX1_join 82 = .ok (.goto 4, 3) := by decide +kernel
theorem dX1_join_85 : decode cX1_join 85 = .ok (.iconst 0, 1) := by decide +kernel
theorem dX1_join_86 : decode cX1_join 86 = .ok (.ireturn, 1) := by decide +kernel
theorem dX1_join_87 : decode cX1_join 87 = .ok (.iload_n 1, 1) := by decide +kernel
theorem dX1_join_88 : decode cX1_join 88 = .ok (.iload_n 2, 1) := by decide +kernel
theorem dX1_join_89 : decode cX1_join 89 = .ok (.if_icmp .ne 7, 3) := by decide +kernel
theorem dX1_join_92 : decode cX1_join 92 = .ok (.iconst 1, 1) := by decide +kernel
theorem dX1_join_93 : decode cX1_join 93 = .ok (.goto 4, 3) := by decide +kernel
theorem dX1_join_96 : decode cX1_join 96 = .ok (.iconst 0, 1) := by decide +kernel
theorem dX1_join_97 : decode cX1_join 97 = .ok (.ireturn, 1) := by decide +kernel
theorem dX1_join_98 : decode cX1_join 98 = .ok (.iload_n 1, 1) := by decide +kernel
theorem dX1_join_99 : decode cX1_join 99 = .ok (.iload_n 2, 1) := by decide +kernel
theorem dX1_join_100 : decode cX1_join 100 = .ok (.if_icmp .le 7, 3) := by decide +kernel
theorem dX1_join_103 : decode cX1_join 103 = .ok (.iconst 1, 1) := by decide +kernel
theorem dX1_join_104 : decode cX1_join 104 = .ok (.goto 4, 3) := by decide +kernel
theorem dX1_join_107 : decode cX1_join 107 = .ok (.iconst 0, 1) := by decide +kernel
theorem dX1_join_108 : decode cX1_join 108 = .ok (.ireturn, 1) := by decide +kernel
theorem dX1_join_109 : decode cX1_join 109 = .ok (.iload_n 1, 1) := by decide +kernel
theorem dX1_join_110 : decode cX1_join 110 = .ok (.iload_n 2, 1) := by decide +kernel
theorem dX1_join_111 : decode cX1_join 111 = .ok (.iand, 1) := by decide +kernel
theorem dX1_join_112 : decode cX1_join 112 = .ok (.ireturn, 1) := by decide +kernel
theorem dX1_join_113 : decode cX1_join 113 = .ok (.iload_n 1, 1) := by decide +kernel
theorem dX1_join_114 : decode cX1_join 114 = .ok (.iload_n 2, 1) := by decide +kernel
theorem dX1_join_115 : decode cX1_join 115 = .ok (.ior, 1) := by decide +kernel
theorem dX1_join_116 : decode cX1_join 116 = .ok (.ireturn, 1) := by decide +kernel
theorem dX1_join_117 : decode cX1_join 117 = .ok (.iconst 0, 1) := by decide +kernel
theorem dX1_join_118 : decode cX1_join 118 = .ok (.ireturn, 1) := by decide +kernel
theorem dX2_init_0 : decode cX2_init 0 = .ok (.aload_n 0, 1) := by decide +kernel
theorem dX2_init_1 : decode cX2_init 1 = .ok (.invokespecial 3, 3) := by decide +kernel
theorem dX2_init_4 : decode cX2_init 4 = .ok (.aload_n 0, 1) := by decide +kernel
theorem dX2_init_5 : decode cX2_init 5 = .ok (.bipush 6, 2) := by decide +kernel
theorem dX2_init_7 : decode cX2_init 7 = .ok (.anewarray 9, 3) := by decide +kernel
theorem dX2_init_10 : decode cX2_init 10 = .ok (.putfield 11, 3) := by decide +kernel
theorem dX2_init_13 : decode cX2_init 13 = .ok (.aload_n 0, 1) := by decide +kernel
theorem dX2_init_14 : decode cX2_init 14 = .ok (.bipush 6, 2) := by decide +kernel
theorem dX2_init_16 : decode cX2_init 16 = .ok (.bipush 8, 2) := by decide +kernel
theorem dX2_init_18 : decode cX2_init 18 = .ok (.multianewarray 17 2, 4) := by decide +kernel
theorem dX2_init_22 : decode cX2_init 22 = .ok (.putfield 19, 3) := by decide +kernel
theorem dX2_init_25 : decode cX2_init 25 = .ok (.aload_n 0, 1) := by decide +kernel
theorem dX2_init_26 : decode cX2_init 26 = .ok (.bipush 8, 2) := by decide +kernel
theorem dX2_init_28 : decode cX2_init 28 = .ok (.newarray .int, 2) := by decide +kernel
theorem dX2_init_30 : decode cX2_init 30 = .ok (.putfield 22, 3) := by decide +kernel
theorem dX2_init_33 : decode cX2_init 33 = .ok (.aload_n 0, 1) := by decide +kernel
theorem dX2_init_34 : decode cX2_init 34 = .ok (.bipush 64, 2) := by decide +kernel
theorem dX2_init_36 : decode cX2_init 36 = .ok (.newarray .int, 2) := by decide +kernel
theorem dX2_init_38 : decode cX2_init 38 = .ok (.putfield 26, 3) := by decide +kernel
theorem dX2_init_41 : decode cX2_init 41 = .ok (.aload_n 0, 1) := by decide +kernel
theorem dX2_init_42 : decode cX2_init 42 = .ok (.bipush 6, 2) := by decide +kernel
theorem dX2_init_44 : decode cX2_init 44 = .ok (.newarray .int, 2) := by decide +kernel
theorem dX2_init_46 : decode cX2_init 46 = .ok (.putfield 29, 3) := by decide +kernel
theorem dX2_init_49 : decode cX2_init 49 = .ok (.aload_n 0, 1) := by decide +kernel
theorem dX2_init_50 : decode cX2_init 50 = .ok (.bipush 6, 2) := by decide +kernel
theorem dX2_init_52 : decode cX2_init 52 = .ok (.newarray .int, 2) := by decide +kernel
theorem dX2_init_54 : decode cX2_init 54 = .ok (.putfield 32, 3) := by decide +kernel
theorem dX2_init_57 : decode cX2_init 57 = .ok (.aload_n 0, 1) := by decide +kernel
theorem dX2_init_58 : decode cX2_init 58 = .ok (.bipush 6, 2) := by decide +kernel
theorem dX2_init_60 : decode cX2_init 60 = .ok (.newarray .int, 2) := by decide +kernel
theorem dX2_init_62 : decode cX2_init 62 = .ok (.putfield 35, 3) := by decide +kernel
theorem dX2_init_65 : decode cX2_init 65 = .ok (.aload_n 0, 1) := by decide +kernel
theorem dX2_init_66 : decode cX2_init 66 = .ok (.bipush 6, 2) := by decide +kernel
theorem dX2_init_68 : decode cX2_init 68 = .ok (.newarray .long, 2) := by decide +kernel
theorem dX2_init_70 : decode cX2_init 70 = .ok (.putfield 38, 3) := by decide +kernel
theorem dX2_init_73 : decode cX2_init 73 = .ok (.aload_n 0, 1) := by decide +kernel
theorem dX2_init_74 : decode cX2_init 74 = .ok (.bipush 6, 2) := by decide +kernel
theorem dX2_init_76 : decode cX2_init 76 = .ok (.newarray .long, 2) := by decide +kernel
theorem dX2_init_78 : decode cX2_init 78 = .ok (.putfield 42, 3) := by decide +kernel
theorem dX2_init_81 : decode cX2_init 81 = .ok (.aload_n 0, 1) := by decide +kernel
theorem dX2_init_82 : decode cX2_init 82 = .ok (.bipush 6, 2) := by decide +kernel
theorem dX2_init_84 : decode cX2_init 84 = .ok (.newarray .long, 2) := by decide +kernel
theorem dX2_init_86 : decode cX2_init 86 = .ok (.putfield 45, 3) := by decide +kernel
theorem dX2_init_89 : decode cX2_init 89 = .ok (.aload_n 0, 1) := by decide +kernel
theorem dX2_init_90 : decode cX2_init 90 = .ok (.bipush 6, 2) := by decide +kernel
theorem dX2_init_92 : decode cX2_init 92 = .ok (.newarray .long, 2) := by decide +kernel
theorem dX2_init_94 : decode cX2_init 94 = .ok (.putfield 48, 3) := by decide +kernel
theorem dX2_init_97 : decode cX2_init 97 = .ok (.aload_n 0, 1) := by decide +kernel
theorem dX2_init_98 : decode cX2_init 98 = .ok (.new 51, 3) := by decide +kernel
theorem dX2_init_101 : decode cX2_init 101 = .ok (.dup, 1) := by decide +kernel
theorem dX2_init_102 : decode cX2_init 102 = .ok (.invokespecial 53, 3) := by decide +kernel
theorem dX2_init_105 : decode cX2_init 105 = .ok (.putfield 54, 3) := by decide +kernel
theorem dX2_init_108 : decode cX2_init 108 = .ok (.iconst 0, 1) := by decide +kernel
theorem dX2_init_109 : decode cX2_init 109 = .ok (.istore_n 1, 1) := by decide +kernel
theorem dX2_init_110 : decode cX2_init 110 = .ok (.iload_n 1, 1) := by decide +kernel
theorem dX2_init_111 : decode cX2_init 111 = .ok (.bipush 6, 2) := by decide +kernel
theorem dX2_init_113 : decode cX2_init 113 = .ok (.if_icmp .ge 22, 3) := by decide +kernel
theorem dX2_init_116 : decode cX2_init 116 = .ok (.aload_n 0, 1) := by decide +kernel
theorem dX2_init_117 : decode cX2_init 117 = .ok (.getfield 11, 3) := by decide +kernel
theorem dX2_init_120 : decode cX2_init 120 = .ok (.iload_n 1, 1) := by decide +kernel
theorem dX2_init_121 : decode cX2_init 121 = .ok (.new 9, 3) := by decide +kernel
theorem dX2_init_124 : decode cX2_init 124 = .ok (.dup, 1) := by decide +kernel
theorem dX2_init_125 : decode cX2_init 125 = .ok (.invokespecial 58, 3) := by decide +kernel
theorem dX2_init_128 : decode cX2_init 128 = .ok (.aastore, 1) := by decide +kernel
theorem dX2_init_129 : decode cX2_init 129 = .ok (.iinc 1 1, 3) := by decide +kernel
theorem dX2_init_132 : decode cX2_init 132 = .ok (.goto (-22), 3) := by decide +kernel
theorem dX2_init_135 : decode cX2_init 135 = .ok (.aload_n 0, 1) := by decide +kernel
theorem dX2_init_136 : decode cX2_init 136 = .ok (.getfield 22, 3) := by decide +kernel
theorem dX2_init_139 : decode cX2_init 139 = .ok (.iconst 5, 1) := by decide +kernel
theorem dX2_init_140 : decode cX2_init 140 = .ok (.iconst 1, 1) := by decide +kernel
theorem dX2_init_141 : decode cX2_init 141 = .ok (.iastore, 1) := by decide +kernel
theorem dX2_init_142 : decode cX2_init 142 = .ok (.aload_n 0, 1) := by decide +kernel
theorem dX2_init_143 : decode cX2_init 143 = .ok (.getfield 22, 3) := by decide +kernel
theorem dX2_init_146 : decode cX2_init 146 = .ok (.bipush 6, 2) := by decide +kernel
theorem dX2_init_148 : decode cX2_init 148 = .ok (.iconst 1, 1) := by decide +kernel
theorem dX2_init_149 : decode cX2_init 149 = .ok (.iastore, 1) := by decide +kernel
theorem dX2_init_150 : decode cX2_init 150 = .ok (.aload_n 0, 1) := by decide +kernel
theorem dX2_init_151 : decode cX2_init 151 = .ok (.getfield 22, 3) := by decide +kernel
theorem dX2_init_154 : decode cX2_init 154 = .ok (.bipush 7, 2) := by decide +kernel
theorem dX2_init_156 : decode cX2_init 156 = .ok (.bipush 100, 2) := by decide +kernel
theorem dX2_init_158 : decode cX2_init 158 = .ok (.iastore, 1) := by decide +kernel
theorem dX2_init_159 : decode cX2_init 159 = .ok (.return_, 1) := by decide +kernel
theorem dX2_saysSo_0 : decode cX2_saysSo 0 = .ok (.aload_n 1, 1) := by decide +kernel
theorem dX2_saysSo_1 : decode cX2_saysSo 1 = .ok (.iload_n 2, 1) := by decide +kernel
theorem dX2_saysSo_2 : decode cX2_saysSo 2 = .ok (.aload_n 0, 1) := by decide +kernel
theorem dX2_saysSo_3 : decode cX2_saysSo 3 = .ok (.getfield 19, 3) := by decide +kernel
theorem dX2_saysSo_6 : decode cX2_saysSo 6 = .ok (.iload_n 2, 1) := by decide +kernel
theorem dX2_saysSo_7 : decode cX2_saysSo 7 = .ok (.aaload, 1) := by decide +kernel
theorem dX2_saysSo_8 : decode cX2_saysSo 8 = .ok (.invokevirtual 59, 3) := by decide +kernel
theorem dX2_saysSo_11 : decode cX2_saysSo 11 = .ok (.aload_n 0, 1) := by decide +kernel
theorem dX2_saysSo_12 : decode cX2_saysSo 12 = .ok (.getfield 11, 3) := by decide +kernel
theorem dX2_saysSo_15 : decode cX2_saysSo 15 = .ok (.iload_n 2, 1) := by decide +kernel
theorem dX2_saysSo_16 : decode cX2_saysSo 16 = .ok (.aaload, 1) := by decide +kernel
theorem dX2_saysSo_17 : decode cX2_saysSo 17 = .ok (.aload_n 0, 1) := by decide +kernel
theorem dX2_saysSo_18 : decode cX2_saysSo 18 = .ok (.getfield 19, 3) := by decide +kernel
theorem dX2_saysSo_21 : decode cX2_saysSo 21 = .ok (.iload_n 2, 1) := by decide +kernel
theorem dX2_saysSo_22 : decode cX2_saysSo 22 = .ok (.aaload, 1) := by decide +kernel
theorem dX2_saysSo_23 : decode cX2_saysSo 23 = .ok (.aload_n 0, 1) := by decide +kernel
theorem dX2_saysSo_24 : decode cX2_saysSo 24 = .ok (.getfield 26, 3) := by decide +kernel
theorem dX2_saysSo_27 : decode cX2_saysSo 27 = .ok (.invokevirtual 65, 3) := by decide +kernel
theorem dX2_saysSo_30 : decode cX2_saysSo 30 = .ok (.ireturn, 1) := by decide +kernel
theorem dX2_hear_0 : decode cX2_hear 0 = .ok (.aload_n 0, 1) := by decide +kernel
theorem dX2_hear_1 : decode cX2_hear 1 = .ok (.lload_n 3, 1) := by decide +kernel
theorem dX2_hear_2 : decode cX2_hear 2 = .ok (.putfield 69, 3) := by decide +kernel
theorem dX2_hear_5 : decode cX2_hear 5 = .ok (.aload_n 0, 1) := by decide +kernel
theorem dX2_hear_6 : decode cX2_hear 6 = .ok (.iconst 0, 1) := by decide +kernel
theorem dX2_hear_7 : decode cX2_hear 7 = .ok (.putfield 73, 3) := by decide +kernel
theorem dX2_hear_10 : decode cX2_hear 10 = .ok (.iconst 0, 1) := by decide +kernel
theorem dX2_hear_11 : decode cX2_hear 11 = .ok (.istore 5, 2) := by decide +kernel
theorem dX2_hear_13 : decode cX2_hear 13 = .ok (.iload 5, 2) := by decide +kernel
theorem dX2_hear_15 : decode cX2_hear 15 = .ok (.bipush 6, 2) := by decide +kernel
theorem dX2_hear_17 : decode cX2_hear 17 = .ok (.if_icmp .ge 47, 3) := by decide +kernel
theorem dX2_hear_20 : decode cX2_hear 20 = .ok (.aload_n 0, 1) := by decide +kernel
theorem dX2_hear_21 : decode cX2_hear 21 = .ok (.aload_n 0, 1) := by decide +kernel
theorem dX2_hear_22 : decode cX2_hear 22 = .ok (.aload_n 1, 1) := by decide +kernel
theorem dX2_hear_23 : decode cX2_hear 23 = .ok (.iload 5, 2) := by decide +kernel
theorem dX2_hear_25 : decode cX2_hear 25 = .ok (.invokevirtual 77, 3) := by decide +kernel
theorem dX2_hear_28 : decode cX2_hear 28 = .ok (.ifCond .eq 15, 3) := by decide +kernel
theorem dX2_hear_31 : decode cX2_hear 31 = .ok (.aload_n 0, 1) := by decide +kernel
theorem dX2_hear_32 : decode cX2_hear 32 = .ok (.getfield 73, 3) := by decide +kernel
theorem dX2_hear_35 : decode cX2_hear 35 = .ok (.iconst 1, 1) := by decide +kernel
theorem dX2_hear_36 : decode cX2_hear 36 = .ok (.iload 5, 2) := by decide +kernel
theorem dX2_hear_38 : decode cX2_hear 38 = .ok (.ishl, 1) := by decide +kernel
theorem dX2_hear_39 : decode cX2_hear 39 = .ok (.ior, 1) := by decide +kernel
theorem dX2_hear_40 : decode cX2_hear 40 = .ok (.goto 7, 3) := by decide +kernel
theorem dX2_hear_43 : decode cX2_hear 43 = .ok (.aload_n 0, 1) := by decide +kernel
theorem dX2_hear_44 : decode cX2_hear 44 = .ok (.getfield 73, 3) := by decide +kernel
theorem dX2_hear_47 : decode cX2_hear 47 = .ok (.putfield 73, 3) := by decide +kernel
theorem dX2_hear_50 : decode cX2_hear 50 = .ok (.aload_n 0, 1) := by decide +kernel
theorem dX2_hear_51 : decode cX2_hear 51 = .ok (.getfield 29, 3) := by decide +kernel
theorem dX2_hear_54 : decode cX2_hear 54 = .ok (.iload 5, 2) := by decide +kernel
theorem dX2_hear_56 : decode cX2_hear 56 = .ok (.iconst 0, 1) := by decide +kernel
theorem dX2_hear_57 : decode cX2_hear 57 = .ok (.iastore, 1) := by decide +kernel
theorem dX2_hear_58 : decode cX2_hear 58 = .ok (.iinc 5 1, 3) := by decide +kernel
theorem dX2_hear_61 : decode cX2_hear 61 = .ok (.goto (-48), 3) := by decide +kernel
theorem dX2_hear_64 : decode cX2_hear 64 = .ok (.iconst 0, 1) := by decide +kernel
theorem dX2_hear_65 : decode cX2_hear 65 = .ok (.istore 5, 2) := by decide +kernel
theorem dX2_hear_67 : decode cX2_hear 67 = .ok (.iload 5, 2) := by decide +kernel
theorem dX2_hear_69 : decode cX2_hear 69 = .ok (.bipush 6, 2) := by decide +kernel
theorem dX2_hear_71 : decode cX2_hear 71 = .ok (.if_icmp .ge 45, 3) := by decide +kernel
theorem dX2_hear_74 : decode cX2_hear 74 = .ok (.iload 5, 2) := by decide +kernel
theorem dX2_hear_76 : decode cX2_hear 76 = .ok (.iconst 1, 1) := by decide +kernel
theorem dX2_hear_77 : decode cX2_hear 77 = .ok (.iadd, 1) := by decide +kernel
theorem dX2_hear_78 : decode cX2_hear 78 = .ok (.istore 6, 2) := by decide +kernel
theorem dX2_hear_80 : decode cX2_hear 80 = .ok (.iload 6, 2) := by decide +kernel
theorem dX2_hear_82 : decode cX2_hear 82 = .ok (.bipush 6, 2) := by decide +kernel
theorem dX2_hear_84 : decode cX2_hear 84 = .ok (.if_icmp .ge 26, 3) := by decide +kernel
theorem dX2_hear_87 : decode cX2_hear 87 = .ok (.aload_n 0, 1) := by decide +kernel
theorem dX2_hear_88 : decode cX2_hear 88 = .ok (.aload_n 2, 1) := by decide +kernel
theorem dX2_hear_89 : decode cX2_hear 89 = .ok (.iload 5, 2) := by decide +kernel
theorem dX2_hear_91 : decode cX2_hear 91 = .ok (.iload 6, 2) := by decide +kernel
theorem dX2_hear_93 : decode cX2_hear 93 = .ok (.invokestatic 81, 3) := by decide +kernel
theorem dX2_hear_96 : decode cX2_hear 96 = .ok (.aaload, 1) := by decide +kernel
theorem dX2_hear_97 : decode cX2_hear 97 = .ok (.iload 5, 2) := by decide +kernel
theorem dX2_hear_99 : decode cX2_hear 99 = .ok (.iload 6, 2) := by decide +kernel
theorem dX2_hear_101 : decode cX2_hear 101 = .ok (.invokevirtual 85, 3) := by decide +kernel
theorem dX2_hear_104 : decode cX2_hear 104 = .ok (.iinc 6 1, 3) := by decide +kernel
theorem dX2_hear_107 : decode cX2_hear 107 = .ok (.goto (-27), 3) := by decide +kernel
theorem dX2_hear_110 : decode cX2_hear 110 = .ok (.iinc 5 1, 3) := by decide +kernel
theorem dX2_hear_113 : decode cX2_hear 113 = .ok (.goto (-46), 3) := by decide +kernel
theorem dX2_hear_116 : decode cX2_hear 116 = .ok (.aload_n 0, 1) := by decide +kernel
theorem dX2_hear_117 : decode cX2_hear 117 = .ok (.iconst 0, 1) := by decide +kernel
theorem dX2_hear_118 : decode cX2_hear 118 = .ok (.putfield 89, 3) := by decide +kernel
theorem dX2_hear_121 : decode cX2_hear 121 = .ok (.iconst 0, 1) := by decide +kernel
theorem dX2_hear_122 : decode cX2_hear 122 = .ok (.istore 5, 2) := by decide +kernel
theorem dX2_hear_124 : decode cX2_hear 124 = .ok (.iload 5, 2) := by decide +kernel
theorem dX2_hear_126 : decode cX2_hear 126 = .ok (.bipush 6, 2) := by decide +kernel
theorem dX2_hear_128 : decode cX2_hear 128 = .ok (.if_icmp .ge 90, 3) := by decide +kernel
theorem dX2_hear_131 : decode cX2_hear 131 = .ok (.aload_n 0, 1) := by decide +kernel
theorem dX2_hear_132 : decode cX2_hear 132 = .ok (.aload_n 0, 1) := by decide +kernel
theorem dX2_hear_133 : decode cX2_hear 133 = .ok (.getfield 73, 3) := by decide +kernel
theorem dX2_hear_136 : decode cX2_hear 136 = .ok (.i2l, 1) := by decide +kernel
theorem dX2_hear_137 : decode cX2_hear 137 = .ok (.iload 5, 2) := by decide +kernel
theorem dX2_hear_139 : decode cX2_hear 139 = .ok (.invokestatic 92, 3) := by decide +kernel
theorem dX2_hear_142 : decode cX2_hear 142 = .ok (.ifCond .eq 25, 3) := by decide +kernel
theorem dX2_hear_145 : decode cX2_hear 145 = .ok (.aload_n 0, 1) := by decide +kernel
theorem dX2_hear_146 : decode cX2_hear 146 = .ok (.getfield 29, 3) := by decide +kernel
theorem dX2_hear_149 : decode cX2_hear 149 = .ok (.iload 5, 2) := by decide +kernel
theorem dX2_hear_151 : decode cX2_hear 151 = .ok (.iaload, 1) := by decide +kernel
theorem dX2_hear_152 : decode cX2_hear 152 = .ok (.ifCond .ne 15, 3) := by decide +kernel
theorem dX2_hear_155 : decode cX2_hear 155 = .ok (.aload_n 0, 1) := by decide +kernel
theorem dX2_hear_156 : decode cX2_hear 156 = .ok (.getfield 89, 3) := by decide +kernel
theorem dX2_hear_159 : decode cX2_hear 159 = .ok (.iconst 1, 1) := by decide +kernel
theorem dX2_hear_160 : decode cX2_hear 160 = .ok (.iload 5, 2) := by decide +kernel
theorem dX2_hear_162 : decode cX2_hear 162 = .ok (.ishl, 1) := by decide +kernel
theorem dX2_hear_163 : decode cX2_hear 163 = .ok (.ior, 1) := by decide +kernel
theorem dX2_hear_164 : decode cX2_hear 164 = .ok (.goto 7, 3) := by decide +kernel
theorem dX2_hear_167 : decode cX2_hear 167 = .ok (.aload_n 0, 1) := by decide +kernel
theorem dX2_hear_168 : decode cX2_hear 168 = .ok (.getfield 89, 3) := by decide +kernel
theorem dX2_hear_171 : decode cX2_hear 171 = .ok (.putfield 89, 3) := by decide +kernel
theorem dX2_hear_174 : decode cX2_hear 174 = .ok (.aload_n 0, 1) := by decide +kernel
theorem dX2_hear_175 : decode cX2_hear 175 = .ok (.getfield 38, 3) := by decide +kernel
theorem dX2_hear_178 : decode cX2_hear 178 = .ok (.iload 5, 2) := by decide +kernel
theorem dX2_hear_180 : decode cX2_hear 180 = .ok (.aload_n 0, 1) := by decide +kernel
theorem dX2_hear_181 : decode cX2_hear 181 = .ok (.getfield 89, 3) := by decide +kernel
theorem dX2_hear_184 : decode cX2_hear 184 = .ok (.i2l, 1) := by decide +kernel
theorem dX2_hear_185 : decode cX2_hear 185 = .ok (.iload 5, 2) := by decide +kernel
theorem dX2_hear_187 : decode cX2_hear 187 = .ok (.invokestatic 92, 3) := by decide +kernel
theorem dX2_hear_190 : decode cX2_hear 190 = .ok (.ifCond .eq 20, 3) := by decide +kernel
theorem dX2_hear_193 : decode cX2_hear 193 = .ok (.aload_n 0, 1) := by decide +kernel
theorem dX2_hear_194 : decode cX2_hear 194 = .ok (.getfield 11, 3) := by decide +kernel
theorem dX2_hear_197 : decode cX2_hear 197 = .ok (.iload 5, 2) := by decide +kernel
theorem dX2_hear_199 : decode cX2_hear 199 = .ok (.aaload, 1) := by decide +kernel
theorem dX2_hear_200 : decode cX2_hear 200 = .ok (.aload_n 0, 1) := by decide +kernel
theorem dX2_hear_201 : decode cX2_hear 201 = .ok (.getfield 69, 3) := by decide +kernel
theorem dX2_hear_204 : decode cX2_hear 204 = .ok (.invokevirtual 96, 3) := by decide +kernel
theorem dX2_hear_207 : decode cX2_hear 207 = .ok (.goto 4, 3) := by decide +kernel
theorem dX2_hear_210 : decode cX2_hear 210 = .ok (.lconst 0, 1) := by decide +kernel
theorem dX2_hear_211 : decode cX2_hear 211 = .ok (.lastore, 1) := by decide +kernel
theorem dX2_hear_212 : decode cX2_hear 212 = .ok (.iinc 5 1, 3) := by decide +kernel
theorem dX2_hear_215 : decode cX2_hear 215 = .ok (.goto (-91), 3) := by decide +kernel
theorem dX2_hear_218 : decode cX2_hear 218 = .ok (.aload_n 0, 1) := by decide +kernel
theorem dX2_hear_219 : decode cX2_hear 219 = .ok (.aload_n 2, 1) := by decide +kernel
theorem dX2_hear_220 : decode cX2_hear 220 = .ok (.invokevirtual 100, 3) := by decide +kernel
theorem dX2_hear_223 : decode cX2_hear 223 = .ok (.return_, 1) := by decide +kernel
theorem dX2_giveWay_0 : decode cX2_giveWay 0 = .ok (.aload_n 0, 1) := by decide +kernel
theorem dX2_giveWay_1 : decode cX2_giveWay 1 = .ok (.getfield 73, 3) := by decide +kernel
theorem dX2_giveWay_4 : decode cX2_giveWay 4 = .ok (.i2l, 1) := by decide +kernel
theorem dX2_giveWay_5 : decode cX2_giveWay 5 = .ok (.iload_n 2, 1) := by decide +kernel
theorem dX2_giveWay_6 : decode cX2_giveWay 6 = .ok (.invokestatic 92, 3) := by decide +kernel
theorem dX2_giveWay_9 : decode cX2_giveWay 9 = .ok (.ifCond .eq 15, 3) := by decide +kernel
theorem dX2_giveWay_12 : decode cX2_giveWay 12 = .ok (.aload_n 0, 1) := by decide +kernel
theorem dX2_giveWay_13 : decode cX2_giveWay 13 = .ok (.getfield 73, 3) := by decide +kernel
theorem dX2_giveWay_16 : decode cX2_giveWay 16 = .ok (.i2l, 1) := by decide +kernel
theorem dX2_giveWay_17 : decode cX2_giveWay 17 = .ok (.iload_n 3, 1) := by decide +kernel
theorem dX2_giveWay_18 : decode cX2_giveWay 18 = .ok (.invokestatic 92, 3) := by decide +kernel
theorem dX2_giveWay_21 : decode cX2_giveWay 21 = .ok (.ifCond .ne 4, 3) := by decide +kernel
theorem dX2_giveWay_24 : decode cX2_giveWay 24 = .ok (.return_, 1) := by decide +kernel
theorem dX2_giveWay_25 : decode cX2_giveWay 25 = .ok (.aload_n 0, 1) := by decide +kernel
theorem dX2_giveWay_26 : decode cX2_giveWay 26 = .ok (.aload_n 1, 1) := by decide +kernel
theorem dX2_giveWay_27 : decode cX2_giveWay 27 = .ok (.iload_n 2, 1) := by decide +kernel
theorem dX2_giveWay_28 : decode cX2_giveWay 28 = .ok (.iload_n 3, 1) := by decide +kernel
theorem dX2_giveWay_29 : decode cX2_giveWay 29 = .ok (.invokevirtual 104, 3) := by decide +kernel
theorem dX2_giveWay_32 : decode cX2_giveWay 32 = .ok (.istore 4, 2) := by decide +kernel
theorem dX2_giveWay_34 : decode cX2_giveWay 34 = .ok (.iload 4, 2) := by decide +kernel
theorem dX2_giveWay_36 : decode cX2_giveWay 36 = .ok (.iconst (-1), 1) := by decide +kernel
theorem dX2_giveWay_37 : decode cX2_giveWay 37 = .ok (.if_icmp .eq 70, 3) := by decide +kernel
theorem dX2_giveWay_40 : decode cX2_giveWay 40 = .ok (.aload_n 1, 1) := by decide +kernel
theorem dX2_giveWay_41 : decode cX2_giveWay 41 = .ok (.getfield 108, 3) := by decide +kernel
theorem dX2_giveWay_44 : decode cX2_giveWay 44 = .ok (.iload 4, 2) := by decide +kernel
theorem dX2_giveWay_46 : decode cX2_giveWay 46 = .ok (.iaload, 1) := by decide +kernel
theorem dX2_giveWay_47 : decode cX2_giveWay 47 = .ok (.istore 5, 2) := by decide +kernel
theorem dX2_giveWay_49 : decode cX2_giveWay 49 = .ok (.aload_n 0, 1) := by decide +kernel
theorem dX2_giveWay_50 : decode cX2_giveWay 50 = .ok (.getfield 19, 3) := by decide +kernel
theorem dX2_giveWay_53 : decode cX2_giveWay 53 = .ok (.iload_n 2, 1) := by decide +kernel
theorem dX2_giveWay_54 : decode cX2_giveWay 54 = .ok (.aaload, 1) := by decide +kernel
theorem dX2_giveWay_55 : decode cX2_giveWay 55 = .ok (.iload 5, 2) := by decide +kernel
theorem dX2_giveWay_57 : decode cX2_giveWay 57 = .ok (.iaload, 1) := by decide +kernel
theorem dX2_giveWay_58 : decode cX2_giveWay 58 = .ok (.aload_n 0, 1) := by decide +kernel
theorem dX2_giveWay_59 : decode cX2_giveWay 59 = .ok (.getfield 19, 3) := by decide +kernel
theorem dX2_giveWay_62 : decode cX2_giveWay 62 = .ok (.iload_n 3, 1) := by decide +kernel
theorem dX2_giveWay_63 : decode cX2_giveWay 63 = .ok (.aaload, 1) := by decide +kernel
theorem dX2_giveWay_64 : decode cX2_giveWay 64 = .ok (.iload 5, 2) := by decide +kernel
theorem dX2_giveWay_66 : decode cX2_giveWay 66 = .ok (.iaload, 1) := by decide +kernel
theorem dX2_giveWay_67 : decode cX2_giveWay 67 = .ok (.if_icmp .le 7, 3) := by decide +kernel
theorem dX2_giveWay_70 : decode cX2_giveWay 70 = .ok (.iconst 1, 1) := by decide +kernel
theorem dX2_giveWay_71 : decode cX2_giveWay 71 = .ok (.goto 4, 3) := by decide +kernel
theorem dX2_giveWay_74 : decode cX2_giveWay 74 = .ok (.iconst 0, 1) := by decide +kernel
theorem dX2_giveWay_75 : decode cX2_giveWay 75 = .ok (.istore 6, 2) := by decide +kernel
theorem dX2_giveWay_77 : decode cX2_giveWay 77 = .ok (.aload_n 0, 1) := by decide +kernel
theorem dX2_giveWay_78 : decode cX2_giveWay 78 = .ok (.getfield 29, 3) := by decide +kernel
theorem dX2_giveWay_81 : decode cX2_giveWay 81 = .ok (.iload 6, 2) := by decide +kernel
theorem dX2_giveWay_83 : decode cX2_giveWay 83 = .ok (.ifCond .eq 7, 3) := by decide +kernel
theorem dX2_giveWay_86 : decode cX2_giveWay 86 = .ok (.iload_n 3, 1) := by decide +kernel
theorem dX2_giveWay_87 : decode cX2_giveWay 87 = .ok (.goto 4, 3) := by decide +kernel
theorem dX2_giveWay_90 : decode cX2_giveWay 90 = .ok (.iload_n 2, 1) := by decide +kernel
theorem dX2_giveWay_91 : decode cX2_giveWay 91 = .ok (.dup2, 1) := by decide +kernel
theorem dX2_giveWay_92 : decode cX2_giveWay 92 = .ok (.iaload, 1) := by decide +kernel
theorem dX2_giveWay_93 : decode cX2_giveWay 93 = .ok (.iconst 1, 1) := by decide +kernel
theorem dX2_giveWay_94 : decode cX2_giveWay 94 = .ok (.iload 6, 2) := by decide +kernel
theorem dX2_giveWay_96 : decode cX2_giveWay 96 = .ok (.ifCond .eq 7, 3) := by decide +kernel
theorem dX2_giveWay_99 : decode cX2_giveWay 99 = .ok (.iload_n 2, 1) := by decide +kernel
theorem dX2_giveWay_100 : decode cX2_giveWay 100 = .ok (.goto 4, 3) := by decide +kernel
theorem dX2_giveWay_103 : decode cX2_giveWay 103 = .ok (.iload_n 3, 1) := by decide +kernel
theorem dX2_giveWay_104 : decode cX2_giveWay 104 = .ok (.ishl, 1) := by decide +kernel
theorem dX2_giveWay_105 : decode cX2_giveWay 105 = .ok (.ior, 1) := by decide +kernel
theorem dX2_giveWay_106 : decode cX2_giveWay 106 = .ok (.iastore, 1) := by decide +kernel
theorem dX2_giveWay_107 : decode cX2_giveWay 107 = .ok (.return_, 1) := by decide +kernel
theorem dX2_deciding_0 : decode cX2_deciding 0 = .ok (.iconst 0, 1) := by decide +kernel
theorem dX2_deciding_1 : decode cX2_deciding 1 = .ok (.istore 4, 2) := by decide +kernel
theorem dX2_deciding_3 : decode cX2_deciding 3 = .ok (.iload 4, 2) := by decide +kernel
theorem dX2_deciding_5 : decode cX2_deciding 5 = .ok (.aload_n 1, 1) := by decide +kernel
theorem dX2_deciding_6 : decode cX2_deciding 6 = .ok (.getfield 113, 3) := by decide +kernel
theorem dX2_deciding_9 : decode cX2_deciding 9 = .ok (.if_icmp .ge 42, 3) := by decide +kernel
theorem dX2_deciding_12 : decode cX2_deciding 12 = .ok (.aload_n 1, 1) := by decide +kernel
theorem dX2_deciding_13 : decode cX2_deciding 13 = .ok (.getfield 108, 3) := by decide +kernel
theorem dX2_deciding_16 : decode cX2_deciding 16 = .ok (.iload 4, 2) := by decide +kernel
theorem dX2_deciding_18 : decode cX2_deciding 18 = .ok (.iaload, 1) := by decide +kernel
theorem dX2_deciding_19 : decode cX2_deciding 19 = .ok (.istore 5, 2) := by decide +kernel
theorem dX2_deciding_21 : decode cX2_deciding 21 = .ok (.aload_n 0, 1) := by decide +kernel
theorem dX2_deciding_22 : decode cX2_deciding 22 = .ok (.getfield 19, 3) := by decide +kernel
theorem dX2_deciding_25 : decode cX2_deciding 25 = .ok (.iload_n 2, 1) := by decide +kernel
theorem dX2_deciding_26 : decode cX2_deciding 26 = .ok (.aaload, 1) := by decide +kernel
theorem dX2_deciding_27 : decode cX2_deciding 27 = .ok (.iload 5, 2) := by decide +kernel
theorem dX2_deciding_29 : decode cX2_deciding 29 = .ok (.iaload, 1) := by decide +kernel
theorem dX2_deciding_30 : decode cX2_deciding 30 = .ok (.aload_n 0, 1) := by decide +kernel
theorem dX2_deciding_31 : decode cX2_deciding 31 = .ok (.getfield 19, 3) := by decide +kernel
theorem dX2_deciding_34 : decode cX2_deciding 34 = .ok (.iload_n 3, 1) := by decide +kernel
theorem dX2_deciding_35 : decode cX2_deciding 35 = .ok (.aaload, 1) := by decide +kernel
theorem dX2_deciding_36 : decode cX2_deciding 36 = .ok (.iload 5, 2) := by decide +kernel
theorem dX2_deciding_38 : decode cX2_deciding 38 = .ok (.iaload, 1) := by decide +kernel
theorem dX2_deciding_39 : decode cX2_deciding 39 = .ok (.if_icmp .eq 6, 3) := by decide +kernel
theorem dX2_deciding_42 : decode cX2_deciding 42 = .ok (.iload 4, 2) := by decide +kernel
theorem dX2_deciding_44 : decode cX2_deciding 44 = .ok (.ireturn, 1) := by decide +kernel
theorem dX2_deciding_45 : decode cX2_deciding 45 = .ok (.iinc 4 1, 3) := by decide +kernel
theorem dX2_deciding_48 : decode cX2_deciding 48 = .ok (.goto (-45), 3) := by decide +kernel
theorem dX2_deciding_51 : decode cX2_deciding 51 = .ok (.iconst (-1), 1) := by decide +kernel
theorem dX2_deciding_52 : decode cX2_deciding 52 = .ok (.ireturn, 1) := by decide +kernel
theorem dX2_under_0 : decode cX2_under 0 = .ok (.aload_n 0, 1) := by decide +kernel
theorem dX2_under_1 : decode cX2_under 1 = .ok (.aload_n 1, 1) := by decide +kernel
theorem dX2_under_2 : decode cX2_under 2 = .ok (.putfield 116, 3) := by decide +kernel
theorem dX2_under_5 : decode cX2_under 5 = .ok (.aload_n 0, 1) := by decide +kernel
theorem dX2_under_6 : decode cX2_under 6 = .ok (.iconst 0, 1) := by decide +kernel
theorem dX2_under_7 : decode cX2_under 7 = .ok (.putfield 120, 3) := by decide +kernel
theorem dX2_under_10 : decode cX2_under 10 = .ok (.iconst 0, 1) := by decide +kernel
theorem dX2_under_11 : decode cX2_under 11 = .ok (.istore_n 2, 1) := by decide +kernel
theorem dX2_under_12 : decode cX2_under 12 = .ok (.iload_n 2, 1) := by decide +kernel
theorem dX2_under_13 : decode cX2_under 13 = .ok (.bipush 6, 2) := by decide +kernel
theorem dX2_under_15 : decode cX2_under 15 = .ok (.if_icmp .ge 55, 3) := by decide +kernel
theorem dX2_under_18 : decode cX2_under 18 = .ok (.aload_n 0, 1) := by decide +kernel
theorem dX2_under_19 : decode cX2_under 19 = .ok (.getfield 32, 3) := by decide +kernel
theorem dX2_under_22 : decode cX2_under 22 = .ok (.iload_n 2, 1) := by decide +kernel
theorem dX2_under_23 : decode cX2_under 23 = .ok (.iconst 0, 1) := by decide +kernel
theorem dX2_under_24 : decode cX2_under 24 = .ok (.iastore, 1) := by decide +kernel
theorem dX2_under_25 : decode cX2_under 25 = .ok (.aload_n 0, 1) := by decide +kernel
theorem dX2_under_26 : decode cX2_under 26 = .ok (.getfield 35, 3) := by decide +kernel
theorem dX2_under_29 : decode cX2_under 29 = .ok (.iload_n 2, 1) := by decide +kernel
theorem dX2_under_30 : decode cX2_under 30 = .ok (.iconst 0, 1) := by decide +kernel
theorem dX2_under_31 : decode cX2_under 31 = .ok (.iastore, 1) := by decide +kernel
theorem dX2_under_32 : decode cX2_under 32 = .ok (.iconst 0, 1) := by decide +kernel
theorem dX2_under_33 : decode cX2_under 33 = .ok (.istore_n 3, 1) := by decide +kernel
theorem dX2_under_34 : decode cX2_under 34 = .ok (.iload_n 3, 1) := by decide +kernel
theorem dX2_under_35 : decode cX2_under 35 = .ok (.bipush 6, 2) := by decide +kernel
theorem dX2_under_37 : decode cX2_under 37 = .ok (.if_icmp .ge 27, 3) := by decide +kernel
theorem dX2_under_40 : decode cX2_under 40 = .ok (.iload_n 3, 1) := by decide +kernel
theorem dX2_under_41 : decode cX2_under 41 = .ok (.iload_n 2, 1) := by decide +kernel
theorem dX2_under_42 : decode cX2_under 42 = .ok (.if_icmp .eq 16, 3) := by decide +kernel
theorem dX2_under_45 : decode cX2_under 45 = .ok (.aload_n 0, 1) := by decide +kernel
theorem dX2_under_46 : decode cX2_under 46 = .ok (.iload_n 2, 1) := by decide +kernel
theorem dX2_under_47 : decode cX2_under 47 = .ok (.iload_n 3, 1) := by decide +kernel
theorem dX2_under_48 : decode cX2_under 48 = .ok (.aload_n 1, 1) := by decide +kernel
theorem dX2_under_49 : decode cX2_under 49 = .ok (.iload_n 2, 1) := by decide +kernel
theorem dX2_under_50 : decode cX2_under 50 = .ok (.iload_n 3, 1) := by decide +kernel
theorem dX2_under_51 : decode cX2_under 51 = .ok (.invokestatic 81, 3) := by decide +kernel
theorem dX2_under_54 : decode cX2_under 54 = .ok (.aaload, 1) := by decide +kernel
theorem dX2_under_55 : decode cX2_under 55 = .ok (.invokevirtual 123, 3) := by decide +kernel
theorem dX2_under_58 : decode cX2_under 58 = .ok (.iinc 3 1, 3) := by decide +kernel
theorem dX2_under_61 : decode cX2_under 61 = .ok (.goto (-27), 3) := by decide +kernel
theorem dX2_under_64 : decode cX2_under 64 = .ok (.iinc 2 1, 3) := by decide +kernel
theorem dX2_under_67 : decode cX2_under 67 = .ok (.goto (-55), 3) := by decide +kernel
theorem dX2_under_70 : decode cX2_under 70 = .ok (.return_, 1) := by decide +kernel
theorem dX2_meet_0 : decode cX2_meet 0 = .ok (.aload_n 0, 1) := by decide +kernel
theorem dX2_meet_1 : decode cX2_meet 1 = .ok (.getfield 89, 3) := by decide +kernel
theorem dX2_meet_4 : decode cX2_meet 4 = .ok (.i2l, 1) := by decide +kernel
theorem dX2_meet_5 : decode cX2_meet 5 = .ok (.iload_n 1, 1) := by decide +kernel
theorem dX2_meet_6 : decode cX2_meet 6 = .ok (.invokestatic 92, 3) := by decide +kernel
theorem dX2_meet_9 : decode cX2_meet 9 = .ok (.istore 4, 2) := by decide +kernel
theorem dX2_meet_11 : decode cX2_meet 11 = .ok (.aload_n 3, 1) := by decide +kernel
theorem dX2_meet_12 : decode cX2_meet 12 = .ok (.getfield 127, 3) := by decide +kernel
theorem dX2_meet_15 : decode cX2_meet 15 = .ok (.ifCond .eq 32, 3) := by decide +kernel
theorem dX2_meet_18 : decode cX2_meet 18 = .ok (.iload 4, 2) := by decide +kernel
theorem dX2_meet_20 : decode cX2_meet 20 = .ok (.ifCond .ne 15, 3) := by decide +kernel
theorem dX2_meet_23 : decode cX2_meet 23 = .ok (.aload_n 0, 1) := by decide +kernel
theorem dX2_meet_24 : decode cX2_meet 24 = .ok (.getfield 89, 3) := by decide +kernel
theorem dX2_meet_27 : decode cX2_meet 27 = .ok (.i2l, 1) := by decide +kernel
theorem dX2_meet_28 : decode cX2_meet 28 = .ok (.iload_n 2, 1) := by decide +kernel
theorem dX2_meet_29 : decode cX2_meet 29 = .ok (.invokestatic 92, 3) := by decide +kernel
theorem dX2_meet_32 : decode cX2_meet 32 = .ok (.ifCond .eq 15, 3) := by decide +kernel
theorem dX2_meet_35 : decode cX2_meet 35 = .ok (.aload_n 0, 1) := by decide +kernel
theorem dX2_meet_36 : decode cX2_meet 36 = .ok (.dup, 1) := by decide +kernel
theorem dX2_meet_37 : decode cX2_meet 37 = .ok (.getfield 120, 3) := by decide +kernel
theorem dX2_meet_40 : decode cX2_meet 40 = .ok (.iconst 1, 1) := by decide +kernel
theorem dX2_meet_41 : decode cX2_meet 41 = .ok (.iload_n 1, 1) := by decide +kernel
theorem dX2_meet_42 : decode cX2_meet 42 = .ok (.ishl, 1) := by decide +kernel
theorem dX2_meet_43 : decode cX2_meet 43 = .ok (.ior, 1) := by decide +kernel
theorem dX2_meet_44 : decode cX2_meet 44 = .ok (.putfield 120, 3) := by decide +kernel
theorem dX2_meet_47 : decode cX2_meet 47 = .ok (.aload_n 3, 1) := by decide +kernel
theorem dX2_meet_48 : decode cX2_meet 48 = .ok (.getfield 131, 3) := by decide +kernel
theorem dX2_meet_51 : decode cX2_meet 51 = .ok (.ifCond .eq 10, 3) := by decide +kernel
theorem dX2_meet_54 : decode cX2_meet 54 = .ok (.aload_n 3, 1) := by decide +kernel
theorem dX2_meet_55 : decode cX2_meet 55 = .ok (.getfield 131, 3) := by decide +kernel
theorem dX2_meet_58 : decode cX2_meet 58 = .ok (.goto 12, 3) := by decide +kernel
theorem dX2_meet_61 : decode cX2_meet 61 = .ok (.aload_n 0, 1) := by decide +kernel
theorem dX2_meet_62 : decode cX2_meet 62 = .ok (.getfield 11, 3) := by decide +kernel
theorem dX2_meet_65 : decode cX2_meet 65 = .ok (.iload_n 1, 1) := by decide +kernel
theorem dX2_meet_66 : decode cX2_meet 66 = .ok (.aaload, 1) := by decide +kernel
theorem dX2_meet_67 : decode cX2_meet 67 = .ok (.getfield 134, 3) := by decide +kernel
theorem dX2_meet_70 : decode cX2_meet 70 = .ok (.istore 5, 2) := by decide +kernel
theorem dX2_meet_72 : decode cX2_meet 72 = .ok (.iload 4, 2) := by decide +kernel
theorem dX2_meet_74 : decode cX2_meet 74 = .ok (.ifCond .eq 21, 3) := by decide +kernel
theorem dX2_meet_77 : decode cX2_meet 77 = .ok (.iload 5, 2) := by decide +kernel
theorem dX2_meet_79 : decode cX2_meet 79 = .ok (.iconst 1, 1) := by decide +kernel
theorem dX2_meet_80 : decode cX2_meet 80 = .ok (.if_icmp .ne 15, 3) := by decide +kernel
theorem dX2_meet_83 : decode cX2_meet 83 = .ok (.aload_n 0, 1) := by decide +kernel
theorem dX2_meet_84 : decode cX2_meet 84 = .ok (.getfield 32, 3) := by decide +kernel
theorem dX2_meet_87 : decode cX2_meet 87 = .ok (.iload_n 1, 1) := by decide +kernel
theorem dX2_meet_88 : decode cX2_meet 88 = .ok (.dup2, 1) := by decide +kernel
theorem dX2_meet_89 : decode cX2_meet 89 = .ok (.iaload, 1) := by decide +kernel
theorem dX2_meet_90 : decode cX2_meet 90 = .ok (.iconst 1, 1) := by decide +kernel
theorem dX2_meet_91 : decode cX2_meet 91 = .ok (.iload_n 2, 1) := by decide +kernel
theorem dX2_meet_92 : decode cX2_meet 92 = .ok (.ishl, 1) := by decide +kernel
theorem dX2_meet_93 : decode cX2_meet 93 = .ok (.ior, 1) := by decide +kernel
theorem dX2_meet_94 : decode cX2_meet 94 = .ok (.iastore, 1) := by decide +kernel
theorem dX2_meet_95 : decode cX2_meet 95 = .ok (.iload 4, 2) := by decide +kernel
theorem dX2_meet_97 : decode cX2_meet 97 = .ok (.ifCond .eq 21, 3) := by decide +kernel
theorem dX2_meet_100 : decode cX2_meet 100 = .ok (.iload 5, 2) := by decide +kernel
theorem dX2_meet_102 : decode cX2_meet 102 = .ok (.iconst 2, 1) := by decide +kernel
theorem dX2_meet_103 : decode cX2_meet 103 = .ok (.if_icmp .ne 15, 3) := by decide +kernel
theorem dX2_meet_106 : decode cX2_meet 106 = .ok (.aload_n 0, 1) := by decide +kernel
theorem dX2_meet_107 : decode cX2_meet 107 = .ok (.getfield 35, 3) := by decide +kernel
theorem dX2_meet_110 : decode cX2_meet 110 = .ok (.iload_n 1, 1) := by decide +kernel
theorem dX2_meet_111 : decode cX2_meet 111 = .ok (.dup2, 1) := by decide +kernel
theorem dX2_meet_112 : decode cX2_meet 112 = .ok (.iaload, 1) := by decide +kernel
theorem dX2_meet_113 : decode cX2_meet 113 = .ok (.iconst 1, 1) := by decide +kernel
theorem dX2_meet_114 : decode cX2_meet 114 = .ok (.iload_n 2, 1) := by decide +kernel
theorem dX2_meet_115 : decode cX2_meet 115 = .ok (.ishl, 1) := by decide +kernel
theorem dX2_meet_116 : decode cX2_meet 116 = .ok (.ior, 1) := by decide +kernel
theorem dX2_meet_117 : decode cX2_meet 117 = .ok (.iastore, 1) := by decide +kernel
theorem dX2_meet_118 : decode cX2_meet 118 = .ok (.return_, 1) := by decide +kernel
theorem dX2_seen_0 : decode cX2_seen 0 = .ok (.aload_n 0, 1) := by decide +kernel
theorem dX2_seen_1 : decode cX2_seen 1 = .ok (.getfield 120, 3) := by decide +kernel
theorem dX2_seen_4 : decode cX2_seen 4 = .ok (.i2l, 1) := by decide +kernel
theorem dX2_seen_5 : decode cX2_seen 5 = .ok (.iload_n 2, 1) := by decide +kernel
theorem dX2_seen_6 : decode cX2_seen 6 = .ok (.invokestatic 92, 3) := by decide +kernel
theorem dX2_seen_9 : decode cX2_seen 9 = .ok (.ifCond .eq 10, 3) := by decide +kernel
theorem dX2_seen_12 : decode cX2_seen 12 = .ok (.aload_n 1, 1) := by decide +kernel
theorem dX2_seen_13 : decode cX2_seen 13 = .ok (.getfield 135, 3) := by decide +kernel
theorem dX2_seen_16 : decode cX2_seen 16 = .ok (.goto 7, 3) := by decide +kernel
theorem dX2_seen_19 : decode cX2_seen 19 = .ok (.aload_n 1, 1) := by decide +kernel
theorem dX2_seen_20 : decode cX2_seen 20 = .ok (.getfield 140, 3) := by decide +kernel
theorem dX2_seen_23 : decode cX2_seen 23 = .ok (.ireturn, 1) := by decide +kernel
theorem dX2_freed_0 : decode cX2_freed 0 = .ok (.aload_n 0, 1) := by decide +kernel
theorem dX2_freed_1 : decode cX2_freed 1 = .ok (.getfield 35, 3) := by decide +kernel
theorem dX2_freed_4 : decode cX2_freed 4 = .ok (.iload_n 2, 1) := by decide +kernel
theorem dX2_freed_5 : decode cX2_freed 5 = .ok (.iaload, 1) := by decide +kernel
theorem dX2_freed_6 : decode cX2_freed 6 = .ok (.i2l, 1) := by decide +kernel
theorem dX2_freed_7 : decode cX2_freed 7 = .ok (.aload_n 1, 1) := by decide +kernel
theorem dX2_freed_8 : decode cX2_freed 8 = .ok (.getfield 143, 3) := by decide +kernel
theorem dX2_freed_11 : decode cX2_freed 11 = .ok (.invokestatic 92, 3) := by decide +kernel
theorem dX2_freed_14 : decode cX2_freed 14 = .ok (.ireturn, 1) := by decide +kernel
theorem dX2_settleAll_0 : decode cX2_settleAll 0 = .ok (.lconst 0, 1) := by decide +kernel
theorem dX2_settleAll_1 : decode cX2_settleAll 1 = .ok (.lstore_n 2, 1) := by decide +kernel
theorem dX2_settleAll_2 : decode cX2_settleAll 2 = .ok (.iconst 0, 1) := by decide +kernel
theorem dX2_settleAll_3 : decode cX2_settleAll 3 = .ok (.istore 4, 2) := by decide +kernel
theorem dX2_settleAll_5 : decode cX2_settleAll 5 = .ok (.iload 4, 2) := by decide +kernel
theorem dX2_settleAll_7 : decode cX2_settleAll 7 = .ok (.aload_n 1, 1) := by decide +kernel
theorem dX2_settleAll_8 : decode cX2_settleAll 8 = .ok (.getfield 146, 3) := by decide +kernel
theorem dX2_settleAll_11 : decode cX2_settleAll 11 = .ok (.if_icmp .ge 23, 3) := by decide +kernel
theorem dX2_settleAll_14 : decode cX2_settleAll 14 = .ok (.lload_n 2, 1) := by decide +kernel
theorem dX2_settleAll_15 : decode cX2_settleAll 15 = .ok (.aload_n 0, 1) := by decide +kernel
theorem dX2_settleAll_16 : decode cX2_settleAll 16 = .ok (.aload_n 1, 1) := by decide +kernel
theorem dX2_settleAll_17 : decode cX2_settleAll 17 = .ok (.getfield 151, 3) := by decide +kernel
theorem dX2_settleAll_20 : decode cX2_settleAll 20 = .ok (.iload 4, 2) := by decide +kernel
theorem dX2_settleAll_22 : decode cX2_settleAll 22 = .ok (.aaload, 1) := by decide +kernel
theorem dX2_settleAll_23 : decode cX2_settleAll 23 = .ok (.invokevirtual 155, 3) := by decide +kernel
theorem dX2_settleAll_26 : decode cX2_settleAll 26 = .ok (.ladd, 1) := by decide +kernel
theorem dX2_settleAll_27 : decode cX2_settleAll 27 = .ok (.lstore_n 2, 1) := by decide +kernel
theorem dX2_settleAll_28 : decode cX2_settleAll 28 = .ok (.iinc 4 1, 3) := by decide +kernel
theorem dX2_settleAll_31 : decode cX2_settleAll 31 = .ok (.goto (-26), 3) := by decide +kernel
theorem dX2_settleAll_34 : decode cX2_settleAll 34 = .ok (.lload_n 2, 1) := by decide +kernel
theorem dX2_settleAll_35 : decode cX2_settleAll 35 = .ok (.lreturn, 1) := by decide +kernel
theorem dX2_settle_0 : decode cX2_settle 0 = .ok (.iconst 0, 1) := by decide +kernel
theorem dX2_settle_1 : decode cX2_settle 1 = .ok (.istore_n 2, 1) := by decide +kernel
theorem dX2_settle_2 : decode cX2_settle 2 = .ok (.iload_n 2, 1) := by decide +kernel
theorem dX2_settle_3 : decode cX2_settle 3 = .ok (.bipush 6, 2) := by decide +kernel
theorem dX2_settle_5 : decode cX2_settle 5 = .ok (.if_icmp .ge 49, 3) := by decide +kernel
theorem dX2_settle_8 : decode cX2_settle 8 = .ok (.aload_n 0, 1) := by decide +kernel
theorem dX2_settle_9 : decode cX2_settle 9 = .ok (.getfield 42, 3) := by decide +kernel
theorem dX2_settle_12 : decode cX2_settle 12 = .ok (.iload_n 2, 1) := by decide +kernel
theorem dX2_settle_13 : decode cX2_settle 13 = .ok (.aload_n 0, 1) := by decide +kernel
theorem dX2_settle_14 : decode cX2_settle 14 = .ok (.getfield 89, 3) := by decide +kernel
theorem dX2_settle_17 : decode cX2_settle 17 = .ok (.i2l, 1) := by decide +kernel
theorem dX2_settle_18 : decode cX2_settle 18 = .ok (.iload_n 2, 1) := by decide +kernel
theorem dX2_settle_19 : decode cX2_settle 19 = .ok (.invokestatic 92, 3) := by decide +kernel
theorem dX2_settle_22 : decode cX2_settle 22 = .ok (.ifCond .eq 12, 3) := by decide +kernel
theorem dX2_settle_25 : decode cX2_settle 25 = .ok (.aload_n 0, 1) := by decide +kernel
theorem dX2_settle_26 : decode cX2_settle 26 = .ok (.aload_n 1, 1) := by decide +kernel
theorem dX2_settle_27 : decode cX2_settle 27 = .ok (.iload_n 2, 1) := by decide +kernel
theorem dX2_settle_28 : decode cX2_settle 28 = .ok (.invokevirtual 159, 3) := by decide +kernel
theorem dX2_settle_31 : decode cX2_settle 31 = .ok (.goto 16, 3) := by decide +kernel
theorem dX2_settle_34 : decode cX2_settle 34 = .ok (.aload_n 1, 1) := by decide +kernel
theorem dX2_settle_35 : decode cX2_settle 35 = .ok (.getfield 163, 3) := by decide +kernel
theorem dX2_settle_38 : decode cX2_settle 38 = .ok (.i2l, 1) := by decide +kernel
theorem dX2_settle_39 : decode cX2_settle 39 = .ok (.aload_n 0, 1) := by decide +kernel
theorem dX2_settle_40 : decode cX2_settle 40 = .ok (.aload_n 1, 1) := by decide +kernel
theorem dX2_settle_41 : decode cX2_settle 41 = .ok (.iload_n 2, 1) := by decide +kernel
theorem dX2_settle_42 : decode cX2_settle 42 = .ok (.invokevirtual 166, 3) := by decide +kernel
theorem dX2_settle_45 : decode cX2_settle 45 = .ok (.i2l, 1) := by decide +kernel
theorem dX2_settle_46 : decode cX2_settle 46 = .ok (.lmul, 1) := by decide +kernel
theorem dX2_settle_47 : decode cX2_settle 47 = .ok (.lastore, 1) := by decide +kernel
theorem dX2_settle_48 : decode cX2_settle 48 = .ok (.iinc 2 1, 3) := by decide +kernel
theorem dX2_settle_51 : decode cX2_settle 51 = .ok (.goto (-49), 3) := by decide +kernel
theorem dX2_settle_54 : decode cX2_settle 54 = .ok (.iconst 0, 1) := by decide +kernel
theorem dX2_settle_55 : decode cX2_settle 55 = .ok (.istore_n 2, 1) := by decide +kernel
theorem dX2_settle_56 : decode cX2_settle 56 = .ok (.iconst 0, 1) := by decide +kernel
theorem dX2_settle_57 : decode cX2_settle 57 = .ok (.istore_n 3, 1) := by decide +kernel
theorem dX2_settle_58 : decode cX2_settle 58 = .ok (.iload_n 3, 1) := by decide +kernel
theorem dX2_settle_59 : decode cX2_settle 59 = .ok (.bipush 6, 2) := by decide +kernel
theorem dX2_settle_61 : decode cX2_settle 61 = .ok (.if_icmp .ge 72, 3) := by decide +kernel
theorem dX2_settle_64 : decode cX2_settle 64 = .ok (.aload_n 0, 1) := by decide +kernel
theorem dX2_settle_65 : decode cX2_settle 65 = .ok (.getfield 48, 3) := by decide +kernel
theorem dX2_settle_68 : decode cX2_settle 68 = .ok (.iload_n 3, 1) := by decide +kernel
theorem dX2_settle_69 : decode cX2_settle 69 = .ok (.aload_n 0, 1) := by decide +kernel
theorem dX2_settle_70 : decode cX2_settle 70 = .ok (.getfield 42, 3) := by decide +kernel
theorem dX2_settle_73 : decode cX2_settle 73 = .ok (.iload_n 3, 1) := by decide +kernel
theorem dX2_settle_74 : decode cX2_settle 74 = .ok (.laload, 1) := by decide +kernel
theorem dX2_settle_75 : decode cX2_settle 75 = .ok (.aload_n 0, 1) := by decide +kernel
theorem dX2_settle_76 : decode cX2_settle 76 = .ok (.aload_n 0, 1) := by decide +kernel
theorem dX2_settle_77 : decode cX2_settle 77 = .ok (.getfield 32, 3) := by decide +kernel
theorem dX2_settle_80 : decode cX2_settle 80 = .ok (.iload_n 3, 1) := by decide +kernel
theorem dX2_settle_81 : decode cX2_settle 81 = .ok (.iaload, 1) := by decide +kernel
theorem dX2_settle_82 : decode cX2_settle 82 = .ok (.aload_n 0, 1) := by decide +kernel
theorem dX2_settle_83 : decode cX2_settle 83 = .ok (.getfield 89, 3) := by decide +kernel
theorem dX2_settle_86 : decode cX2_settle 86 = .ok (.iconst (-1), 1) := by decide +kernel
theorem dX2_settle_87 : decode cX2_settle 87 = .ok (.ixor, 1) := by decide +kernel
theorem dX2_settle_88 : decode cX2_settle 88 = .ok (.iand, 1) := by decide +kernel
theorem dX2_settle_89 : decode cX2_settle 89 = .ok (.invokevirtual 170, 3) := by decide +kernel
theorem dX2_settle_92 : decode cX2_settle 92 = .ok (.lsub, 1) := by decide +kernel
theorem dX2_settle_93 : decode cX2_settle 93 = .ok (.lastore, 1) := by decide +kernel
theorem dX2_settle_94 : decode cX2_settle 94 = .ok (.aload_n 0, 1) := by decide +kernel
theorem dX2_settle_95 : decode cX2_settle 95 = .ok (.getfield 89, 3) := by decide +kernel
theorem dX2_settle_98 : decode cX2_settle 98 = .ok (.i2l, 1) := by decide +kernel
theorem dX2_settle_99 : decode cX2_settle 99 = .ok (.iload_n 3, 1) := by decide +kernel
theorem dX2_settle_100 : decode cX2_settle 100 = .ok (.invokestatic 92, 3) := by decide +kernel
theorem dX2_settle_103 : decode cX2_settle 103 = .ok (.ifCond .eq 22, 3) := by decide +kernel
theorem dX2_settle_106 : decode cX2_settle 106 = .ok (.aload_n 0, 1) := by decide +kernel
theorem dX2_settle_107 : decode cX2_settle 107 = .ok (.getfield 48, 3) := by decide +kernel
theorem dX2_settle_110 : decode cX2_settle 110 = .ok (.iload_n 3, 1) := by decide +kernel
theorem dX2_settle_111 : decode cX2_settle 111 = .ok (.laload, 1) := by decide +kernel
theorem dX2_settle_112 : decode cX2_settle 112 = .ok (.lconst 0, 1) := by decide +kernel
theorem dX2_settle_113 : decode cX2_settle 113 = .ok (.lcmp, 1) := by decide +kernel
theorem dX2_settle_114 : decode cX2_settle 114 = .ok (.ifCond .le 11, 3) := by decide +kernel
theorem dX2_settle_117 : decode cX2_settle 117 = .ok (.iload_n 2, 1) := by decide +kernel
theorem dX2_settle_118 : decode cX2_settle 118 = .ok (.iconst 1, 1) := by decide +kernel
theorem dX2_settle_119 : decode cX2_settle 119 = .ok (.iload_n 3, 1) := by decide +kernel
theorem dX2_settle_120 : decode cX2_settle 120 = .ok (.ishl, 1) := by decide +kernel
theorem dX2_settle_121 : decode cX2_settle 121 = .ok (.ior, 1) := by decide +kernel
theorem dX2_settle_122 : decode cX2_settle 122 = .ok (.goto 4, 3) := by decide +kernel
theorem dX2_settle_125 : decode cX2_settle 125 = .ok (.iload_n 2, 1) := by decide +kernel
theorem dX2_settle_126 : decode cX2_settle 126 = .ok (.istore_n 2, 1) := by decide +kernel
theorem dX2_settle_127 : decode cX2_settle 127 = .ok (.iinc 3 1, 3) := by decide +kernel
theorem dX2_settle_130 : decode cX2_settle 130 = .ok (.goto (-72), 3) := by decide +kernel
theorem dX2_settle_133 : decode cX2_settle 133 = .ok (.aload_n 0, 1) := by decide +kernel
theorem dX2_settle_134 : decode cX2_settle 134 = .ok (.iload_n 2, 1) := by decide +kernel
theorem dX2_settle_135 : decode cX2_settle 135 = .ok (.invokevirtual 174, 3) := by decide +kernel
theorem dX2_settle_138 : decode cX2_settle 138 = .ok (.lconst 0, 1) := by decide +kernel
theorem dX2_settle_139 : decode cX2_settle 139 = .ok (.lstore_n 3, 1) := by decide +kernel
theorem dX2_settle_140 : decode cX2_settle 140 = .ok (.iconst 0, 1) := by decide +kernel
theorem dX2_settle_141 : decode cX2_settle 141 = .ok (.istore 5, 2) := by decide +kernel
theorem dX2_settle_143 : decode cX2_settle 143 = .ok (.iload 5, 2) := by decide +kernel
theorem dX2_settle_145 : decode cX2_settle 145 = .ok (.bipush 6, 2) := by decide +kernel
theorem dX2_settle_147 : decode cX2_settle 147 = .ok (.if_icmp .ge 19, 3) := by decide +kernel
theorem dX2_settle_150 : decode cX2_settle 150 = .ok (.lload_n 3, 1) := by decide +kernel
theorem dX2_settle_151 : decode cX2_settle 151 = .ok (.aload_n 0, 1) := by decide +kernel
theorem dX2_settle_152 : decode cX2_settle 152 = .ok (.getfield 45, 3) := by decide +kernel
theorem dX2_settle_155 : decode cX2_settle 155 = .ok (.iload 5, 2) := by decide +kernel
theorem dX2_settle_157 : decode cX2_settle 157 = .ok (.laload, 1) := by decide +kernel
theorem dX2_settle_158 : decode cX2_settle 158 = .ok (.ladd, 1) := by decide +kernel
theorem dX2_settle_159 : decode cX2_settle 159 = .ok (.lstore_n 3, 1) := by decide +kernel
theorem dX2_settle_160 : decode cX2_settle 160 = .ok (.iinc 5 1, 3) := by decide +kernel
theorem dX2_settle_163 : decode cX2_settle 163 = .ok (.goto (-20), 3) := by decide +kernel
theorem dX2_settle_166 : decode cX2_settle 166 = .ok (.lload_n 3, 1) := by decide +kernel
theorem dX2_settle_167 : decode cX2_settle 167 = .ok (.lreturn, 1) := by decide +kernel
theorem dX2_ownAhead_0 : decode cX2_ownAhead 0 = .ok (.aload_n 0, 1) := by decide +kernel
theorem dX2_ownAhead_1 : decode cX2_ownAhead 1 = .ok (.getfield 69, 3) := by decide +kernel
theorem dX2_ownAhead_4 : decode cX2_ownAhead 4 = .ok (.lconst 0, 1) := by decide +kernel
theorem dX2_ownAhead_5 : decode cX2_ownAhead 5 = .ok (.lcmp, 1) := by decide +kernel
theorem dX2_ownAhead_6 : decode cX2_ownAhead 6 = .ok (.ifCond .le 12, 3) := by decide +kernel
theorem dX2_ownAhead_9 : decode cX2_ownAhead 9 = .ok (.aload_n 0, 1) := by decide +kernel
theorem dX2_ownAhead_10 : decode cX2_ownAhead 10 = .ok (.aload_n 1, 1) := by decide +kernel
theorem dX2_ownAhead_11 : decode cX2_ownAhead 11 = .ok (.iload_n 2, 1) := by decide +kernel
theorem dX2_ownAhead_12 : decode cX2_ownAhead 12 = .ok (.invokevirtual 178, 3) := by decide +kernel
theorem dX2_ownAhead_15 : decode cX2_ownAhead 15 = .ok (.ifCond .eq 7, 3) := by decide +kernel
theorem dX2_ownAhead_18 : decode cX2_ownAhead 18 = .ok (.lconst 0, 1) := by decide +kernel
theorem dX2_ownAhead_19 : decode cX2_ownAhead 19 = .ok (.goto 20, 3) := by decide +kernel
theorem dX2_ownAhead_22 : decode cX2_ownAhead 22 = .ok (.aload_n 0, 1) := by decide +kernel
theorem dX2_ownAhead_23 : decode cX2_ownAhead 23 = .ok (.getfield 38, 3) := by decide +kernel
theorem dX2_ownAhead_26 : decode cX2_ownAhead 26 = .ok (.iload_n 2, 1) := by decide +kernel
theorem dX2_ownAhead_27 : decode cX2_ownAhead 27 = .ok (.laload, 1) := by decide +kernel
theorem dX2_ownAhead_28 : decode cX2_ownAhead 28 = .ok (.aload_n 1, 1) := by decide +kernel
theorem dX2_ownAhead_29 : decode cX2_ownAhead 29 = .ok (.getfield 163, 3) := by decide +kernel
theorem dX2_ownAhead_32 : decode cX2_ownAhead 32 = .ok (.i2l, 1) := by decide +kernel
theorem dX2_ownAhead_33 : decode cX2_ownAhead 33 = .ok (.lmul, 1) := by decide +kernel
theorem dX2_ownAhead_34 : decode cX2_ownAhead 34 = .ok (.aload_n 0, 1) := by decide +kernel
theorem dX2_ownAhead_35 : decode cX2_ownAhead 35 = .ok (.getfield 69, 3) := by decide +kernel
theorem dX2_ownAhead_38 : decode cX2_ownAhead 38 = .ok (.ldiv, 1) := by decide +kernel
theorem dX2_ownAhead_39 : decode cX2_ownAhead 39 = .ok (.lreturn, 1) := by decide +kernel
theorem dX2_atSource_0 : decode cX2_atSource 0 = .ok (.aload_n 0, 1) := by decide +kernel
theorem dX2_atSource_1 : decode cX2_atSource 1 = .ok (.aload_n 1, 1) := by decide +kernel
theorem dX2_atSource_2 : decode cX2_atSource 2 = .ok (.iload_n 2, 1) := by decide +kernel
theorem dX2_atSource_3 : decode cX2_atSource 3 = .ok (.invokevirtual 182, 3) := by decide +kernel
theorem dX2_atSource_6 : decode cX2_atSource 6 = .ok (.istore_n 3, 1) := by decide +kernel
theorem dX2_atSource_7 : decode cX2_atSource 7 = .ok (.aload_n 0, 1) := by decide +kernel
theorem dX2_atSource_8 : decode cX2_atSource 8 = .ok (.getfield 19, 3) := by decide +kernel
theorem dX2_atSource_11 : decode cX2_atSource 11 = .ok (.iload_n 2, 1) := by decide +kernel
theorem dX2_atSource_12 : decode cX2_atSource 12 = .ok (.aaload, 1) := by decide +kernel
theorem dX2_atSource_13 : decode cX2_atSource 13 = .ok (.astore 4, 2) := by decide +kernel
theorem dX2_atSource_15 : decode cX2_atSource 15 = .ok (.aload 4, 2) := by decide +kernel
theorem dX2_atSource_17 : decode cX2_atSource 17 = .ok (.iconst 5, 1) := by decide +kernel
theorem dX2_atSource_18 : decode cX2_atSource 18 = .ok (.aload_n 1, 1) := by decide +kernel
theorem dX2_atSource_19 : decode cX2_atSource 19 = .ok (.getfield 143, 3) := by decide +kernel
theorem dX2_atSource_22 : decode cX2_atSource 22 = .ok (.iload_n 2, 1) := by decide +kernel
theorem dX2_atSource_23 : decode cX2_atSource 23 = .ok (.if_icmp .ne 7, 3) := by decide +kernel
theorem dX2_atSource_26 : decode cX2_atSource 26 = .ok (.iconst 1, 1) := by decide +kernel
theorem dX2_atSource_27 : decode cX2_atSource 27 = .ok (.goto 4, 3) := by decide +kernel
theorem dX2_atSource_30 : decode cX2_atSource 30 = .ok (.iconst 0, 1) := by decide +kernel
theorem dX2_atSource_31 : decode cX2_atSource 31 = .ok (.iastore, 1) := by decide +kernel
theorem dX2_atSource_32 : decode cX2_atSource 32 = .ok (.aload 4, 2) := by decide +kernel
theorem dX2_atSource_34 : decode cX2_atSource 34 = .ok (.bipush 6, 2) := by decide +kernel
theorem dX2_atSource_36 : decode cX2_atSource 36 = .ok (.aload_n 1, 1) := by decide +kernel
theorem dX2_atSource_37 : decode cX2_atSource 37 = .ok (.getfield 185, 3) := by decide +kernel
theorem dX2_atSource_40 : decode cX2_atSource 40 = .ok (.iload_n 2, 1) := by decide +kernel
theorem dX2_atSource_41 : decode cX2_atSource 41 = .ok (.if_icmp .ne 7, 3) := by decide +kernel
theorem dX2_atSource_44 : decode cX2_atSource 44 = .ok (.iconst 1, 1) := by decide +kernel
theorem dX2_atSource_45 : decode cX2_atSource 45 = .ok (.goto 4, 3) := by decide +kernel
theorem dX2_atSource_48 : decode cX2_atSource 48 = .ok (.iconst 0, 1) := by decide +kernel
theorem dX2_atSource_49 : decode cX2_atSource 49 = .ok (.iastore, 1) := by decide +kernel
theorem dX2_atSource_50 : decode cX2_atSource 50 = .ok (.aload 4, 2) := by decide +kernel
theorem dX2_atSource_52 : decode cX2_atSource 52 = .ok (.bipush 7, 2) := by decide +kernel
theorem dX2_atSource_54 : decode cX2_atSource 54 = .ok (.aload_n 1, 1) := by decide +kernel
theorem dX2_atSource_55 : decode cX2_atSource 55 = .ok (.getfield 163, 3) := by decide +kernel
theorem dX2_atSource_58 : decode cX2_atSource 58 = .ok (.iastore, 1) := by decide +kernel
theorem dX2_atSource_59 : decode cX2_atSource 59 = .ok (.aload_n 0, 1) := by decide +kernel
theorem dX2_atSource_60 : decode cX2_atSource 60 = .ok (.getfield 11, 3) := by decide +kernel
theorem dX2_atSource_63 : decode cX2_atSource 63 = .ok (.iload_n 2, 1) := by decide +kernel
theorem dX2_atSource_64 : decode cX2_atSource 64 = .ok (.aaload, 1) := by decide +kernel
theorem dX2_atSource_65 : decode cX2_atSource 65 = .ok (.iload_n 3, 1) := by decide +kernel
theorem dX2_atSource_66 : decode cX2_atSource 66 = .ok (.aload 4, 2) := by decide +kernel
theorem dX2_atSource_68 : decode cX2_atSource 68 = .ok (.aload_n 0, 1) := by decide +kernel
theorem dX2_atSource_69 : decode cX2_atSource 69 = .ok (.getfield 26, 3) := by decide +kernel
theorem dX2_atSource_72 : decode cX2_atSource 72 = .ok (.invokevirtual 188, 3) := by decide +kernel
theorem dX2_atSource_75 : decode cX2_atSource 75 = .ok (.istore 5, 2) := by decide +kernel
theorem dX2_atSource_77 : decode cX2_atSource 77 = .ok (.iconst 0, 1) := by decide +kernel
theorem dX2_atSource_78 : decode cX2_atSource 78 = .ok (.istore 6, 2) := by decide +kernel
theorem dX2_atSource_80 : decode cX2_atSource 80 = .ok (.iload 6, 2) := by decide +kernel
theorem dX2_atSource_82 : decode cX2_atSource 82 = .ok (.bipush 6, 2) := by decide +kernel
theorem dX2_atSource_84 : decode cX2_atSource 84 = .ok (.if_icmp .ge 50, 3) := by decide +kernel
theorem dX2_atSource_87 : decode cX2_atSource 87 = .ok (.aload_n 0, 1) := by decide +kernel
theorem dX2_atSource_88 : decode cX2_atSource 88 = .ok (.getfield 89, 3) := by decide +kernel
theorem dX2_atSource_91 : decode cX2_atSource 91 = .ok (.i2l, 1) := by decide +kernel
theorem dX2_atSource_92 : decode cX2_atSource 92 = .ok (.iload 6, 2) := by decide +kernel
theorem dX2_atSource_94 : decode cX2_atSource 94 = .ok (.invokestatic 92, 3) := by decide +kernel
theorem dX2_atSource_97 : decode cX2_atSource 97 = .ok (.ifCond .eq 31, 3) := by decide +kernel
theorem dX2_atSource_100 : decode cX2_atSource 100 = .ok (.iload 6, 2) := by decide +kernel
theorem dX2_atSource_102 : decode cX2_atSource 102 = .ok (.iload_n 2, 1) := by decide +kernel
theorem dX2_atSource_103 : decode cX2_atSource 103 = .ok (.if_icmp .eq 25, 3) := by decide +kernel
theorem dX2_atSource_106 : decode cX2_atSource 106 = .ok (.iload 5, 2) := by decide +kernel
theorem dX2_atSource_108 : decode cX2_atSource 108 = .ok (.aload_n 0, 1) := by decide +kernel
theorem dX2_atSource_109 : decode cX2_atSource 109 = .ok (.getfield 116, 3) := by decide +kernel
theorem dX2_atSource_112 : decode cX2_atSource 112 = .ok (.iload 6, 2) := by decide +kernel
theorem dX2_atSource_114 : decode cX2_atSource 114 = .ok (.iload_n 2, 1) := by decide +kernel
theorem dX2_atSource_115 : decode cX2_atSource 115 = .ok (.invokestatic 81, 3) := by decide +kernel
theorem dX2_atSource_118 : decode cX2_atSource 118 = .ok (.aaload, 1) := by decide +kernel
theorem dX2_atSource_119 : decode cX2_atSource 119 = .ok (.iload_n 3, 1) := by decide +kernel
theorem dX2_atSource_120 : decode cX2_atSource 120 = .ok (.invokevirtual 192, 3) := by decide +kernel
theorem dX2_atSource_123 : decode cX2_atSource 123 = .ok (.invokestatic 196, 3) := by decide +kernel
theorem dX2_atSource_126 : decode cX2_atSource 126 = .ok (.istore 5, 2) := by decide +kernel
theorem dX2_atSource_128 : decode cX2_atSource 128 = .ok (.iinc 6 1, 3) := by decide +kernel
theorem dX2_atSource_131 : decode cX2_atSource 131 = .ok (.goto (-51), 3) := by decide +kernel
theorem dX2_atSource_134 : decode cX2_atSource 134 = .ok (.iload 5, 2) := by decide +kernel
theorem dX2_atSource_136 : decode cX2_atSource 136 = .ok (.ireturn, 1) := by decide +kernel
theorem dX2_takenOf_0 : decode cX2_takenOf 0 = .ok (.lconst 0, 1) := by decide +kernel
theorem dX2_takenOf_1 : decode cX2_takenOf 1 = .ok (.lstore_n 2, 1) := by decide +kernel
theorem dX2_takenOf_2 : decode cX2_takenOf 2 = .ok (.iconst 0, 1) := by decide +kernel
theorem dX2_takenOf_3 : decode cX2_takenOf 3 = .ok (.istore 4, 2) := by decide +kernel
theorem dX2_takenOf_5 : decode cX2_takenOf 5 = .ok (.iload 4, 2) := by decide +kernel
theorem dX2_takenOf_7 : decode cX2_takenOf 7 = .ok (.bipush 6, 2) := by decide +kernel
theorem dX2_takenOf_9 : decode cX2_takenOf 9 = .ok (.if_icmp .ge 33, 3) := by decide +kernel
theorem dX2_takenOf_12 : decode cX2_takenOf 12 = .ok (.lload_n 2, 1) := by decide +kernel
theorem dX2_takenOf_13 : decode cX2_takenOf 13 = .ok (.iload_n 1, 1) := by decide +kernel
theorem dX2_takenOf_14 : decode cX2_takenOf 14 = .ok (.i2l, 1) := by decide +kernel
theorem dX2_takenOf_15 : decode cX2_takenOf 15 = .ok (.iload 4, 2) := by decide +kernel
theorem dX2_takenOf_17 : decode cX2_takenOf 17 = .ok (.invokestatic 92, 3) := by decide +kernel
theorem dX2_takenOf_20 : decode cX2_takenOf 20 = .ok (.ifCond .eq 13, 3) := by decide +kernel
theorem dX2_takenOf_23 : decode cX2_takenOf 23 = .ok (.aload_n 0, 1) := by decide +kernel
theorem dX2_takenOf_24 : decode cX2_takenOf 24 = .ok (.getfield 42, 3) := by decide +kernel
theorem dX2_takenOf_27 : decode cX2_takenOf 27 = .ok (.iload 4, 2) := by decide +kernel
theorem dX2_takenOf_29 : decode cX2_takenOf 29 = .ok (.laload, 1) := by decide +kernel
theorem dX2_takenOf_30 : decode cX2_takenOf 30 = .ok (.goto 4, 3) := by decide +kernel
theorem dX2_takenOf_33 : decode cX2_takenOf 33 = .ok (.lconst 0, 1) := by decide +kernel
theorem dX2_takenOf_34 : decode cX2_takenOf 34 = .ok (.ladd, 1) := by decide +kernel
theorem dX2_takenOf_35 : decode cX2_takenOf 35 = .ok (.lstore_n 2, 1) := by decide +kernel
theorem dX2_takenOf_36 : decode cX2_takenOf 36 = .ok (.iinc 4 1, 3) := by decide +kernel
theorem dX2_takenOf_39 : decode cX2_takenOf 39 = .ok (.goto (-34), 3) := by decide +kernel
theorem dX2_takenOf_42 : decode cX2_takenOf 42 = .ok (.lload_n 2, 1) := by decide +kernel
theorem dX2_takenOf_43 : decode cX2_takenOf 43 = .ok (.lreturn, 1) := by decide +kernel
theorem dX2_chooseAnswer_0 : decode cX2_chooseAnswer 0 = .ok (.aload_n 0, 1) := by decide +kernel
theorem dX2_chooseAnswer_1 : decode cX2_chooseAnswer 1 = .ok (.iconst 0, 1) := by decide +kernel
theorem dX2_chooseAnswer_2 : decode cX2_chooseAnswer 2 = .ok (.putfield 201, 3) := by decide +kernel
theorem dX2_chooseAnswer_5 : decode cX2_chooseAnswer 5 = .ok (.aload_n 0, 1) := by decide +kernel
theorem dX2_chooseAnswer_6 : decode cX2_chooseAnswer 6 = .ok (.getfield 42, 3) := by decide +kernel
theorem dX2_chooseAnswer_9 : decode cX2_chooseAnswer 9 = .ok (.iconst 0, 1) := by decide +kernel
theorem dX2_chooseAnswer_10 : decode cX2_chooseAnswer 10 = .ok (.aload_n 0, 1) := by decide +kernel
theorem dX2_chooseAnswer_11 : decode cX2_chooseAnswer 11 = .ok (.getfield 45, 3) := by decide +kernel
theorem dX2_chooseAnswer_14 : decode cX2_chooseAnswer 14 = .ok (.iconst 0, 1) := by decide +kernel
theorem dX2_chooseAnswer_15 : decode cX2_chooseAnswer 15 = .ok (.bipush 6, 2) := by decide +kernel
theorem dX2_chooseAnswer_17 : decode cX2_chooseAnswer 17 = .ok (.invokestatic 204, 3) := by decide +kernel
theorem dX2_chooseAnswer_20 : decode cX2_chooseAnswer 20 = .ok (.iconst 0, 1) := by decide +kernel
theorem dX2_chooseAnswer_21 : decode cX2_chooseAnswer 21 = .ok (.istore_n 2, 1) := by decide +kernel
theorem dX2_chooseAnswer_22 : decode cX2_chooseAnswer 22 = .ok (.iload_n 2, 1) := by decide +kernel
theorem dX2_chooseAnswer_23 : decode cX2_chooseAnswer 23 = .ok (.iload_n 1, 1) := by decide +kernel
theorem dX2_chooseAnswer_24 : decode cX2_chooseAnswer 24 = .ok (.if_icmp .gt 60, 3) := by decide +kernel
theorem dX2_chooseAnswer_27 : decode cX2_chooseAnswer 27 = .ok (.iload_n 2, 1) := by decide +kernel
theorem dX2_chooseAnswer_28 : decode cX2_chooseAnswer 28 = .ok (.iload_n 1, 1) := by decide +kernel
theorem dX2_chooseAnswer_29 : decode cX2_chooseAnswer 29 = .ok (.iconst (-1), 1) := by decide +kernel
theorem dX2_chooseAnswer_30 : decode cX2_chooseAnswer 30 = .ok (.ixor, 1) := by decide +kernel
theorem dX2_chooseAnswer_31 : decode cX2_chooseAnswer 31 = .ok (.iand, 1) := by decide +kernel
theorem dX2_chooseAnswer_32 : decode cX2_chooseAnswer 32 = .ok (.ifCond .ne 46, 3) := by decide +kernel
theorem dX2_chooseAnswer_35 : decode cX2_chooseAnswer 35 = .ok (.aload_n 0, 1) := by decide +kernel
theorem dX2_chooseAnswer_36 : decode cX2_chooseAnswer 36 = .ok (.getfield 54, 3) := by decide +kernel
theorem dX2_chooseAnswer_39 : decode cX2_chooseAnswer 39 = .ok (.iload_n 2, 1) := by decide +kernel
theorem dX2_chooseAnswer_40 : decode cX2_chooseAnswer 40 = .ok (.iload_n 1, 1) := by decide +kernel
theorem dX2_chooseAnswer_41 : decode cX2_chooseAnswer 41 = .ok (.aload_n 0, 1) := by decide +kernel
theorem dX2_chooseAnswer_42 : decode cX2_chooseAnswer 42 = .ok (.getfield 32, 3) := by decide +kernel
theorem dX2_chooseAnswer_45 : decode cX2_chooseAnswer 45 = .ok (.aload_n 0, 1) := by decide +kernel
theorem dX2_chooseAnswer_46 : decode cX2_chooseAnswer 46 = .ok (.getfield 48, 3) := by decide +kernel
theorem dX2_chooseAnswer_49 : decode cX2_chooseAnswer 49 = .ok (.invokevirtual 210, 3) := by decide +kernel
theorem dX2_chooseAnswer_52 : decode cX2_chooseAnswer 52 = .ok (.ifCond .eq 26, 3) := by decide +kernel
theorem dX2_chooseAnswer_55 : decode cX2_chooseAnswer 55 = .ok (.aload_n 0, 1) := by decide +kernel
theorem dX2_chooseAnswer_56 : decode cX2_chooseAnswer 56 = .ok (.dup, 1) := by decide +kernel
theorem dX2_chooseAnswer_57 : decode cX2_chooseAnswer 57 = .ok (.getfield 201, 3) := by decide +kernel
theorem dX2_chooseAnswer_60 : decode cX2_chooseAnswer 60 = .ok (.iconst 1, 1) := by decide +kernel
theorem dX2_chooseAnswer_61 : decode cX2_chooseAnswer 61 = .ok (.iadd, 1) := by decide +kernel
theorem dX2_chooseAnswer_62 : decode cX2_chooseAnswer 62 = .ok (.putfield 201, 3) := by decide +kernel
theorem dX2_chooseAnswer_65 : decode cX2_chooseAnswer 65 = .ok (.aload_n 0, 1) := by decide +kernel
theorem dX2_chooseAnswer_66 : decode cX2_chooseAnswer 66 = .ok (.getfield 201, 3) := by decide +kernel
theorem dX2_chooseAnswer_69 : decode cX2_chooseAnswer 69 = .ok (.iconst 1, 1) := by decide +kernel
theorem dX2_chooseAnswer_70 : decode cX2_chooseAnswer 70 = .ok (.if_icmp .ne 8, 3) := by decide +kernel
theorem dX2_chooseAnswer_73 : decode cX2_chooseAnswer 73 = .ok (.aload_n 0, 1) := by decide +kernel
theorem dX2_chooseAnswer_74 : decode cX2_chooseAnswer 74 = .ok (.iload_n 2, 1) := by decide +kernel
theorem dX2_chooseAnswer_75 : decode cX2_chooseAnswer 75 = .ok (.invokevirtual 213, 3) := by decide +kernel
theorem dX2_chooseAnswer_78 : decode cX2_chooseAnswer 78 = .ok (.iinc 2 1, 3) := by decide +kernel
theorem dX2_chooseAnswer_81 : decode cX2_chooseAnswer 81 = .ok (.goto (-59), 3) := by decide +kernel
theorem dX2_chooseAnswer_84 : decode cX2_chooseAnswer 84 = .ok (.return_, 1) := by decide +kernel
theorem dX2_takeAnswer_0 : decode cX2_takeAnswer 0 = .ok (.iconst 0, 1) := by decide +kernel
theorem dX2_takeAnswer_1 : decode cX2_takeAnswer 1 = .ok (.istore_n 2, 1) := by decide +kernel
theorem dX2_takeAnswer_2 : decode cX2_takeAnswer 2 = .ok (.iload_n 2, 1) := by decide +kernel
theorem dX2_takeAnswer_3 : decode cX2_takeAnswer 3 = .ok (.bipush 6, 2) := by decide +kernel
theorem dX2_takeAnswer_5 : decode cX2_takeAnswer 5 = .ok (.if_icmp .ge 48, 3) := by decide +kernel
theorem dX2_takeAnswer_8 : decode cX2_takeAnswer 8 = .ok (.aload_n 0, 1) := by decide +kernel
theorem dX2_takeAnswer_9 : decode cX2_takeAnswer 9 = .ok (.getfield 89, 3) := by decide +kernel
theorem dX2_takeAnswer_12 : decode cX2_takeAnswer 12 = .ok (.i2l, 1) := by decide +kernel
theorem dX2_takeAnswer_13 : decode cX2_takeAnswer 13 = .ok (.iload_n 2, 1) := by decide +kernel
theorem dX2_takeAnswer_14 : decode cX2_takeAnswer 14 = .ok (.invokestatic 92, 3) := by decide +kernel
theorem dX2_takeAnswer_17 : decode cX2_takeAnswer 17 = .ok (.ifCond .eq 30, 3) := by decide +kernel
theorem dX2_takeAnswer_20 : decode cX2_takeAnswer 20 = .ok (.aload_n 0, 1) := by decide +kernel
theorem dX2_takeAnswer_21 : decode cX2_takeAnswer 21 = .ok (.getfield 45, 3) := by decide +kernel
theorem dX2_takeAnswer_24 : decode cX2_takeAnswer 24 = .ok (.iload_n 2, 1) := by decide +kernel
theorem dX2_takeAnswer_25 : decode cX2_takeAnswer 25 = .ok (.iload_n 1, 1) := by decide +kernel
theorem dX2_takeAnswer_26 : decode cX2_takeAnswer 26 = .ok (.i2l, 1) := by decide +kernel
theorem dX2_takeAnswer_27 : decode cX2_takeAnswer 27 = .ok (.iload_n 2, 1) := by decide +kernel
theorem dX2_takeAnswer_28 : decode cX2_takeAnswer 28 = .ok (.invokestatic 92, 3) := by decide +kernel
theorem dX2_takeAnswer_31 : decode cX2_takeAnswer 31 = .ok (.ifCond .eq 14, 3) := by decide +kernel
theorem dX2_takeAnswer_34 : decode cX2_takeAnswer 34 = .ok (.aload_n 0, 1) := by decide +kernel
theorem dX2_takeAnswer_35 : decode cX2_takeAnswer 35 = .ok (.getfield 54, 3) := by decide +kernel
theorem dX2_takeAnswer_38 : decode cX2_takeAnswer 38 = .ok (.iload_n 2, 1) := by decide +kernel
theorem dX2_takeAnswer_39 : decode cX2_takeAnswer 39 = .ok (.invokevirtual 216, 3) := by decide +kernel
theorem dX2_takeAnswer_42 : decode cX2_takeAnswer 42 = .ok (.goto 4, 3) := by decide +kernel
theorem dX2_takeAnswer_45 : decode cX2_takeAnswer 45 = .ok (.lconst 0, 1) := by decide +kernel
theorem dX2_takeAnswer_46 : decode cX2_takeAnswer 46 = .ok (.lastore, 1) := by decide +kernel
theorem dX2_takeAnswer_47 : decode cX2_takeAnswer 47 = .ok (.iinc 2 1, 3) := by decide +kernel
theorem dX2_takeAnswer_50 : decode cX2_takeAnswer 50 = .ok (.goto (-48), 3) := by decide +kernel
theorem dX2_takeAnswer_53 : decode cX2_takeAnswer 53 = .ok (.return_, 1) := by decide +kernel
theorem dX2_takers_0 : decode cX2_takers 0 = .ok (.iconst 0, 1) := by decide +kernel
theorem dX2_takers_1 : decode cX2_takers 1 = .ok (.istore_n 1, 1) := by decide +kernel
theorem dX2_takers_2 : decode cX2_takers 2 = .ok (.iconst 0, 1) := by decide +kernel
theorem dX2_takers_3 : decode cX2_takers 3 = .ok (.istore_n 2, 1) := by decide +kernel
theorem dX2_takers_4 : decode cX2_takers 4 = .ok (.iload_n 2, 1) := by decide +kernel
theorem dX2_takers_5 : decode cX2_takers 5 = .ok (.bipush 6, 2) := by decide +kernel
theorem dX2_takers_7 : decode cX2_takers 7 = .ok (.if_icmp .ge 28, 3) := by decide +kernel
theorem dX2_takers_10 : decode cX2_takers 10 = .ok (.iload_n 1, 1) := by decide +kernel
theorem dX2_takers_11 : decode cX2_takers 11 = .ok (.aload_n 0, 1) := by decide +kernel
theorem dX2_takers_12 : decode cX2_takers 12 = .ok (.getfield 45, 3) := by decide +kernel
theorem dX2_takers_15 : decode cX2_takers 15 = .ok (.iload_n 2, 1) := by decide +kernel
theorem dX2_takers_16 : decode cX2_takers 16 = .ok (.laload, 1) := by decide +kernel
theorem dX2_takers_17 : decode cX2_takers 17 = .ok (.lconst 0, 1) := by decide +kernel
theorem dX2_takers_18 : decode cX2_takers 18 = .ok (.lcmp, 1) := by decide +kernel
theorem dX2_takers_19 : decode cX2_takers 19 = .ok (.ifCond .le 7, 3) := by decide +kernel
theorem dX2_takers_22 : decode cX2_takers 22 = .ok (.iconst 1, 1) := by decide +kernel
theorem dX2_takers_23 : decode cX2_takers 23 = .ok (.goto 4, 3) := by decide +kernel
theorem dX2_takers_26 : decode cX2_takers 26 = .ok (.iconst 0, 1) := by decide +kernel
theorem dX2_takers_27 : decode cX2_takers 27 = .ok (.iadd, 1) := by decide +kernel
theorem dX2_takers_28 : decode cX2_takers 28 = .ok (.istore_n 1, 1) := by decide +kernel
theorem dX2_takers_29 : decode cX2_takers 29 = .ok (.iinc 2 1, 3) := by decide +kernel
theorem dX2_takers_32 : decode cX2_takers 32 = .ok (.goto (-28), 3) := by decide +kernel
theorem dX2_takers_35 : decode cX2_takers 35 = .ok (.iload_n 1, 1) := by decide +kernel
theorem dX2_takers_36 : decode cX2_takers 36 = .ok (.ireturn, 1) := by decide +kernel
theorem dX2_share_0 : decode cX2_share 0 = .ok (.aload_n 0, 1) := by decide +kernel
theorem dX2_share_1 : decode cX2_share 1 = .ok (.getfield 11, 3) := by decide +kernel
theorem dX2_share_4 : decode cX2_share 4 = .ok (.iload_n 1, 1) := by decide +kernel
theorem dX2_share_5 : decode cX2_share 5 = .ok (.aaload, 1) := by decide +kernel
theorem dX2_share_6 : decode cX2_share 6 = .ok (.iload_n 2, 1) := by decide +kernel
theorem dX2_share_7 : decode cX2_share 7 = .ok (.aload_n 0, 1) := by decide +kernel
theorem dX2_share_8 : decode cX2_share 8 = .ok (.getfield 22, 3) := by decide +kernel
theorem dX2_share_11 : decode cX2_share 11 = .ok (.aload_n 0, 1) := by decide +kernel
theorem dX2_share_12 : decode cX2_share 12 = .ok (.getfield 26, 3) := by decide +kernel
theorem dX2_share_15 : decode cX2_share 15 = .ok (.invokevirtual 188, 3) := by decide +kernel
theorem dX2_share_18 : decode cX2_share 18 = .ok (.ireturn, 1) := by decide +kernel
theorem dX3_init_0 : decode cX3_init 0 = .ok (.aload_n 0, 1) := by decide +kernel
theorem dX3_init_1 : decode cX3_init 1 = .ok (.invokespecial 3, 3) := by decide +kernel
theorem dX3_init_4 : decode cX3_init 4 = .ok (.aload_n 0, 1) := by decide +kernel
theorem dX3_init_5 : decode cX3_init 5 = .ok (.bipush 20, 2) := by decide +kernel
theorem dX3_init_7 : decode cX3_init 7 = .ok (.newarray .int, 2) := by decide +kernel
theorem dX3_init_9 : decode cX3_init 9 = .ok (.putfield 9, 3) := by decide +kernel
theorem dX3_init_12 : decode cX3_init 12 = .ok (.aload_n 0, 1) := by decide +kernel
theorem dX3_init_13 : decode cX3_init 13 = .ok (.bipush 6, 2) := by decide +kernel
theorem dX3_init_15 : decode cX3_init 15 = .ok (.newarray .int, 2) := by decide +kernel
theorem dX3_init_17 : decode cX3_init 17 = .ok (.putfield 15, 3) := by decide +kernel
theorem dX3_init_20 : decode cX3_init 20 = .ok (.aload_n 0, 1) := by decide +kernel
theorem dX3_init_21 : decode cX3_init 21 = .ok (.invokevirtual 18, 3) := by decide +kernel
theorem dX3_init_24 : decode cX3_init 24 = .ok (.return_, 1) := by decide +kernel
theorem dX3_clear_0 : decode cX3_clear 0 = .ok (.aload_n 0, 1) := by decide +kernel
theorem dX3_clear_1 : decode cX3_clear 1 = .ok (.iconst 0, 1) := by decide +kernel
theorem dX3_clear_2 : decode cX3_clear 2 = .ok (.putfield 21, 3) := by decide +kernel
theorem dX3_clear_5 : decode cX3_clear 5 = .ok (.aload_n 0, 1) := by decide +kernel
theorem dX3_clear_6 : decode cX3_clear 6 = .ok (.iconst 0, 1) := by decide +kernel
theorem dX3_clear_7 : decode cX3_clear 7 = .ok (.putfield 25, 3) := by decide +kernel
theorem dX3_clear_10 : decode cX3_clear 10 = .ok (.aload_n 0, 1) := by decide +kernel
theorem dX3_clear_11 : decode cX3_clear 11 = .ok (.iconst 0, 1) := by decide +kernel
theorem dX3_clear_12 : decode cX3_clear 12 = .ok (.putfield 28, 3) := by decide +kernel
theorem dX3_clear_15 : decode cX3_clear 15 = .ok (.aload_n 0, 1) := by decide +kernel
theorem dX3_clear_16 : decode cX3_clear 16 = .ok (.iconst 0, 1) := by decide +kernel
theorem dX3_clear_17 : decode cX3_clear 17 = .ok (.putfield 31, 3) := by decide +kernel
theorem dX3_clear_20 : decode cX3_clear 20 = .ok (.aload_n 0, 1) := by decide +kernel
theorem dX3_clear_21 : decode cX3_clear 21 = .ok (.iconst 0, 1) := by decide +kernel
theorem dX3_clear_22 : decode cX3_clear 22 = .ok (.putfield 34, 3) := by decide +kernel
theorem dX3_clear_25 : decode cX3_clear 25 = .ok (.iconst 0, 1) := by decide +kernel
theorem dX3_clear_26 : decode cX3_clear 26 = .ok (.istore_n 1, 1) := by decide +kernel
theorem dX3_clear_27 : decode cX3_clear 27 = .ok (.iload_n 1, 1) := by decide +kernel
theorem dX3_clear_28 : decode cX3_clear 28 = .ok (.bipush 6, 2) := by decide +kernel
theorem dX3_clear_30 : decode cX3_clear 30 = .ok (.if_icmp .ge 17, 3) := by decide +kernel
theorem dX3_clear_33 : decode cX3_clear 33 = .ok (.aload_n 0, 1) := by decide +kernel
theorem dX3_clear_34 : decode cX3_clear 34 = .ok (.getfield 15, 3) := by decide +kernel
theorem dX3_clear_37 : decode cX3_clear 37 = .ok (.iload_n 1, 1) := by decide +kernel
theorem dX3_clear_38 : decode cX3_clear 38 = .ok (.bipush 100, 2) := by decide +kernel
theorem dX3_clear_40 : decode cX3_clear 40 = .ok (.iastore, 1) := by decide +kernel
theorem dX3_clear_41 : decode cX3_clear 41 = .ok (.iinc 1 1, 3) := by decide +kernel
theorem dX3_clear_44 : decode cX3_clear 44 = .ok (.goto (-17), 3) := by decide +kernel
theorem dX3_clear_47 : decode cX3_clear 47 = .ok (.return_, 1) := by decide +kernel
theorem dX3_copyTerms_0 : decode cX3_copyTerms 0 = .ok (.aload_n 0, 1) := by decide +kernel
theorem dX3_copyTerms_1 : decode cX3_copyTerms 1 = .ok (.aload_n 1, 1) := by decide +kernel
theorem dX3_copyTerms_2 : decode cX3_copyTerms 2 = .ok (.getfield 25, 3) := by decide +kernel
theorem dX3_copyTerms_5 : decode cX3_copyTerms 5 = .ok (.putfield 25, 3) := by decide +kernel
theorem dX3_copyTerms_8 : decode cX3_copyTerms 8 = .ok (.aload_n 0, 1) := by decide +kernel
theorem dX3_copyTerms_9 : decode cX3_copyTerms 9 = .ok (.aload_n 1, 1) := by decide +kernel
theorem dX3_copyTerms_10 : decode cX3_copyTerms 10 = .ok (.getfield 31, 3) := by decide +kernel
theorem dX3_copyTerms_13 : decode cX3_copyTerms 13 = .ok (.putfield 31, 3) := by decide +kernel
theorem dX3_copyTerms_16 : decode cX3_copyTerms 16 = .ok (.aload_n 0, 1) := by decide +kernel
theorem dX3_copyTerms_17 : decode cX3_copyTerms 17 = .ok (.aload_n 1, 1) := by decide +kernel
theorem dX3_copyTerms_18 : decode cX3_copyTerms 18 = .ok (.getfield 34, 3) := by decide +kernel
theorem dX3_copyTerms_21 : decode cX3_copyTerms 21 = .ok (.putfield 34, 3) := by decide +kernel
theorem dX3_copyTerms_24 : decode cX3_copyTerms 24 = .ok (.aload_n 1, 1) := by decide +kernel
theorem dX3_copyTerms_25 : decode cX3_copyTerms 25 = .ok (.getfield 15, 3) := by decide +kernel
theorem dX3_copyTerms_28 : decode cX3_copyTerms 28 = .ok (.iconst 0, 1) := by decide +kernel
theorem dX3_copyTerms_29 : decode cX3_copyTerms 29 = .ok (.aload_n 0, 1) := by decide +kernel
theorem dX3_copyTerms_30 : decode cX3_copyTerms 30 = .ok (.getfield 15, 3) := by decide +kernel
theorem dX3_copyTerms_33 : decode cX3_copyTerms 33 = .ok (.iconst 0, 1) := by decide +kernel
theorem dX3_copyTerms_34 : decode cX3_copyTerms 34 = .ok (.bipush 6, 2) := by decide +kernel
theorem dX3_copyTerms_36 : decode cX3_copyTerms 36 = .ok (.invokestatic 38, 3) := by decide +kernel
theorem dX3_copyTerms_39 : decode cX3_copyTerms 39 = .ok (.return_, 1) := by decide +kernel
theorem dX3_addTest_0 : decode cX3_addTest 0 = .ok (.aload_n 0, 1) := by decide +kernel
theorem dX3_addTest_1 : decode cX3_addTest 1 = .ok (.getfield 21, 3) := by decide +kernel
theorem dX3_addTest_4 : decode cX3_addTest 4 = .ok (.bipush 20, 2) := by decide +kernel
theorem dX3_addTest_6 : decode cX3_addTest 6 = .ok (.if_icmp .ge 23, 3) := by decide +kernel
theorem dX3_addTest_9 : decode cX3_addTest 9 = .ok (.aload_n 0, 1) := by decide +kernel
theorem dX3_addTest_10 : decode cX3_addTest 10 = .ok (.getfield 9, 3) := by decide +kernel
theorem dX3_addTest_13 : decode cX3_addTest 13 = .ok (.aload_n 0, 1) := by decide +kernel
theorem dX3_addTest_14 : decode cX3_addTest 14 = .ok (.getfield 21, 3) := by decide +kernel
theorem dX3_addTest_17 : decode cX3_addTest 17 = .ok (.iload_n 1, 1) := by decide +kernel
theorem dX3_addTest_18 : decode cX3_addTest 18 = .ok (.iastore, 1) := by decide +kernel
theorem dX3_addTest_19 : decode cX3_addTest 19 = .ok (.aload_n 0, 1) := by decide +kernel
theorem dX3_addTest_20 : decode cX3_addTest 20 = .ok (.dup, 1) := by decide +kernel
theorem dX3_addTest_21 : decode cX3_addTest 21 = .ok (.getfield 21, 3) := by decide +kernel
theorem dX3_addTest_24 : decode cX3_addTest 24 = .ok (.iconst 1, 1) := by decide +kernel
theorem dX3_addTest_25 : decode cX3_addTest 25 = .ok (.iadd, 1) := by decide +kernel
theorem dX3_addTest_26 : decode cX3_addTest 26 = .ok (.putfield 21, 3) := by decide +kernel
theorem dX3_addTest_29 : decode cX3_addTest 29 = .ok (.return_, 1) := by decide +kernel
theorem dX3_tell_0 : decode cX3_tell 0 = .ok (.iload_n 1, 1) := by decide +kernel
theorem dX3_tell_1 : decode cX3_tell 1 = .ok (.ifCond .ne 11, 3) := by decide +kernel
theorem dX3_tell_4 : decode cX3_tell 4 = .ok (.aload_n 0, 1) := by decide +kernel
theorem dX3_tell_5 : decode cX3_tell 5 = .ok (.iconst 1, 1) := by decide +kernel
theorem dX3_tell_6 : decode cX3_tell 6 = .ok (.putfield 34, 3) := by decide +kernel
theorem dX3_tell_9 : decode cX3_tell 9 = .ok (.goto 52, 3) := by decide +kernel
theorem dX3_tell_12 : decode cX3_tell 12 = .ok (.iload_n 1, 1) := by decide +kernel
theorem dX3_tell_13 : decode cX3_tell 13 = .ok (.iconst 1, 1) := by decide +kernel
theorem dX3_tell_14 : decode cX3_tell 14 = .ok (.if_icmp .ne 18, 3) := by decide +kernel
theorem dX3_tell_17 : decode cX3_tell 17 = .ok (.aload_n 0, 1) := by decide +kernel
theorem dX3_tell_18 : decode cX3_tell 18 = .ok (.dup, 1) := by decide +kernel
theorem dX3_tell_19 : decode cX3_tell 19 = .ok (.getfield 25, 3) := by decide +kernel
theorem dX3_tell_22 : decode cX3_tell 22 = .ok (.iconst 1, 1) := by decide +kernel
theorem dX3_tell_23 : decode cX3_tell 23 = .ok (.iload_n 2, 1) := by decide +kernel
theorem dX3_tell_24 : decode cX3_tell 24 = .ok (.ishl, 1) := by decide +kernel
theorem dX3_tell_25 : decode cX3_tell 25 = .ok (.ior, 1) := by decide +kernel
theorem dX3_tell_26 : decode cX3_tell 26 = .ok (.putfield 25, 3) := by decide +kernel
theorem dX3_tell_29 : decode cX3_tell 29 = .ok (.goto 32, 3) := by decide +kernel
theorem dX3_tell_32 : decode cX3_tell 32 = .ok (.iload_n 1, 1) := by decide +kernel
theorem dX3_tell_33 : decode cX3_tell 33 = .ok (.iconst 2, 1) := by decide +kernel
theorem dX3_tell_34 : decode cX3_tell 34 = .ok (.if_icmp .ne 13, 3) := by decide +kernel
theorem dX3_tell_37 : decode cX3_tell 37 = .ok (.aload_n 0, 1) := by decide +kernel
theorem dX3_tell_38 : decode cX3_tell 38 = .ok (.getfield 15, 3) := by decide +kernel
theorem dX3_tell_41 : decode cX3_tell 41 = .ok (.iload_n 2, 1) := by decide +kernel
theorem dX3_tell_42 : decode cX3_tell 42 = .ok (.iconst 0, 1) := by decide +kernel
theorem dX3_tell_43 : decode cX3_tell 43 = .ok (.iastore, 1) := by decide +kernel
theorem dX3_tell_44 : decode cX3_tell 44 = .ok (.goto 17, 3) := by decide +kernel
theorem dX3_tell_47 : decode cX3_tell 47 = .ok (.aload_n 0, 1) := by decide +kernel
theorem dX3_tell_48 : decode cX3_tell 48 = .ok (.iload_n 1, 1) := by decide +kernel
theorem dX3_tell_49 : decode cX3_tell 49 = .ok (.iconst 3, 1) := by decide +kernel
theorem dX3_tell_50 : decode cX3_tell 50 = .ok (.if_icmp .ne 7, 3) := by decide +kernel
theorem dX3_tell_53 : decode cX3_tell 53 = .ok (.iconst 1, 1) := by decide +kernel
theorem dX3_tell_54 : decode cX3_tell 54 = .ok (.goto 4, 3) := by decide +kernel
theorem dX3_tell_57 : decode cX3_tell 57 = .ok (.iconst 2, 1) := by decide +kernel
theorem dX3_tell_58 : decode cX3_tell 58 = .ok (.putfield 31, 3) := by decide +kernel
theorem dX3_tell_61 : decode cX3_tell 61 = .ok (.return_, 1) := by decide +kernel
theorem dX3_limit_0 : decode cX3_limit 0 = .ok (.aload_n 0, 1) := by decide +kernel
theorem dX3_limit_1 : decode cX3_limit 1 = .ok (.getfield 25, 3) := by decide +kernel
theorem dX3_limit_4 : decode cX3_limit 4 = .ok (.i2l, 1) := by decide +kernel
theorem dX3_limit_5 : decode cX3_limit 5 = .ok (.iload_n 1, 1) := by decide +kernel
theorem dX3_limit_6 : decode cX3_limit 6 = .ok (.invokestatic 44, 3) := by decide +kernel
theorem dX3_limit_9 : decode cX3_limit 9 = .ok (.ifCond .eq 7, 3) := by decide +kernel
theorem dX3_limit_12 : decode cX3_limit 12 = .ok (.iconst 0, 1) := by decide +kernel
theorem dX3_limit_13 : decode cX3_limit 13 = .ok (.goto 9, 3) := by decide +kernel
theorem dX3_limit_16 : decode cX3_limit 16 = .ok (.aload_n 0, 1) := by decide +kernel
theorem dX3_limit_17 : decode cX3_limit 17 = .ok (.getfield 15, 3) := by decide +kernel
theorem dX3_limit_20 : decode cX3_limit 20 = .ok (.iload_n 1, 1) := by decide +kernel
theorem dX3_limit_21 : decode cX3_limit 21 = .ok (.iaload, 1) := by decide +kernel
theorem dX3_limit_22 : decode cX3_limit 22 = .ok (.ireturn, 1) := by decide +kernel
theorem dX4_init_0 : decode cX4_init 0 = .ok (.aload_n 0, 1) := by decide +kernel
theorem dX4_init_1 : decode cX4_init 1 = .ok (.invokespecial 3, 3) := by decide +kernel
theorem dX4_init_4 : decode cX4_init 4 = .ok (.aload_n 0, 1) := by decide +kernel
theorem dX4_init_5 : decode cX4_init 5 = .ok (.bipush 20, 2) := by decide +kernel
theorem dX4_init_7 : decode cX4_init 7 = .ok (.newarray .int, 2) := by decide +kernel
theorem dX4_init_9 : decode cX4_init 9 = .ok (.putfield 9, 3) := by decide +kernel
theorem dX4_init_12 : decode cX4_init 12 = .ok (.aload_n 0, 1) := by decide +kernel
theorem dX4_init_13 : decode cX4_init 13 = .ok (.bipush 20, 2) := by decide +kernel
theorem dX4_init_15 : decode cX4_init 15 = .ok (.newarray .int, 2) := by decide +kernel
theorem dX4_init_17 : decode cX4_init 17 = .ok (.putfield 15, 3) := by decide +kernel
theorem dX4_init_20 : decode cX4_init 20 = .ok (.aload_n 0, 1) := by decide +kernel
theorem dX4_init_21 : decode cX4_init 21 = .ok (.bipush 6, 2) := by decide +kernel
theorem dX4_init_23 : decode cX4_init 23 = .ok (.newarray .int, 2) := by decide +kernel
theorem dX4_init_25 : decode cX4_init 25 = .ok (.putfield 18, 3) := by decide +kernel
theorem dX4_init_28 : decode cX4_init 28 = .ok (.aload_n 0, 1) := by decide +kernel
theorem dX4_init_29 : decode cX4_init 29 = .ok (.bipush 6, 2) := by decide +kernel
theorem dX4_init_31 : decode cX4_init 31 = .ok (.newarray .int, 2) := by decide +kernel
theorem dX4_init_33 : decode cX4_init 33 = .ok (.putfield 21, 3) := by decide +kernel
theorem dX4_init_36 : decode cX4_init 36 = .ok (.aload_n 0, 1) := by decide +kernel
theorem dX4_init_37 : decode cX4_init 37 = .ok (.bipush 6, 2) := by decide +kernel
theorem dX4_init_39 : decode cX4_init 39 = .ok (.newarray .int, 2) := by decide +kernel
theorem dX4_init_41 : decode cX4_init 41 = .ok (.putfield 24, 3) := by decide +kernel
theorem dX4_init_44 : decode cX4_init 44 = .ok (.aload_n 0, 1) := by decide +kernel
theorem dX4_init_45 : decode cX4_init 45 = .ok (.bipush 6, 2) := by decide +kernel
theorem dX4_init_47 : decode cX4_init 47 = .ok (.newarray .int, 2) := by decide +kernel
theorem dX4_init_49 : decode cX4_init 49 = .ok (.putfield 27, 3) := by decide +kernel
theorem dX4_init_52 : decode cX4_init 52 = .ok (.aload_n 0, 1) := by decide +kernel
theorem dX4_init_53 : decode cX4_init 53 = .ok (.bipush 6, 2) := by decide +kernel
theorem dX4_init_55 : decode cX4_init 55 = .ok (.newarray .int, 2) := by decide +kernel
theorem dX4_init_57 : decode cX4_init 57 = .ok (.putfield 30, 3) := by decide +kernel
theorem dX4_init_60 : decode cX4_init 60 = .ok (.aload_n 0, 1) := by decide +kernel
theorem dX4_init_61 : decode cX4_init 61 = .ok (.bipush 6, 2) := by decide +kernel
theorem dX4_init_63 : decode cX4_init 63 = .ok (.newarray .int, 2) := by decide +kernel
theorem dX4_init_65 : decode cX4_init 65 = .ok (.putfield 33, 3) := by decide +kernel
theorem dX4_init_68 : decode cX4_init 68 = .ok (.return_, 1) := by decide +kernel
theorem dX4_price_0 : decode cX4_price 0 = .ok (.aload_n 0, 1) := by decide +kernel
theorem dX4_price_1 : decode cX4_price 1 = .ok (.getfield 24, 3) := by decide +kernel
theorem dX4_price_4 : decode cX4_price 4 = .ok (.iload_n 1, 1) := by decide +kernel
theorem dX4_price_5 : decode cX4_price 5 = .ok (.iaload, 1) := by decide +kernel
theorem dX4_price_6 : decode cX4_price 6 = .ok (.i2l, 1) := by decide +kernel
theorem dX4_price_7 : decode cX4_price 7 = .ok (.ldc2_w 36, 3) := by decide +kernel
theorem dX4_price_10 : decode cX4_price 10 = .ok (.lmul, 1) := by decide +kernel
theorem dX4_price_11 : decode cX4_price 11 = .ok (.lreturn, 1) := by decide +kernel
theorem dX6_init_0 : decode cX6_init 0 = .ok (.aload_n 0, 1) := by decide +kernel
theorem dX6_init_1 : decode cX6_init 1 = .ok (.invokespecial 3, 3) := by decide +kernel
theorem dX6_init_4 : decode cX6_init 4 = .ok (.aload_n 0, 1) := by decide +kernel
theorem dX6_init_5 : decode cX6_init 5 = .ok (.bipush 6, 2) := by decide +kernel
theorem dX6_init_7 : decode cX6_init 7 = .ok (.bipush 7, 2) := by decide +kernel
theorem dX6_init_9 : decode cX6_init 9 = .ok (.multianewarray 9 2, 4) := by decide +kernel
theorem dX6_init_13 : decode cX6_init 13 = .ok (.putfield 11, 3) := by decide +kernel
theorem dX6_init_16 : decode cX6_init 16 = .ok (.aload_n 0, 1) := by decide +kernel
theorem dX6_init_17 : decode cX6_init 17 = .ok (.bipush 6, 2) := by decide +kernel
theorem dX6_init_19 : decode cX6_init 19 = .ok (.newarray .int, 2) := by decide +kernel
theorem dX6_init_21 : decode cX6_init 21 = .ok (.putfield 16, 3) := by decide +kernel
theorem dX6_init_24 : decode cX6_init 24 = .ok (.aload_n 0, 1) := by decide +kernel
theorem dX6_init_25 : decode cX6_init 25 = .ok (.bipush 6, 2) := by decide +kernel
theorem dX6_init_27 : decode cX6_init 27 = .ok (.newarray .long, 2) := by decide +kernel
theorem dX6_init_29 : decode cX6_init 29 = .ok (.putfield 20, 3) := by decide +kernel
theorem dX6_init_32 : decode cX6_init 32 = .ok (.aload_n 0, 1) := by decide +kernel
theorem dX6_init_33 : decode cX6_init 33 = .ok (.lconst 1, 1) := by decide +kernel
theorem dX6_init_34 : decode cX6_init 34 = .ok (.putfield 24, 3) := by decide +kernel
theorem dX6_init_37 : decode cX6_init 37 = .ok (.return_, 1) := by decide +kernel
theorem dX6_answers_0 : decode cX6_answers 0 = .ok (.aload_n 0, 1) := by decide +kernel
theorem dX6_answers_1 : decode cX6_answers 1 = .ok (.iload_n 1, 1) := by decide +kernel
theorem dX6_answers_2 : decode cX6_answers 2 = .ok (.aload_n 3, 1) := by decide +kernel
theorem dX6_answers_3 : decode cX6_answers 3 = .ok (.aload 4, 2) := by decide +kernel
theorem dX6_answers_5 : decode cX6_answers 5 = .ok (.invokevirtual 28, 3) := by decide +kernel
theorem dX6_answers_8 : decode cX6_answers 8 = .ok (.istore 5, 2) := by decide +kernel
theorem dX6_answers_10 : decode cX6_answers 10 = .ok (.aload_n 0, 1) := by decide +kernel
theorem dX6_answers_11 : decode cX6_answers 11 = .ok (.iload 5, 2) := by decide +kernel
theorem dX6_answers_13 : decode cX6_answers 13 = .ok (.invokevirtual 32, 3) := by decide +kernel
theorem dX6_answers_16 : decode cX6_answers 16 = .ok (.ifCond .ne 5, 3) := by decide +kernel
theorem dX6_answers_19 : decode cX6_answers 19 = .ok (.iconst 0, 1) := by decide +kernel
theorem dX6_answers_20 : decode cX6_answers 20 = .ok (.ireturn, 1) := by decide +kernel
theorem dX6_answers_21 : decode cX6_answers 21 = .ok (.aload_n 0, 1) := by decide +kernel
theorem dX6_answers_22 : decode cX6_answers 22 = .ok (.iload 5, 2) := by decide +kernel
theorem dX6_answers_24 : decode cX6_answers 24 = .ok (.ifCond .le 20, 3) := by decide +kernel
theorem dX6_answers_27 : decode cX6_answers 27 = .ok (.aload_n 0, 1) := by decide +kernel
theorem dX6_answers_28 : decode cX6_answers 28 = .ok (.getfield 11, 3) := by decide +kernel
theorem dX6_answers_31 : decode cX6_answers 31 = .ok (.iload 5, 2) := by decide +kernel
theorem dX6_answers_33 : decode cX6_answers 33 = .ok (.iconst 1, 1) := by decide +kernel
theorem dX6_answers_34 : decode cX6_answers 34 = .ok (.isub, 1) := by decide +kernel
theorem dX6_answers_35 : decode cX6_answers 35 = .ok (.aaload, 1) := by decide +kernel
theorem dX6_answers_36 : decode cX6_answers 36 = .ok (.iload 5, 2) := by decide +kernel
theorem dX6_answers_38 : decode cX6_answers 38 = .ok (.iconst 1, 1) := by decide +kernel
theorem dX6_answers_39 : decode cX6_answers 39 = .ok (.isub, 1) := by decide +kernel
theorem dX6_answers_40 : decode cX6_answers 40 = .ok (.laload, 1) := by decide +kernel
theorem dX6_answers_41 : decode cX6_answers 41 = .ok (.goto 4, 3) := by decide +kernel
theorem dX6_answers_44 : decode cX6_answers 44 = .ok (.lconst 1, 1) := by decide +kernel
theorem dX6_answers_45 : decode cX6_answers 45 = .ok (.putfield 24, 3) := by decide +kernel
theorem dX6_answers_48 : decode cX6_answers 48 = .ok (.aload_n 0, 1) := by decide +kernel
theorem dX6_answers_49 : decode cX6_answers 49 = .ok (.getfield 24, 3) := by decide +kernel
theorem dX6_answers_52 : decode cX6_answers 52 = .ok (.lconst 0, 1) := by decide +kernel
theorem dX6_answers_53 : decode cX6_answers 53 = .ok (.lcmp, 1) := by decide +kernel
theorem dX6_answers_54 : decode cX6_answers 54 = .ok (.ifCond .ge 9, 3) := by decide +kernel
theorem dX6_answers_57 : decode cX6_answers 57 = .ok (.ldc2_w 36, 3) := by decide +kernel
theorem dX6_answers_60 : decode cX6_answers 60 = .ok (.goto 4, 3) := by decide +kernel
theorem dX6_answers_63 : decode cX6_answers 63 = .ok (.lconst 1, 1) := by decide +kernel
theorem dX6_answers_64 : decode cX6_answers 64 = .ok (.lstore 6, 2) := by decide +kernel
theorem dX6_answers_66 : decode cX6_answers 66 = .ok (.aload_n 0, 1) := by decide +kernel
theorem dX6_answers_67 : decode cX6_answers 67 = .ok (.dup, 1) := by decide +kernel
theorem dX6_answers_68 : decode cX6_answers 68 = .ok (.getfield 24, 3) := by decide +kernel
theorem dX6_answers_71 : decode cX6_answers 71 = .ok (.lload 6, 2) := by decide +kernel
theorem dX6_answers_73 : decode cX6_answers 73 = .ok (.lmul, 1) := by decide +kernel
theorem dX6_answers_74 : decode cX6_answers 74 = .ok (.putfield 24, 3) := by decide +kernel
theorem dX6_answers_77 : decode cX6_answers 77 = .ok (.iconst 0, 1) := by decide +kernel
theorem dX6_answers_78 : decode cX6_answers 78 = .ok (.istore 8, 2) := by decide +kernel
theorem dX6_answers_80 : decode cX6_answers 80 = .ok (.iload 8, 2) := by decide +kernel
theorem dX6_answers_82 : decode cX6_answers 82 = .ok (.iload 5, 2) := by decide +kernel
theorem dX6_answers_84 : decode cX6_answers 84 = .ok (.if_icmp .ge 47, 3) := by decide +kernel
theorem dX6_answers_87 : decode cX6_answers 87 = .ok (.aload_n 0, 1) := by decide +kernel
theorem dX6_answers_88 : decode cX6_answers 88 = .ok (.getfield 11, 3) := by decide +kernel
theorem dX6_answers_91 : decode cX6_answers 91 = .ok (.iload 8, 2) := by decide +kernel
theorem dX6_answers_93 : decode cX6_answers 93 = .ok (.aaload, 1) := by decide +kernel
theorem dX6_answers_94 : decode cX6_answers 94 = .ok (.iload 5, 2) := by decide +kernel
theorem dX6_answers_96 : decode cX6_answers 96 = .ok (.laload, 1) := by decide +kernel
theorem dX6_answers_97 : decode cX6_answers 97 = .ok (.lload 6, 2) := by decide +kernel
theorem dX6_answers_99 : decode cX6_answers 99 = .ok (.lmul, 1) := by decide +kernel
theorem dX6_answers_100 : decode cX6_answers 100 = .ok (.lstore 9, 2) := by decide +kernel
theorem dX6_answers_102 : decode cX6_answers 102 = .ok (.lload 9, 2) := by decide +kernel
theorem dX6_answers_104 : decode cX6_answers 104 = .ok (.lconst 0, 1) := by decide +kernel
theorem dX6_answers_105 : decode cX6_answers 105 = .ok (.lcmp, 1) := by decide +kernel
theorem dX6_answers_106 : decode cX6_answers 106 = .ok (.ifCond .gt 5, 3) := by decide +kernel
theorem dX6_answers_109 : decode cX6_answers 109 = .ok (.iconst 0, 1) := by decide +kernel
theorem dX6_answers_110 : decode cX6_answers 110 = .ok (.ireturn, 1) := by decide +kernel
theorem dX6_answers_111 : decode cX6_answers 111 = .ok (.aload_n 0, 1) := by decide +kernel
theorem dX6_answers_112 : decode cX6_answers 112 = .ok (.getfield 20, 3) := by decide +kernel
theorem dX6_answers_115 : decode cX6_answers 115 = .ok (.aload_n 0, 1) := by decide +kernel
theorem dX6_answers_116 : decode cX6_answers 116 = .ok (.getfield 16, 3) := by decide +kernel
theorem dX6_answers_119 : decode cX6_answers 119 = .ok (.iload 8, 2) := by decide +kernel
theorem dX6_answers_121 : decode cX6_answers 121 = .ok (.iaload, 1) := by decide +kernel
theorem dX6_answers_122 : decode cX6_answers 122 = .ok (.lload 9, 2) := by decide +kernel
theorem dX6_answers_124 : decode cX6_answers 124 = .ok (.lastore, 1) := by decide +kernel
theorem dX6_answers_125 : decode cX6_answers 125 = .ok (.iinc 8 1, 3) := by decide +kernel
theorem dX6_answers_128 : decode cX6_answers 128 = .ok (.goto (-48), 3) := by decide +kernel
theorem dX6_answers_131 : decode cX6_answers 131 = .ok (.aload_n 0, 1) := by decide +kernel
theorem dX6_answers_132 : decode cX6_answers 132 = .ok (.iload_n 1, 1) := by decide +kernel
theorem dX6_answers_133 : decode cX6_answers 133 = .ok (.iload_n 2, 1) := by decide +kernel
theorem dX6_answers_134 : decode cX6_answers 134 = .ok (.aload_n 3, 1) := by decide +kernel
theorem dX6_answers_135 : decode cX6_answers 135 = .ok (.aload 4, 2) := by decide +kernel
theorem dX6_answers_137 : decode cX6_answers 137 = .ok (.invokevirtual 38, 3) := by decide +kernel
theorem dX6_answers_140 : decode cX6_answers 140 = .ok (.ireturn, 1) := by decide +kernel
theorem dX6_fill_0 : decode cX6_fill 0 = .ok (.iconst 0, 1) := by decide +kernel
theorem dX6_fill_1 : decode cX6_fill 1 = .ok (.istore 4, 2) := by decide +kernel
theorem dX6_fill_3 : decode cX6_fill 3 = .ok (.iconst 0, 1) := by decide +kernel
theorem dX6_fill_4 : decode cX6_fill 4 = .ok (.istore 5, 2) := by decide +kernel
theorem dX6_fill_6 : decode cX6_fill 6 = .ok (.iload 5, 2) := by decide +kernel
theorem dX6_fill_8 : decode cX6_fill 8 = .ok (.bipush 6, 2) := by decide +kernel
theorem dX6_fill_10 : decode cX6_fill 10 = .ok (.if_icmp .ge 31, 3) := by decide +kernel
theorem dX6_fill_13 : decode cX6_fill 13 = .ok (.iload_n 1, 1) := by decide +kernel
theorem dX6_fill_14 : decode cX6_fill 14 = .ok (.i2l, 1) := by decide +kernel
theorem dX6_fill_15 : decode cX6_fill 15 = .ok (.iload 5, 2) := by decide +kernel
theorem dX6_fill_17 : decode cX6_fill 17 = .ok (.invokestatic 42, 3) := by decide +kernel
theorem dX6_fill_20 : decode cX6_fill 20 = .ok (.ifCond .eq 15, 3) := by decide +kernel
theorem dX6_fill_23 : decode cX6_fill 23 = .ok (.aload_n 0, 1) := by decide +kernel
theorem dX6_fill_24 : decode cX6_fill 24 = .ok (.getfield 16, 3) := by decide +kernel
theorem dX6_fill_27 : decode cX6_fill 27 = .ok (.iload 4, 2) := by decide +kernel
theorem dX6_fill_29 : decode cX6_fill 29 = .ok (.iload 5, 2) := by decide +kernel
theorem dX6_fill_31 : decode cX6_fill 31 = .ok (.iastore, 1) := by decide +kernel
theorem dX6_fill_32 : decode cX6_fill 32 = .ok (.iinc 4 1, 3) := by decide +kernel
theorem dX6_fill_35 : decode cX6_fill 35 = .ok (.iinc 5 1, 3) := by decide +kernel
theorem dX6_fill_38 : decode cX6_fill 38 = .ok (.goto (-32), 3) := by decide +kernel
theorem dX6_fill_41 : decode cX6_fill 41 = .ok (.iconst 0, 1) := by decide +kernel
theorem dX6_fill_42 : decode cX6_fill 42 = .ok (.istore 5, 2) := by decide +kernel
theorem dX6_fill_44 : decode cX6_fill 44 = .ok (.iload 5, 2) := by decide +kernel
theorem dX6_fill_46 : decode cX6_fill 46 = .ok (.iload 4, 2) := by decide +kernel
theorem dX6_fill_48 : decode cX6_fill 48 = .ok (.if_icmp .ge 85, 3) := by decide +kernel
theorem dX6_fill_51 : decode cX6_fill 51 = .ok (.iconst 0, 1) := by decide +kernel
theorem dX6_fill_52 : decode cX6_fill 52 = .ok (.istore 6, 2) := by decide +kernel
theorem dX6_fill_54 : decode cX6_fill 54 = .ok (.iload 6, 2) := by decide +kernel
theorem dX6_fill_56 : decode cX6_fill 56 = .ok (.iload 4, 2) := by decide +kernel
theorem dX6_fill_58 : decode cX6_fill 58 = .ok (.if_icmp .ge 50, 3) := by decide +kernel
theorem dX6_fill_61 : decode cX6_fill 61 = .ok (.aload_n 0, 1) := by decide +kernel
theorem dX6_fill_62 : decode cX6_fill 62 = .ok (.getfield 11, 3) := by decide +kernel
theorem dX6_fill_65 : decode cX6_fill 65 = .ok (.iload 5, 2) := by decide +kernel
theorem dX6_fill_67 : decode cX6_fill 67 = .ok (.aaload, 1) := by decide +kernel
theorem dX6_fill_68 : decode cX6_fill 68 = .ok (.iload 6, 2) := by decide +kernel
theorem dX6_fill_70 : decode cX6_fill 70 = .ok (.iload 5, 2) := by decide +kernel
theorem dX6_fill_72 : decode cX6_fill 72 = .ok (.iload 6, 2) := by decide +kernel
theorem dX6_fill_74 : decode cX6_fill 74 = .ok (.if_icmp .ne 7, 3) := by decide +kernel
theorem dX6_fill_77 : decode cX6_fill 77 = .ok (.lconst 1, 1) := by decide +kernel
theorem dX6_fill_78 : decode cX6_fill 78 = .ok (.goto 23, 3) := by decide +kernel
theorem dX6_fill_81 : decode cX6_fill 81 = .ok (.aload_n 2, 1) := by decide +kernel
theorem dX6_fill_82 : decode cX6_fill 82 = .ok (.aload_n 0, 1) := by decide +kernel
theorem dX6_fill_83 : decode cX6_fill 83 = .ok (.getfield 16, 3) := by decide +kernel
theorem dX6_fill_86 : decode cX6_fill 86 = .ok (.iload 5, 2) := by decide +kernel
theorem dX6_fill_88 : decode cX6_fill 88 = .ok (.iaload, 1) := by decide +kernel
theorem dX6_fill_89 : decode cX6_fill 89 = .ok (.iaload, 1) := by decide +kernel
theorem dX6_fill_90 : decode cX6_fill 90 = .ok (.aload_n 0, 1) := by decide +kernel
theorem dX6_fill_91 : decode cX6_fill 91 = .ok (.getfield 16, 3) := by decide +kernel
theorem dX6_fill_94 : decode cX6_fill 94 = .ok (.iload 6, 2) := by decide +kernel
theorem dX6_fill_96 : decode cX6_fill 96 = .ok (.iaload, 1) := by decide +kernel
theorem dX6_fill_97 : decode cX6_fill 97 = .ok (.ishr, 1) := by decide +kernel
theorem dX6_fill_98 : decode cX6_fill 98 = .ok (.iconst 1, 1) := by decide +kernel
theorem dX6_fill_99 : decode cX6_fill 99 = .ok (.iand, 1) := by decide +kernel
theorem dX6_fill_100 : decode cX6_fill 100 = .ok (.i2l, 1) := by decide +kernel
theorem dX6_fill_101 : decode cX6_fill 101 = .ok (.lastore, 1) := by decide +kernel
theorem dX6_fill_102 : decode cX6_fill 102 = .ok (.iinc 6 1, 3) := by decide +kernel
theorem dX6_fill_105 : decode cX6_fill 105 = .ok (.goto (-51), 3) := by decide +kernel
theorem dX6_fill_108 : decode cX6_fill 108 = .ok (.aload_n 0, 1) := by decide +kernel
theorem dX6_fill_109 : decode cX6_fill 109 = .ok (.getfield 11, 3) := by decide +kernel
theorem dX6_fill_112 : decode cX6_fill 112 = .ok (.iload 5, 2) := by decide +kernel
theorem dX6_fill_114 : decode cX6_fill 114 = .ok (.aaload, 1) := by decide +kernel
theorem dX6_fill_115 : decode cX6_fill 115 = .ok (.iload 4, 2) := by decide +kernel
theorem dX6_fill_117 : decode cX6_fill 117 = .ok (.aload_n 3, 1) := by decide +kernel
theorem dX6_fill_118 : decode cX6_fill 118 = .ok (.aload_n 0, 1) := by decide +kernel
theorem dX6_fill_119 : decode cX6_fill 119 = .ok (.getfield 16, 3) := by decide +kernel
theorem dX6_fill_122 : decode cX6_fill 122 = .ok (.iload 5, 2) := by decide +kernel
theorem dX6_fill_124 : decode cX6_fill 124 = .ok (.iaload, 1) := by decide +kernel
theorem dX6_fill_125 : decode cX6_fill 125 = .ok (.laload, 1) := by decide +kernel
theorem dX6_fill_126 : decode cX6_fill 126 = .ok (.lastore, 1) := by decide +kernel
theorem dX6_fill_127 : decode cX6_fill 127 = .ok (.iinc 5 1, 3) := by decide +kernel
theorem dX6_fill_130 : decode cX6_fill 130 = .ok (.goto (-86), 3) := by decide +kernel
theorem dX6_fill_133 : decode cX6_fill 133 = .ok (.iload 4, 2) := by decide +kernel
theorem dX6_fill_135 : decode cX6_fill 135 = .ok (.ireturn, 1) := by decide +kernel
theorem dX6_eliminate_0 : decode cX6_eliminate 0 = .ok (.lconst 1, 1) := by decide +kernel
theorem dX6_eliminate_1 : decode cX6_eliminate 1 = .ok (.lstore_n 2, 1) := by decide +kernel
theorem dX6_eliminate_2 : decode cX6_eliminate 2 = .ok (.iconst 0, 1) := by decide +kernel
theorem dX6_eliminate_3 : decode cX6_eliminate 3 = .ok (.istore 4, 2) := by decide +kernel
theorem dX6_eliminate_5 : decode cX6_eliminate 5 = .ok (.iload 4, 2) := by decide +kernel
theorem dX6_eliminate_7 : decode cX6_eliminate 7 = .ok (.iload_n 1, 1) := by decide +kernel
theorem dX6_eliminate_8 : decode cX6_eliminate 8 = .ok (.if_icmp .ge 123, 3) := by decide +kernel
theorem dX6_eliminate_11 : decode cX6_eliminate 11 = .ok (.aload_n 0, 1) := by decide +kernel
theorem dX6_eliminate_12 : decode cX6_eliminate 12 = .ok (.iload 4, 2) := by decide +kernel
theorem dX6_eliminate_14 : decode cX6_eliminate 14 = .ok (.iload_n 1, 1) := by decide +kernel
theorem dX6_eliminate_15 : decode cX6_eliminate 15 = .ok (.invokevirtual 46, 3) := by decide +kernel
theorem dX6_eliminate_18 : decode cX6_eliminate 18 = .ok (.ifCond .eq 9, 3) := by decide +kernel
theorem dX6_eliminate_21 : decode cX6_eliminate 21 = .ok (.lload_n 2, 1) := by decide +kernel
theorem dX6_eliminate_22 : decode cX6_eliminate 22 = .ok (.lconst 0, 1) := by decide +kernel
theorem dX6_eliminate_23 : decode cX6_eliminate 23 = .ok (.lcmp, 1) := by decide +kernel
theorem dX6_eliminate_24 : decode cX6_eliminate 24 = .ok (.ifCond .ne 5, 3) := by decide +kernel
theorem dX6_eliminate_27 : decode cX6_eliminate 27 = .ok (.iconst 0, 1) := by decide +kernel
theorem dX6_eliminate_28 : decode cX6_eliminate 28 = .ok (.ireturn, 1) := by decide +kernel
theorem dX6_eliminate_29 : decode cX6_eliminate 29 = .ok (.aload_n 0, 1) := by decide +kernel
theorem dX6_eliminate_30 : decode cX6_eliminate 30 = .ok (.getfield 11, 3) := by decide +kernel
theorem dX6_eliminate_33 : decode cX6_eliminate 33 = .ok (.iload 4, 2) := by decide +kernel
theorem dX6_eliminate_35 : decode cX6_eliminate 35 = .ok (.aaload, 1) := by decide +kernel
theorem dX6_eliminate_36 : decode cX6_eliminate 36 = .ok (.astore 5, 2) := by decide +kernel
theorem dX6_eliminate_38 : decode cX6_eliminate 38 = .ok (.aload 5, 2) := by decide +kernel
theorem dX6_eliminate_40 : decode cX6_eliminate 40 = .ok (.iload 4, 2) := by decide +kernel
theorem dX6_eliminate_42 : decode cX6_eliminate 42 = .ok (.laload, 1) := by decide +kernel
theorem dX6_eliminate_43 : decode cX6_eliminate 43 = .ok (.lstore 6, 2) := by decide +kernel
theorem dX6_eliminate_45 : decode cX6_eliminate 45 = .ok (.iconst 0, 1) := by decide +kernel
theorem dX6_eliminate_46 : decode cX6_eliminate 46 = .ok (.istore 8, 2) := by decide +kernel
theorem dX6_eliminate_48 : decode cX6_eliminate 48 = .ok (.iload 8, 2) := by decide +kernel
theorem dX6_eliminate_50 : decode cX6_eliminate 50 = .ok (.iload_n 1, 1) := by decide +kernel
theorem dX6_eliminate_51 : decode cX6_eliminate 51 = .ok (.if_icmp .ge 71, 3) := by decide +kernel
theorem dX6_eliminate_54 : decode cX6_eliminate 54 = .ok (.aload_n 0, 1) := by decide +kernel
theorem dX6_eliminate_55 : decode cX6_eliminate 55 = .ok (.getfield 11, 3) := by decide +kernel
theorem dX6_eliminate_58 : decode cX6_eliminate 58 = .ok (.iload 8, 2) := by decide +kernel
theorem dX6_eliminate_60 : decode cX6_eliminate 60 = .ok (.aaload, 1) := by decide +kernel
theorem dX6_eliminate_61 : decode cX6_eliminate 61 = .ok (.astore 9, 2) := by decide +kernel
theorem dX6_eliminate_63 : decode cX6_eliminate 63 = .ok (.aload 9, 2) := by decide +kernel
theorem dX6_eliminate_65 : decode cX6_eliminate 65 = .ok (.iload 4, 2) := by decide +kernel
theorem dX6_eliminate_67 : decode cX6_eliminate 67 = .ok (.laload, 1) := by decide +kernel
theorem dX6_eliminate_68 : decode cX6_eliminate 68 = .ok (.lstore 10, 2) := by decide +kernel
theorem dX6_eliminate_70 : decode cX6_eliminate 70 = .ok (.iconst 0, 1) := by decide +kernel
theorem dX6_eliminate_71 : decode cX6_eliminate 71 = .ok (.istore 12, 2) := by decide +kernel
theorem dX6_eliminate_73 : decode cX6_eliminate 73 = .ok (.iload 12, 2) := by decide +kernel
theorem dX6_eliminate_75 : decode cX6_eliminate 75 = .ok (.iload_n 1, 1) := by decide +kernel
theorem dX6_eliminate_76 : decode cX6_eliminate 76 = .ok (.if_icmp .gt 40, 3) := by decide +kernel
theorem dX6_eliminate_79 : decode cX6_eliminate 79 = .ok (.iload 8, 2) := by decide +kernel
theorem dX6_eliminate_81 : decode cX6_eliminate 81 = .ok (.iload 4, 2) := by decide +kernel
theorem dX6_eliminate_83 : decode cX6_eliminate 83 = .ok (.if_icmp .eq 33, 3) := by decide +kernel
theorem dX6_eliminate_86 : decode cX6_eliminate 86 = .ok (.aload 9, 2) := by decide +kernel
theorem dX6_eliminate_88 : decode cX6_eliminate 88 = .ok (.iload 12, 2) := by decide +kernel
theorem dX6_eliminate_90 : decode cX6_eliminate 90 = .ok (.aload 9, 2) := by decide +kernel
theorem dX6_eliminate_92 : decode cX6_eliminate 92 = .ok (.iload 12, 2) := by decide +kernel
theorem dX6_eliminate_94 : decode cX6_eliminate 94 = .ok (.laload, 1) := by decide +kernel
theorem dX6_eliminate_95 : decode cX6_eliminate 95 = .ok (.lload 6, 2) := by decide +kernel
theorem dX6_eliminate_97 : decode cX6_eliminate 97 = .ok (.lmul, 1) := by decide +kernel
theorem dX6_eliminate_98 : decode cX6_eliminate 98 = .ok (.lload 10, 2) := by decide +kernel
theorem dX6_eliminate_100 : decode cX6_eliminate 100 = .ok (.aload 5, 2) := by decide +kernel
theorem dX6_eliminate_102 : decode cX6_eliminate 102 = .ok (.iload 12, 2) := by decide +kernel
theorem dX6_eliminate_104 : decode cX6_eliminate 104 = .ok (.laload, 1) := by decide +kernel
theorem dX6_eliminate_105 : decode cX6_eliminate 105 = .ok (.lmul, 1) := by decide +kernel
theorem dX6_eliminate_106 : decode cX6_eliminate 106 = .ok (.lsub, 1) := by decide +kernel
theorem dX6_eliminate_107 : decode cX6_eliminate 107 = .ok (.lload_n 2, 1) := by decide +kernel
theorem dX6_eliminate_108 : decode cX6_eliminate 108 = .ok (.ldiv, 1) := by decide +kernel
theorem dX6_eliminate_109 : decode cX6_eliminate 109 = .ok (.lastore, 1) := by decide +kernel
theorem dX6_eliminate_110 : decode cX6_eliminate 110 = .ok (.iinc 12 1, 3) := by decide +kernel
theorem dX6_eliminate_113 : decode cX6_eliminate 113 = .ok (.goto (-40), 3) := by decide +kernel
theorem dX6_eliminate_116 : decode cX6_eliminate 116 = .ok (.iinc 8 1, 3) := by decide +kernel
theorem dX6_eliminate_119 : decode cX6_eliminate 119 = .ok (.goto (-71), 3) := by decide +kernel
theorem dX6_eliminate_122 : decode cX6_eliminate 122 = .ok (.lload 6, 2) := by decide +kernel
theorem dX6_eliminate_124 : decode cX6_eliminate 124 = .ok (.lstore_n 2, 1) := by decide +kernel
theorem dX6_eliminate_125 : decode cX6_eliminate 125 = .ok (.iinc 4 1, 3) := by decide +kernel
theorem dX6_eliminate_128 : decode cX6_eliminate 128 = .ok (.goto (-123), 3) := by decide +kernel
theorem dX6_eliminate_131 : decode cX6_eliminate 131 = .ok (.iconst 1, 1) := by decide +kernel
theorem dX6_eliminate_132 : decode cX6_eliminate 132 = .ok (.ireturn, 1) := by decide +kernel
theorem dX6_bringPivot_0 : decode cX6_bringPivot 0 = .ok (.iload_n 1, 1) := by decide +kernel
theorem dX6_bringPivot_1 : decode cX6_bringPivot 1 = .ok (.istore_n 3, 1) := by decide +kernel
theorem dX6_bringPivot_2 : decode cX6_bringPivot 2 = .ok (.iload_n 3, 1) := by decide +kernel
theorem dX6_bringPivot_3 : decode cX6_bringPivot 3 = .ok (.iload_n 2, 1) := by decide +kernel
theorem dX6_bringPivot_4 : decode cX6_bringPivot 4 = .ok (.if_icmp .ge 52, 3) := by decide +kernel
theorem dX6_bringPivot_7 : decode cX6_bringPivot 7 = .ok (.aload_n 0, 1) := by decide +kernel
theorem dX6_bringPivot_8 : decode cX6_bringPivot 8 = .ok (.getfield 11, 3) := by decide +kernel
theorem dX6_bringPivot_11 : decode cX6_bringPivot 11 = .ok (.iload_n 3, 1) := by decide +kernel
theorem dX6_bringPivot_12 : decode cX6_bringPivot 12 = .ok (.aaload, 1) := by decide +kernel
theorem dX6_bringPivot_13 : decode cX6_bringPivot 13 = .ok (.iload_n 1, 1) := by decide +kernel
theorem dX6_bringPivot_14 : decode cX6_bringPivot 14 = .ok (.laload, 1) := by decide +kernel
theorem dX6_bringPivot_15 : decode cX6_bringPivot 15 = .ok (.lconst 0, 1) := by decide +kernel
theorem dX6_bringPivot_16 : decode cX6_bringPivot 16 = .ok (.lcmp, 1) := by decide +kernel
theorem dX6_bringPivot_17 : decode cX6_bringPivot 17 = .ok (.ifCond .eq 33, 3) := by decide +kernel
theorem dX6_bringPivot_20 : decode cX6_bringPivot 20 = .ok (.aload_n 0, 1) := by decide +kernel
theorem dX6_bringPivot_21 : decode cX6_bringPivot 21 = .ok (.getfield 11, 3) := by decide +kernel
theorem dX6_bringPivot_24 : decode cX6_bringPivot 24 = .ok (.iload_n 3, 1) := by decide +kernel
theorem dX6_bringPivot_25 : decode cX6_bringPivot 25 = .ok (.aaload, 1) := by decide +kernel
theorem dX6_bringPivot_26 : decode cX6_bringPivot 26 = .ok (.astore 4, 2) := by decide +kernel
theorem dX6_bringPivot_28 : decode cX6_bringPivot 28 = .ok (.aload_n 0, 1) := by decide +kernel
theorem dX6_bringPivot_29 : decode cX6_bringPivot 29 = .ok (.getfield 11, 3) := by decide +kernel
theorem dX6_bringPivot_32 : decode cX6_bringPivot 32 = .ok (.iload_n 3, 1) := by decide +kernel
theorem dX6_bringPivot_33 : decode cX6_bringPivot 33 = .ok (.aload_n 0, 1) := by decide +kernel
theorem dX6_bringPivot_34 : decode cX6_bringPivot 34 = .ok (.getfield 11, 3) := by decide +kernel
theorem dX6_bringPivot_37 : decode cX6_bringPivot 37 = .ok (.iload_n 1, 1) := by decide +kernel
theorem dX6_bringPivot_38 : decode cX6_bringPivot 38 = .ok (.aaload, 1) := by decide +kernel
theorem dX6_bringPivot_39 : decode cX6_bringPivot 39 = .ok (.aastore, 1) := by decide +kernel
theorem dX6_bringPivot_40 : decode cX6_bringPivot 40 = .ok (.aload_n 0, 1) := by decide +kernel
theorem dX6_bringPivot_41 : decode cX6_bringPivot 41 = .ok (.getfield 11, 3) := by decide +kernel
theorem dX6_bringPivot_44 : decode cX6_bringPivot 44 = .ok (.iload_n 1, 1) := by decide +kernel
theorem dX6_bringPivot_45 : decode cX6_bringPivot 45 = .ok (.aload 4, 2) := by decide +kernel
theorem dX6_bringPivot_47 : decode cX6_bringPivot 47 = .ok (.aastore, 1) := by decide +kernel
theorem dX6_bringPivot_48 : decode cX6_bringPivot 48 = .ok (.iconst 1, 1) := by decide +kernel
theorem dX6_bringPivot_49 : decode cX6_bringPivot 49 = .ok (.ireturn, 1) := by decide +kernel
theorem dX6_bringPivot_50 : decode cX6_bringPivot 50 = .ok (.iinc 3 1, 3) := by decide +kernel
theorem dX6_bringPivot_53 : decode cX6_bringPivot 53 = .ok (.goto (-51), 3) := by decide +kernel
theorem dX6_bringPivot_56 : decode cX6_bringPivot 56 = .ok (.iconst 0, 1) := by decide +kernel
theorem dX6_bringPivot_57 : decode cX6_bringPivot 57 = .ok (.ireturn, 1) := by decide +kernel
theorem dX6_othersTakeNothing_0 : decode cX6_othersTakeNothing 0 = .ok (.iconst 0, 1) := by decide +kernel
theorem dX6_othersTakeNothing_1 : decode cX6_othersTakeNothing 1 = .ok (.istore 5, 2) := by decide +kernel
theorem dX6_othersTakeNothing_3 : decode cX6_othersTakeNothing 3 = .ok (.iload 5, 2) := by decide +kernel
theorem dX6_othersTakeNothing_5 : decode cX6_othersTakeNothing 5 = .ok (.bipush 6, 2) := by decide +kernel
theorem dX6_othersTakeNothing_7 : decode cX6_othersTakeNothing 7 = .ok (.if_icmp .ge 91, 3) := by decide +kernel
theorem dX6_othersTakeNothing_10 : decode cX6_othersTakeNothing 10 = .ok (.iload_n 2, 1) := by decide +kernel
theorem dX6_othersTakeNothing_11 : decode cX6_othersTakeNothing 11 = .ok (.iload_n 1, 1) := by decide +kernel
theorem dX6_othersTakeNothing_12 : decode cX6_othersTakeNothing 12 = .ok (.iconst (-1), 1) := by decide +kernel
theorem dX6_othersTakeNothing_13 : decode cX6_othersTakeNothing 13 = .ok (.ixor, 1) := by decide +kernel
theorem dX6_othersTakeNothing_14 : decode cX6_othersTakeNothing 14 = .ok (.iand, 1) := by decide +kernel
theorem dX6_othersTakeNothing_15 : decode cX6_othersTakeNothing 15 = .ok (.i2l, 1) := by decide +kernel
theorem dX6_othersTakeNothing_16 : decode cX6_othersTakeNothing 16 = .ok (.iload 5, 2) := by decide +kernel
theorem dX6_othersTakeNothing_18 : decode cX6_othersTakeNothing 18 = .ok (.invokestatic 42, 3) := by decide +kernel
theorem dX6_othersTakeNothing_21 : decode cX6_othersTakeNothing 21 = .ok (.ifCond .eq 71, 3) := by decide +kernel
theorem dX6_othersTakeNothing_24 : decode cX6_othersTakeNothing 24 = .ok (.aload 4, 2) := by decide +kernel
theorem dX6_othersTakeNothing_26 : decode cX6_othersTakeNothing 26 = .ok (.iload 5, 2) := by decide +kernel
theorem dX6_othersTakeNothing_28 : decode cX6_othersTakeNothing 28 = .ok (.laload, 1) := by decide +kernel
theorem dX6_othersTakeNothing_29 : decode cX6_othersTakeNothing 29 = .ok (.aload_n 0, 1) := by decide +kernel
theorem dX6_othersTakeNothing_30 : decode cX6_othersTakeNothing 30 = .ok (.getfield 24, 3) := by decide +kernel
theorem dX6_othersTakeNothing_33 : decode cX6_othersTakeNothing 33 = .ok (.lmul, 1) := by decide +kernel
theorem dX6_othersTakeNothing_34 : decode cX6_othersTakeNothing 34 = .ok (.lstore 6, 2) := by decide +kernel
theorem dX6_othersTakeNothing_36 : decode cX6_othersTakeNothing 36 = .ok (.iconst 0, 1) := by decide +kernel
theorem dX6_othersTakeNothing_37 : decode cX6_othersTakeNothing 37 = .ok (.istore 8, 2) := by decide +kernel
theorem dX6_othersTakeNothing_39 : decode cX6_othersTakeNothing 39 = .ok (.iload 8, 2) := by decide +kernel
theorem dX6_othersTakeNothing_41 : decode cX6_othersTakeNothing 41 = .ok (.bipush 6, 2) := by decide +kernel
theorem dX6_othersTakeNothing_43 : decode cX6_othersTakeNothing 43 = .ok (.if_icmp .ge 40, 3) := by decide +kernel
theorem dX6_othersTakeNothing_46 : decode cX6_othersTakeNothing 46 = .ok (.lload 6, 2) := by decide +kernel
theorem dX6_othersTakeNothing_48 : decode cX6_othersTakeNothing 48 = .ok (.iload_n 1, 1) := by decide +kernel
theorem dX6_othersTakeNothing_49 : decode cX6_othersTakeNothing 49 = .ok (.aload_n 3, 1) := by decide +kernel
theorem dX6_othersTakeNothing_50 : decode cX6_othersTakeNothing 50 = .ok (.iload 5, 2) := by decide +kernel
theorem dX6_othersTakeNothing_52 : decode cX6_othersTakeNothing 52 = .ok (.iaload, 1) := by decide +kernel
theorem dX6_othersTakeNothing_53 : decode cX6_othersTakeNothing 53 = .ok (.iand, 1) := by decide +kernel
theorem dX6_othersTakeNothing_54 : decode cX6_othersTakeNothing 54 = .ok (.i2l, 1) := by decide +kernel
theorem dX6_othersTakeNothing_55 : decode cX6_othersTakeNothing 55 = .ok (.iload 8, 2) := by decide +kernel
theorem dX6_othersTakeNothing_57 : decode cX6_othersTakeNothing 57 = .ok (.invokestatic 42, 3) := by decide +kernel
theorem dX6_othersTakeNothing_60 : decode cX6_othersTakeNothing 60 = .ok (.ifCond .eq 13, 3) := by decide +kernel
theorem dX6_othersTakeNothing_63 : decode cX6_othersTakeNothing 63 = .ok (.aload_n 0, 1) := by decide +kernel
theorem dX6_othersTakeNothing_64 : decode cX6_othersTakeNothing 64 = .ok (.getfield 20, 3) := by decide +kernel
theorem dX6_othersTakeNothing_67 : decode cX6_othersTakeNothing 67 = .ok (.iload 8, 2) := by decide +kernel
theorem dX6_othersTakeNothing_69 : decode cX6_othersTakeNothing 69 = .ok (.laload, 1) := by decide +kernel
theorem dX6_othersTakeNothing_70 : decode cX6_othersTakeNothing 70 = .ok (.goto 4, 3) := by decide +kernel
theorem dX6_othersTakeNothing_73 : decode cX6_othersTakeNothing 73 = .ok (.lconst 0, 1) := by decide +kernel
theorem dX6_othersTakeNothing_74 : decode cX6_othersTakeNothing 74 = .ok (.lsub, 1) := by decide +kernel
theorem dX6_othersTakeNothing_75 : decode cX6_othersTakeNothing 75 = .ok (.lstore 6, 2) := by decide +kernel
theorem dX6_othersTakeNothing_77 : decode cX6_othersTakeNothing 77 = .ok (.iinc 8 1, 3) := by decide +kernel
theorem dX6_othersTakeNothing_80 : decode cX6_othersTakeNothing 80 = .ok (.goto (-41), 3) := by decide +kernel
theorem dX6_othersTakeNothing_83 : decode cX6_othersTakeNothing 83 = .ok (.lload 6, 2) := by decide +kernel
theorem dX6_othersTakeNothing_85 : decode cX6_othersTakeNothing 85 = .ok (.lconst 0, 1) := by decide +kernel
theorem dX6_othersTakeNothing_86 : decode cX6_othersTakeNothing 86 = .ok (.lcmp, 1) := by decide +kernel
theorem dX6_othersTakeNothing_87 : decode cX6_othersTakeNothing 87 = .ok (.ifCond .le 5, 3) := by decide +kernel
theorem dX6_othersTakeNothing_90 : decode cX6_othersTakeNothing 90 = .ok (.iconst 0, 1) := by decide +kernel
theorem dX6_othersTakeNothing_91 : decode cX6_othersTakeNothing 91 = .ok (.ireturn, 1) := by decide +kernel
theorem dX6_othersTakeNothing_92 : decode cX6_othersTakeNothing 92 = .ok (.iinc 5 1, 3) := by decide +kernel
theorem dX6_othersTakeNothing_95 : decode cX6_othersTakeNothing 95 = .ok (.goto (-92), 3) := by decide +kernel
theorem dX6_othersTakeNothing_98 : decode cX6_othersTakeNothing 98 = .ok (.iconst 1, 1) := by decide +kernel
theorem dX6_othersTakeNothing_99 : decode cX6_othersTakeNothing 99 = .ok (.ireturn, 1) := by decide +kernel
theorem dX6_told_0 : decode cX6_told 0 = .ok (.aload_n 0, 1) := by decide +kernel
theorem dX6_told_1 : decode cX6_told 1 = .ok (.getfield 24, 3) := by decide +kernel
theorem dX6_told_4 : decode cX6_told 4 = .ok (.lconst 0, 1) := by decide +kernel
theorem dX6_told_5 : decode cX6_told 5 = .ok (.lcmp, 1) := by decide +kernel
theorem dX6_told_6 : decode cX6_told 6 = .ok (.ifCond .ne 7, 3) := by decide +kernel
theorem dX6_told_9 : decode cX6_told 9 = .ok (.lconst 0, 1) := by decide +kernel
theorem dX6_told_10 : decode cX6_told 10 = .ok (.goto 14, 3) := by decide +kernel
theorem dX6_told_13 : decode cX6_told 13 = .ok (.aload_n 0, 1) := by decide +kernel
theorem dX6_told_14 : decode cX6_told 14 = .ok (.getfield 20, 3) := by decide +kernel
theorem dX6_told_17 : decode cX6_told 17 = .ok (.iload_n 1, 1) := by decide +kernel
theorem dX6_told_18 : decode cX6_told 18 = .ok (.laload, 1) := by decide +kernel
theorem dX6_told_19 : decode cX6_told 19 = .ok (.aload_n 0, 1) := by decide +kernel
theorem dX6_told_20 : decode cX6_told 20 = .ok (.getfield 24, 3) := by decide +kernel
theorem dX6_told_23 : decode cX6_told 23 = .ok (.ldiv, 1) := by decide +kernel
theorem dX6_told_24 : decode cX6_told 24 = .ok (.lreturn, 1) := by decide +kernel
theorem dX7_init_0 : decode cX7_init 0 = .ok (.aload_n 0, 1) := by decide +kernel
theorem dX7_init_1 : decode cX7_init 1 = .ok (.invokespecial 3, 3) := by decide +kernel
theorem dX7_init_4 : decode cX7_init 4 = .ok (.aload_n 0, 1) := by decide +kernel
theorem dX7_init_5 : decode cX7_init 5 = .ok (.bipush 6, 2) := by decide +kernel
theorem dX7_init_7 : decode cX7_init 7 = .ok (.newarray .int, 2) := by decide +kernel
theorem dX7_init_9 : decode cX7_init 9 = .ok (.putfield 9, 3) := by decide +kernel
theorem dX7_init_12 : decode cX7_init 12 = .ok (.aload_n 0, 1) := by decide +kernel
theorem dX7_init_13 : decode cX7_init 13 = .ok (.iconst (-1), 1) := by decide +kernel
theorem dX7_init_14 : decode cX7_init 14 = .ok (.putfield 15, 3) := by decide +kernel
theorem dX7_init_17 : decode cX7_init 17 = .ok (.aload_n 0, 1) := by decide +kernel
theorem dX7_init_18 : decode cX7_init 18 = .ok (.iconst (-1), 1) := by decide +kernel
theorem dX7_init_19 : decode cX7_init 19 = .ok (.putfield 19, 3) := by decide +kernel
theorem dX7_init_22 : decode cX7_init 22 = .ok (.return_, 1) := by decide +kernel
theorem dX7_become_0 : decode cX7_become 0 = .ok (.aload_n 1, 1) := by decide +kernel
theorem dX7_become_1 : decode cX7_become 1 = .ok (.getfield 9, 3) := by decide +kernel
theorem dX7_become_4 : decode cX7_become 4 = .ok (.iconst 0, 1) := by decide +kernel
theorem dX7_become_5 : decode cX7_become 5 = .ok (.aload_n 0, 1) := by decide +kernel
theorem dX7_become_6 : decode cX7_become 6 = .ok (.getfield 9, 3) := by decide +kernel
theorem dX7_become_9 : decode cX7_become 9 = .ok (.iconst 0, 1) := by decide +kernel
theorem dX7_become_10 : decode cX7_become 10 = .ok (.bipush 6, 2) := by decide +kernel
theorem dX7_become_12 : decode cX7_become 12 = .ok (.invokestatic 22, 3) := by decide +kernel
theorem dX7_become_15 : decode cX7_become 15 = .ok (.aload_n 0, 1) := by decide +kernel
theorem dX7_become_16 : decode cX7_become 16 = .ok (.aload_n 1, 1) := by decide +kernel
theorem dX7_become_17 : decode cX7_become 17 = .ok (.getfield 28, 3) := by decide +kernel
theorem dX7_become_20 : decode cX7_become 20 = .ok (.putfield 28, 3) := by decide +kernel
theorem dX7_become_23 : decode cX7_become 23 = .ok (.aload_n 0, 1) := by decide +kernel
theorem dX7_become_24 : decode cX7_become 24 = .ok (.aload_n 1, 1) := by decide +kernel
theorem dX7_become_25 : decode cX7_become 25 = .ok (.getfield 31, 3) := by decide +kernel
theorem dX7_become_28 : decode cX7_become 28 = .ok (.putfield 31, 3) := by decide +kernel
theorem dX7_become_31 : decode cX7_become 31 = .ok (.aload_n 0, 1) := by decide +kernel
theorem dX7_become_32 : decode cX7_become 32 = .ok (.aload_n 1, 1) := by decide +kernel
theorem dX7_become_33 : decode cX7_become 33 = .ok (.getfield 15, 3) := by decide +kernel
theorem dX7_become_36 : decode cX7_become 36 = .ok (.putfield 15, 3) := by decide +kernel
theorem dX7_become_39 : decode cX7_become 39 = .ok (.aload_n 0, 1) := by decide +kernel
theorem dX7_become_40 : decode cX7_become 40 = .ok (.aload_n 1, 1) := by decide +kernel
theorem dX7_become_41 : decode cX7_become 41 = .ok (.getfield 19, 3) := by decide +kernel
theorem dX7_become_44 : decode cX7_become 44 = .ok (.putfield 19, 3) := by decide +kernel
theorem dX7_become_47 : decode cX7_become 47 = .ok (.return_, 1) := by decide +kernel
theorem dX7_shift_0 : decode cX7_shift 0 = .ok (.aload_n 0, 1) := by decide +kernel
theorem dX7_shift_1 : decode cX7_shift 1 = .ok (.getfield 9, 3) := by decide +kernel
theorem dX7_shift_4 : decode cX7_shift 4 = .ok (.iload_n 1, 1) := by decide +kernel
theorem dX7_shift_5 : decode cX7_shift 5 = .ok (.dup2, 1) := by decide +kernel
theorem dX7_shift_6 : decode cX7_shift 6 = .ok (.iaload, 1) := by decide +kernel
theorem dX7_shift_7 : decode cX7_shift 7 = .ok (.iload_n 3, 1) := by decide +kernel
theorem dX7_shift_8 : decode cX7_shift 8 = .ok (.isub, 1) := by decide +kernel
theorem dX7_shift_9 : decode cX7_shift 9 = .ok (.iastore, 1) := by decide +kernel
theorem dX7_shift_10 : decode cX7_shift 10 = .ok (.aload_n 0, 1) := by decide +kernel
theorem dX7_shift_11 : decode cX7_shift 11 = .ok (.getfield 9, 3) := by decide +kernel
theorem dX7_shift_14 : decode cX7_shift 14 = .ok (.iload_n 2, 1) := by decide +kernel
theorem dX7_shift_15 : decode cX7_shift 15 = .ok (.dup2, 1) := by decide +kernel
theorem dX7_shift_16 : decode cX7_shift 16 = .ok (.iaload, 1) := by decide +kernel
theorem dX7_shift_17 : decode cX7_shift 17 = .ok (.iload_n 3, 1) := by decide +kernel
theorem dX7_shift_18 : decode cX7_shift 18 = .ok (.iadd, 1) := by decide +kernel
theorem dX7_shift_19 : decode cX7_shift 19 = .ok (.iastore, 1) := by decide +kernel
theorem dX7_shift_20 : decode cX7_shift 20 = .ok (.return_, 1) := by decide +kernel
theorem dX7_add_0 : decode cX7_add 0 = .ok (.iload_n 1, 1) := by decide +kernel
theorem dX7_add_1 : decode cX7_add 1 = .ok (.iconst (-1), 1) := by decide +kernel
theorem dX7_add_2 : decode cX7_add 2 = .ok (.if_icmp .ne 16, 3) := by decide +kernel
theorem dX7_add_5 : decode cX7_add 5 = .ok (.aload_n 0, 1) := by decide +kernel
theorem dX7_add_6 : decode cX7_add 6 = .ok (.dup, 1) := by decide +kernel
theorem dX7_add_7 : decode cX7_add 7 = .ok (.getfield 28, 3) := by decide +kernel
theorem dX7_add_10 : decode cX7_add 10 = .ok (.iload_n 2, 1) := by decide +kernel
theorem dX7_add_11 : decode cX7_add 11 = .ok (.iadd, 1) := by decide +kernel
theorem dX7_add_12 : decode cX7_add 12 = .ok (.putfield 28, 3) := by decide +kernel
theorem dX7_add_15 : decode cX7_add 15 = .ok (.goto 13, 3) := by decide +kernel
theorem dX7_add_18 : decode cX7_add 18 = .ok (.aload_n 0, 1) := by decide +kernel
theorem dX7_add_19 : decode cX7_add 19 = .ok (.getfield 9, 3) := by decide +kernel
theorem dX7_add_22 : decode cX7_add 22 = .ok (.iload_n 1, 1) := by decide +kernel
theorem dX7_add_23 : decode cX7_add 23 = .ok (.dup2, 1) := by decide +kernel
theorem dX7_add_24 : decode cX7_add 24 = .ok (.iaload, 1) := by decide +kernel
theorem dX7_add_25 : decode cX7_add 25 = .ok (.iload_n 2, 1) := by decide +kernel
theorem dX7_add_26 : decode cX7_add 26 = .ok (.iadd, 1) := by decide +kernel
theorem dX7_add_27 : decode cX7_add 27 = .ok (.iastore, 1) := by decide +kernel
theorem dX7_add_28 : decode cX7_add 28 = .ok (.return_, 1) := by decide +kernel
theorem dX7_fill_0 : decode cX7_fill 0 = .ok (.aload_n 2, 1) := by decide +kernel
theorem dX7_fill_1 : decode cX7_fill 1 = .ok (.iconst 0, 1) := by decide +kernel
theorem dX7_fill_2 : decode cX7_fill 2 = .ok (.aload_n 0, 1) := by decide +kernel
theorem dX7_fill_3 : decode cX7_fill 3 = .ok (.getfield 9, 3) := by decide +kernel
theorem dX7_fill_6 : decode cX7_fill 6 = .ok (.iload_n 1, 1) := by decide +kernel
theorem dX7_fill_7 : decode cX7_fill 7 = .ok (.iaload, 1) := by decide +kernel
theorem dX7_fill_8 : decode cX7_fill 8 = .ok (.iastore, 1) := by decide +kernel
theorem dX7_fill_9 : decode cX7_fill 9 = .ok (.aload_n 2, 1) := by decide +kernel
theorem dX7_fill_10 : decode cX7_fill 10 = .ok (.iconst 1, 1) := by decide +kernel
theorem dX7_fill_11 : decode cX7_fill 11 = .ok (.aload_n 0, 1) := by decide +kernel
theorem dX7_fill_12 : decode cX7_fill 12 = .ok (.getfield 31, 3) := by decide +kernel
theorem dX7_fill_15 : decode cX7_fill 15 = .ok (.i2l, 1) := by decide +kernel
theorem dX7_fill_16 : decode cX7_fill 16 = .ok (.iload_n 1, 1) := by decide +kernel
theorem dX7_fill_17 : decode cX7_fill 17 = .ok (.invokestatic 34, 3) := by decide +kernel
theorem dX7_fill_20 : decode cX7_fill 20 = .ok (.ifCond .eq 7, 3) := by decide +kernel
theorem dX7_fill_23 : decode cX7_fill 23 = .ok (.iconst 1, 1) := by decide +kernel
theorem dX7_fill_24 : decode cX7_fill 24 = .ok (.goto 4, 3) := by decide +kernel
theorem dX7_fill_27 : decode cX7_fill 27 = .ok (.iconst 0, 1) := by decide +kernel
theorem dX7_fill_28 : decode cX7_fill 28 = .ok (.iastore, 1) := by decide +kernel
theorem dX7_fill_29 : decode cX7_fill 29 = .ok (.aload_n 2, 1) := by decide +kernel
theorem dX7_fill_30 : decode cX7_fill 30 = .ok (.iconst 2, 1) := by decide +kernel
theorem dX7_fill_31 : decode cX7_fill 31 = .ok (.aload_n 0, 1) := by decide +kernel
theorem dX7_fill_32 : decode cX7_fill 32 = .ok (.getfield 15, 3) := by decide +kernel
theorem dX7_fill_35 : decode cX7_fill 35 = .ok (.iload_n 1, 1) := by decide +kernel
theorem dX7_fill_36 : decode cX7_fill 36 = .ok (.if_icmp .ne 7, 3) := by decide +kernel
theorem dX7_fill_39 : decode cX7_fill 39 = .ok (.iconst 1, 1) := by decide +kernel
theorem dX7_fill_40 : decode cX7_fill 40 = .ok (.goto 4, 3) := by decide +kernel
theorem dX7_fill_43 : decode cX7_fill 43 = .ok (.iconst 0, 1) := by decide +kernel
theorem dX7_fill_44 : decode cX7_fill 44 = .ok (.iastore, 1) := by decide +kernel
theorem dX7_fill_45 : decode cX7_fill 45 = .ok (.aload_n 2, 1) := by decide +kernel
theorem dX7_fill_46 : decode cX7_fill 46 = .ok (.iconst 3, 1) := by decide +kernel
theorem dX7_fill_47 : decode cX7_fill 47 = .ok (.aload_n 0, 1) := by decide +kernel
theorem dX7_fill_48 : decode cX7_fill 48 = .ok (.getfield 19, 3) := by decide +kernel
theorem dX7_fill_51 : decode cX7_fill 51 = .ok (.iload_n 1, 1) := by decide +kernel
theorem dX7_fill_52 : decode cX7_fill 52 = .ok (.if_icmp .ne 7, 3) := by decide +kernel
theorem dX7_fill_55 : decode cX7_fill 55 = .ok (.iconst 1, 1) := by decide +kernel
theorem dX7_fill_56 : decode cX7_fill 56 = .ok (.goto 4, 3) := by decide +kernel
theorem dX7_fill_59 : decode cX7_fill 59 = .ok (.iconst 0, 1) := by decide +kernel
theorem dX7_fill_60 : decode cX7_fill 60 = .ok (.iastore, 1) := by decide +kernel
theorem dX7_fill_61 : decode cX7_fill 61 = .ok (.aload_n 2, 1) := by decide +kernel
theorem dX7_fill_62 : decode cX7_fill 62 = .ok (.iconst 4, 1) := by decide +kernel
theorem dX7_fill_63 : decode cX7_fill 63 = .ok (.aload_n 0, 1) := by decide +kernel
theorem dX7_fill_64 : decode cX7_fill 64 = .ok (.iload_n 1, 1) := by decide +kernel
theorem dX7_fill_65 : decode cX7_fill 65 = .ok (.invokevirtual 38, 3) := by decide +kernel
theorem dX7_fill_68 : decode cX7_fill 68 = .ok (.iastore, 1) := by decide +kernel
theorem dX7_fill_69 : decode cX7_fill 69 = .ok (.aload_n 2, 1) := by decide +kernel
theorem dX7_fill_70 : decode cX7_fill 70 = .ok (.iconst 5, 1) := by decide +kernel
theorem dX7_fill_71 : decode cX7_fill 71 = .ok (.iconst 0, 1) := by decide +kernel
theorem dX7_fill_72 : decode cX7_fill 72 = .ok (.iastore, 1) := by decide +kernel
theorem dX7_fill_73 : decode cX7_fill 73 = .ok (.aload_n 2, 1) := by decide +kernel
theorem dX7_fill_74 : decode cX7_fill 74 = .ok (.bipush 6, 2) := by decide +kernel
theorem dX7_fill_76 : decode cX7_fill 76 = .ok (.iconst 0, 1) := by decide +kernel
theorem dX7_fill_77 : decode cX7_fill 77 = .ok (.iastore, 1) := by decide +kernel
theorem dX7_fill_78 : decode cX7_fill 78 = .ok (.aload_n 2, 1) := by decide +kernel
theorem dX7_fill_79 : decode cX7_fill 79 = .ok (.bipush 7, 2) := by decide +kernel
theorem dX7_fill_81 : decode cX7_fill 81 = .ok (.iconst 0, 1) := by decide +kernel
theorem dX7_fill_82 : decode cX7_fill 82 = .ok (.iastore, 1) := by decide +kernel
theorem dX7_fill_83 : decode cX7_fill 83 = .ok (.return_, 1) := by decide +kernel
theorem dX7_mostBut_0 : decode cX7_mostBut 0 = .ok (.iconst 0, 1) := by decide +kernel
theorem dX7_mostBut_1 : decode cX7_mostBut 1 = .ok (.istore_n 2, 1) := by decide +kernel
theorem dX7_mostBut_2 : decode cX7_mostBut 2 = .ok (.iconst 0, 1) := by decide +kernel
theorem dX7_mostBut_3 : decode cX7_mostBut 3 = .ok (.istore_n 3, 1) := by decide +kernel
theorem dX7_mostBut_4 : decode cX7_mostBut 4 = .ok (.iload_n 3, 1) := by decide +kernel
theorem dX7_mostBut_5 : decode cX7_mostBut 5 = .ok (.bipush 6, 2) := by decide +kernel
theorem dX7_mostBut_7 : decode cX7_mostBut 7 = .ok (.if_icmp .ge 25, 3) := by decide +kernel
theorem dX7_mostBut_10 : decode cX7_mostBut 10 = .ok (.iload_n 3, 1) := by decide +kernel
theorem dX7_mostBut_11 : decode cX7_mostBut 11 = .ok (.iload_n 1, 1) := by decide +kernel
theorem dX7_mostBut_12 : decode cX7_mostBut 12 = .ok (.if_icmp .eq 14, 3) := by decide +kernel
theorem dX7_mostBut_15 : decode cX7_mostBut 15 = .ok (.iload_n 2, 1) := by decide +kernel
theorem dX7_mostBut_16 : decode cX7_mostBut 16 = .ok (.aload_n 0, 1) := by decide +kernel
theorem dX7_mostBut_17 : decode cX7_mostBut 17 = .ok (.getfield 9, 3) := by decide +kernel
theorem dX7_mostBut_20 : decode cX7_mostBut 20 = .ok (.iload_n 3, 1) := by decide +kernel
theorem dX7_mostBut_21 : decode cX7_mostBut 21 = .ok (.iaload, 1) := by decide +kernel
theorem dX7_mostBut_22 : decode cX7_mostBut 22 = .ok (.invokestatic 42, 3) := by decide +kernel
theorem dX7_mostBut_25 : decode cX7_mostBut 25 = .ok (.istore_n 2, 1) := by decide +kernel
theorem dX7_mostBut_26 : decode cX7_mostBut 26 = .ok (.iinc 3 1, 3) := by decide +kernel
theorem dX7_mostBut_29 : decode cX7_mostBut 29 = .ok (.goto (-25), 3) := by decide +kernel
theorem dX7_mostBut_32 : decode cX7_mostBut 32 = .ok (.iload_n 2, 1) := by decide +kernel
theorem dX7_mostBut_33 : decode cX7_mostBut 33 = .ok (.ireturn, 1) := by decide +kernel
theorem dX8_init_0 : decode cX8_init 0 = .ok (.aload_n 0, 1) := by decide +kernel
theorem dX8_init_1 : decode cX8_init 1 = .ok (.invokespecial 1, 3) := by decide +kernel
theorem dX8_init_4 : decode cX8_init 4 = .ok (.return_, 1) := by decide +kernel
theorem dX9_init_0 : decode cX9_init 0 = .ok (.aload_n 0, 1) := by decide +kernel
theorem dX9_init_1 : decode cX9_init 1 = .ok (.invokespecial 3, 3) := by decide +kernel
theorem dX9_init_4 : decode cX9_init 4 = .ok (.aload_n 0, 1) := by decide +kernel
theorem dX9_init_5 : decode cX9_init 5 = .ok (.sipush 360, 3) := by decide +kernel
theorem dX9_init_8 : decode cX9_init 8 = .ok (.newarray .int, 2) := by decide +kernel
theorem dX9_init_10 : decode cX9_init 10 = .ok (.putfield 9, 3) := by decide +kernel
theorem dX9_init_13 : decode cX9_init 13 = .ok (.aload_n 0, 1) := by decide +kernel
theorem dX9_init_14 : decode cX9_init 14 = .ok (.new 15, 3) := by decide +kernel
theorem dX9_init_17 : decode cX9_init 17 = .ok (.dup, 1) := by decide +kernel
theorem dX9_init_18 : decode cX9_init 18 = .ok (.invokespecial 17, 3) := by decide +kernel
theorem dX9_init_21 : decode cX9_init 21 = .ok (.putfield 18, 3) := by decide +kernel
theorem dX9_init_24 : decode cX9_init 24 = .ok (.aload_n 0, 1) := by decide +kernel
theorem dX9_init_25 : decode cX9_init 25 = .ok (.bipush 12, 2) := by decide +kernel
theorem dX9_init_27 : decode cX9_init 27 = .ok (.anewarray 22, 3) := by decide +kernel
theorem dX9_init_30 : decode cX9_init 30 = .ok (.putfield 24, 3) := by decide +kernel
theorem dX9_init_33 : decode cX9_init 33 = .ok (.iconst 0, 1) := by decide +kernel
theorem dX9_init_34 : decode cX9_init 34 = .ok (.istore_n 1, 1) := by decide +kernel
theorem dX9_init_35 : decode cX9_init 35 = .ok (.iload_n 1, 1) := by decide +kernel
theorem dX9_init_36 : decode cX9_init 36 = .ok (.sipush 360, 3) := by decide +kernel
theorem dX9_init_39 : decode cX9_init 39 = .ok (.if_icmp .ge 16, 3) := by decide +kernel
theorem dX9_init_42 : decode cX9_init 42 = .ok (.aload_n 0, 1) := by decide +kernel
theorem dX9_init_43 : decode cX9_init 43 = .ok (.getfield 9, 3) := by decide +kernel
theorem dX9_init_46 : decode cX9_init 46 = .ok (.iload_n 1, 1) := by decide +kernel
theorem dX9_init_47 : decode cX9_init 47 = .ok (.iconst (-1), 1) := by decide +kernel
theorem dX9_init_48 : decode cX9_init 48 = .ok (.iastore, 1) := by decide +kernel
theorem dX9_init_49 : decode cX9_init 49 = .ok (.iinc 1 1, 3) := by decide +kernel
theorem dX9_init_52 : decode cX9_init 52 = .ok (.goto (-17), 3) := by decide +kernel
theorem dX9_init_55 : decode cX9_init 55 = .ok (.aload_n 0, 1) := by decide +kernel
theorem dX9_init_56 : decode cX9_init 56 = .ok (.getfield 18, 3) := by decide +kernel
theorem dX9_init_59 : decode cX9_init 59 = .ok (.sipush 360, 3) := by decide +kernel
theorem dX9_init_62 : decode cX9_init 62 = .ok (.putfield 28, 3) := by decide +kernel
theorem dX9_init_65 : decode cX9_init 65 = .ok (.iconst 0, 1) := by decide +kernel
theorem dX9_init_66 : decode cX9_init 66 = .ok (.istore_n 1, 1) := by decide +kernel
theorem dX9_init_67 : decode cX9_init 67 = .ok (.iload_n 1, 1) := by decide +kernel
theorem dX9_init_68 : decode cX9_init 68 = .ok (.bipush 12, 2) := by decide +kernel
theorem dX9_init_70 : decode cX9_init 70 = .ok (.if_icmp .ge 22, 3) := by decide +kernel
theorem dX9_init_73 : decode cX9_init 73 = .ok (.aload_n 0, 1) := by decide +kernel
theorem dX9_init_74 : decode cX9_init 74 = .ok (.getfield 24, 3) := by decide +kernel
theorem dX9_init_77 : decode cX9_init 77 = .ok (.iload_n 1, 1) := by decide +kernel
theorem dX9_init_78 : decode cX9_init 78 = .ok (.new 22, 3) := by decide +kernel
theorem dX9_init_81 : decode cX9_init 81 = .ok (.dup, 1) := by decide +kernel
theorem dX9_init_82 : decode cX9_init 82 = .ok (.invokespecial 32, 3) := by decide +kernel
theorem dX9_init_85 : decode cX9_init 85 = .ok (.aastore, 1) := by decide +kernel
theorem dX9_init_86 : decode cX9_init 86 = .ok (.iinc 1 1, 3) := by decide +kernel
theorem dX9_init_89 : decode cX9_init 89 = .ok (.goto (-22), 3) := by decide +kernel
theorem dX9_init_92 : decode cX9_init 92 = .ok (.return_, 1) := by decide +kernel
theorem dX9_tells_0 : decode cX9_tells 0 = .ok (.iload_n 1, 1) := by decide +kernel
theorem dX9_tells_1 : decode cX9_tells 1 = .ok (.ifCond .lt 15, 3) := by decide +kernel
theorem dX9_tells_4 : decode cX9_tells 4 = .ok (.iload_n 1, 1) := by decide +kernel
theorem dX9_tells_5 : decode cX9_tells 5 = .ok (.aload_n 0, 1) := by decide +kernel
theorem dX9_tells_6 : decode cX9_tells 6 = .ok (.getfield 33, 3) := by decide +kernel
theorem dX9_tells_9 : decode cX9_tells 9 = .ok (.if_icmp .ge 7, 3) := by decide +kernel
theorem dX9_tells_12 : decode cX9_tells 12 = .ok (.iconst 1, 1) := by decide +kernel
theorem dX9_tells_13 : decode cX9_tells 13 = .ok (.goto 4, 3) := by decide +kernel
theorem dX9_tells_16 : decode cX9_tells 16 = .ok (.iconst 0, 1) := by decide +kernel
theorem dX9_tells_17 : decode cX9_tells 17 = .ok (.ireturn, 1) := by decide +kernel
theorem dX9_spend_0 : decode cX9_spend 0 = .ok (.iload_n 1, 1) := by decide +kernel
theorem dX9_spend_1 : decode cX9_spend 1 = .ok (.iconst 0, 1) := by decide +kernel
theorem dX9_spend_2 : decode cX9_spend 2 = .ok (.invokestatic 36, 3) := by decide +kernel
theorem dX9_spend_5 : decode cX9_spend 5 = .ok (.istore 4, 2) := by decide +kernel
theorem dX9_spend_7 : decode cX9_spend 7 = .ok (.iload 4, 2) := by decide +kernel
theorem dX9_spend_9 : decode cX9_spend 9 = .ok (.iload_n 2, 1) := by decide +kernel
theorem dX9_spend_10 : decode cX9_spend 10 = .ok (.if_icmp .gt 49, 3) := by decide +kernel
theorem dX9_spend_13 : decode cX9_spend 13 = .ok (.iload 4, 2) := by decide +kernel
theorem dX9_spend_15 : decode cX9_spend 15 = .ok (.sipush 360, 3) := by decide +kernel
theorem dX9_spend_18 : decode cX9_spend 18 = .ok (.if_icmp .ge 41, 3) := by decide +kernel
theorem dX9_spend_21 : decode cX9_spend 21 = .ok (.aload_n 0, 1) := by decide +kernel
theorem dX9_spend_22 : decode cX9_spend 22 = .ok (.getfield 18, 3) := by decide +kernel
theorem dX9_spend_25 : decode cX9_spend 25 = .ok (.aload_n 0, 1) := by decide +kernel
theorem dX9_spend_26 : decode cX9_spend 26 = .ok (.getfield 9, 3) := by decide +kernel
theorem dX9_spend_29 : decode cX9_spend 29 = .ok (.iload 4, 2) := by decide +kernel
theorem dX9_spend_31 : decode cX9_spend 31 = .ok (.iaload, 1) := by decide +kernel
theorem dX9_spend_32 : decode cX9_spend 32 = .ok (.iconst (-1), 1) := by decide +kernel
theorem dX9_spend_33 : decode cX9_spend 33 = .ok (.invokevirtual 42, 3) := by decide +kernel
theorem dX9_spend_36 : decode cX9_spend 36 = .ok (.aload_n 0, 1) := by decide +kernel
theorem dX9_spend_37 : decode cX9_spend 37 = .ok (.getfield 18, 3) := by decide +kernel
theorem dX9_spend_40 : decode cX9_spend 40 = .ok (.iload_n 3, 1) := by decide +kernel
theorem dX9_spend_41 : decode cX9_spend 41 = .ok (.iconst 1, 1) := by decide +kernel
theorem dX9_spend_42 : decode cX9_spend 42 = .ok (.invokevirtual 42, 3) := by decide +kernel
theorem dX9_spend_45 : decode cX9_spend 45 = .ok (.aload_n 0, 1) := by decide +kernel
theorem dX9_spend_46 : decode cX9_spend 46 = .ok (.getfield 9, 3) := by decide +kernel
theorem dX9_spend_49 : decode cX9_spend 49 = .ok (.iload 4, 2) := by decide +kernel
theorem dX9_spend_51 : decode cX9_spend 51 = .ok (.iload_n 3, 1) := by decide +kernel
theorem dX9_spend_52 : decode cX9_spend 52 = .ok (.iastore, 1) := by decide +kernel
theorem dX9_spend_53 : decode cX9_spend 53 = .ok (.iinc 4 1, 3) := by decide +kernel
theorem dX9_spend_56 : decode cX9_spend 56 = .ok (.goto (-49), 3) := by decide +kernel
theorem dX9_spend_59 : decode cX9_spend 59 = .ok (.return_, 1) := by decide +kernel
theorem dX9_moved_0 : decode cX9_moved 0 = .ok (.aload_n 3, 1) := by decide +kernel
theorem dX9_moved_1 : decode cX9_moved 1 = .ok (.aload_n 0, 1) := by decide +kernel
theorem dX9_moved_2 : decode cX9_moved 2 = .ok (.getfield 18, 3) := by decide +kernel
theorem dX9_moved_5 : decode cX9_moved 5 = .ok (.invokevirtual 46, 3) := by decide +kernel
theorem dX9_moved_8 : decode cX9_moved 8 = .ok (.iload_n 1, 1) := by decide +kernel
theorem dX9_moved_9 : decode cX9_moved 9 = .ok (.iconst 0, 1) := by decide +kernel
theorem dX9_moved_10 : decode cX9_moved 10 = .ok (.invokestatic 36, 3) := by decide +kernel
theorem dX9_moved_13 : decode cX9_moved 13 = .ok (.istore 4, 2) := by decide +kernel
theorem dX9_moved_15 : decode cX9_moved 15 = .ok (.iload 4, 2) := by decide +kernel
theorem dX9_moved_17 : decode cX9_moved 17 = .ok (.sipush 360, 3) := by decide +kernel
theorem dX9_moved_20 : decode cX9_moved 20 = .ok (.if_icmp .ge 27, 3) := by decide +kernel
theorem dX9_moved_23 : decode cX9_moved 23 = .ok (.aload_n 3, 1) := by decide +kernel
theorem dX9_moved_24 : decode cX9_moved 24 = .ok (.aload_n 0, 1) := by decide +kernel
theorem dX9_moved_25 : decode cX9_moved 25 = .ok (.getfield 9, 3) := by decide +kernel
theorem dX9_moved_28 : decode cX9_moved 28 = .ok (.iload 4, 2) := by decide +kernel
theorem dX9_moved_30 : decode cX9_moved 30 = .ok (.iaload, 1) := by decide +kernel
theorem dX9_moved_31 : decode cX9_moved 31 = .ok (.iconst (-1), 1) := by decide +kernel
theorem dX9_moved_32 : decode cX9_moved 32 = .ok (.invokevirtual 42, 3) := by decide +kernel
theorem dX9_moved_35 : decode cX9_moved 35 = .ok (.aload_n 3, 1) := by decide +kernel
theorem dX9_moved_36 : decode cX9_moved 36 = .ok (.iload_n 2, 1) := by decide +kernel
theorem dX9_moved_37 : decode cX9_moved 37 = .ok (.iconst 1, 1) := by decide +kernel
theorem dX9_moved_38 : decode cX9_moved 38 = .ok (.invokevirtual 42, 3) := by decide +kernel
theorem dX9_moved_41 : decode cX9_moved 41 = .ok (.iinc 4 1, 3) := by decide +kernel
theorem dX9_moved_44 : decode cX9_moved 44 = .ok (.goto (-29), 3) := by decide +kernel
theorem dX9_moved_47 : decode cX9_moved 47 = .ok (.aload_n 3, 1) := by decide +kernel
theorem dX9_moved_48 : decode cX9_moved 48 = .ok (.iconst 1, 1) := by decide +kernel
theorem dX9_moved_49 : decode cX9_moved 49 = .ok (.iload_n 2, 1) := by decide +kernel
theorem dX9_moved_50 : decode cX9_moved 50 = .ok (.ishl, 1) := by decide +kernel
theorem dX9_moved_51 : decode cX9_moved 51 = .ok (.putfield 50, 3) := by decide +kernel
theorem dX9_moved_54 : decode cX9_moved 54 = .ok (.return_, 1) := by decide +kernel
theorem dX9_base_0 : decode cX9_base 0 = .ok (.lconst 0, 1) := by decide +kernel
theorem dX9_base_1 : decode cX9_base 1 = .ok (.lstore_n 1, 1) := by decide +kernel
theorem dX9_base_2 : decode cX9_base 2 = .ok (.iconst 0, 1) := by decide +kernel
theorem dX9_base_3 : decode cX9_base 3 = .ok (.istore_n 3, 1) := by decide +kernel
theorem dX9_base_4 : decode cX9_base 4 = .ok (.iload_n 3, 1) := by decide +kernel
theorem dX9_base_5 : decode cX9_base 5 = .ok (.aload_n 0, 1) := by decide +kernel
theorem dX9_base_6 : decode cX9_base 6 = .ok (.getfield 33, 3) := by decide +kernel
theorem dX9_base_9 : decode cX9_base 9 = .ok (.if_icmp .ge 22, 3) := by decide +kernel
theorem dX9_base_12 : decode cX9_base 12 = .ok (.lload_n 1, 1) := by decide +kernel
theorem dX9_base_13 : decode cX9_base 13 = .ok (.aload_n 0, 1) := by decide +kernel
theorem dX9_base_14 : decode cX9_base 14 = .ok (.getfield 24, 3) := by decide +kernel
theorem dX9_base_17 : decode cX9_base 17 = .ok (.iload_n 3, 1) := by decide +kernel
theorem dX9_base_18 : decode cX9_base 18 = .ok (.aaload, 1) := by decide +kernel
theorem dX9_base_19 : decode cX9_base 19 = .ok (.getfield 53, 3) := by decide +kernel
theorem dX9_base_22 : decode cX9_base 22 = .ok (.i2l, 1) := by decide +kernel
theorem dX9_base_23 : decode cX9_base 23 = .ok (.ladd, 1) := by decide +kernel
theorem dX9_base_24 : decode cX9_base 24 = .ok (.lstore_n 1, 1) := by decide +kernel
theorem dX9_base_25 : decode cX9_base 25 = .ok (.iinc 3 1, 3) := by decide +kernel
theorem dX9_base_28 : decode cX9_base 28 = .ok (.goto (-24), 3) := by decide +kernel
theorem dX9_base_31 : decode cX9_base 31 = .ok (.lload_n 1, 1) := by decide +kernel
theorem dX9_base_32 : decode cX9_base 32 = .ok (.lreturn, 1) := by decide +kernel
theorem dJ0_length_8abf5_0 : decode cJ0_length_8abf5 0 = .ok (.aload_n 0, 1) := by decide +kernel
theorem dJ0_length_8abf5_1 : decode cJ0_length_8abf5 1 = .ok (.getfield 9, 3) := by decide +kernel
theorem dJ0_length_8abf5_4 : decode cJ0_length_8abf5 4 = .ok (.arraylength, 1) := by decide +kernel
theorem dJ0_length_8abf5_5 : decode cJ0_length_8abf5 5 = .ok (.aload_n 0, 1) := by decide +kernel
theorem dJ0_length_8abf5_6 : decode cJ0_length_8abf5 6 = .ok (.invokevirtual 335, 3) := by decide +kernel
theorem dJ0_length_8abf5_9 : decode cJ0_length_8abf5 9 = .ok (.ishr, 1) := by decide +kernel
theorem dJ0_length_8abf5_10 : decode cJ0_length_8abf5 10 = .ok (.ireturn, 1) := by decide +kernel
theorem dJ0_charAt_5068e_0 : decode cJ0_charAt_5068e 0 = .ok (.aload_n 0, 1) := by decide +kernel
theorem dJ0_charAt_5068e_1 : decode cJ0_charAt_5068e 1 = .ok (.invokevirtual 492, 3) := by decide +kernel
theorem dJ0_charAt_5068e_4 : decode cJ0_charAt_5068e 4 = .ok (.ifCond .eq 12, 3) := by decide +kernel
theorem dJ0_charAt_5068e_7 : decode cJ0_charAt_5068e 7 = .ok (.aload_n 0, 1) := by decide +kernel
theorem dJ0_charAt_5068e_8 : decode cJ0_charAt_5068e 8 = .ok (.getfield 9, 3) := by decide +kernel
theorem dJ0_charAt_5068e_11 : decode cJ0_charAt_5068e 11 = .ok (.iload_n 1, 1) := by decide +kernel
theorem dJ0_charAt_5068e_12 : decode cJ0_charAt_5068e 12 = .ok (.invokestatic 495, 3) := by decide +kernel
theorem dJ0_charAt_5068e_15 : decode cJ0_charAt_5068e 15 = .ok (.ireturn, 1) := by decide +kernel
theorem dJ0_charAt_5068e_16 : decode cJ0_charAt_5068e 16 = .ok (.aload_n 0, 1) := by decide +kernel
theorem dJ0_charAt_5068e_17 : decode cJ0_charAt_5068e 17 = .ok (.getfield 9, 3) := by decide +kernel
theorem dJ0_charAt_5068e_20 : decode cJ0_charAt_5068e 20 = .ok (.iload_n 1, 1) := by decide +kernel
theorem dJ0_charAt_5068e_21 : decode cJ0_charAt_5068e 21 = .ok (.invokestatic 498, 3) := by decide +kernel
theorem dJ0_charAt_5068e_24 : decode cJ0_charAt_5068e 24 = .ok (.ireturn, 1) := by decide +kernel
theorem dJ0_coder_7d493_0 : decode cJ0_coder_7d493 0 = .ok (.getstatic 38, 3) := by decide +kernel
theorem dJ0_coder_7d493_3 : decode cJ0_coder_7d493 3 = .ok (.ifCond .eq 10, 3) := by decide +kernel
theorem dJ0_coder_7d493_6 : decode cJ0_coder_7d493 6 = .ok (.aload_n 0, 1) := by decide +kernel
theorem dJ0_coder_7d493_7 : decode cJ0_coder_7d493 7 = .ok (.getfield 15, 3) := by decide +kernel
theorem dJ0_coder_7d493_10 : decode cJ0_coder_7d493 10 = .ok (.goto 4, 3) := by decide +kernel
theorem dJ0_coder_7d493_13 : decode cJ0_coder_7d493 13 = .ok (.iconst 1, 1) := by decide +kernel
theorem dJ0_coder_7d493_14 : decode cJ0_coder_7d493 14 = .ok (.ireturn, 1) := by decide +kernel
theorem dJ0_isLatin1_aae02_0 : decode cJ0_isLatin1_aae02 0 = .ok (.getstatic 38, 3) := by decide +kernel
theorem dJ0_isLatin1_aae02_3 : decode cJ0_isLatin1_aae02 3 = .ok (.ifCond .eq 14, 3) := by decide +kernel
theorem dJ0_isLatin1_aae02_6 : decode cJ0_isLatin1_aae02 6 = .ok (.aload_n 0, 1) := by decide +kernel
theorem dJ0_isLatin1_aae02_7 : decode cJ0_isLatin1_aae02 7 = .ok (.getfield 15, 3) := by decide +kernel
theorem dJ0_isLatin1_aae02_10 : decode cJ0_isLatin1_aae02 10 = .ok (.ifCond .ne 7, 3) := by decide +kernel
theorem dJ0_isLatin1_aae02_13 : decode cJ0_isLatin1_aae02 13 = .ok (.iconst 1, 1) := by decide +kernel
theorem dJ0_isLatin1_aae02_14 : decode cJ0_isLatin1_aae02 14 = .ok (.goto 4, 3) := by decide +kernel
theorem dJ0_isLatin1_aae02_17 : decode cJ0_isLatin1_aae02 17 = .ok (.iconst 0, 1) := by decide +kernel
theorem dJ0_isLatin1_aae02_18 : decode cJ0_isLatin1_aae02 18 = .ok (.ireturn, 1) := by decide +kernel
theorem dJ0_checkIndex_df160_0 : decode cJ0_checkIndex_df160 0 = .ok (.iload_n 0, 1) := by decide +kernel
theorem dJ0_checkIndex_df160_1 : decode cJ0_checkIndex_df160 1 = .ok (.iload_n 1, 1) := by decide +kernel
theorem dJ0_checkIndex_df160_2 : decode cJ0_checkIndex_df160 2 = .ok (.getstatic 1053, 3) := by decide +kernel
theorem dJ0_checkIndex_df160_5 : decode cJ0_checkIndex_df160 5 = .ok (.invokestatic 1059, 3) := by decide +kernel
theorem dJ0_checkIndex_df160_8 : decode cJ0_checkIndex_df160 8 = .ok (.pop, 1) := by decide +kernel
theorem dJ0_checkIndex_df160_9 : decode cJ0_checkIndex_df160 9 = .ok (.return_, 1) := by decide +kernel
theorem dJ1_charAt_3b067_0 : decode cJ1_charAt_3b067 0 = .ok (.iload_n 1, 1) := by decide +kernel
theorem dJ1_charAt_3b067_1 : decode cJ1_charAt_3b067 1 = .ok (.aload_n 0, 1) := by decide +kernel
theorem dJ1_charAt_3b067_2 : decode cJ1_charAt_3b067 2 = .ok (.arraylength, 1) := by decide +kernel
theorem dJ1_charAt_3b067_3 : decode cJ1_charAt_3b067 3 = .ok (.invokestatic 9, 3) := by decide +kernel
theorem dJ1_charAt_3b067_6 : decode cJ1_charAt_3b067 6 = .ok (.aload_n 0, 1) := by decide +kernel
theorem dJ1_charAt_3b067_7 : decode cJ1_charAt_3b067 7 = .ok (.iload_n 1, 1) := by decide +kernel
theorem dJ1_charAt_3b067_8 : decode cJ1_charAt_3b067 8 = .ok (.baload, 1) := by decide +kernel
theorem dJ1_charAt_3b067_9 : decode cJ1_charAt_3b067 9 = .ok (.sipush 255, 3) := by decide +kernel
theorem dJ1_charAt_3b067_12 : decode cJ1_charAt_3b067 12 = .ok (.iand, 1) := by decide +kernel
theorem dJ1_charAt_3b067_13 : decode cJ1_charAt_3b067 13 = .ok (.i2c, 1) := by decide +kernel
theorem dJ1_charAt_3b067_14 : decode cJ1_charAt_3b067 14 = .ok (.ireturn, 1) := by decide +kernel
theorem dJ2_getChar_3b067_0 : decode cJ2_getChar_3b067 0 = .ok (.getstatic 44, 3) := by decide +kernel
theorem dJ2_getChar_3b067_3 : decode cJ2_getChar_3b067 3 = .ok (.ifCond .ne 25, 3) := by decide +kernel
theorem dJ2_getChar_3b067_6 : decode cJ2_getChar_3b067 6 = .ok (.iload_n 1, 1) := by decide +kernel
theorem dJ2_getChar_3b067_7 : decode cJ2_getChar_3b067 7 = .ok (.ifCond .lt 11, 3) := by decide +kernel
theorem dJ2_getChar_3b067_10 : decode cJ2_getChar_3b067 10 = .ok (.iload_n 1, 1) := by decide +kernel
theorem dJ2_getChar_3b067_11 : decode cJ2_getChar_3b067 11 = .ok (.aload_n 0, 1) := by decide +kernel
theorem dJ2_getChar_3b067_12 : decode cJ2_getChar_3b067 12 = .ok (.invokestatic 48, 3) := by decide +kernel
theorem dJ2_getChar_3b067_15 : decode cJ2_getChar_3b067 15 = .ok (.if_icmp .lt 13, 3) := by decide +kernel
theorem dJ2_getChar_3b067_18 : decode cJ2_getChar_3b067 18 = .ok (.new 52, 3) := by decide +kernel
theorem dJ2_getChar_3b067_21 : decode cJ2_getChar_3b067 21 = .ok (.dup, 1) := by decide +kernel
theorem dJ2_getChar_3b067_22 : decode cJ2_getChar_3b067 22 = .ok (.ldc 54, 2) := by decide +kernel
theorem dJ2_getChar_3b067_24 : decode cJ2_getChar_3b067 24 = .ok (.invokespecial 56, 3) := by decide +kernel
theorem dJ2_getChar_3b067_27 : decode cJ2_getChar_3b067 27 = .ok (.athrow, 1) := by decide +kernel
theorem dJ2_getChar_3b067_28 : decode cJ2_getChar_3b067 28 = .ok (.iload_n 1, 1) := by decide +kernel
theorem dJ2_getChar_3b067_29 : decode cJ2_getChar_3b067 29 = .ok (.iconst 1, 1) := by decide +kernel
theorem dJ2_getChar_3b067_30 : decode cJ2_getChar_3b067 30 = .ok (.ishl, 1) := by decide +kernel
theorem dJ2_getChar_3b067_31 : decode cJ2_getChar_3b067 31 = .ok (.istore_n 1, 1) := by decide +kernel
theorem dJ2_getChar_3b067_32 : decode cJ2_getChar_3b067 32 = .ok (.aload_n 0, 1) := by decide +kernel
theorem dJ2_getChar_3b067_33 : decode cJ2_getChar_3b067 33 = .ok (.iload_n 1, 1) := by decide +kernel
theorem dJ2_getChar_3b067_34 : decode cJ2_getChar_3b067 34 = .ok (.iinc 1 1, 3) := by decide +kernel
theorem dJ2_getChar_3b067_37 : decode cJ2_getChar_3b067 37 = .ok (.baload, 1) := by decide +kernel
theorem dJ2_getChar_3b067_38 : decode cJ2_getChar_3b067 38 = .ok (.sipush 255, 3) := by decide +kernel
theorem dJ2_getChar_3b067_41 : decode cJ2_getChar_3b067 41 = .ok (.iand, 1) := by decide +kernel
theorem dJ2_getChar_3b067_42 : decode cJ2_getChar_3b067 42 = .ok (.getstatic 59, 3) := by decide +kernel
theorem dJ2_getChar_3b067_45 : decode cJ2_getChar_3b067 45 = .ok (.ishl, 1) := by decide +kernel
theorem dJ2_getChar_3b067_46 : decode cJ2_getChar_3b067 46 = .ok (.aload_n 0, 1) := by decide +kernel
theorem dJ2_getChar_3b067_47 : decode cJ2_getChar_3b067 47 = .ok (.iload_n 1, 1) := by decide +kernel
theorem dJ2_getChar_3b067_48 : decode cJ2_getChar_3b067 48 = .ok (.baload, 1) := by decide +kernel
theorem dJ2_getChar_3b067_49 : decode cJ2_getChar_3b067 49 = .ok (.sipush 255, 3) := by decide +kernel
theorem dJ2_getChar_3b067_52 : decode cJ2_getChar_3b067 52 = .ok (.iand, 1) := by decide +kernel
theorem dJ2_getChar_3b067_53 : decode cJ2_getChar_3b067 53 = .ok (.getstatic 63, 3) := by decide +kernel
theorem dJ2_getChar_3b067_56 : decode cJ2_getChar_3b067 56 = .ok (.ishl, 1) := by decide +kernel
theorem dJ2_getChar_3b067_57 : decode cJ2_getChar_3b067 57 = .ok (.ior, 1) := by decide +kernel
theorem dJ2_getChar_3b067_58 : decode cJ2_getChar_3b067 58 = .ok (.i2c, 1) := by decide +kernel
theorem dJ2_getChar_3b067_59 : decode cJ2_getChar_3b067 59 = .ok (.ireturn, 1) := by decide +kernel
theorem dJ2_length_9d52b_0 : decode cJ2_length_9d52b 0 = .ok (.aload_n 0, 1) := by decide +kernel
theorem dJ2_length_9d52b_1 : decode cJ2_length_9d52b 1 = .ok (.arraylength, 1) := by decide +kernel
theorem dJ2_length_9d52b_2 : decode cJ2_length_9d52b 2 = .ok (.iconst 1, 1) := by decide +kernel
theorem dJ2_length_9d52b_3 : decode cJ2_length_9d52b 3 = .ok (.ishr, 1) := by decide +kernel
theorem dJ2_length_9d52b_4 : decode cJ2_length_9d52b 4 = .ok (.ireturn, 1) := by decide +kernel
theorem dJ2_charAt_3b067_0 : decode cJ2_charAt_3b067 0 = .ok (.iload_n 1, 1) := by decide +kernel
theorem dJ2_charAt_3b067_1 : decode cJ2_charAt_3b067 1 = .ok (.aload_n 0, 1) := by decide +kernel
theorem dJ2_charAt_3b067_2 : decode cJ2_charAt_3b067 2 = .ok (.invokestatic 67, 3) := by decide +kernel
theorem dJ2_charAt_3b067_5 : decode cJ2_charAt_3b067 5 = .ok (.aload_n 0, 1) := by decide +kernel
theorem dJ2_charAt_3b067_6 : decode cJ2_charAt_3b067 6 = .ok (.iload_n 1, 1) := by decide +kernel
theorem dJ2_charAt_3b067_7 : decode cJ2_charAt_3b067 7 = .ok (.invokestatic 71, 3) := by decide +kernel
theorem dJ2_charAt_3b067_10 : decode cJ2_charAt_3b067 10 = .ok (.ireturn, 1) := by decide +kernel
theorem dJ2_checkIndex_2214a_0 : decode cJ2_checkIndex_2214a 0 = .ok (.iload_n 0, 1) := by decide +kernel
theorem dJ2_checkIndex_2214a_1 : decode cJ2_checkIndex_2214a 1 = .ok (.aload_n 1, 1) := by decide +kernel
theorem dJ2_checkIndex_2214a_2 : decode cJ2_checkIndex_2214a 2 = .ok (.invokestatic 48, 3) := by decide +kernel
theorem dJ2_checkIndex_2214a_5 : decode cJ2_checkIndex_2214a 5 = .ok (.invokestatic 414, 3) := by decide +kernel
theorem dJ2_checkIndex_2214a_8 : decode cJ2_checkIndex_2214a 8 = .ok (.return_, 1) := by decide +kernel
theorem dJ3_checkIndex_8e157_0 : decode cJ3_checkIndex_8e157 0 = .ok (.iload_n 0, 1) := by decide +kernel
theorem dJ3_checkIndex_8e157_1 : decode cJ3_checkIndex_8e157 1 = .ok (.ifCond .lt 8, 3) := by decide +kernel
theorem dJ3_checkIndex_8e157_4 : decode cJ3_checkIndex_8e157 4 = .ok (.iload_n 0, 1) := by decide +kernel
theorem dJ3_checkIndex_8e157_5 : decode cJ3_checkIndex_8e157 5 = .ok (.iload_n 1, 1) := by decide +kernel
theorem dJ3_checkIndex_8e157_6 : decode cJ3_checkIndex_8e157 6 = .ok (.if_icmp .lt 10, 3) := by decide +kernel
theorem dJ3_checkIndex_8e157_9 : decode cJ3_checkIndex_8e157 9 = .ok (.aload_n 2, 1) := by decide +kernel
theorem dJ3_checkIndex_8e157_10 : decode cJ3_checkIndex_8e157 10 = .ok (.iload_n 0, 1) := by decide +kernel
theorem dJ3_checkIndex_8e157_11 : decode cJ3_checkIndex_8e157 11 = .ok (.iload_n 1, 1) := by decide +kernel
theorem dJ3_checkIndex_8e157_12 : decode cJ3_checkIndex_8e157 12 = .ok (.invokestatic 95, 3) := by decide +kernel
theorem dJ3_checkIndex_8e157_15 : decode cJ3_checkIndex_8e157 15 = .ok (.athrow, 1) := by decide +kernel
theorem dJ3_checkIndex_8e157_16 : decode cJ3_checkIndex_8e157 16 = .ok (.iload_n 0, 1) := by decide +kernel
theorem dJ3_checkIndex_8e157_17 : decode cJ3_checkIndex_8e157 17 = .ok (.ireturn, 1) := by decide +kernel
theorem dJ6_bitCount_0f7a4_0 : decode cJ6_bitCount_0f7a4 0 = .ok (.iload_n 0, 1) := by decide +kernel
theorem dJ6_bitCount_0f7a4_1 : decode cJ6_bitCount_0f7a4 1 = .ok (.iload_n 0, 1) := by decide +kernel
theorem dJ6_bitCount_0f7a4_2 : decode cJ6_bitCount_0f7a4 2 = .ok (.iconst 1, 1) := by decide +kernel
theorem dJ6_bitCount_0f7a4_3 : decode cJ6_bitCount_0f7a4 3 = .ok (.iushr, 1) := by decide +kernel
theorem dJ6_bitCount_0f7a4_4 : decode cJ6_bitCount_0f7a4 4 = .ok (.ldc_w 265, 3) := by decide +kernel
theorem dJ6_bitCount_0f7a4_7 : decode cJ6_bitCount_0f7a4 7 = .ok (.iand, 1) := by decide +kernel
theorem dJ6_bitCount_0f7a4_8 : decode cJ6_bitCount_0f7a4 8 = .ok (.isub, 1) := by decide +kernel
theorem dJ6_bitCount_0f7a4_9 : decode cJ6_bitCount_0f7a4 9 = .ok (.istore_n 0, 1) := by decide +kernel
theorem dJ6_bitCount_0f7a4_10 : decode cJ6_bitCount_0f7a4 10 = .ok (.iload_n 0, 1) := by decide +kernel
theorem dJ6_bitCount_0f7a4_11 : decode cJ6_bitCount_0f7a4 11 = .ok (.ldc_w 266, 3) := by decide +kernel
theorem dJ6_bitCount_0f7a4_14 : decode cJ6_bitCount_0f7a4 14 = .ok (.iand, 1) := by decide +kernel
theorem dJ6_bitCount_0f7a4_15 : decode cJ6_bitCount_0f7a4 15 = .ok (.iload_n 0, 1) := by decide +kernel
theorem dJ6_bitCount_0f7a4_16 : decode cJ6_bitCount_0f7a4 16 = .ok (.iconst 2, 1) := by decide +kernel
theorem dJ6_bitCount_0f7a4_17 : decode cJ6_bitCount_0f7a4 17 = .ok (.iushr, 1) := by decide +kernel
theorem dJ6_bitCount_0f7a4_18 : decode cJ6_bitCount_0f7a4 18 = .ok (.ldc_w 266, 3) := by decide +kernel
theorem dJ6_bitCount_0f7a4_21 : decode cJ6_bitCount_0f7a4 21 = .ok (.iand, 1) := by decide +kernel
theorem dJ6_bitCount_0f7a4_22 : decode cJ6_bitCount_0f7a4 22 = .ok (.iadd, 1) := by decide +kernel
theorem dJ6_bitCount_0f7a4_23 : decode cJ6_bitCount_0f7a4 23 = .ok (.istore_n 0, 1) := by decide +kernel
theorem dJ6_bitCount_0f7a4_24 : decode cJ6_bitCount_0f7a4 24 = .ok (.iload_n 0, 1) := by decide +kernel
theorem dJ6_bitCount_0f7a4_25 : decode cJ6_bitCount_0f7a4 25 = .ok (.iload_n 0, 1) := by decide +kernel
theorem dJ6_bitCount_0f7a4_26 : decode cJ6_bitCount_0f7a4 26 = .ok (.iconst 4, 1) := by decide +kernel
theorem dJ6_bitCount_0f7a4_27 : decode cJ6_bitCount_0f7a4 27 = .ok (.iushr, 1) := by decide +kernel
theorem dJ6_bitCount_0f7a4_28 : decode cJ6_bitCount_0f7a4 28 = .ok (.iadd, 1) := by decide +kernel
theorem dJ6_bitCount_0f7a4_29 : decode cJ6_bitCount_0f7a4 29 = .ok (.ldc_w 267, 3) := by decide +kernel
theorem dJ6_bitCount_0f7a4_32 : decode cJ6_bitCount_0f7a4 32 = .ok (.iand, 1) := by decide +kernel
theorem dJ6_bitCount_0f7a4_33 : decode cJ6_bitCount_0f7a4 33 = .ok (.istore_n 0, 1) := by decide +kernel
theorem dJ6_bitCount_0f7a4_34 : decode cJ6_bitCount_0f7a4 34 = .ok (.iload_n 0, 1) := by decide +kernel
theorem dJ6_bitCount_0f7a4_35 : decode cJ6_bitCount_0f7a4 35 = .ok (.iload_n 0, 1) := by decide +kernel
theorem dJ6_bitCount_0f7a4_36 : decode cJ6_bitCount_0f7a4 36 = .ok (.bipush 8, 2) := by decide +kernel
theorem dJ6_bitCount_0f7a4_38 : decode cJ6_bitCount_0f7a4 38 = .ok (.iushr, 1) := by decide +kernel
theorem dJ6_bitCount_0f7a4_39 : decode cJ6_bitCount_0f7a4 39 = .ok (.iadd, 1) := by decide +kernel
theorem dJ6_bitCount_0f7a4_40 : decode cJ6_bitCount_0f7a4 40 = .ok (.istore_n 0, 1) := by decide +kernel
theorem dJ6_bitCount_0f7a4_41 : decode cJ6_bitCount_0f7a4 41 = .ok (.iload_n 0, 1) := by decide +kernel
theorem dJ6_bitCount_0f7a4_42 : decode cJ6_bitCount_0f7a4 42 = .ok (.iload_n 0, 1) := by decide +kernel
theorem dJ6_bitCount_0f7a4_43 : decode cJ6_bitCount_0f7a4 43 = .ok (.bipush 16, 2) := by decide +kernel
theorem dJ6_bitCount_0f7a4_45 : decode cJ6_bitCount_0f7a4 45 = .ok (.iushr, 1) := by decide +kernel
theorem dJ6_bitCount_0f7a4_46 : decode cJ6_bitCount_0f7a4 46 = .ok (.iadd, 1) := by decide +kernel
theorem dJ6_bitCount_0f7a4_47 : decode cJ6_bitCount_0f7a4 47 = .ok (.istore_n 0, 1) := by decide +kernel
theorem dJ6_bitCount_0f7a4_48 : decode cJ6_bitCount_0f7a4 48 = .ok (.iload_n 0, 1) := by decide +kernel
theorem dJ6_bitCount_0f7a4_49 : decode cJ6_bitCount_0f7a4 49 = .ok (.bipush 63, 2) := by decide +kernel
theorem dJ6_bitCount_0f7a4_51 : decode cJ6_bitCount_0f7a4 51 = .ok (.iand, 1) := by decide +kernel
theorem dJ6_bitCount_0f7a4_52 : decode cJ6_bitCount_0f7a4 52 = .ok (.ireturn, 1) := by decide +kernel
theorem dJ9_abs_0f7a4_0 : decode cJ9_abs_0f7a4 0 = .ok (.iload_n 0, 1) := by decide +kernel
theorem dJ9_abs_0f7a4_1 : decode cJ9_abs_0f7a4 1 = .ok (.ifCond .ge 8, 3) := by decide +kernel
theorem dJ9_abs_0f7a4_4 : decode cJ9_abs_0f7a4 4 = .ok (.iload_n 0, 1) := by decide +kernel
theorem dJ9_abs_0f7a4_5 : decode cJ9_abs_0f7a4 5 = .ok (.ineg, 1) := by decide +kernel
theorem dJ9_abs_0f7a4_6 : decode cJ9_abs_0f7a4 6 = .ok (.goto 4, 3) := by decide +kernel
theorem dJ9_abs_0f7a4_9 : decode cJ9_abs_0f7a4 9 = .ok (.iload_n 0, 1) := by decide +kernel
theorem dJ9_abs_0f7a4_10 : decode cJ9_abs_0f7a4 10 = .ok (.ireturn, 1) := by decide +kernel
theorem dJ9_max_7cf53_0 : decode cJ9_max_7cf53 0 = .ok (.iload_n 0, 1) := by decide +kernel
theorem dJ9_max_7cf53_1 : decode cJ9_max_7cf53 1 = .ok (.iload_n 1, 1) := by decide +kernel
theorem dJ9_max_7cf53_2 : decode cJ9_max_7cf53 2 = .ok (.if_icmp .lt 7, 3) := by decide +kernel
theorem dJ9_max_7cf53_5 : decode cJ9_max_7cf53 5 = .ok (.iload_n 0, 1) := by decide +kernel
theorem dJ9_max_7cf53_6 : decode cJ9_max_7cf53 6 = .ok (.goto 4, 3) := by decide +kernel
theorem dJ9_max_7cf53_9 : decode cJ9_max_7cf53 9 = .ok (.iload_n 1, 1) := by decide +kernel
theorem dJ9_max_7cf53_10 : decode cJ9_max_7cf53 10 = .ok (.ireturn, 1) := by decide +kernel
theorem dJ9_max_f86c9_0 : decode cJ9_max_f86c9 0 = .ok (.lload_n 0, 1) := by decide +kernel
theorem dJ9_max_f86c9_1 : decode cJ9_max_f86c9 1 = .ok (.lload_n 2, 1) := by decide +kernel
theorem dJ9_max_f86c9_2 : decode cJ9_max_f86c9 2 = .ok (.lcmp, 1) := by decide +kernel
theorem dJ9_max_f86c9_3 : decode cJ9_max_f86c9 3 = .ok (.ifCond .lt 7, 3) := by decide +kernel
theorem dJ9_max_f86c9_6 : decode cJ9_max_f86c9 6 = .ok (.lload_n 0, 1) := by decide +kernel
theorem dJ9_max_f86c9_7 : decode cJ9_max_f86c9 7 = .ok (.goto 4, 3) := by decide +kernel
theorem dJ9_max_f86c9_10 : decode cJ9_max_f86c9 10 = .ok (.lload_n 2, 1) := by decide +kernel
theorem dJ9_max_f86c9_11 : decode cJ9_max_f86c9 11 = .ok (.lreturn, 1) := by decide +kernel
theorem dJ9_min_7cf53_0 : decode cJ9_min_7cf53 0 = .ok (.iload_n 0, 1) := by decide +kernel
theorem dJ9_min_7cf53_1 : decode cJ9_min_7cf53 1 = .ok (.iload_n 1, 1) := by decide +kernel
theorem dJ9_min_7cf53_2 : decode cJ9_min_7cf53 2 = .ok (.if_icmp .gt 7, 3) := by decide +kernel
theorem dJ9_min_7cf53_5 : decode cJ9_min_7cf53 5 = .ok (.iload_n 0, 1) := by decide +kernel
theorem dJ9_min_7cf53_6 : decode cJ9_min_7cf53 6 = .ok (.goto 4, 3) := by decide +kernel
theorem dJ9_min_7cf53_9 : decode cJ9_min_7cf53 9 = .ok (.iload_n 1, 1) := by decide +kernel
theorem dJ9_min_7cf53_10 : decode cJ9_min_7cf53 10 = .ok (.ireturn, 1) := by decide +kernel
theorem dJ9_min_f86c9_0 : decode cJ9_min_f86c9 0 = .ok (.lload_n 0, 1) := by decide +kernel
theorem dJ9_min_f86c9_1 : decode cJ9_min_f86c9 1 = .ok (.lload_n 2, 1) := by decide +kernel
theorem dJ9_min_f86c9_2 : decode cJ9_min_f86c9 2 = .ok (.lcmp, 1) := by decide +kernel
theorem dJ9_min_f86c9_3 : decode cJ9_min_f86c9 3 = .ok (.ifCond .gt 7, 3) := by decide +kernel
theorem dJ9_min_f86c9_6 : decode cJ9_min_f86c9 6 = .ok (.lload_n 0, 1) := by decide +kernel
theorem dJ9_min_f86c9_7 : decode cJ9_min_f86c9 7 = .ok (.goto 4, 3) := by decide +kernel
theorem dJ9_min_f86c9_10 : decode cJ9_min_f86c9 10 = .ok (.lload_n 2, 1) := by decide +kernel
theorem dJ9_min_f86c9_11 : decode cJ9_min_f86c9 11 = .ok (.lreturn, 1) := by decide +kernel
