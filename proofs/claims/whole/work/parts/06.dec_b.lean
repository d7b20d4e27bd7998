theorem dX5_init_0 : decode cX5_init 0 = .ok (.aload_n 0, 1) := by decide +kernel
theorem dX5_init_1 : decode cX5_init 1 = .ok (.invokespecial 3, 3) := by decide +kernel
theorem dX5_init_4 : decode cX5_init 4 = .ok (.aload_n 0, 1) := by decide +kernel
theorem dX5_init_5 : decode cX5_init 5 = .ok (.bipush 29, 2) := by decide +kernel
theorem dX5_init_7 : decode cX5_init 7 = .ok (.newarray .long, 2) := by decide +kernel
theorem dX5_init_9 : decode cX5_init 9 = .ok (.putfield 9, 3) := by decide +kernel
theorem dX5_init_12 : decode cX5_init 12 = .ok (.aload_n 0, 1) := by decide +kernel
theorem dX5_init_13 : decode cX5_init 13 = .ok (.sipush 601, 3) := by decide +kernel
theorem dX5_init_16 : decode cX5_init 16 = .ok (.newarray .int, 2) := by decide +kernel
theorem dX5_init_18 : decode cX5_init 18 = .ok (.putfield 15, 3) := by decide +kernel
theorem dX5_init_21 : decode cX5_init 21 = .ok (.aload_n 0, 1) := by decide +kernel
theorem dX5_init_22 : decode cX5_init 22 = .ok (.sipush 601, 3) := by decide +kernel
theorem dX5_init_25 : decode cX5_init 25 = .ok (.newarray .int, 2) := by decide +kernel
theorem dX5_init_27 : decode cX5_init 27 = .ok (.putfield 19, 3) := by decide +kernel
theorem dX5_init_30 : decode cX5_init 30 = .ok (.aload_n 0, 1) := by decide +kernel
theorem dX5_init_31 : decode cX5_init 31 = .ok (.sipush 601, 3) := by decide +kernel
theorem dX5_init_34 : decode cX5_init 34 = .ok (.newarray .int, 2) := by decide +kernel
theorem dX5_init_36 : decode cX5_init 36 = .ok (.putfield 22, 3) := by decide +kernel
theorem dX5_init_39 : decode cX5_init 39 = .ok (.aload_n 0, 1) := by decide +kernel
theorem dX5_init_40 : decode cX5_init 40 = .ok (.bipush 64, 2) := by decide +kernel
theorem dX5_init_42 : decode cX5_init 42 = .ok (.newarray .int, 2) := by decide +kernel
theorem dX5_init_44 : decode cX5_init 44 = .ok (.putfield 25, 3) := by decide +kernel
theorem dX5_init_47 : decode cX5_init 47 = .ok (.aload_n 0, 1) := by decide +kernel
theorem dX5_init_48 : decode cX5_init 48 = .ok (.iconst (-1), 1) := by decide +kernel
theorem dX5_init_49 : decode cX5_init 49 = .ok (.putfield 28, 3) := by decide +kernel
theorem dX5_init_52 : decode cX5_init 52 = .ok (.iconst 0, 1) := by decide +kernel
theorem dX5_init_53 : decode cX5_init 53 = .ok (.istore_n 1, 1) := by decide +kernel
theorem dX5_init_54 : decode cX5_init 54 = .ok (.iconst 0, 1) := by decide +kernel
theorem dX5_init_55 : decode cX5_init 55 = .ok (.istore_n 2, 1) := by decide +kernel
theorem dX5_init_56 : decode cX5_init 56 = .ok (.iload_n 2, 1) := by decide +kernel
theorem dX5_init_57 : decode cX5_init 57 = .ok (.ldc 32, 2) := by decide +kernel
theorem dX5_init_59 : decode cX5_init 59 = .ok (.invokevirtual 34, 3) := by decide +kernel
theorem dX5_init_62 : decode cX5_init 62 = .ok (.if_icmp .ge 52, 3) := by decide +kernel
theorem dX5_init_65 : decode cX5_init 65 = .ok (.iload_n 1, 1) := by decide +kernel
theorem dX5_init_66 : decode cX5_init 66 = .ok (.bipush 29, 2) := by decide +kernel
theorem dX5_init_68 : decode cX5_init 68 = .ok (.if_icmp .ge 46, 3) := by decide +kernel
theorem dX5_init_71 : decode cX5_init 71 = .ok (.ldc 32, 2) := by decide +kernel
theorem dX5_init_73 : decode cX5_init 73 = .ok (.iload_n 2, 1) := by decide +kernel
theorem dX5_init_74 : decode cX5_init 74 = .ok (.invokevirtual 40, 3) := by decide +kernel
theorem dX5_init_77 : decode cX5_init 77 = .ok (.istore_n 3, 1) := by decide +kernel
theorem dX5_init_78 : decode cX5_init 78 = .ok (.iload_n 3, 1) := by decide +kernel
theorem dX5_init_79 : decode cX5_init 79 = .ok (.bipush 32, 2) := by decide +kernel
theorem dX5_init_81 : decode cX5_init 81 = .ok (.if_icmp .ne 9, 3) := by decide +kernel
theorem dX5_init_84 : decode cX5_init 84 = .ok (.iinc 1 1, 3) := by decide +kernel
theorem dX5_init_87 : decode cX5_init 87 = .ok (.goto 21, 3) := by decide +kernel
theorem dX5_init_90 : decode cX5_init 90 = .ok (.aload_n 0, 1) := by decide +kernel
theorem dX5_init_91 : decode cX5_init 91 = .ok (.getfield 9, 3) := by decide +kernel
theorem dX5_init_94 : decode cX5_init 94 = .ok (.iload_n 1, 1) := by decide +kernel
theorem dX5_init_95 : decode cX5_init 95 = .ok (.aload_n 0, 1) := by decide +kernel
theorem dX5_init_96 : decode cX5_init 96 = .ok (.getfield 9, 3) := by decide +kernel
theorem dX5_init_99 : decode cX5_init 99 = .ok (.iload_n 1, 1) := by decide +kernel
theorem dX5_init_100 : decode cX5_init 100 = .ok (.laload, 1) := by decide +kernel
theorem dX5_init_101 : decode cX5_init 101 = .ok (.bipush 8, 2) := by decide +kernel
theorem dX5_init_103 : decode cX5_init 103 = .ok (.lshl, 1) := by decide +kernel
theorem dX5_init_104 : decode cX5_init 104 = .ok (.iload_n 3, 1) := by decide +kernel
theorem dX5_init_105 : decode cX5_init 105 = .ok (.i2l, 1) := by decide +kernel
theorem dX5_init_106 : decode cX5_init 106 = .ok (.lor, 1) := by decide +kernel
theorem dX5_init_107 : decode cX5_init 107 = .ok (.lastore, 1) := by decide +kernel
theorem dX5_init_108 : decode cX5_init 108 = .ok (.iinc 2 1, 3) := by decide +kernel
theorem dX5_init_111 : decode cX5_init 111 = .ok (.goto (-55), 3) := by decide +kernel
theorem dX5_init_114 : decode cX5_init 114 = .ok (.return_, 1) := by decide +kernel
theorem dX5_forget_0 : decode cX5_forget 0 = .ok (.aload_n 0, 1) := by decide +kernel
theorem dX5_forget_1 : decode cX5_forget 1 = .ok (.iconst 0, 1) := by decide +kernel
theorem dX5_forget_2 : decode cX5_forget 2 = .ok (.putfield 44, 3) := by decide +kernel
theorem dX5_forget_5 : decode cX5_forget 5 = .ok (.aload_n 0, 1) := by decide +kernel
theorem dX5_forget_6 : decode cX5_forget 6 = .ok (.iconst (-1), 1) := by decide +kernel
theorem dX5_forget_7 : decode cX5_forget 7 = .ok (.putfield 28, 3) := by decide +kernel
theorem dX5_forget_10 : decode cX5_forget 10 = .ok (.aload_n 0, 1) := by decide +kernel
theorem dX5_forget_11 : decode cX5_forget 11 = .ok (.iconst 0, 1) := by decide +kernel
theorem dX5_forget_12 : decode cX5_forget 12 = .ok (.putfield 47, 3) := by decide +kernel
theorem dX5_forget_15 : decode cX5_forget 15 = .ok (.aload_n 0, 1) := by decide +kernel
theorem dX5_forget_16 : decode cX5_forget 16 = .ok (.iconst 0, 1) := by decide +kernel
theorem dX5_forget_17 : decode cX5_forget 17 = .ok (.putfield 50, 3) := by decide +kernel
theorem dX5_forget_20 : decode cX5_forget 20 = .ok (.aload_n 0, 1) := by decide +kernel
theorem dX5_forget_21 : decode cX5_forget 21 = .ok (.iconst 0, 1) := by decide +kernel
theorem dX5_forget_22 : decode cX5_forget 22 = .ok (.putfield 54, 3) := by decide +kernel
theorem dX5_forget_25 : decode cX5_forget 25 = .ok (.return_, 1) := by decide +kernel
theorem dX5_readLaw_0 : decode cX5_readLaw 0 = .ok (.aload_n 0, 1) := by decide +kernel
theorem dX5_readLaw_1 : decode cX5_readLaw 1 = .ok (.aload_n 3, 1) := by decide +kernel
theorem dX5_readLaw_2 : decode cX5_readLaw 2 = .ok (.putfield 57, 3) := by decide +kernel
theorem dX5_readLaw_5 : decode cX5_readLaw 5 = .ok (.aload_n 0, 1) := by decide +kernel
theorem dX5_readLaw_6 : decode cX5_readLaw 6 = .ok (.getfield 57, 3) := by decide +kernel
theorem dX5_readLaw_9 : decode cX5_readLaw 9 = .ok (.invokevirtual 61, 3) := by decide +kernel
theorem dX5_readLaw_12 : decode cX5_readLaw 12 = .ok (.aload_n 0, 1) := by decide +kernel
theorem dX5_readLaw_13 : decode cX5_readLaw 13 = .ok (.aload_n 1, 1) := by decide +kernel
theorem dX5_readLaw_14 : decode cX5_readLaw 14 = .ok (.iload_n 2, 1) := by decide +kernel
theorem dX5_readLaw_15 : decode cX5_readLaw 15 = .ok (.invokevirtual 66, 3) := by decide +kernel
theorem dX5_readLaw_18 : decode cX5_readLaw 18 = .ok (.iconst 0, 1) := by decide +kernel
theorem dX5_readLaw_19 : decode cX5_readLaw 19 = .ok (.istore 4, 2) := by decide +kernel
theorem dX5_readLaw_21 : decode cX5_readLaw 21 = .ok (.iload 4, 2) := by decide +kernel
theorem dX5_readLaw_23 : decode cX5_readLaw 23 = .ok (.bipush 20, 2) := by decide +kernel
theorem dX5_readLaw_25 : decode cX5_readLaw 25 = .ok (.if_icmp .gt 41, 3) := by decide +kernel
theorem dX5_readLaw_28 : decode cX5_readLaw 28 = .ok (.aload_n 0, 1) := by decide +kernel
theorem dX5_readLaw_29 : decode cX5_readLaw 29 = .ok (.invokevirtual 70, 3) := by decide +kernel
theorem dX5_readLaw_32 : decode cX5_readLaw 32 = .ok (.bipush 101, 2) := by decide +kernel
theorem dX5_readLaw_34 : decode cX5_readLaw 34 = .ok (.if_icmp .ne 6, 3) := by decide +kernel
theorem dX5_readLaw_37 : decode cX5_readLaw 37 = .ok (.iload 4, 2) := by decide +kernel
theorem dX5_readLaw_39 : decode cX5_readLaw 39 = .ok (.ireturn, 1) := by decide +kernel
theorem dX5_readLaw_40 : decode cX5_readLaw 40 = .ok (.aload_n 0, 1) := by decide +kernel
theorem dX5_readLaw_41 : decode cX5_readLaw 41 = .ok (.iload 4, 2) := by decide +kernel
theorem dX5_readLaw_43 : decode cX5_readLaw 43 = .ok (.invokevirtual 73, 3) := by decide +kernel
theorem dX5_readLaw_46 : decode cX5_readLaw 46 = .ok (.ifCond .eq 12, 3) := by decide +kernel
theorem dX5_readLaw_49 : decode cX5_readLaw 49 = .ok (.aload_n 0, 1) := by decide +kernel
theorem dX5_readLaw_50 : decode cX5_readLaw 50 = .ok (.bipush 59, 2) := by decide +kernel
theorem dX5_readLaw_52 : decode cX5_readLaw 52 = .ok (.invokevirtual 77, 3) := by decide +kernel
theorem dX5_readLaw_55 : decode cX5_readLaw 55 = .ok (.ifCond .ne 5, 3) := by decide +kernel
theorem dX5_readLaw_58 : decode cX5_readLaw 58 = .ok (.iconst (-1), 1) := by decide +kernel
theorem dX5_readLaw_59 : decode cX5_readLaw 59 = .ok (.ireturn, 1) := by decide +kernel
theorem dX5_readLaw_60 : decode cX5_readLaw 60 = .ok (.iinc 4 1, 3) := by decide +kernel
theorem dX5_readLaw_63 : decode cX5_readLaw 63 = .ok (.goto (-42), 3) := by decide +kernel
theorem dX5_readLaw_66 : decode cX5_readLaw 66 = .ok (.iconst (-1), 1) := by decide +kernel
theorem dX5_readLaw_67 : decode cX5_readLaw 67 = .ok (.ireturn, 1) := by decide +kernel
theorem dX5_readPact_0 : decode cX5_readPact 0 = .ok (.aload_n 0, 1) := by decide +kernel
theorem dX5_readPact_1 : decode cX5_readPact 1 = .ok (.aload_n 3, 1) := by decide +kernel
theorem dX5_readPact_2 : decode cX5_readPact 2 = .ok (.putfield 80, 3) := by decide +kernel
theorem dX5_readPact_5 : decode cX5_readPact 5 = .ok (.aload_n 0, 1) := by decide +kernel
theorem dX5_readPact_6 : decode cX5_readPact 6 = .ok (.getfield 80, 3) := by decide +kernel
theorem dX5_readPact_9 : decode cX5_readPact 9 = .ok (.invokevirtual 84, 3) := by decide +kernel
theorem dX5_readPact_12 : decode cX5_readPact 12 = .ok (.aload_n 0, 1) := by decide +kernel
theorem dX5_readPact_13 : decode cX5_readPact 13 = .ok (.aload_n 1, 1) := by decide +kernel
theorem dX5_readPact_14 : decode cX5_readPact 14 = .ok (.iload_n 2, 1) := by decide +kernel
theorem dX5_readPact_15 : decode cX5_readPact 15 = .ok (.invokevirtual 66, 3) := by decide +kernel
theorem dX5_readPact_18 : decode cX5_readPact 18 = .ok (.iconst 0, 1) := by decide +kernel
theorem dX5_readPact_19 : decode cX5_readPact 19 = .ok (.istore 4, 2) := by decide +kernel
theorem dX5_readPact_21 : decode cX5_readPact 21 = .ok (.iload 4, 2) := by decide +kernel
theorem dX5_readPact_23 : decode cX5_readPact 23 = .ok (.bipush 20, 2) := by decide +kernel
theorem dX5_readPact_25 : decode cX5_readPact 25 = .ok (.if_icmp .gt 41, 3) := by decide +kernel
theorem dX5_readPact_28 : decode cX5_readPact 28 = .ok (.aload_n 0, 1) := by decide +kernel
theorem dX5_readPact_29 : decode cX5_readPact 29 = .ok (.invokevirtual 70, 3) := by decide +kernel
theorem dX5_readPact_32 : decode cX5_readPact 32 = .ok (.bipush 101, 2) := by decide +kernel
theorem dX5_readPact_34 : decode cX5_readPact 34 = .ok (.if_icmp .ne 6, 3) := by decide +kernel
theorem dX5_readPact_37 : decode cX5_readPact 37 = .ok (.iload 4, 2) := by decide +kernel
theorem dX5_readPact_39 : decode cX5_readPact 39 = .ok (.ireturn, 1) := by decide +kernel
theorem dX5_readPact_40 : decode cX5_readPact 40 = .ok (.aload_n 0, 1) := by decide +kernel
theorem dX5_readPact_41 : decode cX5_readPact 41 = .ok (.iload 4, 2) := by decide +kernel
theorem dX5_readPact_43 : decode cX5_readPact 43 = .ok (.invokevirtual 87, 3) := by decide +kernel
theorem dX5_readPact_46 : decode cX5_readPact 46 = .ok (.ifCond .eq 12, 3) := by decide +kernel
theorem dX5_readPact_49 : decode cX5_readPact 49 = .ok (.aload_n 0, 1) := by decide +kernel
theorem dX5_readPact_50 : decode cX5_readPact 50 = .ok (.bipush 59, 2) := by decide +kernel
theorem dX5_readPact_52 : decode cX5_readPact 52 = .ok (.invokevirtual 77, 3) := by decide +kernel
theorem dX5_readPact_55 : decode cX5_readPact 55 = .ok (.ifCond .ne 5, 3) := by decide +kernel
theorem dX5_readPact_58 : decode cX5_readPact 58 = .ok (.iconst (-1), 1) := by decide +kernel
theorem dX5_readPact_59 : decode cX5_readPact 59 = .ok (.ireturn, 1) := by decide +kernel
theorem dX5_readPact_60 : decode cX5_readPact 60 = .ok (.iinc 4 1, 3) := by decide +kernel
theorem dX5_readPact_63 : decode cX5_readPact 63 = .ok (.goto (-42), 3) := by decide +kernel
theorem dX5_readPact_66 : decode cX5_readPact 66 = .ok (.iconst (-1), 1) := by decide +kernel
theorem dX5_readPact_67 : decode cX5_readPact 67 = .ok (.ireturn, 1) := by decide +kernel
theorem dX5_lawLine_0 : decode cX5_lawLine 0 = .ok (.aload_n 0, 1) := by decide +kernel
theorem dX5_lawLine_1 : decode cX5_lawLine 1 = .ok (.invokevirtual 70, 3) := by decide +kernel
theorem dX5_lawLine_4 : decode cX5_lawLine 4 = .ok (.istore_n 2, 1) := by decide +kernel
theorem dX5_lawLine_5 : decode cX5_lawLine 5 = .ok (.iload_n 2, 1) := by decide +kernel
theorem dX5_lawLine_6 : decode cX5_lawLine 6 = .ok (.bipush 14, 2) := by decide +kernel
theorem dX5_lawLine_8 : decode cX5_lawLine 8 = .ok (.if_icmp .lt 9, 3) := by decide +kernel
theorem dX5_lawLine_11 : decode cX5_lawLine 11 = .ok (.iload_n 2, 1) := by decide +kernel
theorem dX5_lawLine_12 : decode cX5_lawLine 12 = .ok (.bipush 18, 2) := by decide +kernel
theorem dX5_lawLine_14 : decode cX5_lawLine 14 = .ok (.if_icmp .le 9, 3) := by decide +kernel
theorem dX5_lawLine_17 : decode cX5_lawLine 17 = .ok (.aload_n 0, 1) := by decide +kernel
theorem dX5_lawLine_18 : decode cX5_lawLine 18 = .ok (.iconst 1, 1) := by decide +kernel
theorem dX5_lawLine_19 : decode cX5_lawLine 19 = .ok (.invokevirtual 90, 3) := by decide +kernel
theorem dX5_lawLine_22 : decode cX5_lawLine 22 = .ok (.ireturn, 1) := by decide +kernel
theorem dX5_lawLine_23 : decode cX5_lawLine 23 = .ok (.iload_n 1, 1) := by decide +kernel
theorem dX5_lawLine_24 : decode cX5_lawLine 24 = .ok (.bipush 20, 2) := by decide +kernel
theorem dX5_lawLine_26 : decode cX5_lawLine 26 = .ok (.if_icmp .ge 29, 3) := by decide +kernel
theorem dX5_lawLine_29 : decode cX5_lawLine 29 = .ok (.iload_n 2, 1) := by decide +kernel
theorem dX5_lawLine_30 : decode cX5_lawLine 30 = .ok (.bipush 16, 2) := by decide +kernel
theorem dX5_lawLine_32 : decode cX5_lawLine 32 = .ok (.if_icmp .ne 10, 3) := by decide +kernel
theorem dX5_lawLine_35 : decode cX5_lawLine 35 = .ok (.aload_n 0, 1) := by decide +kernel
theorem dX5_lawLine_36 : decode cX5_lawLine 36 = .ok (.getfield 50, 3) := by decide +kernel
theorem dX5_lawLine_39 : decode cX5_lawLine 39 = .ok (.ifCond .ne 16, 3) := by decide +kernel
theorem dX5_lawLine_42 : decode cX5_lawLine 42 = .ok (.iload_n 2, 1) := by decide +kernel
theorem dX5_lawLine_43 : decode cX5_lawLine 43 = .ok (.bipush 18, 2) := by decide +kernel
theorem dX5_lawLine_45 : decode cX5_lawLine 45 = .ok (.if_icmp .ne 16, 3) := by decide +kernel
theorem dX5_lawLine_48 : decode cX5_lawLine 48 = .ok (.aload_n 0, 1) := by decide +kernel
theorem dX5_lawLine_49 : decode cX5_lawLine 49 = .ok (.getfield 54, 3) := by decide +kernel
theorem dX5_lawLine_52 : decode cX5_lawLine 52 = .ok (.ifCond .eq 9, 3) := by decide +kernel
theorem dX5_lawLine_55 : decode cX5_lawLine 55 = .ok (.aload_n 0, 1) := by decide +kernel
theorem dX5_lawLine_56 : decode cX5_lawLine 56 = .ok (.iconst 3, 1) := by decide +kernel
theorem dX5_lawLine_57 : decode cX5_lawLine 57 = .ok (.invokevirtual 90, 3) := by decide +kernel
theorem dX5_lawLine_60 : decode cX5_lawLine 60 = .ok (.ireturn, 1) := by decide +kernel
theorem dX5_lawLine_61 : decode cX5_lawLine 61 = .ok (.aload_n 0, 1) := by decide +kernel
theorem dX5_lawLine_62 : decode cX5_lawLine 62 = .ok (.dup, 1) := by decide +kernel
theorem dX5_lawLine_63 : decode cX5_lawLine 63 = .ok (.getfield 47, 3) := by decide +kernel
theorem dX5_lawLine_66 : decode cX5_lawLine 66 = .ok (.iconst 1, 1) := by decide +kernel
theorem dX5_lawLine_67 : decode cX5_lawLine 67 = .ok (.iadd, 1) := by decide +kernel
theorem dX5_lawLine_68 : decode cX5_lawLine 68 = .ok (.putfield 47, 3) := by decide +kernel
theorem dX5_lawLine_71 : decode cX5_lawLine 71 = .ok (.iload_n 2, 1) := by decide +kernel
theorem dX5_lawLine_72 : decode cX5_lawLine 72 = .ok (.tableswitch 52 14 17 #[32, 37, 42, 47], 32) := by decide +kernel
theorem dX5_lawLine_104 : decode cX5_lawLine 104 = .ok (.aload_n 0, 1) := by decide +kernel
theorem dX5_lawLine_105 : decode cX5_lawLine 105 = .ok (.invokevirtual 93, 3) := by decide +kernel
theorem dX5_lawLine_108 : decode cX5_lawLine 108 = .ok (.ireturn, 1) := by decide +kernel
theorem dX5_lawLine_109 : decode cX5_lawLine 109 = .ok (.aload_n 0, 1) := by decide +kernel
theorem dX5_lawLine_110 : decode cX5_lawLine 110 = .ok (.invokevirtual 97, 3) := by decide +kernel
theorem dX5_lawLine_113 : decode cX5_lawLine 113 = .ok (.ireturn, 1) := by decide +kernel
theorem dX5_lawLine_114 : decode cX5_lawLine 114 = .ok (.aload_n 0, 1) := by decide +kernel
theorem dX5_lawLine_115 : decode cX5_lawLine 115 = .ok (.invokevirtual 100, 3) := by decide +kernel
theorem dX5_lawLine_118 : decode cX5_lawLine 118 = .ok (.ireturn, 1) := by decide +kernel
theorem dX5_lawLine_119 : decode cX5_lawLine 119 = .ok (.aload_n 0, 1) := by decide +kernel
theorem dX5_lawLine_120 : decode cX5_lawLine 120 = .ok (.invokevirtual 103, 3) := by decide +kernel
theorem dX5_lawLine_123 : decode cX5_lawLine 123 = .ok (.ireturn, 1) := by decide +kernel
theorem dX5_lawLine_124 : decode cX5_lawLine 124 = .ok (.aload_n 0, 1) := by decide +kernel
theorem dX5_lawLine_125 : decode cX5_lawLine 125 = .ok (.invokevirtual 106, 3) := by decide +kernel
theorem dX5_lawLine_128 : decode cX5_lawLine 128 = .ok (.ireturn, 1) := by decide +kernel
theorem dX5_mineLine_0 : decode cX5_mineLine 0 = .ok (.aload_n 0, 1) := by decide +kernel
theorem dX5_mineLine_1 : decode cX5_mineLine 1 = .ok (.getfield 57, 3) := by decide +kernel
theorem dX5_mineLine_4 : decode cX5_mineLine 4 = .ok (.getfield 109, 3) := by decide +kernel
theorem dX5_mineLine_7 : decode cX5_mineLine 7 = .ok (.istore_n 1, 1) := by decide +kernel
theorem dX5_mineLine_8 : decode cX5_mineLine 8 = .ok (.aload_n 0, 1) := by decide +kernel
theorem dX5_mineLine_9 : decode cX5_mineLine 9 = .ok (.invokevirtual 112, 3) := by decide +kernel
theorem dX5_mineLine_12 : decode cX5_mineLine 12 = .ok (.ifCond .ne 5, 3) := by decide +kernel
theorem dX5_mineLine_15 : decode cX5_mineLine 15 = .ok (.iconst 0, 1) := by decide +kernel
theorem dX5_mineLine_16 : decode cX5_mineLine 16 = .ok (.ireturn, 1) := by decide +kernel
theorem dX5_mineLine_17 : decode cX5_mineLine 17 = .ok (.aload_n 0, 1) := by decide +kernel
theorem dX5_mineLine_18 : decode cX5_mineLine 18 = .ok (.getfield 57, 3) := by decide +kernel
theorem dX5_mineLine_21 : decode cX5_mineLine 21 = .ok (.bipush 6, 2) := by decide +kernel
theorem dX5_mineLine_23 : decode cX5_mineLine 23 = .ok (.iload_n 1, 1) := by decide +kernel
theorem dX5_mineLine_24 : decode cX5_mineLine 24 = .ok (.iload_n 1, 1) := by decide +kernel
theorem dX5_mineLine_25 : decode cX5_mineLine 25 = .ok (.invokevirtual 115, 3) := by decide +kernel
theorem dX5_mineLine_28 : decode cX5_mineLine 28 = .ok (.iconst 1, 1) := by decide +kernel
theorem dX5_mineLine_29 : decode cX5_mineLine 29 = .ok (.ireturn, 1) := by decide +kernel
theorem dX5_takeLine_0 : decode cX5_takeLine 0 = .ok (.aload_n 0, 1) := by decide +kernel
theorem dX5_takeLine_1 : decode cX5_takeLine 1 = .ok (.invokevirtual 119, 3) := by decide +kernel
theorem dX5_takeLine_4 : decode cX5_takeLine 4 = .ok (.ifCond .ne 9, 3) := by decide +kernel
theorem dX5_takeLine_7 : decode cX5_takeLine 7 = .ok (.aload_n 0, 1) := by decide +kernel
theorem dX5_takeLine_8 : decode cX5_takeLine 8 = .ok (.iconst 1, 1) := by decide +kernel
theorem dX5_takeLine_9 : decode cX5_takeLine 9 = .ok (.invokevirtual 90, 3) := by decide +kernel
theorem dX5_takeLine_12 : decode cX5_takeLine 12 = .ok (.ireturn, 1) := by decide +kernel
theorem dX5_takeLine_13 : decode cX5_takeLine 13 = .ok (.aload_n 0, 1) := by decide +kernel
theorem dX5_takeLine_14 : decode cX5_takeLine 14 = .ok (.invokevirtual 70, 3) := by decide +kernel
theorem dX5_takeLine_17 : decode cX5_takeLine 17 = .ok (.bipush 8, 2) := by decide +kernel
theorem dX5_takeLine_19 : decode cX5_takeLine 19 = .ok (.isub, 1) := by decide +kernel
theorem dX5_takeLine_20 : decode cX5_takeLine 20 = .ok (.istore_n 1, 1) := by decide +kernel
theorem dX5_takeLine_21 : decode cX5_takeLine 21 = .ok (.aload_n 0, 1) := by decide +kernel
theorem dX5_takeLine_22 : decode cX5_takeLine 22 = .ok (.dup, 1) := by decide +kernel
theorem dX5_takeLine_23 : decode cX5_takeLine 23 = .ok (.getfield 47, 3) := by decide +kernel
theorem dX5_takeLine_26 : decode cX5_takeLine 26 = .ok (.iconst 1, 1) := by decide +kernel
theorem dX5_takeLine_27 : decode cX5_takeLine 27 = .ok (.iadd, 1) := by decide +kernel
theorem dX5_takeLine_28 : decode cX5_takeLine 28 = .ok (.putfield 47, 3) := by decide +kernel
theorem dX5_takeLine_31 : decode cX5_takeLine 31 = .ok (.aload_n 0, 1) := by decide +kernel
theorem dX5_takeLine_32 : decode cX5_takeLine 32 = .ok (.getfield 57, 3) := by decide +kernel
theorem dX5_takeLine_35 : decode cX5_takeLine 35 = .ok (.getfield 109, 3) := by decide +kernel
theorem dX5_takeLine_38 : decode cX5_takeLine 38 = .ok (.istore_n 2, 1) := by decide +kernel
theorem dX5_takeLine_39 : decode cX5_takeLine 39 = .ok (.aload_n 0, 1) := by decide +kernel
theorem dX5_takeLine_40 : decode cX5_takeLine 40 = .ok (.invokevirtual 122, 3) := by decide +kernel
theorem dX5_takeLine_43 : decode cX5_takeLine 43 = .ok (.ifCond .ne 5, 3) := by decide +kernel
theorem dX5_takeLine_46 : decode cX5_takeLine 46 = .ok (.iconst 0, 1) := by decide +kernel
theorem dX5_takeLine_47 : decode cX5_takeLine 47 = .ok (.ireturn, 1) := by decide +kernel
theorem dX5_takeLine_48 : decode cX5_takeLine 48 = .ok (.aload_n 0, 1) := by decide +kernel
theorem dX5_takeLine_49 : decode cX5_takeLine 49 = .ok (.getfield 57, 3) := by decide +kernel
theorem dX5_takeLine_52 : decode cX5_takeLine 52 = .ok (.getfield 109, 3) := by decide +kernel
theorem dX5_takeLine_55 : decode cX5_takeLine 55 = .ok (.istore_n 3, 1) := by decide +kernel
theorem dX5_takeLine_56 : decode cX5_takeLine 56 = .ok (.aload_n 0, 1) := by decide +kernel
theorem dX5_takeLine_57 : decode cX5_takeLine 57 = .ok (.invokevirtual 70, 3) := by decide +kernel
theorem dX5_takeLine_60 : decode cX5_takeLine 60 = .ok (.bipush 19, 2) := by decide +kernel
theorem dX5_takeLine_62 : decode cX5_takeLine 62 = .ok (.if_icmp .ne 22, 3) := by decide +kernel
theorem dX5_takeLine_65 : decode cX5_takeLine 65 = .ok (.aload_n 0, 1) := by decide +kernel
theorem dX5_takeLine_66 : decode cX5_takeLine 66 = .ok (.dup, 1) := by decide +kernel
theorem dX5_takeLine_67 : decode cX5_takeLine 67 = .ok (.getfield 47, 3) := by decide +kernel
theorem dX5_takeLine_70 : decode cX5_takeLine 70 = .ok (.iconst 1, 1) := by decide +kernel
theorem dX5_takeLine_71 : decode cX5_takeLine 71 = .ok (.iadd, 1) := by decide +kernel
theorem dX5_takeLine_72 : decode cX5_takeLine 72 = .ok (.putfield 47, 3) := by decide +kernel
theorem dX5_takeLine_75 : decode cX5_takeLine 75 = .ok (.aload_n 0, 1) := by decide +kernel
theorem dX5_takeLine_76 : decode cX5_takeLine 76 = .ok (.invokevirtual 112, 3) := by decide +kernel
theorem dX5_takeLine_79 : decode cX5_takeLine 79 = .ok (.ifCond .ne 5, 3) := by decide +kernel
theorem dX5_takeLine_82 : decode cX5_takeLine 82 = .ok (.iconst 0, 1) := by decide +kernel
theorem dX5_takeLine_83 : decode cX5_takeLine 83 = .ok (.ireturn, 1) := by decide +kernel
theorem dX5_takeLine_84 : decode cX5_takeLine 84 = .ok (.aload_n 0, 1) := by decide +kernel
theorem dX5_takeLine_85 : decode cX5_takeLine 85 = .ok (.getfield 57, 3) := by decide +kernel
theorem dX5_takeLine_88 : decode cX5_takeLine 88 = .ok (.iload_n 1, 1) := by decide +kernel
theorem dX5_takeLine_89 : decode cX5_takeLine 89 = .ok (.iload_n 2, 1) := by decide +kernel
theorem dX5_takeLine_90 : decode cX5_takeLine 90 = .ok (.iload_n 3, 1) := by decide +kernel
theorem dX5_takeLine_91 : decode cX5_takeLine 91 = .ok (.invokevirtual 115, 3) := by decide +kernel
theorem dX5_takeLine_94 : decode cX5_takeLine 94 = .ok (.iconst 1, 1) := by decide +kernel
theorem dX5_takeLine_95 : decode cX5_takeLine 95 = .ok (.ireturn, 1) := by decide +kernel
theorem dX5_freeLine_0 : decode cX5_freeLine 0 = .ok (.aload_n 0, 1) := by decide +kernel
theorem dX5_freeLine_1 : decode cX5_freeLine 1 = .ok (.invokevirtual 70, 3) := by decide +kernel
theorem dX5_freeLine_4 : decode cX5_freeLine 4 = .ok (.bipush 100, 2) := by decide +kernel
theorem dX5_freeLine_6 : decode cX5_freeLine 6 = .ok (.if_icmp .eq 9, 3) := by decide +kernel
theorem dX5_freeLine_9 : decode cX5_freeLine 9 = .ok (.aload_n 0, 1) := by decide +kernel
theorem dX5_freeLine_10 : decode cX5_freeLine 10 = .ok (.iconst 1, 1) := by decide +kernel
theorem dX5_freeLine_11 : decode cX5_freeLine 11 = .ok (.invokevirtual 90, 3) := by decide +kernel
theorem dX5_freeLine_14 : decode cX5_freeLine 14 = .ok (.ireturn, 1) := by decide +kernel
theorem dX5_freeLine_15 : decode cX5_freeLine 15 = .ok (.aload_n 0, 1) := by decide +kernel
theorem dX5_freeLine_16 : decode cX5_freeLine 16 = .ok (.iconst 1, 1) := by decide +kernel
theorem dX5_freeLine_17 : decode cX5_freeLine 17 = .ok (.putfield 50, 3) := by decide +kernel
theorem dX5_freeLine_20 : decode cX5_freeLine 20 = .ok (.aload_n 0, 1) := by decide +kernel
theorem dX5_freeLine_21 : decode cX5_freeLine 21 = .ok (.getfield 57, 3) := by decide +kernel
theorem dX5_freeLine_24 : decode cX5_freeLine 24 = .ok (.aload_n 0, 1) := by decide +kernel
theorem dX5_freeLine_25 : decode cX5_freeLine 25 = .ok (.getfield 19, 3) := by decide +kernel
theorem dX5_freeLine_28 : decode cX5_freeLine 28 = .ok (.aload_n 0, 1) := by decide +kernel
theorem dX5_freeLine_29 : decode cX5_freeLine 29 = .ok (.getfield 47, 3) := by decide +kernel
theorem dX5_freeLine_32 : decode cX5_freeLine 32 = .ok (.iaload, 1) := by decide +kernel
theorem dX5_freeLine_33 : decode cX5_freeLine 33 = .ok (.putfield 125, 3) := by decide +kernel
theorem dX5_freeLine_36 : decode cX5_freeLine 36 = .ok (.aload_n 0, 1) := by decide +kernel
theorem dX5_freeLine_37 : decode cX5_freeLine 37 = .ok (.dup, 1) := by decide +kernel
theorem dX5_freeLine_38 : decode cX5_freeLine 38 = .ok (.getfield 47, 3) := by decide +kernel
theorem dX5_freeLine_41 : decode cX5_freeLine 41 = .ok (.iconst 1, 1) := by decide +kernel
theorem dX5_freeLine_42 : decode cX5_freeLine 42 = .ok (.iadd, 1) := by decide +kernel
theorem dX5_freeLine_43 : decode cX5_freeLine 43 = .ok (.putfield 47, 3) := by decide +kernel
theorem dX5_freeLine_46 : decode cX5_freeLine 46 = .ok (.iconst 1, 1) := by decide +kernel
theorem dX5_freeLine_47 : decode cX5_freeLine 47 = .ok (.ireturn, 1) := by decide +kernel
theorem dX5_stepLine_0 : decode cX5_stepLine 0 = .ok (.aload_n 0, 1) := by decide +kernel
theorem dX5_stepLine_1 : decode cX5_stepLine 1 = .ok (.invokevirtual 70, 3) := by decide +kernel
theorem dX5_stepLine_4 : decode cX5_stepLine 4 = .ok (.bipush 100, 2) := by decide +kernel
theorem dX5_stepLine_6 : decode cX5_stepLine 6 = .ok (.if_icmp .eq 9, 3) := by decide +kernel
theorem dX5_stepLine_9 : decode cX5_stepLine 9 = .ok (.aload_n 0, 1) := by decide +kernel
theorem dX5_stepLine_10 : decode cX5_stepLine 10 = .ok (.iconst 1, 1) := by decide +kernel
theorem dX5_stepLine_11 : decode cX5_stepLine 11 = .ok (.invokevirtual 90, 3) := by decide +kernel
theorem dX5_stepLine_14 : decode cX5_stepLine 14 = .ok (.ireturn, 1) := by decide +kernel
theorem dX5_stepLine_15 : decode cX5_stepLine 15 = .ok (.aload_n 0, 1) := by decide +kernel
theorem dX5_stepLine_16 : decode cX5_stepLine 16 = .ok (.getfield 19, 3) := by decide +kernel
theorem dX5_stepLine_19 : decode cX5_stepLine 19 = .ok (.aload_n 0, 1) := by decide +kernel
theorem dX5_stepLine_20 : decode cX5_stepLine 20 = .ok (.getfield 47, 3) := by decide +kernel
theorem dX5_stepLine_23 : decode cX5_stepLine 23 = .ok (.iaload, 1) := by decide +kernel
theorem dX5_stepLine_24 : decode cX5_stepLine 24 = .ok (.istore_n 1, 1) := by decide +kernel
theorem dX5_stepLine_25 : decode cX5_stepLine 25 = .ok (.aload_n 0, 1) := by decide +kernel
theorem dX5_stepLine_26 : decode cX5_stepLine 26 = .ok (.getfield 57, 3) := by decide +kernel
theorem dX5_stepLine_29 : decode cX5_stepLine 29 = .ok (.getfield 128, 3) := by decide +kernel
theorem dX5_stepLine_32 : decode cX5_stepLine 32 = .ok (.ifCond .le 30, 3) := by decide +kernel
theorem dX5_stepLine_35 : decode cX5_stepLine 35 = .ok (.iload_n 1, 1) := by decide +kernel
theorem dX5_stepLine_36 : decode cX5_stepLine 36 = .ok (.aload_n 0, 1) := by decide +kernel
theorem dX5_stepLine_37 : decode cX5_stepLine 37 = .ok (.getfield 57, 3) := by decide +kernel
theorem dX5_stepLine_40 : decode cX5_stepLine 40 = .ok (.getfield 131, 3) := by decide +kernel
theorem dX5_stepLine_43 : decode cX5_stepLine 43 = .ok (.aload_n 0, 1) := by decide +kernel
theorem dX5_stepLine_44 : decode cX5_stepLine 44 = .ok (.getfield 57, 3) := by decide +kernel
theorem dX5_stepLine_47 : decode cX5_stepLine 47 = .ok (.getfield 128, 3) := by decide +kernel
theorem dX5_stepLine_50 : decode cX5_stepLine 50 = .ok (.iconst 1, 1) := by decide +kernel
theorem dX5_stepLine_51 : decode cX5_stepLine 51 = .ok (.isub, 1) := by decide +kernel
theorem dX5_stepLine_52 : decode cX5_stepLine 52 = .ok (.iaload, 1) := by decide +kernel
theorem dX5_stepLine_53 : decode cX5_stepLine 53 = .ok (.if_icmp .gt 9, 3) := by decide +kernel
theorem dX5_stepLine_56 : decode cX5_stepLine 56 = .ok (.aload_n 0, 1) := by decide +kernel
theorem dX5_stepLine_57 : decode cX5_stepLine 57 = .ok (.iconst 2, 1) := by decide +kernel
theorem dX5_stepLine_58 : decode cX5_stepLine 58 = .ok (.invokevirtual 90, 3) := by decide +kernel
theorem dX5_stepLine_61 : decode cX5_stepLine 61 = .ok (.ireturn, 1) := by decide +kernel
theorem dX5_stepLine_62 : decode cX5_stepLine 62 = .ok (.aload_n 0, 1) := by decide +kernel
theorem dX5_stepLine_63 : decode cX5_stepLine 63 = .ok (.dup, 1) := by decide +kernel
theorem dX5_stepLine_64 : decode cX5_stepLine 64 = .ok (.getfield 47, 3) := by decide +kernel
theorem dX5_stepLine_67 : decode cX5_stepLine 67 = .ok (.iconst 1, 1) := by decide +kernel
theorem dX5_stepLine_68 : decode cX5_stepLine 68 = .ok (.iadd, 1) := by decide +kernel
theorem dX5_stepLine_69 : decode cX5_stepLine 69 = .ok (.putfield 47, 3) := by decide +kernel
theorem dX5_stepLine_72 : decode cX5_stepLine 72 = .ok (.aload_n 0, 1) := by decide +kernel
theorem dX5_stepLine_73 : decode cX5_stepLine 73 = .ok (.invokevirtual 134, 3) := by decide +kernel
theorem dX5_stepLine_76 : decode cX5_stepLine 76 = .ok (.ifCond .ne 5, 3) := by decide +kernel
theorem dX5_stepLine_79 : decode cX5_stepLine 79 = .ok (.iconst 0, 1) := by decide +kernel
theorem dX5_stepLine_80 : decode cX5_stepLine 80 = .ok (.ireturn, 1) := by decide +kernel
theorem dX5_stepLine_81 : decode cX5_stepLine 81 = .ok (.aload_n 0, 1) := by decide +kernel
theorem dX5_stepLine_82 : decode cX5_stepLine 82 = .ok (.getfield 57, 3) := by decide +kernel
theorem dX5_stepLine_85 : decode cX5_stepLine 85 = .ok (.iload_n 1, 1) := by decide +kernel
theorem dX5_stepLine_86 : decode cX5_stepLine 86 = .ok (.aload_n 0, 1) := by decide +kernel
theorem dX5_stepLine_87 : decode cX5_stepLine 87 = .ok (.getfield 19, 3) := by decide +kernel
theorem dX5_stepLine_90 : decode cX5_stepLine 90 = .ok (.aload_n 0, 1) := by decide +kernel
theorem dX5_stepLine_91 : decode cX5_stepLine 91 = .ok (.getfield 47, 3) := by decide +kernel
theorem dX5_stepLine_94 : decode cX5_stepLine 94 = .ok (.iaload, 1) := by decide +kernel
theorem dX5_stepLine_95 : decode cX5_stepLine 95 = .ok (.invokevirtual 137, 3) := by decide +kernel
theorem dX5_stepLine_98 : decode cX5_stepLine 98 = .ok (.aload_n 0, 1) := by decide +kernel
theorem dX5_stepLine_99 : decode cX5_stepLine 99 = .ok (.dup, 1) := by decide +kernel
theorem dX5_stepLine_100 : decode cX5_stepLine 100 = .ok (.getfield 47, 3) := by decide +kernel
theorem dX5_stepLine_103 : decode cX5_stepLine 103 = .ok (.iconst 1, 1) := by decide +kernel
theorem dX5_stepLine_104 : decode cX5_stepLine 104 = .ok (.iadd, 1) := by decide +kernel
theorem dX5_stepLine_105 : decode cX5_stepLine 105 = .ok (.putfield 47, 3) := by decide +kernel
theorem dX5_stepLine_108 : decode cX5_stepLine 108 = .ok (.iconst 1, 1) := by decide +kernel
theorem dX5_stepLine_109 : decode cX5_stepLine 109 = .ok (.ireturn, 1) := by decide +kernel
theorem dX5_reliefLine_0 : decode cX5_reliefLine 0 = .ok (.aload_n 0, 1) := by decide +kernel
theorem dX5_reliefLine_1 : decode cX5_reliefLine 1 = .ok (.invokevirtual 70, 3) := by decide +kernel
theorem dX5_reliefLine_4 : decode cX5_reliefLine 4 = .ok (.istore_n 1, 1) := by decide +kernel
theorem dX5_reliefLine_5 : decode cX5_reliefLine 5 = .ok (.iload_n 1, 1) := by decide +kernel
theorem dX5_reliefLine_6 : decode cX5_reliefLine 6 = .ok (.bipush 20, 2) := by decide +kernel
theorem dX5_reliefLine_8 : decode cX5_reliefLine 8 = .ok (.if_icmp .eq 21, 3) := by decide +kernel
theorem dX5_reliefLine_11 : decode cX5_reliefLine 11 = .ok (.iload_n 1, 1) := by decide +kernel
theorem dX5_reliefLine_12 : decode cX5_reliefLine 12 = .ok (.bipush 21, 2) := by decide +kernel
theorem dX5_reliefLine_14 : decode cX5_reliefLine 14 = .ok (.if_icmp .eq 15, 3) := by decide +kernel
theorem dX5_reliefLine_17 : decode cX5_reliefLine 17 = .ok (.iload_n 1, 1) := by decide +kernel
theorem dX5_reliefLine_18 : decode cX5_reliefLine 18 = .ok (.bipush 16, 2) := by decide +kernel
theorem dX5_reliefLine_20 : decode cX5_reliefLine 20 = .ok (.if_icmp .eq 9, 3) := by decide +kernel
theorem dX5_reliefLine_23 : decode cX5_reliefLine 23 = .ok (.aload_n 0, 1) := by decide +kernel
theorem dX5_reliefLine_24 : decode cX5_reliefLine 24 = .ok (.iconst 1, 1) := by decide +kernel
theorem dX5_reliefLine_25 : decode cX5_reliefLine 25 = .ok (.invokevirtual 90, 3) := by decide +kernel
theorem dX5_reliefLine_28 : decode cX5_reliefLine 28 = .ok (.ireturn, 1) := by decide +kernel
theorem dX5_reliefLine_29 : decode cX5_reliefLine 29 = .ok (.aload_n 0, 1) := by decide +kernel
theorem dX5_reliefLine_30 : decode cX5_reliefLine 30 = .ok (.iconst 1, 1) := by decide +kernel
theorem dX5_reliefLine_31 : decode cX5_reliefLine 31 = .ok (.putfield 54, 3) := by decide +kernel
theorem dX5_reliefLine_34 : decode cX5_reliefLine 34 = .ok (.aload_n 0, 1) := by decide +kernel
theorem dX5_reliefLine_35 : decode cX5_reliefLine 35 = .ok (.getfield 57, 3) := by decide +kernel
theorem dX5_reliefLine_38 : decode cX5_reliefLine 38 = .ok (.iload_n 1, 1) := by decide +kernel
theorem dX5_reliefLine_39 : decode cX5_reliefLine 39 = .ok (.invokestatic 141, 3) := by decide +kernel
theorem dX5_reliefLine_42 : decode cX5_reliefLine 42 = .ok (.putfield 145, 3) := by decide +kernel
theorem dX5_reliefLine_45 : decode cX5_reliefLine 45 = .ok (.aload_n 0, 1) := by decide +kernel
theorem dX5_reliefLine_46 : decode cX5_reliefLine 46 = .ok (.dup, 1) := by decide +kernel
theorem dX5_reliefLine_47 : decode cX5_reliefLine 47 = .ok (.getfield 47, 3) := by decide +kernel
theorem dX5_reliefLine_50 : decode cX5_reliefLine 50 = .ok (.iconst 1, 1) := by decide +kernel
theorem dX5_reliefLine_51 : decode cX5_reliefLine 51 = .ok (.iadd, 1) := by decide +kernel
theorem dX5_reliefLine_52 : decode cX5_reliefLine 52 = .ok (.putfield 47, 3) := by decide +kernel
theorem dX5_reliefLine_55 : decode cX5_reliefLine 55 = .ok (.iconst 1, 1) := by decide +kernel
theorem dX5_reliefLine_56 : decode cX5_reliefLine 56 = .ok (.ireturn, 1) := by decide +kernel
theorem dX5_reliefOf_0 : decode cX5_reliefOf 0 = .ok (.iload_n 0, 1) := by decide +kernel
theorem dX5_reliefOf_1 : decode cX5_reliefOf 1 = .ok (.bipush 21, 2) := by decide +kernel
theorem dX5_reliefOf_3 : decode cX5_reliefOf 3 = .ok (.if_icmp .ne 5, 3) := by decide +kernel
theorem dX5_reliefOf_6 : decode cX5_reliefOf 6 = .ok (.iconst 1, 1) := by decide +kernel
theorem dX5_reliefOf_7 : decode cX5_reliefOf 7 = .ok (.ireturn, 1) := by decide +kernel
theorem dX5_reliefOf_8 : decode cX5_reliefOf 8 = .ok (.iload_n 0, 1) := by decide +kernel
theorem dX5_reliefOf_9 : decode cX5_reliefOf 9 = .ok (.bipush 16, 2) := by decide +kernel
theorem dX5_reliefOf_11 : decode cX5_reliefOf 11 = .ok (.if_icmp .ne 7, 3) := by decide +kernel
theorem dX5_reliefOf_14 : decode cX5_reliefOf 14 = .ok (.iconst 2, 1) := by decide +kernel
theorem dX5_reliefOf_15 : decode cX5_reliefOf 15 = .ok (.goto 4, 3) := by decide +kernel
theorem dX5_reliefOf_18 : decode cX5_reliefOf 18 = .ok (.iconst 0, 1) := by decide +kernel
theorem dX5_reliefOf_19 : decode cX5_reliefOf 19 = .ok (.ireturn, 1) := by decide +kernel
theorem dX5_pactLine_0 : decode cX5_pactLine 0 = .ok (.aload_n 0, 1) := by decide +kernel
theorem dX5_pactLine_1 : decode cX5_pactLine 1 = .ok (.invokevirtual 70, 3) := by decide +kernel
theorem dX5_pactLine_4 : decode cX5_pactLine 4 = .ok (.istore_n 2, 1) := by decide +kernel
theorem dX5_pactLine_5 : decode cX5_pactLine 5 = .ok (.iload_n 2, 1) := by decide +kernel
theorem dX5_pactLine_6 : decode cX5_pactLine 6 = .ok (.bipush 18, 2) := by decide +kernel
theorem dX5_pactLine_8 : decode cX5_pactLine 8 = .ok (.if_icmp .eq 21, 3) := by decide +kernel
theorem dX5_pactLine_11 : decode cX5_pactLine 11 = .ok (.iload_n 2, 1) := by decide +kernel
theorem dX5_pactLine_12 : decode cX5_pactLine 12 = .ok (.bipush 25, 2) := by decide +kernel
theorem dX5_pactLine_14 : decode cX5_pactLine 14 = .ok (.if_icmp .lt 9, 3) := by decide +kernel
theorem dX5_pactLine_17 : decode cX5_pactLine 17 = .ok (.iload_n 2, 1) := by decide +kernel
theorem dX5_pactLine_18 : decode cX5_pactLine 18 = .ok (.bipush 28, 2) := by decide +kernel
theorem dX5_pactLine_20 : decode cX5_pactLine 20 = .ok (.if_icmp .le 9, 3) := by decide +kernel
theorem dX5_pactLine_23 : decode cX5_pactLine 23 = .ok (.aload_n 0, 1) := by decide +kernel
theorem dX5_pactLine_24 : decode cX5_pactLine 24 = .ok (.iconst 1, 1) := by decide +kernel
theorem dX5_pactLine_25 : decode cX5_pactLine 25 = .ok (.invokevirtual 90, 3) := by decide +kernel
theorem dX5_pactLine_28 : decode cX5_pactLine 28 = .ok (.ireturn, 1) := by decide +kernel
theorem dX5_pactLine_29 : decode cX5_pactLine 29 = .ok (.iload_n 1, 1) := by decide +kernel
theorem dX5_pactLine_30 : decode cX5_pactLine 30 = .ok (.bipush 20, 2) := by decide +kernel
theorem dX5_pactLine_32 : decode cX5_pactLine 32 = .ok (.if_icmp .ge 35, 3) := by decide +kernel
theorem dX5_pactLine_35 : decode cX5_pactLine 35 = .ok (.iload_n 2, 1) := by decide +kernel
theorem dX5_pactLine_36 : decode cX5_pactLine 36 = .ok (.bipush 18, 2) := by decide +kernel
theorem dX5_pactLine_38 : decode cX5_pactLine 38 = .ok (.if_icmp .ne 13, 3) := by decide +kernel
theorem dX5_pactLine_41 : decode cX5_pactLine 41 = .ok (.aload_n 0, 1) := by decide +kernel
theorem dX5_pactLine_42 : decode cX5_pactLine 42 = .ok (.getfield 80, 3) := by decide +kernel
theorem dX5_pactLine_45 : decode cX5_pactLine 45 = .ok (.getfield 148, 3) := by decide +kernel
theorem dX5_pactLine_48 : decode cX5_pactLine 48 = .ok (.ifCond .ne 19, 3) := by decide +kernel
theorem dX5_pactLine_51 : decode cX5_pactLine 51 = .ok (.iload_n 2, 1) := by decide +kernel
theorem dX5_pactLine_52 : decode cX5_pactLine 52 = .ok (.bipush 28, 2) := by decide +kernel
theorem dX5_pactLine_54 : decode cX5_pactLine 54 = .ok (.if_icmp .ne 19, 3) := by decide +kernel
theorem dX5_pactLine_57 : decode cX5_pactLine 57 = .ok (.aload_n 0, 1) := by decide +kernel
theorem dX5_pactLine_58 : decode cX5_pactLine 58 = .ok (.getfield 80, 3) := by decide +kernel
theorem dX5_pactLine_61 : decode cX5_pactLine 61 = .ok (.getfield 149, 3) := by decide +kernel
theorem dX5_pactLine_64 : decode cX5_pactLine 64 = .ok (.ifCond .eq 9, 3) := by decide +kernel
theorem dX5_pactLine_67 : decode cX5_pactLine 67 = .ok (.aload_n 0, 1) := by decide +kernel
theorem dX5_pactLine_68 : decode cX5_pactLine 68 = .ok (.iconst 3, 1) := by decide +kernel
theorem dX5_pactLine_69 : decode cX5_pactLine 69 = .ok (.invokevirtual 90, 3) := by decide +kernel
theorem dX5_pactLine_72 : decode cX5_pactLine 72 = .ok (.ireturn, 1) := by decide +kernel
theorem dX5_pactLine_73 : decode cX5_pactLine 73 = .ok (.aload_n 0, 1) := by decide +kernel
theorem dX5_pactLine_74 : decode cX5_pactLine 74 = .ok (.dup, 1) := by decide +kernel
theorem dX5_pactLine_75 : decode cX5_pactLine 75 = .ok (.getfield 47, 3) := by decide +kernel
theorem dX5_pactLine_78 : decode cX5_pactLine 78 = .ok (.iconst 1, 1) := by decide +kernel
theorem dX5_pactLine_79 : decode cX5_pactLine 79 = .ok (.iadd, 1) := by decide +kernel
theorem dX5_pactLine_80 : decode cX5_pactLine 80 = .ok (.putfield 47, 3) := by decide +kernel
theorem dX5_pactLine_83 : decode cX5_pactLine 83 = .ok (.iload_n 2, 1) := by decide +kernel
theorem dX5_pactLine_84 : decode cX5_pactLine 84 = .ok (.tableswitch 76 18 27 #[71, 76, 76, 76, 76, 76, 76, 56, 61, 66], 56) := by decide +kernel
theorem dX5_pactLine_140 : decode cX5_pactLine 140 = .ok (.aload_n 0, 1) := by decide +kernel
theorem dX5_pactLine_141 : decode cX5_pactLine 141 = .ok (.invokevirtual 152, 3) := by decide +kernel
theorem dX5_pactLine_144 : decode cX5_pactLine 144 = .ok (.ireturn, 1) := by decide +kernel
theorem dX5_pactLine_145 : decode cX5_pactLine 145 = .ok (.aload_n 0, 1) := by decide +kernel
theorem dX5_pactLine_146 : decode cX5_pactLine 146 = .ok (.invokevirtual 155, 3) := by decide +kernel
theorem dX5_pactLine_149 : decode cX5_pactLine 149 = .ok (.ireturn, 1) := by decide +kernel
theorem dX5_pactLine_150 : decode cX5_pactLine 150 = .ok (.aload_n 0, 1) := by decide +kernel
theorem dX5_pactLine_151 : decode cX5_pactLine 151 = .ok (.invokevirtual 158, 3) := by decide +kernel
theorem dX5_pactLine_154 : decode cX5_pactLine 154 = .ok (.ireturn, 1) := by decide +kernel
theorem dX5_pactLine_155 : decode cX5_pactLine 155 = .ok (.aload_n 0, 1) := by decide +kernel
theorem dX5_pactLine_156 : decode cX5_pactLine 156 = .ok (.invokevirtual 161, 3) := by decide +kernel
theorem dX5_pactLine_159 : decode cX5_pactLine 159 = .ok (.ireturn, 1) := by decide +kernel
theorem dX5_pactLine_160 : decode cX5_pactLine 160 = .ok (.aload_n 0, 1) := by decide +kernel
theorem dX5_pactLine_161 : decode cX5_pactLine 161 = .ok (.getfield 80, 3) := by decide +kernel
theorem dX5_pactLine_164 : decode cX5_pactLine 164 = .ok (.iconst 1, 1) := by decide +kernel
theorem dX5_pactLine_165 : decode cX5_pactLine 165 = .ok (.putfield 149, 3) := by decide +kernel
theorem dX5_pactLine_168 : decode cX5_pactLine 168 = .ok (.iconst 1, 1) := by decide +kernel
theorem dX5_pactLine_169 : decode cX5_pactLine 169 = .ok (.ireturn, 1) := by decide +kernel
theorem dX5_testLine_0 : decode cX5_testLine 0 = .ok (.aload_n 0, 1) := by decide +kernel
theorem dX5_testLine_1 : decode cX5_testLine 1 = .ok (.invokevirtual 70, 3) := by decide +kernel
theorem dX5_testLine_4 : decode cX5_testLine 4 = .ok (.ifCond .lt 11, 3) := by decide +kernel
theorem dX5_testLine_7 : decode cX5_testLine 7 = .ok (.aload_n 0, 1) := by decide +kernel
theorem dX5_testLine_8 : decode cX5_testLine 8 = .ok (.invokevirtual 70, 3) := by decide +kernel
theorem dX5_testLine_11 : decode cX5_testLine 11 = .ok (.iconst 3, 1) := by decide +kernel
theorem dX5_testLine_12 : decode cX5_testLine 12 = .ok (.if_icmp .le 9, 3) := by decide +kernel
theorem dX5_testLine_15 : decode cX5_testLine 15 = .ok (.aload_n 0, 1) := by decide +kernel
theorem dX5_testLine_16 : decode cX5_testLine 16 = .ok (.iconst 1, 1) := by decide +kernel
theorem dX5_testLine_17 : decode cX5_testLine 17 = .ok (.invokevirtual 90, 3) := by decide +kernel
theorem dX5_testLine_20 : decode cX5_testLine 20 = .ok (.ireturn, 1) := by decide +kernel
theorem dX5_testLine_21 : decode cX5_testLine 21 = .ok (.aload_n 0, 1) := by decide +kernel
theorem dX5_testLine_22 : decode cX5_testLine 22 = .ok (.getfield 80, 3) := by decide +kernel
theorem dX5_testLine_25 : decode cX5_testLine 25 = .ok (.aload_n 0, 1) := by decide +kernel
theorem dX5_testLine_26 : decode cX5_testLine 26 = .ok (.invokevirtual 70, 3) := by decide +kernel
theorem dX5_testLine_29 : decode cX5_testLine 29 = .ok (.invokevirtual 164, 3) := by decide +kernel
theorem dX5_testLine_32 : decode cX5_testLine 32 = .ok (.aload_n 0, 1) := by decide +kernel
theorem dX5_testLine_33 : decode cX5_testLine 33 = .ok (.dup, 1) := by decide +kernel
theorem dX5_testLine_34 : decode cX5_testLine 34 = .ok (.getfield 47, 3) := by decide +kernel
theorem dX5_testLine_37 : decode cX5_testLine 37 = .ok (.iconst 1, 1) := by decide +kernel
theorem dX5_testLine_38 : decode cX5_testLine 38 = .ok (.iadd, 1) := by decide +kernel
theorem dX5_testLine_39 : decode cX5_testLine 39 = .ok (.putfield 47, 3) := by decide +kernel
theorem dX5_testLine_42 : decode cX5_testLine 42 = .ok (.iconst 1, 1) := by decide +kernel
theorem dX5_testLine_43 : decode cX5_testLine 43 = .ok (.ireturn, 1) := by decide +kernel
theorem dX5_onlyLine_0 : decode cX5_onlyLine 0 = .ok (.aload_n 0, 1) := by decide +kernel
theorem dX5_onlyLine_1 : decode cX5_onlyLine 1 = .ok (.aload_n 0, 1) := by decide +kernel
theorem dX5_onlyLine_2 : decode cX5_onlyLine 2 = .ok (.getfield 80, 3) := by decide +kernel
theorem dX5_onlyLine_5 : decode cX5_onlyLine 5 = .ok (.getfield 168, 3) := by decide +kernel
theorem dX5_onlyLine_8 : decode cX5_onlyLine 8 = .ok (.invokevirtual 171, 3) := by decide +kernel
theorem dX5_onlyLine_11 : decode cX5_onlyLine 11 = .ok (.ifCond .ne 5, 3) := by decide +kernel
theorem dX5_onlyLine_14 : decode cX5_onlyLine 14 = .ok (.iconst 0, 1) := by decide +kernel
theorem dX5_onlyLine_15 : decode cX5_onlyLine 15 = .ok (.ireturn, 1) := by decide +kernel
theorem dX5_onlyLine_16 : decode cX5_onlyLine 16 = .ok (.aload_n 0, 1) := by decide +kernel
theorem dX5_onlyLine_17 : decode cX5_onlyLine 17 = .ok (.getfield 80, 3) := by decide +kernel
theorem dX5_onlyLine_20 : decode cX5_onlyLine 20 = .ok (.dup, 1) := by decide +kernel
theorem dX5_onlyLine_21 : decode cX5_onlyLine 21 = .ok (.getfield 168, 3) := by decide +kernel
theorem dX5_onlyLine_24 : decode cX5_onlyLine 24 = .ok (.iconst 1, 1) := by decide +kernel
theorem dX5_onlyLine_25 : decode cX5_onlyLine 25 = .ok (.aload_n 0, 1) := by decide +kernel
theorem dX5_onlyLine_26 : decode cX5_onlyLine 26 = .ok (.invokevirtual 70, 3) := by decide +kernel
theorem dX5_onlyLine_29 : decode cX5_onlyLine 29 = .ok (.bipush 8, 2) := by decide +kernel
theorem dX5_onlyLine_31 : decode cX5_onlyLine 31 = .ok (.isub, 1) := by decide +kernel
theorem dX5_onlyLine_32 : decode cX5_onlyLine 32 = .ok (.ishl, 1) := by decide +kernel
theorem dX5_onlyLine_33 : decode cX5_onlyLine 33 = .ok (.ior, 1) := by decide +kernel
theorem dX5_onlyLine_34 : decode cX5_onlyLine 34 = .ok (.putfield 168, 3) := by decide +kernel
theorem dX5_onlyLine_37 : decode cX5_onlyLine 37 = .ok (.aload_n 0, 1) := by decide +kernel
theorem dX5_onlyLine_38 : decode cX5_onlyLine 38 = .ok (.dup, 1) := by decide +kernel
theorem dX5_onlyLine_39 : decode cX5_onlyLine 39 = .ok (.getfield 47, 3) := by decide +kernel
theorem dX5_onlyLine_42 : decode cX5_onlyLine 42 = .ok (.iconst 1, 1) := by decide +kernel
theorem dX5_onlyLine_43 : decode cX5_onlyLine 43 = .ok (.iadd, 1) := by decide +kernel
theorem dX5_onlyLine_44 : decode cX5_onlyLine 44 = .ok (.putfield 47, 3) := by decide +kernel
theorem dX5_onlyLine_47 : decode cX5_onlyLine 47 = .ok (.iconst 1, 1) := by decide +kernel
theorem dX5_onlyLine_48 : decode cX5_onlyLine 48 = .ok (.ireturn, 1) := by decide +kernel
theorem dX5_topLine_0 : decode cX5_topLine 0 = .ok (.aload_n 0, 1) := by decide +kernel
theorem dX5_topLine_1 : decode cX5_topLine 1 = .ok (.aload_n 0, 1) := by decide +kernel
theorem dX5_topLine_2 : decode cX5_topLine 2 = .ok (.getfield 80, 3) := by decide +kernel
theorem dX5_topLine_5 : decode cX5_topLine 5 = .ok (.getfield 174, 3) := by decide +kernel
theorem dX5_topLine_8 : decode cX5_topLine 8 = .ok (.invokevirtual 171, 3) := by decide +kernel
theorem dX5_topLine_11 : decode cX5_topLine 11 = .ok (.ifCond .ne 5, 3) := by decide +kernel
theorem dX5_topLine_14 : decode cX5_topLine 14 = .ok (.iconst 0, 1) := by decide +kernel
theorem dX5_topLine_15 : decode cX5_topLine 15 = .ok (.ireturn, 1) := by decide +kernel
theorem dX5_topLine_16 : decode cX5_topLine 16 = .ok (.aload_n 0, 1) := by decide +kernel
theorem dX5_topLine_17 : decode cX5_topLine 17 = .ok (.invokevirtual 70, 3) := by decide +kernel
theorem dX5_topLine_20 : decode cX5_topLine 20 = .ok (.bipush 8, 2) := by decide +kernel
theorem dX5_topLine_22 : decode cX5_topLine 22 = .ok (.isub, 1) := by decide +kernel
theorem dX5_topLine_23 : decode cX5_topLine 23 = .ok (.istore_n 1, 1) := by decide +kernel
theorem dX5_topLine_24 : decode cX5_topLine 24 = .ok (.aload_n 0, 1) := by decide +kernel
theorem dX5_topLine_25 : decode cX5_topLine 25 = .ok (.getfield 80, 3) := by decide +kernel
theorem dX5_topLine_28 : decode cX5_topLine 28 = .ok (.dup, 1) := by decide +kernel
theorem dX5_topLine_29 : decode cX5_topLine 29 = .ok (.getfield 174, 3) := by decide +kernel
theorem dX5_topLine_32 : decode cX5_topLine 32 = .ok (.iconst 1, 1) := by decide +kernel
theorem dX5_topLine_33 : decode cX5_topLine 33 = .ok (.iload_n 1, 1) := by decide +kernel
theorem dX5_topLine_34 : decode cX5_topLine 34 = .ok (.ishl, 1) := by decide +kernel
theorem dX5_topLine_35 : decode cX5_topLine 35 = .ok (.ior, 1) := by decide +kernel
theorem dX5_topLine_36 : decode cX5_topLine 36 = .ok (.putfield 174, 3) := by decide +kernel
theorem dX5_topLine_39 : decode cX5_topLine 39 = .ok (.aload_n 0, 1) := by decide +kernel
theorem dX5_topLine_40 : decode cX5_topLine 40 = .ok (.dup, 1) := by decide +kernel
theorem dX5_topLine_41 : decode cX5_topLine 41 = .ok (.getfield 47, 3) := by decide +kernel
theorem dX5_topLine_44 : decode cX5_topLine 44 = .ok (.iconst 1, 1) := by decide +kernel
theorem dX5_topLine_45 : decode cX5_topLine 45 = .ok (.iadd, 1) := by decide +kernel
theorem dX5_topLine_46 : decode cX5_topLine 46 = .ok (.putfield 47, 3) := by decide +kernel
theorem dX5_topLine_49 : decode cX5_topLine 49 = .ok (.aload_n 0, 1) := by decide +kernel
theorem dX5_topLine_50 : decode cX5_topLine 50 = .ok (.invokevirtual 134, 3) := by decide +kernel
theorem dX5_topLine_53 : decode cX5_topLine 53 = .ok (.ifCond .ne 5, 3) := by decide +kernel
theorem dX5_topLine_56 : decode cX5_topLine 56 = .ok (.iconst 0, 1) := by decide +kernel
theorem dX5_topLine_57 : decode cX5_topLine 57 = .ok (.ireturn, 1) := by decide +kernel
theorem dX5_topLine_58 : decode cX5_topLine 58 = .ok (.aload_n 0, 1) := by decide +kernel
theorem dX5_topLine_59 : decode cX5_topLine 59 = .ok (.getfield 80, 3) := by decide +kernel
theorem dX5_topLine_62 : decode cX5_topLine 62 = .ok (.getfield 177, 3) := by decide +kernel
theorem dX5_topLine_65 : decode cX5_topLine 65 = .ok (.iload_n 1, 1) := by decide +kernel
theorem dX5_topLine_66 : decode cX5_topLine 66 = .ok (.aload_n 0, 1) := by decide +kernel
theorem dX5_topLine_67 : decode cX5_topLine 67 = .ok (.getfield 19, 3) := by decide +kernel
theorem dX5_topLine_70 : decode cX5_topLine 70 = .ok (.aload_n 0, 1) := by decide +kernel
theorem dX5_topLine_71 : decode cX5_topLine 71 = .ok (.getfield 47, 3) := by decide +kernel
theorem dX5_topLine_74 : decode cX5_topLine 74 = .ok (.iaload, 1) := by decide +kernel
theorem dX5_topLine_75 : decode cX5_topLine 75 = .ok (.iastore, 1) := by decide +kernel
theorem dX5_topLine_76 : decode cX5_topLine 76 = .ok (.aload_n 0, 1) := by decide +kernel
theorem dX5_topLine_77 : decode cX5_topLine 77 = .ok (.dup, 1) := by decide +kernel
theorem dX5_topLine_78 : decode cX5_topLine 78 = .ok (.getfield 47, 3) := by decide +kernel
theorem dX5_topLine_81 : decode cX5_topLine 81 = .ok (.iconst 1, 1) := by decide +kernel
theorem dX5_topLine_82 : decode cX5_topLine 82 = .ok (.iadd, 1) := by decide +kernel
theorem dX5_topLine_83 : decode cX5_topLine 83 = .ok (.putfield 47, 3) := by decide +kernel
theorem dX5_topLine_86 : decode cX5_topLine 86 = .ok (.iconst 1, 1) := by decide +kernel
theorem dX5_topLine_87 : decode cX5_topLine 87 = .ok (.ireturn, 1) := by decide +kernel
theorem dX5_pactRelief_0 : decode cX5_pactRelief 0 = .ok (.aload_n 0, 1) := by decide +kernel
theorem dX5_pactRelief_1 : decode cX5_pactRelief 1 = .ok (.invokevirtual 70, 3) := by decide +kernel
theorem dX5_pactRelief_4 : decode cX5_pactRelief 4 = .ok (.bipush 21, 2) := by decide +kernel
theorem dX5_pactRelief_6 : decode cX5_pactRelief 6 = .ok (.if_icmp .eq 18, 3) := by decide +kernel
theorem dX5_pactRelief_9 : decode cX5_pactRelief 9 = .ok (.aload_n 0, 1) := by decide +kernel
theorem dX5_pactRelief_10 : decode cX5_pactRelief 10 = .ok (.invokevirtual 70, 3) := by decide +kernel
theorem dX5_pactRelief_13 : decode cX5_pactRelief 13 = .ok (.bipush 16, 2) := by decide +kernel
theorem dX5_pactRelief_15 : decode cX5_pactRelief 15 = .ok (.if_icmp .eq 9, 3) := by decide +kernel
theorem dX5_pactRelief_18 : decode cX5_pactRelief 18 = .ok (.aload_n 0, 1) := by decide +kernel
theorem dX5_pactRelief_19 : decode cX5_pactRelief 19 = .ok (.iconst 1, 1) := by decide +kernel
theorem dX5_pactRelief_20 : decode cX5_pactRelief 20 = .ok (.invokevirtual 90, 3) := by decide +kernel
theorem dX5_pactRelief_23 : decode cX5_pactRelief 23 = .ok (.ireturn, 1) := by decide +kernel
theorem dX5_pactRelief_24 : decode cX5_pactRelief 24 = .ok (.aload_n 0, 1) := by decide +kernel
theorem dX5_pactRelief_25 : decode cX5_pactRelief 25 = .ok (.getfield 80, 3) := by decide +kernel
theorem dX5_pactRelief_28 : decode cX5_pactRelief 28 = .ok (.aload_n 0, 1) := by decide +kernel
theorem dX5_pactRelief_29 : decode cX5_pactRelief 29 = .ok (.invokevirtual 70, 3) := by decide +kernel
theorem dX5_pactRelief_32 : decode cX5_pactRelief 32 = .ok (.invokestatic 141, 3) := by decide +kernel
theorem dX5_pactRelief_35 : decode cX5_pactRelief 35 = .ok (.putfield 148, 3) := by decide +kernel
theorem dX5_pactRelief_38 : decode cX5_pactRelief 38 = .ok (.aload_n 0, 1) := by decide +kernel
theorem dX5_pactRelief_39 : decode cX5_pactRelief 39 = .ok (.dup, 1) := by decide +kernel
theorem dX5_pactRelief_40 : decode cX5_pactRelief 40 = .ok (.getfield 47, 3) := by decide +kernel
theorem dX5_pactRelief_43 : decode cX5_pactRelief 43 = .ok (.iconst 1, 1) := by decide +kernel
theorem dX5_pactRelief_44 : decode cX5_pactRelief 44 = .ok (.iadd, 1) := by decide +kernel
theorem dX5_pactRelief_45 : decode cX5_pactRelief 45 = .ok (.putfield 47, 3) := by decide +kernel
theorem dX5_pactRelief_48 : decode cX5_pactRelief 48 = .ok (.iconst 1, 1) := by decide +kernel
theorem dX5_pactRelief_49 : decode cX5_pactRelief 49 = .ok (.ireturn, 1) := by decide +kernel
theorem dX5_condition_0 : decode cX5_condition 0 = .ok (.aload_n 0, 1) := by decide +kernel
theorem dX5_condition_1 : decode cX5_condition 1 = .ok (.iconst 0, 1) := by decide +kernel
theorem dX5_condition_2 : decode cX5_condition 2 = .ok (.putfield 180, 3) := by decide +kernel
theorem dX5_condition_5 : decode cX5_condition 5 = .ok (.aload_n 0, 1) := by decide +kernel
theorem dX5_condition_6 : decode cX5_condition 6 = .ok (.iconst 0, 1) := by decide +kernel
theorem dX5_condition_7 : decode cX5_condition 7 = .ok (.putfield 183, 3) := by decide +kernel
theorem dX5_condition_10 : decode cX5_condition 10 = .ok (.iconst 0, 1) := by decide +kernel
theorem dX5_condition_11 : decode cX5_condition 11 = .ok (.istore_n 1, 1) := by decide +kernel
theorem dX5_condition_12 : decode cX5_condition 12 = .ok (.iload_n 1, 1) := by decide +kernel
theorem dX5_condition_13 : decode cX5_condition 13 = .ok (.aload_n 0, 1) := by decide +kernel
theorem dX5_condition_14 : decode cX5_condition 14 = .ok (.getfield 186, 3) := by decide +kernel
theorem dX5_condition_17 : decode cX5_condition 17 = .ok (.if_icmp .gt 162, 3) := by decide +kernel
theorem dX5_condition_20 : decode cX5_condition 20 = .ok (.aload_n 0, 1) := by decide +kernel
theorem dX5_condition_21 : decode cX5_condition 21 = .ok (.invokevirtual 70, 3) := by decide +kernel
theorem dX5_condition_24 : decode cX5_condition 24 = .ok (.bipush 40, 2) := by decide +kernel
theorem dX5_condition_26 : decode cX5_condition 26 = .ok (.if_icmp .eq 12, 3) := by decide +kernel
theorem dX5_condition_29 : decode cX5_condition 29 = .ok (.aload_n 0, 1) := by decide +kernel
theorem dX5_condition_30 : decode cX5_condition 30 = .ok (.invokevirtual 70, 3) := by decide +kernel
theorem dX5_condition_33 : decode cX5_condition 33 = .ok (.bipush 24, 2) := by decide +kernel
theorem dX5_condition_35 : decode cX5_condition 35 = .ok (.if_icmp .ne 31, 3) := by decide +kernel
theorem dX5_condition_38 : decode cX5_condition 38 = .ok (.aload_n 0, 1) := by decide +kernel
theorem dX5_condition_39 : decode cX5_condition 39 = .ok (.getfield 183, 3) := by decide +kernel
theorem dX5_condition_42 : decode cX5_condition 42 = .ok (.bipush 8, 2) := by decide +kernel
theorem dX5_condition_44 : decode cX5_condition 44 = .ok (.if_icmp .lt 9, 3) := by decide +kernel
theorem dX5_condition_47 : decode cX5_condition 47 = .ok (.aload_n 0, 1) := by decide +kernel
theorem dX5_condition_48 : decode cX5_condition 48 = .ok (.iconst 3, 1) := by decide +kernel
theorem dX5_condition_49 : decode cX5_condition 49 = .ok (.invokevirtual 90, 3) := by decide +kernel
theorem dX5_condition_52 : decode cX5_condition 52 = .ok (.ireturn, 1) := by decide +kernel
theorem dX5_condition_53 : decode cX5_condition 53 = .ok (.aload_n 0, 1) := by decide +kernel
theorem dX5_condition_54 : decode cX5_condition 54 = .ok (.dup, 1) := by decide +kernel
theorem dX5_condition_55 : decode cX5_condition 55 = .ok (.getfield 183, 3) := by decide +kernel
theorem dX5_condition_58 : decode cX5_condition 58 = .ok (.iconst 1, 1) := by decide +kernel
theorem dX5_condition_59 : decode cX5_condition 59 = .ok (.iadd, 1) := by decide +kernel
theorem dX5_condition_60 : decode cX5_condition 60 = .ok (.putfield 183, 3) := by decide +kernel
theorem dX5_condition_63 : decode cX5_condition 63 = .ok (.goto 102, 3) := by decide +kernel
theorem dX5_condition_66 : decode cX5_condition 66 = .ok (.aload_n 0, 1) := by decide +kernel
theorem dX5_condition_67 : decode cX5_condition 67 = .ok (.invokevirtual 122, 3) := by decide +kernel
theorem dX5_condition_70 : decode cX5_condition 70 = .ok (.ifCond .ne 5, 3) := by decide +kernel
theorem dX5_condition_73 : decode cX5_condition 73 = .ok (.iconst 0, 1) := by decide +kernel
theorem dX5_condition_74 : decode cX5_condition 74 = .ok (.ireturn, 1) := by decide +kernel
theorem dX5_condition_75 : decode cX5_condition 75 = .ok (.aload_n 0, 1) := by decide +kernel
theorem dX5_condition_76 : decode cX5_condition 76 = .ok (.invokevirtual 70, 3) := by decide +kernel
theorem dX5_condition_79 : decode cX5_condition 79 = .ok (.invokestatic 189, 3) := by decide +kernel
theorem dX5_condition_82 : decode cX5_condition 82 = .ok (.istore_n 2, 1) := by decide +kernel
theorem dX5_condition_83 : decode cX5_condition 83 = .ok (.iload_n 2, 1) := by decide +kernel
theorem dX5_condition_84 : decode cX5_condition 84 = .ok (.ifCond .ne 9, 3) := by decide +kernel
theorem dX5_condition_87 : decode cX5_condition 87 = .ok (.aload_n 0, 1) := by decide +kernel
theorem dX5_condition_88 : decode cX5_condition 88 = .ok (.iconst 1, 1) := by decide +kernel
theorem dX5_condition_89 : decode cX5_condition 89 = .ok (.invokevirtual 90, 3) := by decide +kernel
theorem dX5_condition_92 : decode cX5_condition 92 = .ok (.ireturn, 1) := by decide +kernel
theorem dX5_condition_93 : decode cX5_condition 93 = .ok (.aload_n 0, 1) := by decide +kernel
theorem dX5_condition_94 : decode cX5_condition 94 = .ok (.dup, 1) := by decide +kernel
theorem dX5_condition_95 : decode cX5_condition 95 = .ok (.getfield 47, 3) := by decide +kernel
theorem dX5_condition_98 : decode cX5_condition 98 = .ok (.iconst 1, 1) := by decide +kernel
theorem dX5_condition_99 : decode cX5_condition 99 = .ok (.iadd, 1) := by decide +kernel
theorem dX5_condition_100 : decode cX5_condition 100 = .ok (.putfield 47, 3) := by decide +kernel
theorem dX5_condition_103 : decode cX5_condition 103 = .ok (.aload_n 0, 1) := by decide +kernel
theorem dX5_condition_104 : decode cX5_condition 104 = .ok (.invokevirtual 122, 3) := by decide +kernel
theorem dX5_condition_107 : decode cX5_condition 107 = .ok (.ifCond .ne 5, 3) := by decide +kernel
theorem dX5_condition_110 : decode cX5_condition 110 = .ok (.iconst 0, 1) := by decide +kernel
theorem dX5_condition_111 : decode cX5_condition 111 = .ok (.ireturn, 1) := by decide +kernel
theorem dX5_condition_112 : decode cX5_condition 112 = .ok (.aload_n 0, 1) := by decide +kernel
theorem dX5_condition_113 : decode cX5_condition 113 = .ok (.getfield 57, 3) := by decide +kernel
theorem dX5_condition_116 : decode cX5_condition 116 = .ok (.iload_n 2, 1) := by decide +kernel
theorem dX5_condition_117 : decode cX5_condition 117 = .ok (.invokevirtual 192, 3) := by decide +kernel
theorem dX5_condition_120 : decode cX5_condition 120 = .ok (.aload_n 0, 1) := by decide +kernel
theorem dX5_condition_121 : decode cX5_condition 121 = .ok (.invokevirtual 195, 3) := by decide +kernel
theorem dX5_condition_124 : decode cX5_condition 124 = .ok (.aload_n 0, 1) := by decide +kernel
theorem dX5_condition_125 : decode cX5_condition 125 = .ok (.invokevirtual 70, 3) := by decide +kernel
theorem dX5_condition_128 : decode cX5_condition 128 = .ok (.bipush 23, 2) := by decide +kernel
theorem dX5_condition_130 : decode cX5_condition 130 = .ok (.if_icmp .eq 17, 3) := by decide +kernel
theorem dX5_condition_133 : decode cX5_condition 133 = .ok (.aload_n 0, 1) := by decide +kernel
theorem dX5_condition_134 : decode cX5_condition 134 = .ok (.invokevirtual 70, 3) := by decide +kernel
theorem dX5_condition_137 : decode cX5_condition 137 = .ok (.bipush 22, 2) := by decide +kernel
theorem dX5_condition_139 : decode cX5_condition 139 = .ok (.if_icmp .eq 8, 3) := by decide +kernel
theorem dX5_condition_142 : decode cX5_condition 142 = .ok (.aload_n 0, 1) := by decide +kernel
theorem dX5_condition_143 : decode cX5_condition 143 = .ok (.invokevirtual 198, 3) := by decide +kernel
theorem dX5_condition_146 : decode cX5_condition 146 = .ok (.ireturn, 1) := by decide +kernel
theorem dX5_condition_147 : decode cX5_condition 147 = .ok (.aload_n 0, 1) := by decide +kernel
theorem dX5_condition_148 : decode cX5_condition 148 = .ok (.aload_n 0, 1) := by decide +kernel
theorem dX5_condition_149 : decode cX5_condition 149 = .ok (.invokevirtual 70, 3) := by decide +kernel
theorem dX5_condition_152 : decode cX5_condition 152 = .ok (.bipush 22, 2) := by decide +kernel
theorem dX5_condition_154 : decode cX5_condition 154 = .ok (.if_icmp .ne 7, 3) := by decide +kernel
theorem dX5_condition_157 : decode cX5_condition 157 = .ok (.iconst 1, 1) := by decide +kernel
theorem dX5_condition_158 : decode cX5_condition 158 = .ok (.goto 4, 3) := by decide +kernel
theorem dX5_condition_161 : decode cX5_condition 161 = .ok (.iconst 0, 1) := by decide +kernel
theorem dX5_condition_162 : decode cX5_condition 162 = .ok (.invokevirtual 201, 3) := by decide +kernel
theorem dX5_condition_165 : decode cX5_condition 165 = .ok (.aload_n 0, 1) := by decide +kernel
theorem dX5_condition_166 : decode cX5_condition 166 = .ok (.aload_n 0, 1) := by decide +kernel
theorem dX5_condition_167 : decode cX5_condition 167 = .ok (.invokevirtual 70, 3) := by decide +kernel
theorem dX5_condition_170 : decode cX5_condition 170 = .ok (.invokevirtual 205, 3) := by decide +kernel
theorem dX5_condition_173 : decode cX5_condition 173 = .ok (.iinc 1 1, 3) := by decide +kernel
theorem dX5_condition_176 : decode cX5_condition 176 = .ok (.goto (-164), 3) := by decide +kernel
theorem dX5_condition_179 : decode cX5_condition 179 = .ok (.aload_n 0, 1) := by decide +kernel
theorem dX5_condition_180 : decode cX5_condition 180 = .ok (.iconst 1, 1) := by decide +kernel
theorem dX5_condition_181 : decode cX5_condition 181 = .ok (.invokevirtual 90, 3) := by decide +kernel
theorem dX5_condition_184 : decode cX5_condition 184 = .ok (.ireturn, 1) := by decide +kernel
theorem dX5_await_0 : decode cX5_await 0 = .ok (.aload_n 0, 1) := by decide +kernel
theorem dX5_await_1 : decode cX5_await 1 = .ok (.getfield 180, 3) := by decide +kernel
theorem dX5_await_4 : decode cX5_await 4 = .ok (.bipush 64, 2) := by decide +kernel
theorem dX5_await_6 : decode cX5_await 6 = .ok (.if_icmp .ge 23, 3) := by decide +kernel
theorem dX5_await_9 : decode cX5_await 9 = .ok (.aload_n 0, 1) := by decide +kernel
theorem dX5_await_10 : decode cX5_await 10 = .ok (.getfield 25, 3) := by decide +kernel
theorem dX5_await_13 : decode cX5_await 13 = .ok (.aload_n 0, 1) := by decide +kernel
theorem dX5_await_14 : decode cX5_await 14 = .ok (.getfield 180, 3) := by decide +kernel
theorem dX5_await_17 : decode cX5_await 17 = .ok (.iload_n 1, 1) := by decide +kernel
theorem dX5_await_18 : decode cX5_await 18 = .ok (.iastore, 1) := by decide +kernel
theorem dX5_await_19 : decode cX5_await 19 = .ok (.aload_n 0, 1) := by decide +kernel
theorem dX5_await_20 : decode cX5_await 20 = .ok (.dup, 1) := by decide +kernel
theorem dX5_await_21 : decode cX5_await 21 = .ok (.getfield 180, 3) := by decide +kernel
theorem dX5_await_24 : decode cX5_await 24 = .ok (.iconst 1, 1) := by decide +kernel
theorem dX5_await_25 : decode cX5_await 25 = .ok (.iadd, 1) := by decide +kernel
theorem dX5_await_26 : decode cX5_await 26 = .ok (.putfield 180, 3) := by decide +kernel
theorem dX5_await_29 : decode cX5_await 29 = .ok (.aload_n 0, 1) := by decide +kernel
theorem dX5_await_30 : decode cX5_await 30 = .ok (.dup, 1) := by decide +kernel
theorem dX5_await_31 : decode cX5_await 31 = .ok (.getfield 47, 3) := by decide +kernel
theorem dX5_await_34 : decode cX5_await 34 = .ok (.iconst 1, 1) := by decide +kernel
theorem dX5_await_35 : decode cX5_await 35 = .ok (.iadd, 1) := by decide +kernel
theorem dX5_await_36 : decode cX5_await 36 = .ok (.putfield 47, 3) := by decide +kernel
theorem dX5_await_39 : decode cX5_await 39 = .ok (.return_, 1) := by decide +kernel
theorem dX5_top_0 : decode cX5_top 0 = .ok (.aload_n 0, 1) := by decide +kernel
theorem dX5_top_1 : decode cX5_top 1 = .ok (.getfield 180, 3) := by decide +kernel
theorem dX5_top_4 : decode cX5_top 4 = .ok (.ifCond .le 26, 3) := by decide +kernel
theorem dX5_top_7 : decode cX5_top 7 = .ok (.aload_n 0, 1) := by decide +kernel
theorem dX5_top_8 : decode cX5_top 8 = .ok (.getfield 180, 3) := by decide +kernel
theorem dX5_top_11 : decode cX5_top 11 = .ok (.bipush 64, 2) := by decide +kernel
theorem dX5_top_13 : decode cX5_top 13 = .ok (.if_icmp .gt 17, 3) := by decide +kernel
theorem dX5_top_16 : decode cX5_top 16 = .ok (.aload_n 0, 1) := by decide +kernel
theorem dX5_top_17 : decode cX5_top 17 = .ok (.getfield 25, 3) := by decide +kernel
theorem dX5_top_20 : decode cX5_top 20 = .ok (.aload_n 0, 1) := by decide +kernel
theorem dX5_top_21 : decode cX5_top 21 = .ok (.getfield 180, 3) := by decide +kernel
theorem dX5_top_24 : decode cX5_top 24 = .ok (.iconst 1, 1) := by decide +kernel
theorem dX5_top_25 : decode cX5_top 25 = .ok (.isub, 1) := by decide +kernel
theorem dX5_top_26 : decode cX5_top 26 = .ok (.iaload, 1) := by decide +kernel
theorem dX5_top_27 : decode cX5_top 27 = .ok (.goto 5, 3) := by decide +kernel
theorem dX5_top_30 : decode cX5_top 30 = .ok (.bipush 102, 2) := by decide +kernel
theorem dX5_top_32 : decode cX5_top 32 = .ok (.ireturn, 1) := by decide +kernel
theorem dX5_closeClauses_0 : decode cX5_closeClauses 0 = .ok (.iconst 0, 1) := by decide +kernel
theorem dX5_closeClauses_1 : decode cX5_closeClauses 1 = .ok (.istore_n 1, 1) := by decide +kernel
theorem dX5_closeClauses_2 : decode cX5_closeClauses 2 = .ok (.iload_n 1, 1) := by decide +kernel
theorem dX5_closeClauses_3 : decode cX5_closeClauses 3 = .ok (.sipush 600, 3) := by decide +kernel
theorem dX5_closeClauses_6 : decode cX5_closeClauses 6 = .ok (.if_icmp .gt 88, 3) := by decide +kernel
theorem dX5_closeClauses_9 : decode cX5_closeClauses 9 = .ok (.aload_n 0, 1) := by decide +kernel
theorem dX5_closeClauses_10 : decode cX5_closeClauses 10 = .ok (.invokevirtual 208, 3) := by decide +kernel
theorem dX5_closeClauses_13 : decode cX5_closeClauses 13 = .ok (.bipush 24, 2) := by decide +kernel
theorem dX5_closeClauses_15 : decode cX5_closeClauses 15 = .ok (.if_icmp .ne 15, 3) := by decide +kernel
theorem dX5_closeClauses_18 : decode cX5_closeClauses 18 = .ok (.aload_n 0, 1) := by decide +kernel
theorem dX5_closeClauses_19 : decode cX5_closeClauses 19 = .ok (.getfield 57, 3) := by decide +kernel
theorem dX5_closeClauses_22 : decode cX5_closeClauses 22 = .ok (.bipush (-18), 2) := by decide +kernel
theorem dX5_closeClauses_24 : decode cX5_closeClauses 24 = .ok (.invokevirtual 192, 3) := by decide +kernel
theorem dX5_closeClauses_27 : decode cX5_closeClauses 27 = .ok (.goto 41, 3) := by decide +kernel
theorem dX5_closeClauses_30 : decode cX5_closeClauses 30 = .ok (.aload_n 0, 1) := by decide +kernel
theorem dX5_closeClauses_31 : decode cX5_closeClauses 31 = .ok (.invokevirtual 70, 3) := by decide +kernel
theorem dX5_closeClauses_34 : decode cX5_closeClauses 34 = .ok (.bipush 41, 2) := by decide +kernel
theorem dX5_closeClauses_36 : decode cX5_closeClauses 36 = .ok (.if_icmp .ne 31, 3) := by decide +kernel
theorem dX5_closeClauses_39 : decode cX5_closeClauses 39 = .ok (.aload_n 0, 1) := by decide +kernel
theorem dX5_closeClauses_40 : decode cX5_closeClauses 40 = .ok (.iconst 1, 1) := by decide +kernel
theorem dX5_closeClauses_41 : decode cX5_closeClauses 41 = .ok (.invokevirtual 201, 3) := by decide +kernel
theorem dX5_closeClauses_44 : decode cX5_closeClauses 44 = .ok (.aload_n 0, 1) := by decide +kernel
theorem dX5_closeClauses_45 : decode cX5_closeClauses 45 = .ok (.invokevirtual 208, 3) := by decide +kernel
theorem dX5_closeClauses_48 : decode cX5_closeClauses 48 = .ok (.bipush 40, 2) := by decide +kernel
theorem dX5_closeClauses_50 : decode cX5_closeClauses 50 = .ok (.if_icmp .eq 4, 3) := by decide +kernel
theorem dX5_closeClauses_53 : decode cX5_closeClauses 53 = .ok (.return_, 1) := by decide +kernel
theorem dX5_closeClauses_54 : decode cX5_closeClauses 54 = .ok (.aload_n 0, 1) := by decide +kernel
theorem dX5_closeClauses_55 : decode cX5_closeClauses 55 = .ok (.dup, 1) := by decide +kernel
theorem dX5_closeClauses_56 : decode cX5_closeClauses 56 = .ok (.getfield 47, 3) := by decide +kernel
theorem dX5_closeClauses_59 : decode cX5_closeClauses 59 = .ok (.iconst 1, 1) := by decide +kernel
theorem dX5_closeClauses_60 : decode cX5_closeClauses 60 = .ok (.iadd, 1) := by decide +kernel
theorem dX5_closeClauses_61 : decode cX5_closeClauses 61 = .ok (.putfield 47, 3) := by decide +kernel
theorem dX5_closeClauses_64 : decode cX5_closeClauses 64 = .ok (.goto 4, 3) := by decide +kernel
theorem dX5_closeClauses_67 : decode cX5_closeClauses 67 = .ok (.return_, 1) := by decide +kernel
theorem dX5_closeClauses_68 : decode cX5_closeClauses 68 = .ok (.aload_n 0, 1) := by decide +kernel
theorem dX5_closeClauses_69 : decode cX5_closeClauses 69 = .ok (.dup, 1) := by decide +kernel
theorem dX5_closeClauses_70 : decode cX5_closeClauses 70 = .ok (.getfield 180, 3) := by decide +kernel
theorem dX5_closeClauses_73 : decode cX5_closeClauses 73 = .ok (.iconst 1, 1) := by decide +kernel
theorem dX5_closeClauses_74 : decode cX5_closeClauses 74 = .ok (.isub, 1) := by decide +kernel
theorem dX5_closeClauses_75 : decode cX5_closeClauses 75 = .ok (.putfield 180, 3) := by decide +kernel
theorem dX5_closeClauses_78 : decode cX5_closeClauses 78 = .ok (.aload_n 0, 1) := by decide +kernel
theorem dX5_closeClauses_79 : decode cX5_closeClauses 79 = .ok (.dup, 1) := by decide +kernel
theorem dX5_closeClauses_80 : decode cX5_closeClauses 80 = .ok (.getfield 183, 3) := by decide +kernel
theorem dX5_closeClauses_83 : decode cX5_closeClauses 83 = .ok (.iconst 1, 1) := by decide +kernel
theorem dX5_closeClauses_84 : decode cX5_closeClauses 84 = .ok (.isub, 1) := by decide +kernel
theorem dX5_closeClauses_85 : decode cX5_closeClauses 85 = .ok (.putfield 183, 3) := by decide +kernel
theorem dX5_closeClauses_88 : decode cX5_closeClauses 88 = .ok (.iinc 1 1, 3) := by decide +kernel
theorem dX5_closeClauses_91 : decode cX5_closeClauses 91 = .ok (.goto (-89), 3) := by decide +kernel
theorem dX5_closeClauses_94 : decode cX5_closeClauses 94 = .ok (.return_, 1) := by decide +kernel
theorem dX5_emitJoins_0 : decode cX5_emitJoins 0 = .ok (.iconst 0, 1) := by decide +kernel
theorem dX5_emitJoins_1 : decode cX5_emitJoins 1 = .ok (.istore_n 2, 1) := by decide +kernel
theorem dX5_emitJoins_2 : decode cX5_emitJoins 2 = .ok (.iload_n 2, 1) := by decide +kernel
theorem dX5_emitJoins_3 : decode cX5_emitJoins 3 = .ok (.bipush 64, 2) := by decide +kernel
theorem dX5_emitJoins_5 : decode cX5_emitJoins 5 = .ok (.if_icmp .ge 66, 3) := by decide +kernel
theorem dX5_emitJoins_8 : decode cX5_emitJoins 8 = .ok (.aload_n 0, 1) := by decide +kernel
theorem dX5_emitJoins_9 : decode cX5_emitJoins 9 = .ok (.invokevirtual 208, 3) := by decide +kernel
theorem dX5_emitJoins_12 : decode cX5_emitJoins 12 = .ok (.bipush 23, 2) := by decide +kernel
theorem dX5_emitJoins_14 : decode cX5_emitJoins 14 = .ok (.if_icmp .ne 15, 3) := by decide +kernel
theorem dX5_emitJoins_17 : decode cX5_emitJoins 17 = .ok (.aload_n 0, 1) := by decide +kernel
theorem dX5_emitJoins_18 : decode cX5_emitJoins 18 = .ok (.getfield 57, 3) := by decide +kernel
theorem dX5_emitJoins_21 : decode cX5_emitJoins 21 = .ok (.bipush (-16), 2) := by decide +kernel
theorem dX5_emitJoins_23 : decode cX5_emitJoins 23 = .ok (.invokevirtual 192, 3) := by decide +kernel
theorem dX5_emitJoins_26 : decode cX5_emitJoins 26 = .ok (.goto 29, 3) := by decide +kernel
theorem dX5_emitJoins_29 : decode cX5_emitJoins 29 = .ok (.aload_n 0, 1) := by decide +kernel
theorem dX5_emitJoins_30 : decode cX5_emitJoins 30 = .ok (.invokevirtual 208, 3) := by decide +kernel
theorem dX5_emitJoins_33 : decode cX5_emitJoins 33 = .ok (.bipush 22, 2) := by decide +kernel
theorem dX5_emitJoins_35 : decode cX5_emitJoins 35 = .ok (.if_icmp .ne 19, 3) := by decide +kernel
theorem dX5_emitJoins_38 : decode cX5_emitJoins 38 = .ok (.iload_n 1, 1) := by decide +kernel
theorem dX5_emitJoins_39 : decode cX5_emitJoins 39 = .ok (.ifCond .eq 15, 3) := by decide +kernel
theorem dX5_emitJoins_42 : decode cX5_emitJoins 42 = .ok (.aload_n 0, 1) := by decide +kernel
theorem dX5_emitJoins_43 : decode cX5_emitJoins 43 = .ok (.getfield 57, 3) := by decide +kernel
theorem dX5_emitJoins_46 : decode cX5_emitJoins 46 = .ok (.bipush (-17), 2) := by decide +kernel
theorem dX5_emitJoins_48 : decode cX5_emitJoins 48 = .ok (.invokevirtual 192, 3) := by decide +kernel
theorem dX5_emitJoins_51 : decode cX5_emitJoins 51 = .ok (.goto 4, 3) := by decide +kernel
theorem dX5_emitJoins_54 : decode cX5_emitJoins 54 = .ok (.return_, 1) := by decide +kernel
theorem dX5_emitJoins_55 : decode cX5_emitJoins 55 = .ok (.aload_n 0, 1) := by decide +kernel
theorem dX5_emitJoins_56 : decode cX5_emitJoins 56 = .ok (.dup, 1) := by decide +kernel
theorem dX5_emitJoins_57 : decode cX5_emitJoins 57 = .ok (.getfield 180, 3) := by decide +kernel
theorem dX5_emitJoins_60 : decode cX5_emitJoins 60 = .ok (.iconst 1, 1) := by decide +kernel
theorem dX5_emitJoins_61 : decode cX5_emitJoins 61 = .ok (.isub, 1) := by decide +kernel
theorem dX5_emitJoins_62 : decode cX5_emitJoins 62 = .ok (.putfield 180, 3) := by decide +kernel
theorem dX5_emitJoins_65 : decode cX5_emitJoins 65 = .ok (.iinc 2 1, 3) := by decide +kernel
theorem dX5_emitJoins_68 : decode cX5_emitJoins 68 = .ok (.goto (-66), 3) := by decide +kernel
theorem dX5_emitJoins_71 : decode cX5_emitJoins 71 = .ok (.return_, 1) := by decide +kernel
theorem dX5_endCondition_0 : decode cX5_endCondition 0 = .ok (.aload_n 0, 1) := by decide +kernel
theorem dX5_endCondition_1 : decode cX5_endCondition 1 = .ok (.iconst 1, 1) := by decide +kernel
theorem dX5_endCondition_2 : decode cX5_endCondition 2 = .ok (.invokevirtual 201, 3) := by decide +kernel
theorem dX5_endCondition_5 : decode cX5_endCondition 5 = .ok (.aload_n 0, 1) := by decide +kernel
theorem dX5_endCondition_6 : decode cX5_endCondition 6 = .ok (.getfield 180, 3) := by decide +kernel
theorem dX5_endCondition_9 : decode cX5_endCondition 9 = .ok (.ifCond .eq 11, 3) := by decide +kernel
theorem dX5_endCondition_12 : decode cX5_endCondition 12 = .ok (.aload_n 0, 1) := by decide +kernel
theorem dX5_endCondition_13 : decode cX5_endCondition 13 = .ok (.iconst 1, 1) := by decide +kernel
theorem dX5_endCondition_14 : decode cX5_endCondition 14 = .ok (.invokevirtual 90, 3) := by decide +kernel
theorem dX5_endCondition_17 : decode cX5_endCondition 17 = .ok (.ifCond .eq 7, 3) := by decide +kernel
theorem dX5_endCondition_20 : decode cX5_endCondition 20 = .ok (.iconst 1, 1) := by decide +kernel
theorem dX5_endCondition_21 : decode cX5_endCondition 21 = .ok (.goto 4, 3) := by decide +kernel
theorem dX5_endCondition_24 : decode cX5_endCondition 24 = .ok (.iconst 0, 1) := by decide +kernel
theorem dX5_endCondition_25 : decode cX5_endCondition 25 = .ok (.ireturn, 1) := by decide +kernel
theorem dX5_comparing_0 : decode cX5_comparing 0 = .ok (.iload_n 0, 1) := by decide +kernel
theorem dX5_comparing_1 : decode cX5_comparing 1 = .ok (.bipush 60, 2) := by decide +kernel
theorem dX5_comparing_3 : decode cX5_comparing 3 = .ok (.if_icmp .ne 6, 3) := by decide +kernel
theorem dX5_comparing_6 : decode cX5_comparing 6 = .ok (.bipush (-13), 2) := by decide +kernel
theorem dX5_comparing_8 : decode cX5_comparing 8 = .ok (.ireturn, 1) := by decide +kernel
theorem dX5_comparing_9 : decode cX5_comparing 9 = .ok (.iload_n 0, 1) := by decide +kernel
theorem dX5_comparing_10 : decode cX5_comparing 10 = .ok (.bipush 61, 2) := by decide +kernel
theorem dX5_comparing_12 : decode cX5_comparing 12 = .ok (.if_icmp .ne 6, 3) := by decide +kernel
theorem dX5_comparing_15 : decode cX5_comparing 15 = .ok (.bipush (-14), 2) := by decide +kernel
theorem dX5_comparing_17 : decode cX5_comparing 17 = .ok (.ireturn, 1) := by decide +kernel
theorem dX5_comparing_18 : decode cX5_comparing 18 = .ok (.iload_n 0, 1) := by decide +kernel
theorem dX5_comparing_19 : decode cX5_comparing 19 = .ok (.bipush 62, 2) := by decide +kernel
theorem dX5_comparing_21 : decode cX5_comparing 21 = .ok (.if_icmp .ne 8, 3) := by decide +kernel
theorem dX5_comparing_24 : decode cX5_comparing 24 = .ok (.bipush (-15), 2) := by decide +kernel
theorem dX5_comparing_26 : decode cX5_comparing 26 = .ok (.goto 4, 3) := by decide +kernel
theorem dX5_comparing_29 : decode cX5_comparing 29 = .ok (.iconst 0, 1) := by decide +kernel
theorem dX5_comparing_30 : decode cX5_comparing 30 = .ok (.ireturn, 1) := by decide +kernel
theorem dX5_expression_0 : decode cX5_expression 0 = .ok (.iconst 0, 1) := by decide +kernel
theorem dX5_expression_1 : decode cX5_expression 1 = .ok (.istore_n 1, 1) := by decide +kernel
theorem dX5_expression_2 : decode cX5_expression 2 = .ok (.aload_n 0, 1) := by decide +kernel
theorem dX5_expression_3 : decode cX5_expression 3 = .ok (.invokevirtual 211, 3) := by decide +kernel
theorem dX5_expression_6 : decode cX5_expression 6 = .ok (.ifCond .ne 5, 3) := by decide +kernel
theorem dX5_expression_9 : decode cX5_expression 9 = .ok (.iconst 0, 1) := by decide +kernel
theorem dX5_expression_10 : decode cX5_expression 10 = .ok (.ireturn, 1) := by decide +kernel
theorem dX5_expression_11 : decode cX5_expression 11 = .ok (.iconst 0, 1) := by decide +kernel
theorem dX5_expression_12 : decode cX5_expression 12 = .ok (.istore_n 2, 1) := by decide +kernel
theorem dX5_expression_13 : decode cX5_expression 13 = .ok (.iload_n 2, 1) := by decide +kernel
theorem dX5_expression_14 : decode cX5_expression 14 = .ok (.aload_n 0, 1) := by decide +kernel
theorem dX5_expression_15 : decode cX5_expression 15 = .ok (.getfield 186, 3) := by decide +kernel
theorem dX5_expression_18 : decode cX5_expression 18 = .ok (.if_icmp .gt 127, 3) := by decide +kernel
theorem dX5_expression_21 : decode cX5_expression 21 = .ok (.aload_n 0, 1) := by decide +kernel
theorem dX5_expression_22 : decode cX5_expression 22 = .ok (.invokevirtual 70, 3) := by decide +kernel
theorem dX5_expression_25 : decode cX5_expression 25 = .ok (.istore_n 3, 1) := by decide +kernel
theorem dX5_expression_26 : decode cX5_expression 26 = .ok (.iload_n 3, 1) := by decide +kernel
theorem dX5_expression_27 : decode cX5_expression 27 = .ok (.bipush 43, 2) := by decide +kernel
theorem dX5_expression_29 : decode cX5_expression 29 = .ok (.if_icmp .eq 9, 3) := by decide +kernel
theorem dX5_expression_32 : decode cX5_expression 32 = .ok (.iload_n 3, 1) := by decide +kernel
theorem dX5_expression_33 : decode cX5_expression 33 = .ok (.bipush 45, 2) := by decide +kernel
theorem dX5_expression_35 : decode cX5_expression 35 = .ok (.if_icmp .ne 25, 3) := by decide +kernel
theorem dX5_expression_38 : decode cX5_expression 38 = .ok (.aload_n 0, 1) := by decide +kernel
theorem dX5_expression_39 : decode cX5_expression 39 = .ok (.iload_n 1, 1) := by decide +kernel
theorem dX5_expression_40 : decode cX5_expression 40 = .ok (.invokevirtual 214, 3) := by decide +kernel
theorem dX5_expression_43 : decode cX5_expression 43 = .ok (.iload_n 3, 1) := by decide +kernel
theorem dX5_expression_44 : decode cX5_expression 44 = .ok (.bipush 43, 2) := by decide +kernel
theorem dX5_expression_46 : decode cX5_expression 46 = .ok (.if_icmp .ne 8, 3) := by decide +kernel
theorem dX5_expression_49 : decode cX5_expression 49 = .ok (.bipush (-9), 2) := by decide +kernel
theorem dX5_expression_51 : decode cX5_expression 51 = .ok (.goto 5, 3) := by decide +kernel
theorem dX5_expression_54 : decode cX5_expression 54 = .ok (.bipush (-10), 2) := by decide +kernel
theorem dX5_expression_56 : decode cX5_expression 56 = .ok (.istore_n 1, 1) := by decide +kernel
theorem dX5_expression_57 : decode cX5_expression 57 = .ok (.goto 18, 3) := by decide +kernel
theorem dX5_expression_60 : decode cX5_expression 60 = .ok (.iload_n 3, 1) := by decide +kernel
theorem dX5_expression_61 : decode cX5_expression 61 = .ok (.bipush 42, 2) := by decide +kernel
theorem dX5_expression_63 : decode cX5_expression 63 = .ok (.if_icmp .eq 12, 3) := by decide +kernel
theorem dX5_expression_66 : decode cX5_expression 66 = .ok (.iload_n 3, 1) := by decide +kernel
theorem dX5_expression_67 : decode cX5_expression 67 = .ok (.bipush 47, 2) := by decide +kernel
theorem dX5_expression_69 : decode cX5_expression 69 = .ok (.if_icmp .eq 6, 3) := by decide +kernel
theorem dX5_expression_72 : decode cX5_expression 72 = .ok (.goto 73, 3) := by decide +kernel
theorem dX5_expression_75 : decode cX5_expression 75 = .ok (.aload_n 0, 1) := by decide +kernel
theorem dX5_expression_76 : decode cX5_expression 76 = .ok (.dup, 1) := by decide +kernel
theorem dX5_expression_77 : decode cX5_expression 77 = .ok (.getfield 47, 3) := by decide +kernel
theorem dX5_expression_80 : decode cX5_expression 80 = .ok (.iconst 1, 1) := by decide +kernel
theorem dX5_expression_81 : decode cX5_expression 81 = .ok (.iadd, 1) := by decide +kernel
theorem dX5_expression_82 : decode cX5_expression 82 = .ok (.putfield 47, 3) := by decide +kernel
theorem dX5_expression_85 : decode cX5_expression 85 = .ok (.iload_n 3, 1) := by decide +kernel
theorem dX5_expression_86 : decode cX5_expression 86 = .ok (.bipush 47, 2) := by decide +kernel
theorem dX5_expression_88 : decode cX5_expression 88 = .ok (.if_icmp .ne 10, 3) := by decide +kernel
theorem dX5_expression_91 : decode cX5_expression 91 = .ok (.aload_n 0, 1) := by decide +kernel
theorem dX5_expression_92 : decode cX5_expression 92 = .ok (.invokevirtual 217, 3) := by decide +kernel
theorem dX5_expression_95 : decode cX5_expression 95 = .ok (.ifCond .eq 10, 3) := by decide +kernel
theorem dX5_expression_98 : decode cX5_expression 98 = .ok (.aload_n 0, 1) := by decide +kernel
theorem dX5_expression_99 : decode cX5_expression 99 = .ok (.invokevirtual 211, 3) := by decide +kernel
theorem dX5_expression_102 : decode cX5_expression 102 = .ok (.ifCond .ne 5, 3) := by decide +kernel
theorem dX5_expression_105 : decode cX5_expression 105 = .ok (.iconst 0, 1) := by decide +kernel
theorem dX5_expression_106 : decode cX5_expression 106 = .ok (.ireturn, 1) := by decide +kernel
theorem dX5_expression_107 : decode cX5_expression 107 = .ok (.iload_n 3, 1) := by decide +kernel
theorem dX5_expression_108 : decode cX5_expression 108 = .ok (.bipush 42, 2) := by decide +kernel
theorem dX5_expression_110 : decode cX5_expression 110 = .ok (.if_icmp .eq 9, 3) := by decide +kernel
theorem dX5_expression_113 : decode cX5_expression 113 = .ok (.iload_n 3, 1) := by decide +kernel
theorem dX5_expression_114 : decode cX5_expression 114 = .ok (.bipush 47, 2) := by decide +kernel
theorem dX5_expression_116 : decode cX5_expression 116 = .ok (.if_icmp .ne 23, 3) := by decide +kernel
theorem dX5_expression_119 : decode cX5_expression 119 = .ok (.aload_n 0, 1) := by decide +kernel
theorem dX5_expression_120 : decode cX5_expression 120 = .ok (.getfield 57, 3) := by decide +kernel
theorem dX5_expression_123 : decode cX5_expression 123 = .ok (.iload_n 3, 1) := by decide +kernel
theorem dX5_expression_124 : decode cX5_expression 124 = .ok (.bipush 42, 2) := by decide +kernel
theorem dX5_expression_126 : decode cX5_expression 126 = .ok (.if_icmp .ne 8, 3) := by decide +kernel
theorem dX5_expression_129 : decode cX5_expression 129 = .ok (.bipush (-11), 2) := by decide +kernel
theorem dX5_expression_131 : decode cX5_expression 131 = .ok (.goto 5, 3) := by decide +kernel
theorem dX5_expression_134 : decode cX5_expression 134 = .ok (.bipush (-12), 2) := by decide +kernel
theorem dX5_expression_136 : decode cX5_expression 136 = .ok (.invokevirtual 192, 3) := by decide +kernel
theorem dX5_expression_139 : decode cX5_expression 139 = .ok (.iinc 2 1, 3) := by decide +kernel
theorem dX5_expression_142 : decode cX5_expression 142 = .ok (.goto (-129), 3) := by decide +kernel
theorem dX5_expression_145 : decode cX5_expression 145 = .ok (.aload_n 0, 1) := by decide +kernel
theorem dX5_expression_146 : decode cX5_expression 146 = .ok (.iload_n 1, 1) := by decide +kernel
theorem dX5_expression_147 : decode cX5_expression 147 = .ok (.invokevirtual 214, 3) := by decide +kernel
theorem dX5_expression_150 : decode cX5_expression 150 = .ok (.iconst 1, 1) := by decide +kernel
theorem dX5_expression_151 : decode cX5_expression 151 = .ok (.ireturn, 1) := by decide +kernel
theorem dX5_emitPending_0 : decode cX5_emitPending 0 = .ok (.iload_n 1, 1) := by decide +kernel
theorem dX5_emitPending_1 : decode cX5_emitPending 1 = .ok (.ifCond .eq 11, 3) := by decide +kernel
theorem dX5_emitPending_4 : decode cX5_emitPending 4 = .ok (.aload_n 0, 1) := by decide +kernel
theorem dX5_emitPending_5 : decode cX5_emitPending 5 = .ok (.getfield 57, 3) := by decide +kernel
theorem dX5_emitPending_8 : decode cX5_emitPending 8 = .ok (.iload_n 1, 1) := by decide +kernel
theorem dX5_emitPending_9 : decode cX5_emitPending 9 = .ok (.invokevirtual 192, 3) := by decide +kernel
theorem dX5_emitPending_12 : decode cX5_emitPending 12 = .ok (.return_, 1) := by decide +kernel
theorem dX5_unit_0 : decode cX5_unit 0 = .ok (.aload_n 0, 1) := by decide +kernel
theorem dX5_unit_1 : decode cX5_unit 1 = .ok (.invokevirtual 70, 3) := by decide +kernel
theorem dX5_unit_4 : decode cX5_unit 4 = .ok (.istore_n 1, 1) := by decide +kernel
theorem dX5_unit_5 : decode cX5_unit 5 = .ok (.iload_n 1, 1) := by decide +kernel
theorem dX5_unit_6 : decode cX5_unit 6 = .ok (.bipush 100, 2) := by decide +kernel
theorem dX5_unit_8 : decode cX5_unit 8 = .ok (.if_icmp .ne 22, 3) := by decide +kernel
theorem dX5_unit_11 : decode cX5_unit 11 = .ok (.aload_n 0, 1) := by decide +kernel
theorem dX5_unit_12 : decode cX5_unit 12 = .ok (.getfield 57, 3) := by decide +kernel
theorem dX5_unit_15 : decode cX5_unit 15 = .ok (.aload_n 0, 1) := by decide +kernel
theorem dX5_unit_16 : decode cX5_unit 16 = .ok (.getfield 19, 3) := by decide +kernel
theorem dX5_unit_19 : decode cX5_unit 19 = .ok (.aload_n 0, 1) := by decide +kernel
theorem dX5_unit_20 : decode cX5_unit 20 = .ok (.getfield 47, 3) := by decide +kernel
theorem dX5_unit_23 : decode cX5_unit 23 = .ok (.iaload, 1) := by decide +kernel
theorem dX5_unit_24 : decode cX5_unit 24 = .ok (.invokevirtual 192, 3) := by decide +kernel
theorem dX5_unit_27 : decode cX5_unit 27 = .ok (.goto 32, 3) := by decide +kernel
theorem dX5_unit_30 : decode cX5_unit 30 = .ok (.iload_n 1, 1) := by decide +kernel
theorem dX5_unit_31 : decode cX5_unit 31 = .ok (.ifCond .lt 22, 3) := by decide +kernel
theorem dX5_unit_34 : decode cX5_unit 34 = .ok (.iload_n 1, 1) := by decide +kernel
theorem dX5_unit_35 : decode cX5_unit 35 = .ok (.bipush 8, 2) := by decide +kernel
theorem dX5_unit_37 : decode cX5_unit 37 = .ok (.if_icmp .ge 16, 3) := by decide +kernel
theorem dX5_unit_40 : decode cX5_unit 40 = .ok (.aload_n 0, 1) := by decide +kernel
theorem dX5_unit_41 : decode cX5_unit 41 = .ok (.getfield 57, 3) := by decide +kernel
theorem dX5_unit_44 : decode cX5_unit 44 = .ok (.iconst (-1), 1) := by decide +kernel
theorem dX5_unit_45 : decode cX5_unit 45 = .ok (.iload_n 1, 1) := by decide +kernel
theorem dX5_unit_46 : decode cX5_unit 46 = .ok (.isub, 1) := by decide +kernel
theorem dX5_unit_47 : decode cX5_unit 47 = .ok (.invokevirtual 192, 3) := by decide +kernel
theorem dX5_unit_50 : decode cX5_unit 50 = .ok (.goto 9, 3) := by decide +kernel
theorem dX5_unit_53 : decode cX5_unit 53 = .ok (.aload_n 0, 1) := by decide +kernel
theorem dX5_unit_54 : decode cX5_unit 54 = .ok (.iconst 1, 1) := by decide +kernel
theorem dX5_unit_55 : decode cX5_unit 55 = .ok (.invokevirtual 90, 3) := by decide +kernel
theorem dX5_unit_58 : decode cX5_unit 58 = .ok (.ireturn, 1) := by decide +kernel
theorem dX5_unit_59 : decode cX5_unit 59 = .ok (.aload_n 0, 1) := by decide +kernel
theorem dX5_unit_60 : decode cX5_unit 60 = .ok (.dup, 1) := by decide +kernel
theorem dX5_unit_61 : decode cX5_unit 61 = .ok (.getfield 47, 3) := by decide +kernel
theorem dX5_unit_64 : decode cX5_unit 64 = .ok (.iconst 1, 1) := by decide +kernel
theorem dX5_unit_65 : decode cX5_unit 65 = .ok (.iadd, 1) := by decide +kernel
theorem dX5_unit_66 : decode cX5_unit 66 = .ok (.putfield 47, 3) := by decide +kernel
theorem dX5_unit_69 : decode cX5_unit 69 = .ok (.iconst 1, 1) := by decide +kernel
theorem dX5_unit_70 : decode cX5_unit 70 = .ok (.ireturn, 1) := by decide +kernel
theorem dX5_isDivisor_0 : decode cX5_isDivisor 0 = .ok (.aload_n 0, 1) := by decide +kernel
theorem dX5_isDivisor_1 : decode cX5_isDivisor 1 = .ok (.invokevirtual 70, 3) := by decide +kernel
theorem dX5_isDivisor_4 : decode cX5_isDivisor 4 = .ok (.bipush 100, 2) := by decide +kernel
theorem dX5_isDivisor_6 : decode cX5_isDivisor 6 = .ok (.if_icmp .eq 9, 3) := by decide +kernel
theorem dX5_isDivisor_9 : decode cX5_isDivisor 9 = .ok (.aload_n 0, 1) := by decide +kernel
theorem dX5_isDivisor_10 : decode cX5_isDivisor 10 = .ok (.iconst 1, 1) := by decide +kernel
theorem dX5_isDivisor_11 : decode cX5_isDivisor 11 = .ok (.invokevirtual 90, 3) := by decide +kernel
theorem dX5_isDivisor_14 : decode cX5_isDivisor 14 = .ok (.ireturn, 1) := by decide +kernel
theorem dX5_isDivisor_15 : decode cX5_isDivisor 15 = .ok (.aload_n 0, 1) := by decide +kernel
theorem dX5_isDivisor_16 : decode cX5_isDivisor 16 = .ok (.getfield 19, 3) := by decide +kernel
theorem dX5_isDivisor_19 : decode cX5_isDivisor 19 = .ok (.aload_n 0, 1) := by decide +kernel
theorem dX5_isDivisor_20 : decode cX5_isDivisor 20 = .ok (.getfield 47, 3) := by decide +kernel
theorem dX5_isDivisor_23 : decode cX5_isDivisor 23 = .ok (.iaload, 1) := by decide +kernel
theorem dX5_isDivisor_24 : decode cX5_isDivisor 24 = .ok (.ifCond .ne 11, 3) := by decide +kernel
theorem dX5_isDivisor_27 : decode cX5_isDivisor 27 = .ok (.aload_n 0, 1) := by decide +kernel
theorem dX5_isDivisor_28 : decode cX5_isDivisor 28 = .ok (.iconst 2, 1) := by decide +kernel
theorem dX5_isDivisor_29 : decode cX5_isDivisor 29 = .ok (.invokevirtual 90, 3) := by decide +kernel
theorem dX5_isDivisor_32 : decode cX5_isDivisor 32 = .ok (.ifCond .eq 7, 3) := by decide +kernel
theorem dX5_isDivisor_35 : decode cX5_isDivisor 35 = .ok (.iconst 1, 1) := by decide +kernel
theorem dX5_isDivisor_36 : decode cX5_isDivisor 36 = .ok (.goto 4, 3) := by decide +kernel
theorem dX5_isDivisor_39 : decode cX5_isDivisor 39 = .ok (.iconst 0, 1) := by decide +kernel
theorem dX5_isDivisor_40 : decode cX5_isDivisor 40 = .ok (.ireturn, 1) := by decide +kernel
theorem dX5_isPart_0 : decode cX5_isPart 0 = .ok (.aload_n 0, 1) := by decide +kernel
theorem dX5_isPart_1 : decode cX5_isPart 1 = .ok (.invokevirtual 70, 3) := by decide +kernel
theorem dX5_isPart_4 : decode cX5_isPart 4 = .ok (.bipush 100, 2) := by decide +kernel
theorem dX5_isPart_6 : decode cX5_isPart 6 = .ok (.if_icmp .eq 9, 3) := by decide +kernel
theorem dX5_isPart_9 : decode cX5_isPart 9 = .ok (.aload_n 0, 1) := by decide +kernel
theorem dX5_isPart_10 : decode cX5_isPart 10 = .ok (.iconst 1, 1) := by decide +kernel
theorem dX5_isPart_11 : decode cX5_isPart 11 = .ok (.invokevirtual 90, 3) := by decide +kernel
theorem dX5_isPart_14 : decode cX5_isPart 14 = .ok (.ireturn, 1) := by decide +kernel
theorem dX5_isPart_15 : decode cX5_isPart 15 = .ok (.aload_n 0, 1) := by decide +kernel
theorem dX5_isPart_16 : decode cX5_isPart 16 = .ok (.getfield 19, 3) := by decide +kernel
theorem dX5_isPart_19 : decode cX5_isPart 19 = .ok (.aload_n 0, 1) := by decide +kernel
theorem dX5_isPart_20 : decode cX5_isPart 20 = .ok (.getfield 47, 3) := by decide +kernel
theorem dX5_isPart_23 : decode cX5_isPart 23 = .ok (.iaload, 1) := by decide +kernel
theorem dX5_isPart_24 : decode cX5_isPart 24 = .ok (.bipush 100, 2) := by decide +kernel
theorem dX5_isPart_26 : decode cX5_isPart 26 = .ok (.if_icmp .le 11, 3) := by decide +kernel
theorem dX5_isPart_29 : decode cX5_isPart 29 = .ok (.aload_n 0, 1) := by decide +kernel
theorem dX5_isPart_30 : decode cX5_isPart 30 = .ok (.iconst 2, 1) := by decide +kernel
theorem dX5_isPart_31 : decode cX5_isPart 31 = .ok (.invokevirtual 90, 3) := by decide +kernel
theorem dX5_isPart_34 : decode cX5_isPart 34 = .ok (.ifCond .eq 7, 3) := by decide +kernel
theorem dX5_isPart_37 : decode cX5_isPart 37 = .ok (.iconst 1, 1) := by decide +kernel
theorem dX5_isPart_38 : decode cX5_isPart 38 = .ok (.goto 4, 3) := by decide +kernel
theorem dX5_isPart_41 : decode cX5_isPart 41 = .ok (.iconst 0, 1) := by decide +kernel
theorem dX5_isPart_42 : decode cX5_isPart 42 = .ok (.ireturn, 1) := by decide +kernel
theorem dX5_isKind_0 : decode cX5_isKind 0 = .ok (.aload_n 0, 1) := by decide +kernel
theorem dX5_isKind_1 : decode cX5_isKind 1 = .ok (.invokevirtual 70, 3) := by decide +kernel
theorem dX5_isKind_4 : decode cX5_isKind 4 = .ok (.bipush 8, 2) := by decide +kernel
theorem dX5_isKind_6 : decode cX5_isKind 6 = .ok (.if_icmp .lt 16, 3) := by decide +kernel
theorem dX5_isKind_9 : decode cX5_isKind 9 = .ok (.aload_n 0, 1) := by decide +kernel
theorem dX5_isKind_10 : decode cX5_isKind 10 = .ok (.invokevirtual 70, 3) := by decide +kernel
theorem dX5_isKind_13 : decode cX5_isKind 13 = .ok (.bipush 13, 2) := by decide +kernel
theorem dX5_isKind_15 : decode cX5_isKind 15 = .ok (.if_icmp .gt 7, 3) := by decide +kernel
theorem dX5_isKind_18 : decode cX5_isKind 18 = .ok (.iconst 1, 1) := by decide +kernel
theorem dX5_isKind_19 : decode cX5_isKind 19 = .ok (.goto 4, 3) := by decide +kernel
theorem dX5_isKind_22 : decode cX5_isKind 22 = .ok (.iconst 0, 1) := by decide +kernel
theorem dX5_isKind_23 : decode cX5_isKind 23 = .ok (.ireturn, 1) := by decide +kernel
theorem dX5_isNewKind_0 : decode cX5_isNewKind 0 = .ok (.aload_n 0, 1) := by decide +kernel
theorem dX5_isNewKind_1 : decode cX5_isNewKind 1 = .ok (.invokevirtual 119, 3) := by decide +kernel
theorem dX5_isNewKind_4 : decode cX5_isNewKind 4 = .ok (.ifCond .ne 9, 3) := by decide +kernel
theorem dX5_isNewKind_7 : decode cX5_isNewKind 7 = .ok (.aload_n 0, 1) := by decide +kernel
theorem dX5_isNewKind_8 : decode cX5_isNewKind 8 = .ok (.iconst 1, 1) := by decide +kernel
theorem dX5_isNewKind_9 : decode cX5_isNewKind 9 = .ok (.invokevirtual 90, 3) := by decide +kernel
theorem dX5_isNewKind_12 : decode cX5_isNewKind 12 = .ok (.ireturn, 1) := by decide +kernel
theorem dX5_isNewKind_13 : decode cX5_isNewKind 13 = .ok (.iload_n 1, 1) := by decide +kernel
theorem dX5_isNewKind_14 : decode cX5_isNewKind 14 = .ok (.i2l, 1) := by decide +kernel
theorem dX5_isNewKind_15 : decode cX5_isNewKind 15 = .ok (.aload_n 0, 1) := by decide +kernel
theorem dX5_isNewKind_16 : decode cX5_isNewKind 16 = .ok (.invokevirtual 70, 3) := by decide +kernel
theorem dX5_isNewKind_19 : decode cX5_isNewKind 19 = .ok (.bipush 8, 2) := by decide +kernel
theorem dX5_isNewKind_21 : decode cX5_isNewKind 21 = .ok (.isub, 1) := by decide +kernel
theorem dX5_isNewKind_22 : decode cX5_isNewKind 22 = .ok (.invokestatic 220, 3) := by decide +kernel
theorem dX5_isNewKind_25 : decode cX5_isNewKind 25 = .ok (.ifCond .eq 11, 3) := by decide +kernel
theorem dX5_isNewKind_28 : decode cX5_isNewKind 28 = .ok (.aload_n 0, 1) := by decide +kernel
theorem dX5_isNewKind_29 : decode cX5_isNewKind 29 = .ok (.iconst 3, 1) := by decide +kernel
theorem dX5_isNewKind_30 : decode cX5_isNewKind 30 = .ok (.invokevirtual 90, 3) := by decide +kernel
theorem dX5_isNewKind_33 : decode cX5_isNewKind 33 = .ok (.ifCond .eq 7, 3) := by decide +kernel
theorem dX5_isNewKind_36 : decode cX5_isNewKind 36 = .ok (.iconst 1, 1) := by decide +kernel
theorem dX5_isNewKind_37 : decode cX5_isNewKind 37 = .ok (.goto 4, 3) := by decide +kernel
theorem dX5_isNewKind_40 : decode cX5_isNewKind 40 = .ok (.iconst 0, 1) := by decide +kernel
theorem dX5_isNewKind_41 : decode cX5_isNewKind 41 = .ok (.ireturn, 1) := by decide +kernel
theorem dX5_pass_0 : decode cX5_pass 0 = .ok (.aload_n 0, 1) := by decide +kernel
theorem dX5_pass_1 : decode cX5_pass 1 = .ok (.invokevirtual 70, 3) := by decide +kernel
theorem dX5_pass_4 : decode cX5_pass 4 = .ok (.iload_n 1, 1) := by decide +kernel
theorem dX5_pass_5 : decode cX5_pass 5 = .ok (.if_icmp .eq 9, 3) := by decide +kernel
theorem dX5_pass_8 : decode cX5_pass 8 = .ok (.aload_n 0, 1) := by decide +kernel
theorem dX5_pass_9 : decode cX5_pass 9 = .ok (.iconst 1, 1) := by decide +kernel
theorem dX5_pass_10 : decode cX5_pass 10 = .ok (.invokevirtual 90, 3) := by decide +kernel
theorem dX5_pass_13 : decode cX5_pass 13 = .ok (.ireturn, 1) := by decide +kernel
theorem dX5_pass_14 : decode cX5_pass 14 = .ok (.aload_n 0, 1) := by decide +kernel
theorem dX5_pass_15 : decode cX5_pass 15 = .ok (.dup, 1) := by decide +kernel
theorem dX5_pass_16 : decode cX5_pass 16 = .ok (.getfield 47, 3) := by decide +kernel
theorem dX5_pass_19 : decode cX5_pass 19 = .ok (.iconst 1, 1) := by decide +kernel
theorem dX5_pass_20 : decode cX5_pass 20 = .ok (.iadd, 1) := by decide +kernel
theorem dX5_pass_21 : decode cX5_pass 21 = .ok (.putfield 47, 3) := by decide +kernel
theorem dX5_pass_24 : decode cX5_pass 24 = .ok (.iconst 1, 1) := by decide +kernel
theorem dX5_pass_25 : decode cX5_pass 25 = .ok (.ireturn, 1) := by decide +kernel
theorem dX5_sign_0 : decode cX5_sign 0 = .ok (.aload_n 0, 1) := by decide +kernel
theorem dX5_sign_1 : decode cX5_sign 1 = .ok (.getfield 47, 3) := by decide +kernel
theorem dX5_sign_4 : decode cX5_sign 4 = .ok (.ifCond .lt 26, 3) := by decide +kernel
theorem dX5_sign_7 : decode cX5_sign 7 = .ok (.aload_n 0, 1) := by decide +kernel
theorem dX5_sign_8 : decode cX5_sign 8 = .ok (.getfield 47, 3) := by decide +kernel
theorem dX5_sign_11 : decode cX5_sign 11 = .ok (.aload_n 0, 1) := by decide +kernel
theorem dX5_sign_12 : decode cX5_sign 12 = .ok (.getfield 186, 3) := by decide +kernel
theorem dX5_sign_15 : decode cX5_sign 15 = .ok (.if_icmp .ge 15, 3) := by decide +kernel
theorem dX5_sign_18 : decode cX5_sign 18 = .ok (.aload_n 0, 1) := by decide +kernel
theorem dX5_sign_19 : decode cX5_sign 19 = .ok (.getfield 15, 3) := by decide +kernel
theorem dX5_sign_22 : decode cX5_sign 22 = .ok (.aload_n 0, 1) := by decide +kernel
theorem dX5_sign_23 : decode cX5_sign 23 = .ok (.getfield 47, 3) := by decide +kernel
theorem dX5_sign_26 : decode cX5_sign 26 = .ok (.iaload, 1) := by decide +kernel
theorem dX5_sign_27 : decode cX5_sign 27 = .ok (.goto 5, 3) := by decide +kernel
theorem dX5_sign_30 : decode cX5_sign 30 = .ok (.bipush 101, 2) := by decide +kernel
theorem dX5_sign_32 : decode cX5_sign 32 = .ok (.ireturn, 1) := by decide +kernel
theorem dX5_wrong_0 : decode cX5_wrong 0 = .ok (.aload_n 0, 1) := by decide +kernel
theorem dX5_wrong_1 : decode cX5_wrong 1 = .ok (.iload_n 1, 1) := by decide +kernel
theorem dX5_wrong_2 : decode cX5_wrong 2 = .ok (.putfield 44, 3) := by decide +kernel
theorem dX5_wrong_5 : decode cX5_wrong 5 = .ok (.aload_n 0, 1) := by decide +kernel
theorem dX5_wrong_6 : decode cX5_wrong 6 = .ok (.aload_n 0, 1) := by decide +kernel
theorem dX5_wrong_7 : decode cX5_wrong 7 = .ok (.getfield 47, 3) := by decide +kernel
theorem dX5_wrong_10 : decode cX5_wrong 10 = .ok (.ifCond .lt 26, 3) := by decide +kernel
theorem dX5_wrong_13 : decode cX5_wrong 13 = .ok (.aload_n 0, 1) := by decide +kernel
theorem dX5_wrong_14 : decode cX5_wrong 14 = .ok (.getfield 47, 3) := by decide +kernel
theorem dX5_wrong_17 : decode cX5_wrong 17 = .ok (.aload_n 0, 1) := by decide +kernel
theorem dX5_wrong_18 : decode cX5_wrong 18 = .ok (.getfield 186, 3) := by decide +kernel
theorem dX5_wrong_21 : decode cX5_wrong 21 = .ok (.if_icmp .ge 15, 3) := by decide +kernel
theorem dX5_wrong_24 : decode cX5_wrong 24 = .ok (.aload_n 0, 1) := by decide +kernel
theorem dX5_wrong_25 : decode cX5_wrong 25 = .ok (.getfield 22, 3) := by decide +kernel
theorem dX5_wrong_28 : decode cX5_wrong 28 = .ok (.aload_n 0, 1) := by decide +kernel
theorem dX5_wrong_29 : decode cX5_wrong 29 = .ok (.getfield 47, 3) := by decide +kernel
theorem dX5_wrong_32 : decode cX5_wrong 32 = .ok (.iaload, 1) := by decide +kernel
theorem dX5_wrong_33 : decode cX5_wrong 33 = .ok (.goto 4, 3) := by decide +kernel
theorem dX5_wrong_36 : decode cX5_wrong 36 = .ok (.iconst (-1), 1) := by decide +kernel
theorem dX5_wrong_37 : decode cX5_wrong 37 = .ok (.putfield 28, 3) := by decide +kernel
theorem dX5_wrong_40 : decode cX5_wrong 40 = .ok (.iconst 0, 1) := by decide +kernel
theorem dX5_wrong_41 : decode cX5_wrong 41 = .ok (.ireturn, 1) := by decide +kernel
theorem dX5_scan_0 : decode cX5_scan 0 = .ok (.iconst 0, 1) := by decide +kernel
theorem dX5_scan_1 : decode cX5_scan 1 = .ok (.iload_n 2, 1) := by decide +kernel
theorem dX5_scan_2 : decode cX5_scan 2 = .ok (.aload_n 1, 1) := by decide +kernel
theorem dX5_scan_3 : decode cX5_scan 3 = .ok (.arraylength, 1) := by decide +kernel
theorem dX5_scan_4 : decode cX5_scan 4 = .ok (.invokestatic 224, 3) := by decide +kernel
theorem dX5_scan_7 : decode cX5_scan 7 = .ok (.invokestatic 230, 3) := by decide +kernel
theorem dX5_scan_10 : decode cX5_scan 10 = .ok (.istore_n 3, 1) := by decide +kernel
theorem dX5_scan_11 : decode cX5_scan 11 = .ok (.aload_n 0, 1) := by decide +kernel
theorem dX5_scan_12 : decode cX5_scan 12 = .ok (.iconst 0, 1) := by decide +kernel
theorem dX5_scan_13 : decode cX5_scan 13 = .ok (.putfield 186, 3) := by decide +kernel
theorem dX5_scan_16 : decode cX5_scan 16 = .ok (.iconst 0, 1) := by decide +kernel
theorem dX5_scan_17 : decode cX5_scan 17 = .ok (.istore 4, 2) := by decide +kernel
theorem dX5_scan_19 : decode cX5_scan 19 = .ok (.iconst 0, 1) := by decide +kernel
theorem dX5_scan_20 : decode cX5_scan 20 = .ok (.istore 5, 2) := by decide +kernel
theorem dX5_scan_22 : decode cX5_scan 22 = .ok (.iload 5, 2) := by decide +kernel
theorem dX5_scan_24 : decode cX5_scan 24 = .ok (.iload_n 3, 1) := by decide +kernel
theorem dX5_scan_25 : decode cX5_scan 25 = .ok (.if_icmp .ge 171, 3) := by decide +kernel
theorem dX5_scan_28 : decode cX5_scan 28 = .ok (.aload_n 1, 1) := by decide +kernel
theorem dX5_scan_29 : decode cX5_scan 29 = .ok (.iload 5, 2) := by decide +kernel
theorem dX5_scan_31 : decode cX5_scan 31 = .ok (.iaload, 1) := by decide +kernel
theorem dX5_scan_32 : decode cX5_scan 32 = .ok (.istore 6, 2) := by decide +kernel
theorem dX5_scan_34 : decode cX5_scan 34 = .ok (.iload 5, 2) := by decide +kernel
theorem dX5_scan_36 : decode cX5_scan 36 = .ok (.iconst 1, 1) := by decide +kernel
theorem dX5_scan_37 : decode cX5_scan 37 = .ok (.iadd, 1) := by decide +kernel
theorem dX5_scan_38 : decode cX5_scan 38 = .ok (.istore 4, 2) := by decide +kernel
theorem dX5_scan_40 : decode cX5_scan 40 = .ok (.iload 6, 2) := by decide +kernel
theorem dX5_scan_42 : decode cX5_scan 42 = .ok (.invokestatic 233, 3) := by decide +kernel
theorem dX5_scan_45 : decode cX5_scan 45 = .ok (.ifCond .eq 44, 3) := by decide +kernel
theorem dX5_scan_48 : decode cX5_scan 48 = .ok (.iload 4, 2) := by decide +kernel
theorem dX5_scan_50 : decode cX5_scan 50 = .ok (.iload_n 3, 1) := by decide +kernel
theorem dX5_scan_51 : decode cX5_scan 51 = .ok (.if_icmp .ge 19, 3) := by decide +kernel
theorem dX5_scan_54 : decode cX5_scan 54 = .ok (.aload_n 1, 1) := by decide +kernel
theorem dX5_scan_55 : decode cX5_scan 55 = .ok (.iload 4, 2) := by decide +kernel
theorem dX5_scan_57 : decode cX5_scan 57 = .ok (.iaload, 1) := by decide +kernel
theorem dX5_scan_58 : decode cX5_scan 58 = .ok (.invokestatic 233, 3) := by decide +kernel
theorem dX5_scan_61 : decode cX5_scan 61 = .ok (.ifCond .eq 9, 3) := by decide +kernel
theorem dX5_scan_64 : decode cX5_scan 64 = .ok (.iinc 4 1, 3) := by decide +kernel
theorem dX5_scan_67 : decode cX5_scan 67 = .ok (.goto (-19), 3) := by decide +kernel
theorem dX5_scan_70 : decode cX5_scan 70 = .ok (.aload_n 0, 1) := by decide +kernel
theorem dX5_scan_71 : decode cX5_scan 71 = .ok (.aload_n 0, 1) := by decide +kernel
theorem dX5_scan_72 : decode cX5_scan 72 = .ok (.aload_n 1, 1) := by decide +kernel
theorem dX5_scan_73 : decode cX5_scan 73 = .ok (.iload 5, 2) := by decide +kernel
theorem dX5_scan_75 : decode cX5_scan 75 = .ok (.iload 4, 2) := by decide +kernel
theorem dX5_scan_77 : decode cX5_scan 77 = .ok (.invokevirtual 236, 3) := by decide +kernel
theorem dX5_scan_80 : decode cX5_scan 80 = .ok (.iload 5, 2) := by decide +kernel
theorem dX5_scan_82 : decode cX5_scan 82 = .ok (.iconst 0, 1) := by decide +kernel
theorem dX5_scan_83 : decode cX5_scan 83 = .ok (.invokevirtual 240, 3) := by decide +kernel
theorem dX5_scan_86 : decode cX5_scan 86 = .ok (.goto 103, 3) := by decide +kernel
theorem dX5_scan_89 : decode cX5_scan 89 = .ok (.iload 6, 2) := by decide +kernel
theorem dX5_scan_91 : decode cX5_scan 91 = .ok (.invokestatic 243, 3) := by decide +kernel
theorem dX5_scan_94 : decode cX5_scan 94 = .ok (.ifCond .eq 59, 3) := by decide +kernel
theorem dX5_scan_97 : decode cX5_scan 97 = .ok (.iload 4, 2) := by decide +kernel
theorem dX5_scan_99 : decode cX5_scan 99 = .ok (.iload_n 3, 1) := by decide +kernel
theorem dX5_scan_100 : decode cX5_scan 100 = .ok (.if_icmp .ge 19, 3) := by decide +kernel
theorem dX5_scan_103 : decode cX5_scan 103 = .ok (.aload_n 1, 1) := by decide +kernel
theorem dX5_scan_104 : decode cX5_scan 104 = .ok (.iload 4, 2) := by decide +kernel
theorem dX5_scan_106 : decode cX5_scan 106 = .ok (.iaload, 1) := by decide +kernel
theorem dX5_scan_107 : decode cX5_scan 107 = .ok (.invokestatic 243, 3) := by decide +kernel
theorem dX5_scan_110 : decode cX5_scan 110 = .ok (.ifCond .eq 9, 3) := by decide +kernel
theorem dX5_scan_113 : decode cX5_scan 113 = .ok (.iinc 4 1, 3) := by decide +kernel
theorem dX5_scan_116 : decode cX5_scan 116 = .ok (.goto (-19), 3) := by decide +kernel
theorem dX5_scan_119 : decode cX5_scan 119 = .ok (.aload_n 0, 1) := by decide +kernel
theorem dX5_scan_120 : decode cX5_scan 120 = .ok (.iload 4, 2) := by decide +kernel
theorem dX5_scan_122 : decode cX5_scan 122 = .ok (.iload 5, 2) := by decide +kernel
theorem dX5_scan_124 : decode cX5_scan 124 = .ok (.isub, 1) := by decide +kernel
theorem dX5_scan_125 : decode cX5_scan 125 = .ok (.bipush 6, 2) := by decide +kernel
theorem dX5_scan_127 : decode cX5_scan 127 = .ok (.if_icmp .gt 8, 3) := by decide +kernel
theorem dX5_scan_130 : decode cX5_scan 130 = .ok (.bipush 100, 2) := by decide +kernel
theorem dX5_scan_132 : decode cX5_scan 132 = .ok (.goto 5, 3) := by decide +kernel
theorem dX5_scan_135 : decode cX5_scan 135 = .ok (.bipush 102, 2) := by decide +kernel
theorem dX5_scan_137 : decode cX5_scan 137 = .ok (.iload 5, 2) := by decide +kernel
theorem dX5_scan_139 : decode cX5_scan 139 = .ok (.aload_n 1, 1) := by decide +kernel
theorem dX5_scan_140 : decode cX5_scan 140 = .ok (.iload 5, 2) := by decide +kernel
theorem dX5_scan_142 : decode cX5_scan 142 = .ok (.iload 4, 2) := by decide +kernel
theorem dX5_scan_144 : decode cX5_scan 144 = .ok (.invokestatic 246, 3) := by decide +kernel
theorem dX5_scan_147 : decode cX5_scan 147 = .ok (.invokevirtual 240, 3) := by decide +kernel
theorem dX5_scan_150 : decode cX5_scan 150 = .ok (.goto 39, 3) := by decide +kernel
theorem dX5_scan_153 : decode cX5_scan 153 = .ok (.iload 6, 2) := by decide +kernel
theorem dX5_scan_155 : decode cX5_scan 155 = .ok (.bipush 32, 2) := by decide +kernel
theorem dX5_scan_157 : decode cX5_scan 157 = .ok (.if_icmp .eq 32, 3) := by decide +kernel
theorem dX5_scan_160 : decode cX5_scan 160 = .ok (.iload 6, 2) := by decide +kernel
theorem dX5_scan_162 : decode cX5_scan 162 = .ok (.bipush 10, 2) := by decide +kernel
theorem dX5_scan_164 : decode cX5_scan 164 = .ok (.if_icmp .eq 25, 3) := by decide +kernel
theorem dX5_scan_167 : decode cX5_scan 167 = .ok (.aload_n 0, 1) := by decide +kernel
theorem dX5_scan_168 : decode cX5_scan 168 = .ok (.iload 6, 2) := by decide +kernel
theorem dX5_scan_170 : decode cX5_scan 170 = .ok (.invokestatic 249, 3) := by decide +kernel
theorem dX5_scan_173 : decode cX5_scan 173 = .ok (.ifCond .eq 8, 3) := by decide +kernel
theorem dX5_scan_176 : decode cX5_scan 176 = .ok (.iload 6, 2) := by decide +kernel
theorem dX5_scan_178 : decode cX5_scan 178 = .ok (.goto 5, 3) := by decide +kernel
theorem dX5_scan_181 : decode cX5_scan 181 = .ok (.bipush 102, 2) := by decide +kernel
theorem dX5_scan_183 : decode cX5_scan 183 = .ok (.iload 5, 2) := by decide +kernel
theorem dX5_scan_185 : decode cX5_scan 185 = .ok (.iconst 0, 1) := by decide +kernel
theorem dX5_scan_186 : decode cX5_scan 186 = .ok (.invokevirtual 240, 3) := by decide +kernel
theorem dX5_scan_189 : decode cX5_scan 189 = .ok (.iload 4, 2) := by decide +kernel
theorem dX5_scan_191 : decode cX5_scan 191 = .ok (.istore 5, 2) := by decide +kernel
theorem dX5_scan_193 : decode cX5_scan 193 = .ok (.goto (-171), 3) := by decide +kernel
theorem dX5_scan_196 : decode cX5_scan 196 = .ok (.aload_n 0, 1) := by decide +kernel
theorem dX5_scan_197 : decode cX5_scan 197 = .ok (.bipush 101, 2) := by decide +kernel
theorem dX5_scan_199 : decode cX5_scan 199 = .ok (.iload_n 3, 1) := by decide +kernel
theorem dX5_scan_200 : decode cX5_scan 200 = .ok (.iconst 0, 1) := by decide +kernel
theorem dX5_scan_201 : decode cX5_scan 201 = .ok (.invokevirtual 240, 3) := by decide +kernel
theorem dX5_scan_204 : decode cX5_scan 204 = .ok (.return_, 1) := by decide +kernel
theorem dX5_addToken_0 : decode cX5_addToken 0 = .ok (.aload_n 0, 1) := by decide +kernel
theorem dX5_addToken_1 : decode cX5_addToken 1 = .ok (.getfield 186, 3) := by decide +kernel
theorem dX5_addToken_4 : decode cX5_addToken 4 = .ok (.aload_n 0, 1) := by decide +kernel
theorem dX5_addToken_5 : decode cX5_addToken 5 = .ok (.getfield 15, 3) := by decide +kernel
theorem dX5_addToken_8 : decode cX5_addToken 8 = .ok (.arraylength, 1) := by decide +kernel
theorem dX5_addToken_9 : decode cX5_addToken 9 = .ok (.if_icmp .ge 43, 3) := by decide +kernel
theorem dX5_addToken_12 : decode cX5_addToken 12 = .ok (.aload_n 0, 1) := by decide +kernel
theorem dX5_addToken_13 : decode cX5_addToken 13 = .ok (.getfield 15, 3) := by decide +kernel
theorem dX5_addToken_16 : decode cX5_addToken 16 = .ok (.aload_n 0, 1) := by decide +kernel
theorem dX5_addToken_17 : decode cX5_addToken 17 = .ok (.getfield 186, 3) := by decide +kernel
theorem dX5_addToken_20 : decode cX5_addToken 20 = .ok (.iload_n 1, 1) := by decide +kernel
theorem dX5_addToken_21 : decode cX5_addToken 21 = .ok (.iastore, 1) := by decide +kernel
theorem dX5_addToken_22 : decode cX5_addToken 22 = .ok (.aload_n 0, 1) := by decide +kernel
theorem dX5_addToken_23 : decode cX5_addToken 23 = .ok (.getfield 22, 3) := by decide +kernel
theorem dX5_addToken_26 : decode cX5_addToken 26 = .ok (.aload_n 0, 1) := by decide +kernel
theorem dX5_addToken_27 : decode cX5_addToken 27 = .ok (.getfield 186, 3) := by decide +kernel
theorem dX5_addToken_30 : decode cX5_addToken 30 = .ok (.iload_n 2, 1) := by decide +kernel
theorem dX5_addToken_31 : decode cX5_addToken 31 = .ok (.iastore, 1) := by decide +kernel
theorem dX5_addToken_32 : decode cX5_addToken 32 = .ok (.aload_n 0, 1) := by decide +kernel
theorem dX5_addToken_33 : decode cX5_addToken 33 = .ok (.getfield 19, 3) := by decide +kernel
theorem dX5_addToken_36 : decode cX5_addToken 36 = .ok (.aload_n 0, 1) := by decide +kernel
theorem dX5_addToken_37 : decode cX5_addToken 37 = .ok (.getfield 186, 3) := by decide +kernel
theorem dX5_addToken_40 : decode cX5_addToken 40 = .ok (.iload_n 3, 1) := by decide +kernel
theorem dX5_addToken_41 : decode cX5_addToken 41 = .ok (.iastore, 1) := by decide +kernel
theorem dX5_addToken_42 : decode cX5_addToken 42 = .ok (.aload_n 0, 1) := by decide +kernel
theorem dX5_addToken_43 : decode cX5_addToken 43 = .ok (.dup, 1) := by decide +kernel
theorem dX5_addToken_44 : decode cX5_addToken 44 = .ok (.getfield 186, 3) := by decide +kernel
theorem dX5_addToken_47 : decode cX5_addToken 47 = .ok (.iconst 1, 1) := by decide +kernel
theorem dX5_addToken_48 : decode cX5_addToken 48 = .ok (.iadd, 1) := by decide +kernel
theorem dX5_addToken_49 : decode cX5_addToken 49 = .ok (.putfield 186, 3) := by decide +kernel
theorem dX5_addToken_52 : decode cX5_addToken 52 = .ok (.return_, 1) := by decide +kernel
theorem dX5_isLetter_0 : decode cX5_isLetter 0 = .ok (.iload_n 0, 1) := by decide +kernel
theorem dX5_isLetter_1 : decode cX5_isLetter 1 = .ok (.bipush 97, 2) := by decide +kernel
theorem dX5_isLetter_3 : decode cX5_isLetter 3 = .ok (.if_icmp .lt 9, 3) := by decide +kernel
theorem dX5_isLetter_6 : decode cX5_isLetter 6 = .ok (.iload_n 0, 1) := by decide +kernel
theorem dX5_isLetter_7 : decode cX5_isLetter 7 = .ok (.bipush 122, 2) := by decide +kernel
theorem dX5_isLetter_9 : decode cX5_isLetter 9 = .ok (.if_icmp .le 15, 3) := by decide +kernel
theorem dX5_isLetter_12 : decode cX5_isLetter 12 = .ok (.iload_n 0, 1) := by decide +kernel
theorem dX5_isLetter_13 : decode cX5_isLetter 13 = .ok (.bipush 65, 2) := by decide +kernel
theorem dX5_isLetter_15 : decode cX5_isLetter 15 = .ok (.if_icmp .lt 13, 3) := by decide +kernel
theorem dX5_isLetter_18 : decode cX5_isLetter 18 = .ok (.iload_n 0, 1) := by decide +kernel
theorem dX5_isLetter_19 : decode cX5_isLetter 19 = .ok (.bipush 90, 2) := by decide +kernel
theorem dX5_isLetter_21 : decode cX5_isLetter 21 = .ok (.if_icmp .gt 7, 3) := by decide +kernel
theorem dX5_isLetter_24 : decode cX5_isLetter 24 = .ok (.iconst 1, 1) := by decide +kernel
theorem dX5_isLetter_25 : decode cX5_isLetter 25 = .ok (.goto 4, 3) := by decide +kernel
theorem dX5_isLetter_28 : decode cX5_isLetter 28 = .ok (.iconst 0, 1) := by decide +kernel
theorem dX5_isLetter_29 : decode cX5_isLetter 29 = .ok (.ireturn, 1) := by decide +kernel
theorem dX5_isDigit_0 : decode cX5_isDigit 0 = .ok (.iload_n 0, 1) := by decide +kernel
theorem dX5_isDigit_1 : decode cX5_isDigit 1 = .ok (.bipush 48, 2) := by decide +kernel
theorem dX5_isDigit_3 : decode cX5_isDigit 3 = .ok (.if_icmp .lt 13, 3) := by decide +kernel
theorem dX5_isDigit_6 : decode cX5_isDigit 6 = .ok (.iload_n 0, 1) := by decide +kernel
theorem dX5_isDigit_7 : decode cX5_isDigit 7 = .ok (.bipush 57, 2) := by decide +kernel
theorem dX5_isDigit_9 : decode cX5_isDigit 9 = .ok (.if_icmp .gt 7, 3) := by decide +kernel
theorem dX5_isDigit_12 : decode cX5_isDigit 12 = .ok (.iconst 1, 1) := by decide +kernel
theorem dX5_isDigit_13 : decode cX5_isDigit 13 = .ok (.goto 4, 3) := by decide +kernel
theorem dX5_isDigit_16 : decode cX5_isDigit 16 = .ok (.iconst 0, 1) := by decide +kernel
theorem dX5_isDigit_17 : decode cX5_isDigit 17 = .ok (.ireturn, 1) := by decide +kernel
theorem dX5_isSign_0 : decode cX5_isSign 0 = .ok (.iload_n 0, 1) := by decide +kernel
theorem dX5_isSign_1 : decode cX5_isSign 1 = .ok (.bipush 40, 2) := by decide +kernel
theorem dX5_isSign_3 : decode cX5_isSign 3 = .ok (.if_icmp .lt 9, 3) := by decide +kernel
theorem dX5_isSign_6 : decode cX5_isSign 6 = .ok (.iload_n 0, 1) := by decide +kernel
theorem dX5_isSign_7 : decode cX5_isSign 7 = .ok (.bipush 43, 2) := by decide +kernel
theorem dX5_isSign_9 : decode cX5_isSign 9 = .ok (.if_icmp .le 27, 3) := by decide +kernel
theorem dX5_isSign_12 : decode cX5_isSign 12 = .ok (.iload_n 0, 1) := by decide +kernel
theorem dX5_isSign_13 : decode cX5_isSign 13 = .ok (.bipush 45, 2) := by decide +kernel
theorem dX5_isSign_15 : decode cX5_isSign 15 = .ok (.if_icmp .eq 21, 3) := by decide +kernel
theorem dX5_isSign_18 : decode cX5_isSign 18 = .ok (.iload_n 0, 1) := by decide +kernel
theorem dX5_isSign_19 : decode cX5_isSign 19 = .ok (.bipush 47, 2) := by decide +kernel
theorem dX5_isSign_21 : decode cX5_isSign 21 = .ok (.if_icmp .eq 15, 3) := by decide +kernel
theorem dX5_isSign_24 : decode cX5_isSign 24 = .ok (.iload_n 0, 1) := by decide +kernel
theorem dX5_isSign_25 : decode cX5_isSign 25 = .ok (.bipush 59, 2) := by decide +kernel
theorem dX5_isSign_27 : decode cX5_isSign 27 = .ok (.if_icmp .lt 13, 3) := by decide +kernel
theorem dX5_isSign_30 : decode cX5_isSign 30 = .ok (.iload_n 0, 1) := by decide +kernel
theorem dX5_isSign_31 : decode cX5_isSign 31 = .ok (.bipush 62, 2) := by decide +kernel
theorem dX5_isSign_33 : decode cX5_isSign 33 = .ok (.if_icmp .gt 7, 3) := by decide +kernel
theorem dX5_isSign_36 : decode cX5_isSign 36 = .ok (.iconst 1, 1) := by decide +kernel
theorem dX5_isSign_37 : decode cX5_isSign 37 = .ok (.goto 4, 3) := by decide +kernel
theorem dX5_isSign_40 : decode cX5_isSign 40 = .ok (.iconst 0, 1) := by decide +kernel
theorem dX5_isSign_41 : decode cX5_isSign 41 = .ok (.ireturn, 1) := by decide +kernel
theorem dX5_number_0 : decode cX5_number 0 = .ok (.iconst 0, 1) := by decide +kernel
theorem dX5_number_1 : decode cX5_number 1 = .ok (.istore_n 3, 1) := by decide +kernel
theorem dX5_number_2 : decode cX5_number 2 = .ok (.iload_n 1, 1) := by decide +kernel
theorem dX5_number_3 : decode cX5_number 3 = .ok (.istore 4, 2) := by decide +kernel
theorem dX5_number_5 : decode cX5_number 5 = .ok (.iload 4, 2) := by decide +kernel
theorem dX5_number_7 : decode cX5_number 7 = .ok (.iload_n 2, 1) := by decide +kernel
theorem dX5_number_8 : decode cX5_number 8 = .ok (.if_icmp .ge 29, 3) := by decide +kernel
theorem dX5_number_11 : decode cX5_number 11 = .ok (.iload 4, 2) := by decide +kernel
theorem dX5_number_13 : decode cX5_number 13 = .ok (.aload_n 0, 1) := by decide +kernel
theorem dX5_number_14 : decode cX5_number 14 = .ok (.arraylength, 1) := by decide +kernel
theorem dX5_number_15 : decode cX5_number 15 = .ok (.if_icmp .ge 22, 3) := by decide +kernel
theorem dX5_number_18 : decode cX5_number 18 = .ok (.iload_n 3, 1) := by decide +kernel
theorem dX5_number_19 : decode cX5_number 19 = .ok (.bipush 10, 2) := by decide +kernel
theorem dX5_number_21 : decode cX5_number 21 = .ok (.imul, 1) := by decide +kernel
theorem dX5_number_22 : decode cX5_number 22 = .ok (.aload_n 0, 1) := by decide +kernel
theorem dX5_number_23 : decode cX5_number 23 = .ok (.iload 4, 2) := by decide +kernel
theorem dX5_number_25 : decode cX5_number 25 = .ok (.iaload, 1) := by decide +kernel
theorem dX5_number_26 : decode cX5_number 26 = .ok (.iadd, 1) := by decide +kernel
theorem dX5_number_27 : decode cX5_number 27 = .ok (.bipush 48, 2) := by decide +kernel
theorem dX5_number_29 : decode cX5_number 29 = .ok (.isub, 1) := by decide +kernel
theorem dX5_number_30 : decode cX5_number 30 = .ok (.istore_n 3, 1) := by decide +kernel
theorem dX5_number_31 : decode cX5_number 31 = .ok (.iinc 4 1, 3) := by decide +kernel
theorem dX5_number_34 : decode cX5_number 34 = .ok (.goto (-29), 3) := by decide +kernel
theorem dX5_number_37 : decode cX5_number 37 = .ok (.iload_n 3, 1) := by decide +kernel
theorem dX5_number_38 : decode cX5_number 38 = .ok (.ireturn, 1) := by decide +kernel
theorem dX5_keyword_0 : decode cX5_keyword 0 = .ok (.iload_n 3, 1) := by decide +kernel
theorem dX5_keyword_1 : decode cX5_keyword 1 = .ok (.iload_n 2, 1) := by decide +kernel
theorem dX5_keyword_2 : decode cX5_keyword 2 = .ok (.isub, 1) := by decide +kernel
theorem dX5_keyword_3 : decode cX5_keyword 3 = .ok (.bipush 7, 2) := by decide +kernel
theorem dX5_keyword_5 : decode cX5_keyword 5 = .ok (.if_icmp .le 6, 3) := by decide +kernel
theorem dX5_keyword_8 : decode cX5_keyword 8 = .ok (.bipush 102, 2) := by decide +kernel
theorem dX5_keyword_10 : decode cX5_keyword 10 = .ok (.ireturn, 1) := by decide +kernel
theorem dX5_keyword_11 : decode cX5_keyword 11 = .ok (.lconst 0, 1) := by decide +kernel
theorem dX5_keyword_12 : decode cX5_keyword 12 = .ok (.lstore 4, 2) := by decide +kernel
theorem dX5_keyword_14 : decode cX5_keyword 14 = .ok (.iload_n 2, 1) := by decide +kernel
theorem dX5_keyword_15 : decode cX5_keyword 15 = .ok (.istore 6, 2) := by decide +kernel
theorem dX5_keyword_17 : decode cX5_keyword 17 = .ok (.iload 6, 2) := by decide +kernel
theorem dX5_keyword_19 : decode cX5_keyword 19 = .ok (.iload_n 3, 1) := by decide +kernel
theorem dX5_keyword_20 : decode cX5_keyword 20 = .ok (.if_icmp .ge 29, 3) := by decide +kernel
theorem dX5_keyword_23 : decode cX5_keyword 23 = .ok (.iload 6, 2) := by decide +kernel
theorem dX5_keyword_25 : decode cX5_keyword 25 = .ok (.aload_n 1, 1) := by decide +kernel
theorem dX5_keyword_26 : decode cX5_keyword 26 = .ok (.arraylength, 1) := by decide +kernel
theorem dX5_keyword_27 : decode cX5_keyword 27 = .ok (.if_icmp .ge 22, 3) := by decide +kernel
theorem dX5_keyword_30 : decode cX5_keyword 30 = .ok (.lload 4, 2) := by decide +kernel
theorem dX5_keyword_32 : decode cX5_keyword 32 = .ok (.bipush 8, 2) := by decide +kernel
theorem dX5_keyword_34 : decode cX5_keyword 34 = .ok (.lshl, 1) := by decide +kernel
theorem dX5_keyword_35 : decode cX5_keyword 35 = .ok (.aload_n 1, 1) := by decide +kernel
theorem dX5_keyword_36 : decode cX5_keyword 36 = .ok (.iload 6, 2) := by decide +kernel
theorem dX5_keyword_38 : decode cX5_keyword 38 = .ok (.iaload, 1) := by decide +kernel
theorem dX5_keyword_39 : decode cX5_keyword 39 = .ok (.i2l, 1) := by decide +kernel
theorem dX5_keyword_40 : decode cX5_keyword 40 = .ok (.lor, 1) := by decide +kernel
theorem dX5_keyword_41 : decode cX5_keyword 41 = .ok (.lstore 4, 2) := by decide +kernel
theorem dX5_keyword_43 : decode cX5_keyword 43 = .ok (.iinc 6 1, 3) := by decide +kernel
theorem dX5_keyword_46 : decode cX5_keyword 46 = .ok (.goto (-29), 3) := by decide +kernel
theorem dX5_keyword_49 : decode cX5_keyword 49 = .ok (.iconst 0, 1) := by decide +kernel
theorem dX5_keyword_50 : decode cX5_keyword 50 = .ok (.istore 6, 2) := by decide +kernel
theorem dX5_keyword_52 : decode cX5_keyword 52 = .ok (.iload 6, 2) := by decide +kernel
theorem dX5_keyword_54 : decode cX5_keyword 54 = .ok (.bipush 29, 2) := by decide +kernel
theorem dX5_keyword_56 : decode cX5_keyword 56 = .ok (.if_icmp .ge 25, 3) := by decide +kernel
theorem dX5_keyword_59 : decode cX5_keyword 59 = .ok (.aload_n 0, 1) := by decide +kernel
theorem dX5_keyword_60 : decode cX5_keyword 60 = .ok (.getfield 9, 3) := by decide +kernel
theorem dX5_keyword_63 : decode cX5_keyword 63 = .ok (.iload 6, 2) := by decide +kernel
theorem dX5_keyword_65 : decode cX5_keyword 65 = .ok (.laload, 1) := by decide +kernel
theorem dX5_keyword_66 : decode cX5_keyword 66 = .ok (.lload 4, 2) := by decide +kernel
theorem dX5_keyword_68 : decode cX5_keyword 68 = .ok (.lcmp, 1) := by decide +kernel
theorem dX5_keyword_69 : decode cX5_keyword 69 = .ok (.ifCond .ne 6, 3) := by decide +kernel
theorem dX5_keyword_72 : decode cX5_keyword 72 = .ok (.iload 6, 2) := by decide +kernel
theorem dX5_keyword_74 : decode cX5_keyword 74 = .ok (.ireturn, 1) := by decide +kernel
theorem dX5_keyword_75 : decode cX5_keyword 75 = .ok (.iinc 6 1, 3) := by decide +kernel
theorem dX5_keyword_78 : decode cX5_keyword 78 = .ok (.goto (-26), 3) := by decide +kernel
theorem dX5_keyword_81 : decode cX5_keyword 81 = .ok (.bipush 102, 2) := by decide +kernel
theorem dX5_keyword_83 : decode cX5_keyword 83 = .ok (.ireturn, 1) := by decide +kernel
