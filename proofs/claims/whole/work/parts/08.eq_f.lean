/-- FiveLandsModel.laysNights(I)V -/
theorem k_188 {X : Ctx} {d : Nat} (x0 : Nat) (x1 : Int32) (h : Hp) : K X (d + 1) 188 [.ref x0, .int x1] h = sem (X, K X d) 188 2 [some (.ref x0), some (.int x1), some (.int 0), none] [] h := by
  show sem (X, K X d) 188 0 [some (.ref x0), some (.int x1), none, none] [] h = _
  refine (s_iconst 1 0 mc_188 dX11_laysNights_0 rfl (by decide)).trans ?_
  refine (s_istore_n 2 mc_188 dX11_laysNights_1 rfl rfl (Nat.le_of_ble_eq_true rfl) rfl).trans ?_
  rfl
theorem b_188_2 {X : Ctx} {d : Nat} (x0 : Nat) (v1 : Option Value) (x2 : Int32) (v3 : Option Value)  (h : Hp) : sem (X, K X d) 188 2 [some (.ref x0), v1, some (.int x2), v3] [] h = if 6 ≤ x2 then fI h 11 x0 56 0 fun h1 => sem (X, K X d) 188 28 [some (.ref x0), v1, some (.int 0), v3] [] h1 else gR h 11 x0 46 fun g1 => wI h g1 x2 0 fun h2 => sem (X, K X d) 188 2 [some (.ref x0), v1, some (.int (x2 + 1)), v3] [] h2 := by
  refine (s_iload_n 3 mc_188 dX11_laysNights_2 rfl rfl rfl).trans ?_
  refine (s_bipush 5 6 mc_188 dX11_laysNights_3 rfl (by decide)).trans ?_
  refine (s_icmp_ge 21 8 mc_188 dX11_laysNights_5 rfl rfl).trans ?_
  refine ite_c ?_ ?_
  · skip
    refine (s_aload_n 22 mc_188 dX11_laysNights_21 rfl rfl rfl).trans ?_
    refine (s_iconst 23 0 mc_188 dX11_laysNights_22 rfl (by decide)).trans ?_
    refine (s_putfI 26 mc_188 dX11_laysNights_23 rfl mo_188 ff_11_408 rfl (Or.inl rfl)).trans ?_
    refine fI_c fun h1 => ?_
    refine (s_iconst 27 0 mc_188 dX11_laysNights_26 rfl (by decide)).trans ?_
    refine (s_istore_n 28 mc_188 dX11_laysNights_27 rfl rfl (Nat.le_of_ble_eq_true rfl) rfl).trans ?_
    rfl
  · skip
    refine (s_aload_n 9 mc_188 dX11_laysNights_8 rfl rfl rfl).trans ?_
    refine (s_getfR 12 mc_188 dX11_laysNights_9 rfl mo_188 fs_11_122 ff_11_122 rfl).trans ?_
    refine gR_c fun g1 => ?_
    refine (s_iload_n 13 mc_188 dX11_laysNights_12 rfl rfl rfl).trans ?_
    refine (s_iconst 14 0 mc_188 dX11_laysNights_13 rfl (by decide)).trans ?_
    refine (s_iastore 15 mc_188 dX11_laysNights_14 rfl).trans ?_
    refine wI_c fun h2 => ?_
    refine (s_iinc 1 18 mc_188 dX11_laysNights_15 rfl rfl (Nat.le_of_ble_eq_true rfl) (by decide) rfl).trans ?_
    refine (s_goto 2 mc_188 dX11_laysNights_18 rfl).trans ?_
    rfl
theorem b_188_28 {X : Ctx} {d : Nat} (x0 : Nat) (x1 : Int32) (x2 : Int32) (v3 : Option Value)  (h : Hp) : sem (X, K X d) 188 28 [some (.ref x0), some (.int x1), some (.int x2), v3] [] h = if 360 ≤ x2 then some (none, h) else gR h 11 x0 0 fun g1 => aI X h g1 ((360 * x1) + x2) fun g2 => if ¬ g2 = (-1) then gR h 11 x0 46 fun g3 => aI X h g3 g2 fun g4 => wI h g3 g2 (g4 + 1) fun h1 => sem (X, K X d) 188 28 [some (.ref x0), some (.int x1), some (.int (x2 + 1)), some (.int g2)] [] h1 else gI h 11 x0 56 fun g5 => fI h 11 x0 56 (g5 + 1) fun h2 => sem (X, K X d) 188 28 [some (.ref x0), some (.int x1), some (.int (x2 + 1)), some (.int g2)] [] h2 := by
  refine (s_iload_n 29 mc_188 dX11_laysNights_28 rfl rfl rfl).trans ?_
  refine (s_sipush 32 360 mc_188 dX11_laysNights_29 rfl (by decide)).trans ?_
  refine (s_icmp_ge 82 35 mc_188 dX11_laysNights_32 rfl rfl).trans ?_
  refine ite_c ?_ ?_
  · skip
    exact s_vret mc_188 dX11_laysNights_82 mt_188
  · skip
    refine (s_aload_n 36 mc_188 dX11_laysNights_35 rfl rfl rfl).trans ?_
    refine (s_getfR 39 mc_188 dX11_laysNights_36 rfl mo_188 fs_11_13 ff_11_13 rfl).trans ?_
    refine gR_c fun g1 => ?_
    refine (s_sipush 42 360 mc_188 dX11_laysNights_39 rfl (by decide)).trans ?_
    refine (s_iload_n 43 mc_188 dX11_laysNights_42 rfl rfl rfl).trans ?_
    refine (s_imul 44 mc_188 dX11_laysNights_43 rfl).trans ?_
    refine (s_iload_n 45 mc_188 dX11_laysNights_44 rfl rfl rfl).trans ?_
    refine (s_iadd 46 mc_188 dX11_laysNights_45 rfl).trans ?_
    refine (s_iaload 47 mc_188 dX11_laysNights_46 rfl).trans ?_
    refine aI_c fun g2 => ?_
    refine (s_istore_n 48 mc_188 dX11_laysNights_47 rfl rfl (Nat.le_of_ble_eq_true rfl) rfl).trans ?_
    refine (s_iload_n 49 mc_188 dX11_laysNights_48 rfl rfl rfl).trans ?_
    refine (s_iconst 50 (-1) mc_188 dX11_laysNights_49 rfl (by decide)).trans ?_
    refine (s_icmp_ne 66 53 mc_188 dX11_laysNights_50 rfl rfl).trans ?_
    refine ite_c ?_ ?_
    · skip
      refine (s_aload_n 67 mc_188 dX11_laysNights_66 rfl rfl rfl).trans ?_
      refine (s_getfR 70 mc_188 dX11_laysNights_67 rfl mo_188 fs_11_122 ff_11_122 rfl).trans ?_
      refine gR_c fun g3 => ?_
      refine (s_iload_n 71 mc_188 dX11_laysNights_70 rfl rfl rfl).trans ?_
      refine (s_dup2 72 mc_188 dX11_laysNights_71 rfl rfl rfl).trans ?_
      refine (s_iaload 73 mc_188 dX11_laysNights_72 rfl).trans ?_
      refine aI_c fun g4 => ?_
      refine (s_iconst 74 1 mc_188 dX11_laysNights_73 rfl (by decide)).trans ?_
      refine (s_iadd 75 mc_188 dX11_laysNights_74 rfl).trans ?_
      refine (s_iastore 76 mc_188 dX11_laysNights_75 rfl).trans ?_
      refine wI_c fun h1 => ?_
      refine (s_iinc 1 79 mc_188 dX11_laysNights_76 rfl rfl (Nat.le_of_ble_eq_true rfl) (by decide) rfl).trans ?_
      refine (s_goto 28 mc_188 dX11_laysNights_79 rfl).trans ?_
      rfl
    · skip
      refine (s_aload_n 54 mc_188 dX11_laysNights_53 rfl rfl rfl).trans ?_
      refine (s_dup 55 mc_188 dX11_laysNights_54 rfl rfl).trans ?_
      refine (s_getfI 58 mc_188 dX11_laysNights_55 rfl mo_188 fs_11_408 ff_11_408 (Or.inl rfl)).trans ?_
      refine gI_c fun g5 => ?_
      refine (s_iconst 59 1 mc_188 dX11_laysNights_58 rfl (by decide)).trans ?_
      refine (s_iadd 60 mc_188 dX11_laysNights_59 rfl).trans ?_
      refine (s_putfI 63 mc_188 dX11_laysNights_60 rfl mo_188 ff_11_408 rfl (Or.inl rfl)).trans ?_
      refine fI_c fun h2 => ?_
      refine (s_goto 76 mc_188 dX11_laysNights_63 rfl).trans ?_
      refine (s_iinc 1 79 mc_188 dX11_laysNights_76 rfl rfl (Nat.le_of_ble_eq_true rfl) (by decide) rfl).trans ?_
      refine (s_goto 28 mc_188 dX11_laysNights_79 rfl).trans ?_
      rfl
/-- FiveLandsModel.lays(I)V -/
theorem k_189 {X : Ctx} {d : Nat} (x0 : Nat) (x1 : Int32) (h : Hp) : K X (d + 1) 189 [.ref x0, .int x1] h = gd (hS h x0 = (12, 0)) (bV (K X d 188 [.ref x0, .int x1] h) fun h1 => gR h1 11 x0 1 fun g1 => aI X h1 g1 x1 fun g2 => fI h1 11 x0 52 g2 fun h2 => gR h2 11 x0 2 fun g3 => aI X h2 g3 (2 * x1) fun g4 => fI h2 11 x0 53 g4 fun h3 => gR h3 11 x0 2 fun g5 => aI X h3 g5 ((2 * x1) + 1) fun g6 => fI h3 11 x0 54 g6 fun h4 => gR h4 11 x0 3 fun g7 => aI X h4 g7 x1 fun g8 => fI h4 11 x0 55 g8 fun h5 => fI h5 11 x0 57 0 fun h6 => sem (X, K X d) 189 58 [some (.ref x0), some (.int x1), some (.int 0)] [] h6) := by
  show sem (X, K X d) 189 0 [some (.ref x0), some (.int x1), none] [] h = _
  refine (s_aload_n 1 mc_189 dX11_lays_0 rfl rfl rfl).trans ?_
  refine (s_iload_n 2 mc_189 dX11_lays_1 rfl rfl rfl).trans ?_
  refine (s_iviV 5 mc_189 dX11_lays_2 rfl mo_189 mm_11_411 (by decide) ms_188 mi_188 mr_188 ma_188 mo_188 (by decide) (Nat.le_of_ble_eq_true rfl) rfl rfl (Nat.le_of_ble_eq_true rfl)).trans ?_
  refine gd_c ?_
  refine bV_c fun h1 => ?_
  refine (s_aload_n 6 mc_189 dX11_lays_5 rfl rfl rfl).trans ?_
  refine (s_aload_n 7 mc_189 dX11_lays_6 rfl rfl rfl).trans ?_
  refine (s_getfR 10 mc_189 dX11_lays_7 rfl mo_189 fs_11_17 ff_11_17 rfl).trans ?_
  refine gR_c fun g1 => ?_
  refine (s_iload_n 11 mc_189 dX11_lays_10 rfl rfl rfl).trans ?_
  refine (s_iaload 12 mc_189 dX11_lays_11 rfl).trans ?_
  refine aI_c fun g2 => ?_
  refine (s_putfI 15 mc_189 dX11_lays_12 rfl mo_189 ff_11_414 rfl (Or.inl rfl)).trans ?_
  refine fI_c fun h2 => ?_
  refine (s_aload_n 16 mc_189 dX11_lays_15 rfl rfl rfl).trans ?_
  refine (s_aload_n 17 mc_189 dX11_lays_16 rfl rfl rfl).trans ?_
  refine (s_getfR 20 mc_189 dX11_lays_17 rfl mo_189 fs_11_20 ff_11_20 rfl).trans ?_
  refine gR_c fun g3 => ?_
  refine (s_iconst 21 2 mc_189 dX11_lays_20 rfl (by decide)).trans ?_
  refine (s_iload_n 22 mc_189 dX11_lays_21 rfl rfl rfl).trans ?_
  refine (s_imul 23 mc_189 dX11_lays_22 rfl).trans ?_
  refine (s_iaload 24 mc_189 dX11_lays_23 rfl).trans ?_
  refine aI_c fun g4 => ?_
  refine (s_putfI 27 mc_189 dX11_lays_24 rfl mo_189 ff_11_417 rfl (Or.inl rfl)).trans ?_
  refine fI_c fun h3 => ?_
  refine (s_aload_n 28 mc_189 dX11_lays_27 rfl rfl rfl).trans ?_
  refine (s_aload_n 29 mc_189 dX11_lays_28 rfl rfl rfl).trans ?_
  refine (s_getfR 32 mc_189 dX11_lays_29 rfl mo_189 fs_11_20 ff_11_20 rfl).trans ?_
  refine gR_c fun g5 => ?_
  refine (s_iconst 33 2 mc_189 dX11_lays_32 rfl (by decide)).trans ?_
  refine (s_iload_n 34 mc_189 dX11_lays_33 rfl rfl rfl).trans ?_
  refine (s_imul 35 mc_189 dX11_lays_34 rfl).trans ?_
  refine (s_iconst 36 1 mc_189 dX11_lays_35 rfl (by decide)).trans ?_
  refine (s_iadd 37 mc_189 dX11_lays_36 rfl).trans ?_
  refine (s_iaload 38 mc_189 dX11_lays_37 rfl).trans ?_
  refine aI_c fun g6 => ?_
  refine (s_putfI 41 mc_189 dX11_lays_38 rfl mo_189 ff_11_419 rfl (Or.inl rfl)).trans ?_
  refine fI_c fun h4 => ?_
  refine (s_aload_n 42 mc_189 dX11_lays_41 rfl rfl rfl).trans ?_
  refine (s_aload_n 43 mc_189 dX11_lays_42 rfl rfl rfl).trans ?_
  refine (s_getfR 46 mc_189 dX11_lays_43 rfl mo_189 fs_11_23 ff_11_23 rfl).trans ?_
  refine gR_c fun g7 => ?_
  refine (s_iload_n 47 mc_189 dX11_lays_46 rfl rfl rfl).trans ?_
  refine (s_iaload 48 mc_189 dX11_lays_47 rfl).trans ?_
  refine aI_c fun g8 => ?_
  refine (s_putfI 51 mc_189 dX11_lays_48 rfl mo_189 ff_11_421 rfl (Or.inl rfl)).trans ?_
  refine fI_c fun h5 => ?_
  refine (s_aload_n 52 mc_189 dX11_lays_51 rfl rfl rfl).trans ?_
  refine (s_iconst 53 0 mc_189 dX11_lays_52 rfl (by decide)).trans ?_
  refine (s_putfI 56 mc_189 dX11_lays_53 rfl mo_189 ff_11_424 rfl (Or.inl rfl)).trans ?_
  refine fI_c fun h6 => ?_
  refine (s_iconst 57 0 mc_189 dX11_lays_56 rfl (by decide)).trans ?_
  refine (s_istore_n 58 mc_189 dX11_lays_57 rfl rfl (Nat.le_of_ble_eq_true rfl) rfl).trans ?_
  rfl
theorem b_189_58 {X : Ctx} {d : Nat} (x0 : Nat) (x1 : Int32) (x2 : Int32)  (h : Hp) : sem (X, K X d) 189 58 [some (.ref x0), some (.int x1), some (.int x2)] [] h = gI h 11 x0 55 fun g1 => if g1 ≤ x2 then gd (hS h x0 = (12, 0)) (bV (K X d 187 [.ref x0, .int 0] h) fun h1 => some (none, h1)) else gR h 11 x0 47 fun g2 => gR h 11 x0 4 fun g3 => aI X h g3 ((12 * x1) + x2) fun g4 => wI h g2 x2 g4 fun h2 => gR h2 11 x0 48 fun g5 => gR h2 11 x0 5 fun g6 => aI X h2 g6 ((12 * x1) + x2) fun g7 => wI h2 g5 x2 g7 fun h3 => gR h3 11 x0 49 fun g8 => gR h3 11 x0 6 fun g9 => aI X h3 g9 ((12 * x1) + x2) fun g10 => wI h3 g8 x2 g10 fun h4 => gR h4 11 x0 50 fun g11 => gR h4 11 x0 7 fun g12 => aI X h4 g12 ((12 * x1) + x2) fun g13 => wI h4 g11 x2 g13 fun h5 => gR h5 11 x0 51 fun g14 => gR h5 11 x0 8 fun g15 => aI X h5 g15 ((12 * x1) + x2) fun g16 => wI h5 g14 x2 g16 fun h6 => gI h6 11 x0 57 fun g17 => gR h6 11 x0 49 fun g18 => aI X h6 g18 x2 fun g19 => fI h6 11 x0 57 (g17 + g19) fun h7 => sem (X, K X d) 189 58 [some (.ref x0), some (.int x1), some (.int (x2 + 1))] [] h7 := by
  refine (s_iload_n 59 mc_189 dX11_lays_58 rfl rfl rfl).trans ?_
  refine (s_aload_n 60 mc_189 dX11_lays_59 rfl rfl rfl).trans ?_
  refine (s_getfI 63 mc_189 dX11_lays_60 rfl mo_189 fs_11_421 ff_11_421 (Or.inl rfl)).trans ?_
  refine gI_c fun g1 => ?_
  refine (s_icmp_ge 172 66 mc_189 dX11_lays_63 rfl rfl).trans ?_
  refine ite_c ?_ ?_
  · skip
    refine (s_aload_n 173 mc_189 dX11_lays_172 rfl rfl rfl).trans ?_
    refine (s_iconst 174 0 mc_189 dX11_lays_173 rfl (by decide)).trans ?_
    refine (s_iviV 177 mc_189 dX11_lays_174 rfl mo_189 mm_11_427 (by decide) ms_187 mi_187 mr_187 ma_187 mo_187 (by decide) (Nat.le_of_ble_eq_true rfl) rfl rfl (Nat.le_of_ble_eq_true rfl)).trans ?_
    refine gd_c ?_
    refine bV_c fun h1 => ?_
    exact s_vret mc_189 dX11_lays_177 mt_189
  · skip
    refine (s_aload_n 67 mc_189 dX11_lays_66 rfl rfl rfl).trans ?_
    refine (s_getfR 70 mc_189 dX11_lays_67 rfl mo_189 fs_11_125 ff_11_125 rfl).trans ?_
    refine gR_c fun g2 => ?_
    refine (s_iload_n 71 mc_189 dX11_lays_70 rfl rfl rfl).trans ?_
    refine (s_aload_n 72 mc_189 dX11_lays_71 rfl rfl rfl).trans ?_
    refine (s_getfR 75 mc_189 dX11_lays_72 rfl mo_189 fs_11_26 ff_11_26 rfl).trans ?_
    refine gR_c fun g3 => ?_
    refine (s_bipush 77 12 mc_189 dX11_lays_75 rfl (by decide)).trans ?_
    refine (s_iload_n 78 mc_189 dX11_lays_77 rfl rfl rfl).trans ?_
    refine (s_imul 79 mc_189 dX11_lays_78 rfl).trans ?_
    refine (s_iload_n 80 mc_189 dX11_lays_79 rfl rfl rfl).trans ?_
    refine (s_iadd 81 mc_189 dX11_lays_80 rfl).trans ?_
    refine (s_iaload 82 mc_189 dX11_lays_81 rfl).trans ?_
    refine aI_c fun g4 => ?_
    refine (s_iastore 83 mc_189 dX11_lays_82 rfl).trans ?_
    refine wI_c fun h2 => ?_
    refine (s_aload_n 84 mc_189 dX11_lays_83 rfl rfl rfl).trans ?_
    refine (s_getfR 87 mc_189 dX11_lays_84 rfl mo_189 fs_11_128 ff_11_128 rfl).trans ?_
    refine gR_c fun g5 => ?_
    refine (s_iload_n 88 mc_189 dX11_lays_87 rfl rfl rfl).trans ?_
    refine (s_aload_n 89 mc_189 dX11_lays_88 rfl rfl rfl).trans ?_
    refine (s_getfR 92 mc_189 dX11_lays_89 rfl mo_189 fs_11_29 ff_11_29 rfl).trans ?_
    refine gR_c fun g6 => ?_
    refine (s_bipush 94 12 mc_189 dX11_lays_92 rfl (by decide)).trans ?_
    refine (s_iload_n 95 mc_189 dX11_lays_94 rfl rfl rfl).trans ?_
    refine (s_imul 96 mc_189 dX11_lays_95 rfl).trans ?_
    refine (s_iload_n 97 mc_189 dX11_lays_96 rfl rfl rfl).trans ?_
    refine (s_iadd 98 mc_189 dX11_lays_97 rfl).trans ?_
    refine (s_iaload 99 mc_189 dX11_lays_98 rfl).trans ?_
    refine aI_c fun g7 => ?_
    refine (s_iastore 100 mc_189 dX11_lays_99 rfl).trans ?_
    refine wI_c fun h3 => ?_
    refine (s_aload_n 101 mc_189 dX11_lays_100 rfl rfl rfl).trans ?_
    refine (s_getfR 104 mc_189 dX11_lays_101 rfl mo_189 fs_11_131 ff_11_131 rfl).trans ?_
    refine gR_c fun g8 => ?_
    refine (s_iload_n 105 mc_189 dX11_lays_104 rfl rfl rfl).trans ?_
    refine (s_aload_n 106 mc_189 dX11_lays_105 rfl rfl rfl).trans ?_
    refine (s_getfR 109 mc_189 dX11_lays_106 rfl mo_189 fs_11_32 ff_11_32 rfl).trans ?_
    refine gR_c fun g9 => ?_
    refine (s_bipush 111 12 mc_189 dX11_lays_109 rfl (by decide)).trans ?_
    refine (s_iload_n 112 mc_189 dX11_lays_111 rfl rfl rfl).trans ?_
    refine (s_imul 113 mc_189 dX11_lays_112 rfl).trans ?_
    refine (s_iload_n 114 mc_189 dX11_lays_113 rfl rfl rfl).trans ?_
    refine (s_iadd 115 mc_189 dX11_lays_114 rfl).trans ?_
    refine (s_iaload 116 mc_189 dX11_lays_115 rfl).trans ?_
    refine aI_c fun g10 => ?_
    refine (s_iastore 117 mc_189 dX11_lays_116 rfl).trans ?_
    refine wI_c fun h4 => ?_
    refine (s_aload_n 118 mc_189 dX11_lays_117 rfl rfl rfl).trans ?_
    refine (s_getfR 121 mc_189 dX11_lays_118 rfl mo_189 fs_11_134 ff_11_134 rfl).trans ?_
    refine gR_c fun g11 => ?_
    refine (s_iload_n 122 mc_189 dX11_lays_121 rfl rfl rfl).trans ?_
    refine (s_aload_n 123 mc_189 dX11_lays_122 rfl rfl rfl).trans ?_
    refine (s_getfR 126 mc_189 dX11_lays_123 rfl mo_189 fs_11_35 ff_11_35 rfl).trans ?_
    refine gR_c fun g12 => ?_
    refine (s_bipush 128 12 mc_189 dX11_lays_126 rfl (by decide)).trans ?_
    refine (s_iload_n 129 mc_189 dX11_lays_128 rfl rfl rfl).trans ?_
    refine (s_imul 130 mc_189 dX11_lays_129 rfl).trans ?_
    refine (s_iload_n 131 mc_189 dX11_lays_130 rfl rfl rfl).trans ?_
    refine (s_iadd 132 mc_189 dX11_lays_131 rfl).trans ?_
    refine (s_iaload 133 mc_189 dX11_lays_132 rfl).trans ?_
    refine aI_c fun g13 => ?_
    refine (s_iastore 134 mc_189 dX11_lays_133 rfl).trans ?_
    refine wI_c fun h5 => ?_
    refine (s_aload_n 135 mc_189 dX11_lays_134 rfl rfl rfl).trans ?_
    refine (s_getfR 138 mc_189 dX11_lays_135 rfl mo_189 fs_11_137 ff_11_137 rfl).trans ?_
    refine gR_c fun g14 => ?_
    refine (s_iload_n 139 mc_189 dX11_lays_138 rfl rfl rfl).trans ?_
    refine (s_aload_n 140 mc_189 dX11_lays_139 rfl rfl rfl).trans ?_
    refine (s_getfR 143 mc_189 dX11_lays_140 rfl mo_189 fs_11_38 ff_11_38 rfl).trans ?_
    refine gR_c fun g15 => ?_
    refine (s_bipush 145 12 mc_189 dX11_lays_143 rfl (by decide)).trans ?_
    refine (s_iload_n 146 mc_189 dX11_lays_145 rfl rfl rfl).trans ?_
    refine (s_imul 147 mc_189 dX11_lays_146 rfl).trans ?_
    refine (s_iload_n 148 mc_189 dX11_lays_147 rfl rfl rfl).trans ?_
    refine (s_iadd 149 mc_189 dX11_lays_148 rfl).trans ?_
    refine (s_iaload 150 mc_189 dX11_lays_149 rfl).trans ?_
    refine aI_c fun g16 => ?_
    refine (s_iastore 151 mc_189 dX11_lays_150 rfl).trans ?_
    refine wI_c fun h6 => ?_
    refine (s_aload_n 152 mc_189 dX11_lays_151 rfl rfl rfl).trans ?_
    refine (s_dup 153 mc_189 dX11_lays_152 rfl rfl).trans ?_
    refine (s_getfI 156 mc_189 dX11_lays_153 rfl mo_189 fs_11_424 ff_11_424 (Or.inl rfl)).trans ?_
    refine gI_c fun g17 => ?_
    refine (s_aload_n 157 mc_189 dX11_lays_156 rfl rfl rfl).trans ?_
    refine (s_getfR 160 mc_189 dX11_lays_157 rfl mo_189 fs_11_131 ff_11_131 rfl).trans ?_
    refine gR_c fun g18 => ?_
    refine (s_iload_n 161 mc_189 dX11_lays_160 rfl rfl rfl).trans ?_
    refine (s_iaload 162 mc_189 dX11_lays_161 rfl).trans ?_
    refine aI_c fun g19 => ?_
    refine (s_iadd 163 mc_189 dX11_lays_162 rfl).trans ?_
    refine (s_putfI 166 mc_189 dX11_lays_163 rfl mo_189 ff_11_424 rfl (Or.inl rfl)).trans ?_
    refine fI_c fun h7 => ?_
    refine (s_iinc 1 169 mc_189 dX11_lays_166 rfl rfl (Nat.le_of_ble_eq_true rfl) (by decide) rfl).trans ?_
    refine (s_goto 58 mc_189 dX11_lays_169 rfl).trans ?_
    rfl
/-- FiveLandsModel.most(I)I -/
theorem k_190 {X : Ctx} {d : Nat} (x0 : Nat) (x1 : Int32) (h : Hp) : K X (d + 1) 190 [.ref x0, .int x1] h = sem (X, K X d) 190 4 [some (.ref x0), some (.int x1), some (.int 0), some (.int 0)] [] h := by
  show sem (X, K X d) 190 0 [some (.ref x0), some (.int x1), none, none] [] h = _
  refine (s_iconst 1 0 mc_190 dX11_most_0 rfl (by decide)).trans ?_
  refine (s_istore_n 2 mc_190 dX11_most_1 rfl rfl (Nat.le_of_ble_eq_true rfl) rfl).trans ?_
  refine (s_iconst 3 0 mc_190 dX11_most_2 rfl (by decide)).trans ?_
  refine (s_istore_n 4 mc_190 dX11_most_3 rfl rfl (Nat.le_of_ble_eq_true rfl) rfl).trans ?_
  rfl
theorem b_190_4 {X : Ctx} {d : Nat} (x0 : Nat) (x1 : Int32) (x2 : Int32) (x3 : Int32)  (h : Hp) : sem (X, K X d) 190 4 [some (.ref x0), some (.int x1), some (.int x2), some (.int x3)] [] h = if 6 ≤ x3 then some (some (.int x2), h) else if x3 = x1 then sem (X, K X d) 190 4 [some (.ref x0), some (.int x1), some (.int x2), some (.int (x3 + 1))] [] h else gR h 11 x0 46 fun g1 => aI X h g1 x3 fun g2 => if g2 ≤ x2 then sem (X, K X d) 190 4 [some (.ref x0), some (.int x1), some (.int x2), some (.int (x3 + 1))] [] h else gR h 11 x0 46 fun g3 => aI X h g3 x3 fun g4 => sem (X, K X d) 190 4 [some (.ref x0), some (.int x1), some (.int g4), some (.int (x3 + 1))] [] h := by
  refine (s_iload_n 5 mc_190 dX11_most_4 rfl rfl rfl).trans ?_
  refine (s_bipush 7 6 mc_190 dX11_most_5 rfl (by decide)).trans ?_
  refine (s_icmp_ge 42 10 mc_190 dX11_most_7 rfl rfl).trans ?_
  refine ite_c ?_ ?_
  · skip
    refine (s_iload_n 43 mc_190 dX11_most_42 rfl rfl rfl).trans ?_
    exact s_iret mc_190 dX11_most_43 mt_190
  · skip
    refine (s_iload_n 11 mc_190 dX11_most_10 rfl rfl rfl).trans ?_
    refine (s_iload_n 12 mc_190 dX11_most_11 rfl rfl rfl).trans ?_
    refine (s_icmp_eq 34 15 mc_190 dX11_most_12 rfl rfl).trans ?_
    refine ite_c ?_ ?_
    · skip
      refine (s_iload_n 35 mc_190 dX11_most_34 rfl rfl rfl).trans ?_
      refine (s_istore_n 36 mc_190 dX11_most_35 rfl rfl (Nat.le_of_ble_eq_true rfl) rfl).trans ?_
      refine (s_iinc 1 39 mc_190 dX11_most_36 rfl rfl (Nat.le_of_ble_eq_true rfl) (by decide) rfl).trans ?_
      refine (s_goto 4 mc_190 dX11_most_39 rfl).trans ?_
      rfl
    · skip
      refine (s_aload_n 16 mc_190 dX11_most_15 rfl rfl rfl).trans ?_
      refine (s_getfR 19 mc_190 dX11_most_16 rfl mo_190 fs_11_122 ff_11_122 rfl).trans ?_
      refine gR_c fun g1 => ?_
      refine (s_iload_n 20 mc_190 dX11_most_19 rfl rfl rfl).trans ?_
      refine (s_iaload 21 mc_190 dX11_most_20 rfl).trans ?_
      refine aI_c fun g2 => ?_
      refine (s_iload_n 22 mc_190 dX11_most_21 rfl rfl rfl).trans ?_
      refine (s_icmp_le 34 25 mc_190 dX11_most_22 rfl rfl).trans ?_
      refine ite_c ?_ ?_
      · skip
        refine (s_iload_n 35 mc_190 dX11_most_34 rfl rfl rfl).trans ?_
        refine (s_istore_n 36 mc_190 dX11_most_35 rfl rfl (Nat.le_of_ble_eq_true rfl) rfl).trans ?_
        refine (s_iinc 1 39 mc_190 dX11_most_36 rfl rfl (Nat.le_of_ble_eq_true rfl) (by decide) rfl).trans ?_
        refine (s_goto 4 mc_190 dX11_most_39 rfl).trans ?_
        rfl
      · skip
        refine (s_aload_n 26 mc_190 dX11_most_25 rfl rfl rfl).trans ?_
        refine (s_getfR 29 mc_190 dX11_most_26 rfl mo_190 fs_11_122 ff_11_122 rfl).trans ?_
        refine gR_c fun g3 => ?_
        refine (s_iload_n 30 mc_190 dX11_most_29 rfl rfl rfl).trans ?_
        refine (s_iaload 31 mc_190 dX11_most_30 rfl).trans ?_
        refine aI_c fun g4 => ?_
        refine (s_goto 35 mc_190 dX11_most_31 rfl).trans ?_
        refine (s_istore_n 36 mc_190 dX11_most_35 rfl rfl (Nat.le_of_ble_eq_true rfl) rfl).trans ?_
        refine (s_iinc 1 39 mc_190 dX11_most_36 rfl rfl (Nat.le_of_ble_eq_true rfl) (by decide) rfl).trans ?_
        refine (s_goto 4 mc_190 dX11_most_39 rfl).trans ?_
        rfl
/-- FiveLandsModel.gathers(I)V -/
theorem k_191 {X : Ctx} {d : Nat} (x0 : Nat) (x1 : Int32) (h : Hp) : K X (d + 1) 191 [.ref x0, .int x1] h = gR h 11 x0 32 fun g1 => gR h 11 x0 46 fun g2 => aI X h g2 x1 fun g3 => wI h g1 1 g3 fun h1 => gR h1 11 x0 32 fun g4 => gI h1 11 x0 52 fun g5 => wI h1 g4 2 ((g5 >>> (x1 &&& 31)) &&& 1) fun h2 => gR h2 11 x0 32 fun g6 => gI h2 11 x0 53 fun g7 => if ¬ g7 = x1 then sem (X, K X d) 191 44 [some (.ref x0), some (.int x1)] [.int 0, .int 3, .ref g6] h2 else sem (X, K X d) 191 44 [some (.ref x0), some (.int x1)] [.int 1, .int 3, .ref g6] h2 := by
  show sem (X, K X d) 191 0 [some (.ref x0), some (.int x1)] [] h = _
  refine (s_aload_n 1 mc_191 dX11_gathers_0 rfl rfl rfl).trans ?_
  refine (s_getfR 4 mc_191 dX11_gathers_1 rfl mo_191 fs_11_111 ff_11_111 rfl).trans ?_
  refine gR_c fun g1 => ?_
  refine (s_iconst 5 1 mc_191 dX11_gathers_4 rfl (by decide)).trans ?_
  refine (s_aload_n 6 mc_191 dX11_gathers_5 rfl rfl rfl).trans ?_
  refine (s_getfR 9 mc_191 dX11_gathers_6 rfl mo_191 fs_11_122 ff_11_122 rfl).trans ?_
  refine gR_c fun g2 => ?_
  refine (s_iload_n 10 mc_191 dX11_gathers_9 rfl rfl rfl).trans ?_
  refine (s_iaload 11 mc_191 dX11_gathers_10 rfl).trans ?_
  refine aI_c fun g3 => ?_
  refine (s_iastore 12 mc_191 dX11_gathers_11 rfl).trans ?_
  refine wI_c fun h1 => ?_
  refine (s_aload_n 13 mc_191 dX11_gathers_12 rfl rfl rfl).trans ?_
  refine (s_getfR 16 mc_191 dX11_gathers_13 rfl mo_191 fs_11_111 ff_11_111 rfl).trans ?_
  refine gR_c fun g4 => ?_
  refine (s_iconst 17 2 mc_191 dX11_gathers_16 rfl (by decide)).trans ?_
  refine (s_aload_n 18 mc_191 dX11_gathers_17 rfl rfl rfl).trans ?_
  refine (s_getfI 21 mc_191 dX11_gathers_18 rfl mo_191 fs_11_414 ff_11_414 (Or.inl rfl)).trans ?_
  refine gI_c fun g5 => ?_
  refine (s_iload_n 22 mc_191 dX11_gathers_21 rfl rfl rfl).trans ?_
  refine (s_ishr 23 mc_191 dX11_gathers_22 rfl).trans ?_
  refine (s_iconst 24 1 mc_191 dX11_gathers_23 rfl (by decide)).trans ?_
  refine (s_iand 25 mc_191 dX11_gathers_24 rfl).trans ?_
  refine (s_iastore 26 mc_191 dX11_gathers_25 rfl).trans ?_
  refine wI_c fun h2 => ?_
  refine (s_aload_n 27 mc_191 dX11_gathers_26 rfl rfl rfl).trans ?_
  refine (s_getfR 30 mc_191 dX11_gathers_27 rfl mo_191 fs_11_111 ff_11_111 rfl).trans ?_
  refine gR_c fun g6 => ?_
  refine (s_iconst 31 3 mc_191 dX11_gathers_30 rfl (by decide)).trans ?_
  refine (s_aload_n 32 mc_191 dX11_gathers_31 rfl rfl rfl).trans ?_
  refine (s_getfI 35 mc_191 dX11_gathers_32 rfl mo_191 fs_11_417 ff_11_417 (Or.inl rfl)).trans ?_
  refine gI_c fun g7 => ?_
  refine (s_iload_n 36 mc_191 dX11_gathers_35 rfl rfl rfl).trans ?_
  refine (s_icmp_ne 43 39 mc_191 dX11_gathers_36 rfl rfl).trans ?_
  refine ite_c ?_ ?_
  · skip
    refine (s_iconst 44 0 mc_191 dX11_gathers_43 rfl (by decide)).trans ?_
    rfl
  · skip
    refine (s_iconst 40 1 mc_191 dX11_gathers_39 rfl (by decide)).trans ?_
    refine (s_goto 44 mc_191 dX11_gathers_40 rfl).trans ?_
    rfl
theorem b_191_44 {X : Ctx} {d : Nat} (x0 : Nat) (x1 : Int32) (s0 : Nat) (s1 : Int32) (s2 : Int32) (h : Hp) : sem (X, K X d) 191 44 [some (.ref x0), some (.int x1)] [.int s2, .int s1, .ref s0] h = wI h s0 s1 s2 fun h1 => gR h1 11 x0 32 fun g1 => gI h1 11 x0 54 fun g2 => if ¬ g2 = x1 then sem (X, K X d) 191 63 [some (.ref x0), some (.int x1)] [.int 0, .int 4, .ref g1] h1 else sem (X, K X d) 191 63 [some (.ref x0), some (.int x1)] [.int 1, .int 4, .ref g1] h1 := by
  refine (s_iastore 45 mc_191 dX11_gathers_44 rfl).trans ?_
  refine wI_c fun h1 => ?_
  refine (s_aload_n 46 mc_191 dX11_gathers_45 rfl rfl rfl).trans ?_
  refine (s_getfR 49 mc_191 dX11_gathers_46 rfl mo_191 fs_11_111 ff_11_111 rfl).trans ?_
  refine gR_c fun g1 => ?_
  refine (s_iconst 50 4 mc_191 dX11_gathers_49 rfl (by decide)).trans ?_
  refine (s_aload_n 51 mc_191 dX11_gathers_50 rfl rfl rfl).trans ?_
  refine (s_getfI 54 mc_191 dX11_gathers_51 rfl mo_191 fs_11_419 ff_11_419 (Or.inl rfl)).trans ?_
  refine gI_c fun g2 => ?_
  refine (s_iload_n 55 mc_191 dX11_gathers_54 rfl rfl rfl).trans ?_
  refine (s_icmp_ne 62 58 mc_191 dX11_gathers_55 rfl rfl).trans ?_
  refine ite_c ?_ ?_
  · skip
    refine (s_iconst 63 0 mc_191 dX11_gathers_62 rfl (by decide)).trans ?_
    rfl
  · skip
    refine (s_iconst 59 1 mc_191 dX11_gathers_58 rfl (by decide)).trans ?_
    refine (s_goto 63 mc_191 dX11_gathers_59 rfl).trans ?_
    rfl
theorem b_191_63 {X : Ctx} {d : Nat} (x0 : Nat) (x1 : Int32) (s0 : Nat) (s1 : Int32) (s2 : Int32) (h : Hp) : sem (X, K X d) 191 63 [some (.ref x0), some (.int x1)] [.int s2, .int s1, .ref s0] h = wI h s0 s1 s2 fun h1 => gR h1 11 x0 32 fun g1 => gd (hS h1 x0 = (12, 0)) (bI (K X d 190 [.ref x0, .int x1] h1) fun r2 h2 => wI h2 g1 5 r2 fun h3 => gR h3 11 x0 32 fun g3 => wI h3 g3 6 0 fun h4 => gR h4 11 x0 32 fun g4 => wI h4 g4 7 0 fun h5 => gR h5 11 x0 32 fun g5 => wI h5 g5 8 0 fun h6 => some (none, h6)) := by
  refine (s_iastore 64 mc_191 dX11_gathers_63 rfl).trans ?_
  refine wI_c fun h1 => ?_
  refine (s_aload_n 65 mc_191 dX11_gathers_64 rfl rfl rfl).trans ?_
  refine (s_getfR 68 mc_191 dX11_gathers_65 rfl mo_191 fs_11_111 ff_11_111 rfl).trans ?_
  refine gR_c fun g1 => ?_
  refine (s_iconst 69 5 mc_191 dX11_gathers_68 rfl (by decide)).trans ?_
  refine (s_aload_n 70 mc_191 dX11_gathers_69 rfl rfl rfl).trans ?_
  refine (s_iload_n 71 mc_191 dX11_gathers_70 rfl rfl rfl).trans ?_
  refine (s_iviI 74 mc_191 dX11_gathers_71 rfl mo_191 mm_11_430 (by decide) ms_190 mi_190 mr_190 ma_190 mo_190 (by decide) (Nat.le_of_ble_eq_true rfl) rfl rfl (Nat.le_of_ble_eq_true rfl)).trans ?_
  refine gd_c ?_
  refine bI_c fun r2 h2 => ?_
  refine (s_iastore 75 mc_191 dX11_gathers_74 rfl).trans ?_
  refine wI_c fun h3 => ?_
  refine (s_aload_n 76 mc_191 dX11_gathers_75 rfl rfl rfl).trans ?_
  refine (s_getfR 79 mc_191 dX11_gathers_76 rfl mo_191 fs_11_111 ff_11_111 rfl).trans ?_
  refine gR_c fun g3 => ?_
  refine (s_bipush 81 6 mc_191 dX11_gathers_79 rfl (by decide)).trans ?_
  refine (s_iconst 82 0 mc_191 dX11_gathers_81 rfl (by decide)).trans ?_
  refine (s_iastore 83 mc_191 dX11_gathers_82 rfl).trans ?_
  refine wI_c fun h4 => ?_
  refine (s_aload_n 84 mc_191 dX11_gathers_83 rfl rfl rfl).trans ?_
  refine (s_getfR 87 mc_191 dX11_gathers_84 rfl mo_191 fs_11_111 ff_11_111 rfl).trans ?_
  refine gR_c fun g4 => ?_
  refine (s_bipush 89 7 mc_191 dX11_gathers_87 rfl (by decide)).trans ?_
  refine (s_iconst 90 0 mc_191 dX11_gathers_89 rfl (by decide)).trans ?_
  refine (s_iastore 91 mc_191 dX11_gathers_90 rfl).trans ?_
  refine wI_c fun h5 => ?_
  refine (s_aload_n 92 mc_191 dX11_gathers_91 rfl rfl rfl).trans ?_
  refine (s_getfR 95 mc_191 dX11_gathers_92 rfl mo_191 fs_11_111 ff_11_111 rfl).trans ?_
  refine gR_c fun g5 => ?_
  refine (s_bipush 97 8 mc_191 dX11_gathers_95 rfl (by decide)).trans ?_
  refine (s_iconst 98 0 mc_191 dX11_gathers_97 rfl (by decide)).trans ?_
  refine (s_iastore 99 mc_191 dX11_gathers_98 rfl).trans ?_
  refine wI_c fun h6 => ?_
  exact s_vret mc_191 dX11_gathers_99 mt_191
/-- FiveLandsModel.says(I)Z -/
theorem k_192 {X : Ctx} {d : Nat} (x0 : Nat) (x1 : Int32) (h : Hp) : K X (d + 1) 192 [.ref x0, .int x1] h = gd (hS h x0 = (12, 0)) (bV (K X d 191 [.ref x0, .int x1] h) fun h1 => sem (X, K X d) 192 7 [some (.ref x0), some (.int x1), some (.int 0), none] [] h1) := by
  show sem (X, K X d) 192 0 [some (.ref x0), some (.int x1), none, none] [] h = _
  refine (s_aload_n 1 mc_192 dX11_says_0 rfl rfl rfl).trans ?_
  refine (s_iload_n 2 mc_192 dX11_says_1 rfl rfl rfl).trans ?_
  refine (s_iviV 5 mc_192 dX11_says_2 rfl mo_192 mm_11_432 (by decide) ms_191 mi_191 mr_191 ma_191 mo_191 (by decide) (Nat.le_of_ble_eq_true rfl) rfl rfl (Nat.le_of_ble_eq_true rfl)).trans ?_
  refine gd_c ?_
  refine bV_c fun h1 => ?_
  refine (s_iconst 6 0 mc_192 dX11_says_5 rfl (by decide)).trans ?_
  refine (s_istore_n 7 mc_192 dX11_says_6 rfl rfl (Nat.le_of_ble_eq_true rfl) rfl).trans ?_
  rfl
theorem b_192_7 {X : Ctx} {d : Nat} (x0 : Nat) (x1 : Int32) (x2 : Int32) (v3 : Option Value)  (h : Hp) : sem (X, K X d) 192 7 [some (.ref x0), some (.int x1), some (.int x2), v3] [] h = gR h 11 x0 9 fun g1 => aI X h g1 x1 fun g2 => if g2 ≤ x2 then some (some (.int 0), h) else gR h 11 x0 10 fun g3 => aI X h g3 ((20 * x1) + x2) fun g4 => if ¬ g4 = 0 then sem (X, K X d) 192 7 [some (.ref x0), some (.int x1), some (.int (x2 + 1)), some (.int ((20 * x1) + x2))] [] h else gR h 11 x0 13 fun g5 => aI X h g5 ((20 * x1) + x2) fun g6 => gR h 11 x0 14 fun g7 => aI X h g7 ((20 * x1) + x2) fun g8 => gd (hS h x0 = (12, 0)) (bI (K X d 185 [.ref x0, .int x1, .int g6, .int g8] h) fun r9 h1 => if ¬ r9 = 1 then sem (X, K X d) 192 7 [some (.ref x0), some (.int x1), some (.int (x2 + 1)), some (.int ((20 * x1) + x2))] [] h1 else some (some (.int 1), h1)) := by
  refine (s_iload_n 8 mc_192 dX11_says_7 rfl rfl rfl).trans ?_
  refine (s_aload_n 9 mc_192 dX11_says_8 rfl rfl rfl).trans ?_
  refine (s_getfR 12 mc_192 dX11_says_9 rfl mo_192 fs_11_41 ff_11_41 rfl).trans ?_
  refine gR_c fun g1 => ?_
  refine (s_iload_n 13 mc_192 dX11_says_12 rfl rfl rfl).trans ?_
  refine (s_iaload 14 mc_192 dX11_says_13 rfl).trans ?_
  refine aI_c fun g2 => ?_
  refine (s_icmp_ge 62 17 mc_192 dX11_says_14 rfl rfl).trans ?_
  refine ite_c ?_ ?_
  · skip
    refine (s_iconst 63 0 mc_192 dX11_says_62 rfl (by decide)).trans ?_
    exact s_zret0 mc_192 dX11_says_63 mt_192
  · skip
    refine (s_bipush 19 20 mc_192 dX11_says_17 rfl (by decide)).trans ?_
    refine (s_iload_n 20 mc_192 dX11_says_19 rfl rfl rfl).trans ?_
    refine (s_imul 21 mc_192 dX11_says_20 rfl).trans ?_
    refine (s_iload_n 22 mc_192 dX11_says_21 rfl rfl rfl).trans ?_
    refine (s_iadd 23 mc_192 dX11_says_22 rfl).trans ?_
    refine (s_istore_n 24 mc_192 dX11_says_23 rfl rfl (Nat.le_of_ble_eq_true rfl) rfl).trans ?_
    refine (s_aload_n 25 mc_192 dX11_says_24 rfl rfl rfl).trans ?_
    refine (s_getfR 28 mc_192 dX11_says_25 rfl mo_192 fs_11_44 ff_11_44 rfl).trans ?_
    refine gR_c fun g3 => ?_
    refine (s_iload_n 29 mc_192 dX11_says_28 rfl rfl rfl).trans ?_
    refine (s_iaload 30 mc_192 dX11_says_29 rfl).trans ?_
    refine aI_c fun g4 => ?_
    refine (s_if_ne 56 33 mc_192 dX11_says_30 rfl rfl).trans ?_
    refine ite_c ?_ ?_
    · skip
      refine (s_iinc 1 59 mc_192 dX11_says_56 rfl rfl (Nat.le_of_ble_eq_true rfl) (by decide) rfl).trans ?_
      refine (s_goto 7 mc_192 dX11_says_59 rfl).trans ?_
      rfl
    · skip
      refine (s_aload_n 34 mc_192 dX11_says_33 rfl rfl rfl).trans ?_
      refine (s_iload_n 35 mc_192 dX11_says_34 rfl rfl rfl).trans ?_
      refine (s_aload_n 36 mc_192 dX11_says_35 rfl rfl rfl).trans ?_
      refine (s_getfR 39 mc_192 dX11_says_36 rfl mo_192 fs_11_53 ff_11_53 rfl).trans ?_
      refine gR_c fun g5 => ?_
      refine (s_iload_n 40 mc_192 dX11_says_39 rfl rfl rfl).trans ?_
      refine (s_iaload 41 mc_192 dX11_says_40 rfl).trans ?_
      refine aI_c fun g6 => ?_
      refine (s_aload_n 42 mc_192 dX11_says_41 rfl rfl rfl).trans ?_
      refine (s_getfR 45 mc_192 dX11_says_42 rfl mo_192 fs_11_56 ff_11_56 rfl).trans ?_
      refine gR_c fun g7 => ?_
      refine (s_iload_n 46 mc_192 dX11_says_45 rfl rfl rfl).trans ?_
      refine (s_iaload 47 mc_192 dX11_says_46 rfl).trans ?_
      refine aI_c fun g8 => ?_
      refine (s_iviI 50 mc_192 dX11_says_47 rfl mo_192 mm_11_435 (by decide) ms_185 mi_185 mr_185 ma_185 mo_185 (by decide) (Nat.le_of_ble_eq_true rfl) rfl rfl (Nat.le_of_ble_eq_true rfl)).trans ?_
      refine gd_c ?_
      refine bI_c fun r9 h1 => ?_
      refine (s_iconst 51 1 mc_192 dX11_says_50 rfl (by decide)).trans ?_
      refine (s_icmp_ne 56 54 mc_192 dX11_says_51 rfl rfl).trans ?_
      refine ite_c ?_ ?_
      · skip
        refine (s_iinc 1 59 mc_192 dX11_says_56 rfl rfl (Nat.le_of_ble_eq_true rfl) (by decide) rfl).trans ?_
        refine (s_goto 7 mc_192 dX11_says_59 rfl).trans ?_
        rfl
      · skip
        refine (s_iconst 55 1 mc_192 dX11_says_54 rfl (by decide)).trans ?_
        exact s_zret1 mc_192 dX11_says_55 mt_192
/-- FiveLandsModel.ofTest(II)I -/
theorem k_193 {X : Ctx} {d : Nat} (x0 : Nat) (x1 : Int32) (x2 : Int32) (h : Hp) : K X (d + 1) 193 [.ref x0, .int x1, .int x2] h = if ¬ x2 = 1 then if ¬ x2 = 2 then if ¬ x2 = 3 then gI h 11 x0 54 fun g1 => if ¬ g1 = x1 then some (some (.int 0), h) else some (some (.int 1), h) else gI h 11 x0 53 fun g2 => if ¬ g2 = x1 then some (some (.int 0), h) else some (some (.int 1), h) else gI h 11 x0 52 fun g3 => some (some (.int ((g3 >>> (x1 &&& 31)) &&& 1)), h) else gR h 11 x0 46 fun g4 => aI X h g4 x1 fun g5 => some (some (.int g5), h) := by
  show sem (X, K X d) 193 0 [some (.ref x0), some (.int x1), some (.int x2)] [] h = _
  refine (s_iload_n 1 mc_193 dX11_ofTest_0 rfl rfl rfl).trans ?_
  refine (s_iconst 2 1 mc_193 dX11_ofTest_1 rfl (by decide)).trans ?_
  refine (s_icmp_ne 14 5 mc_193 dX11_ofTest_2 rfl rfl).trans ?_
  refine ite_c ?_ ?_
  · skip
    refine (s_iload_n 15 mc_193 dX11_ofTest_14 rfl rfl rfl).trans ?_
    refine (s_iconst 16 2 mc_193 dX11_ofTest_15 rfl (by decide)).trans ?_
    refine (s_icmp_ne 30 19 mc_193 dX11_ofTest_16 rfl rfl).trans ?_
    refine ite_c ?_ ?_
    · skip
      refine (s_iload_n 31 mc_193 dX11_ofTest_30 rfl rfl rfl).trans ?_
      refine (s_iconst 32 3 mc_193 dX11_ofTest_31 rfl (by decide)).trans ?_
      refine (s_icmp_ne 51 35 mc_193 dX11_ofTest_32 rfl rfl).trans ?_
      refine ite_c ?_ ?_
      · skip
        refine (s_aload_n 52 mc_193 dX11_ofTest_51 rfl rfl rfl).trans ?_
        refine (s_getfI 55 mc_193 dX11_ofTest_52 rfl mo_193 fs_11_419 ff_11_419 (Or.inl rfl)).trans ?_
        refine gI_c fun g1 => ?_
        refine (s_iload_n 56 mc_193 dX11_ofTest_55 rfl rfl rfl).trans ?_
        refine (s_icmp_ne 63 59 mc_193 dX11_ofTest_56 rfl rfl).trans ?_
        refine ite_c ?_ ?_
        · skip
          refine (s_iconst 64 0 mc_193 dX11_ofTest_63 rfl (by decide)).trans ?_
          exact s_iret mc_193 dX11_ofTest_64 mt_193
        · skip
          refine (s_iconst 60 1 mc_193 dX11_ofTest_59 rfl (by decide)).trans ?_
          refine (s_goto 64 mc_193 dX11_ofTest_60 rfl).trans ?_
          exact s_iret mc_193 dX11_ofTest_64 mt_193
      · skip
        refine (s_aload_n 36 mc_193 dX11_ofTest_35 rfl rfl rfl).trans ?_
        refine (s_getfI 39 mc_193 dX11_ofTest_36 rfl mo_193 fs_11_417 ff_11_417 (Or.inl rfl)).trans ?_
        refine gI_c fun g2 => ?_
        refine (s_iload_n 40 mc_193 dX11_ofTest_39 rfl rfl rfl).trans ?_
        refine (s_icmp_ne 47 43 mc_193 dX11_ofTest_40 rfl rfl).trans ?_
        refine ite_c ?_ ?_
        · skip
          refine (s_iconst 48 0 mc_193 dX11_ofTest_47 rfl (by decide)).trans ?_
          refine (s_goto 64 mc_193 dX11_ofTest_48 rfl).trans ?_
          exact s_iret mc_193 dX11_ofTest_64 mt_193
        · skip
          refine (s_iconst 44 1 mc_193 dX11_ofTest_43 rfl (by decide)).trans ?_
          refine (s_goto 64 mc_193 dX11_ofTest_44 rfl).trans ?_
          exact s_iret mc_193 dX11_ofTest_64 mt_193
    · skip
      refine (s_aload_n 20 mc_193 dX11_ofTest_19 rfl rfl rfl).trans ?_
      refine (s_getfI 23 mc_193 dX11_ofTest_20 rfl mo_193 fs_11_414 ff_11_414 (Or.inl rfl)).trans ?_
      refine gI_c fun g3 => ?_
      refine (s_iload_n 24 mc_193 dX11_ofTest_23 rfl rfl rfl).trans ?_
      refine (s_ishr 25 mc_193 dX11_ofTest_24 rfl).trans ?_
      refine (s_iconst 26 1 mc_193 dX11_ofTest_25 rfl (by decide)).trans ?_
      refine (s_iand 27 mc_193 dX11_ofTest_26 rfl).trans ?_
      refine (s_goto 64 mc_193 dX11_ofTest_27 rfl).trans ?_
      exact s_iret mc_193 dX11_ofTest_64 mt_193
  · skip
    refine (s_aload_n 6 mc_193 dX11_ofTest_5 rfl rfl rfl).trans ?_
    refine (s_getfR 9 mc_193 dX11_ofTest_6 rfl mo_193 fs_11_122 ff_11_122 rfl).trans ?_
    refine gR_c fun g4 => ?_
    refine (s_iload_n 10 mc_193 dX11_ofTest_9 rfl rfl rfl).trans ?_
    refine (s_iaload 11 mc_193 dX11_ofTest_10 rfl).trans ?_
    refine aI_c fun g5 => ?_
    refine (s_goto 64 mc_193 dX11_ofTest_11 rfl).trans ?_
    exact s_iret mc_193 dX11_ofTest_64 mt_193
/-- FiveLandsModel.decider(II)I -/
theorem k_194 {X : Ctx} {d : Nat} (x0 : Nat) (x1 : Int32) (x2 : Int32) (h : Hp) : K X (d + 1) 194 [.ref x0, .int x1, .int x2] h = bI (K X d 186 [.int x1, .int x2] h) fun r1 h1 => sem (X, K X d) 194 9 [some (.ref x0), some (.int x1), some (.int x2), some (.int r1), some (.int 0)] [] h1 := by
  show sem (X, K X d) 194 0 [some (.ref x0), some (.int x1), some (.int x2), none, none] [] h = _
  refine (s_iload_n 1 mc_194 dX11_decider_0 rfl rfl rfl).trans ?_
  refine (s_iload_n 2 mc_194 dX11_decider_1 rfl rfl rfl).trans ?_
  refine (s_istI 5 mc_194 dX11_decider_2 rfl mo_194 mm_11_438 (by decide) ms_186 mr_186 ma_186 (Nat.le_of_ble_eq_true rfl) rfl rfl (Nat.le_of_ble_eq_true rfl)).trans ?_
  refine bI_c fun r1 h1 => ?_
  refine (s_istore_n 6 mc_194 dX11_decider_5 rfl rfl (Nat.le_of_ble_eq_true rfl) rfl).trans ?_
  refine (s_iconst 7 0 mc_194 dX11_decider_6 rfl (by decide)).trans ?_
  refine (s_istore 9 mc_194 dX11_decider_7 rfl (Nat.le_of_ble_eq_true rfl) rfl).trans ?_
  rfl
theorem b_194_9 {X : Ctx} {d : Nat} (x0 : Nat) (x1 : Int32) (x2 : Int32) (x3 : Int32) (x4 : Int32)  (h : Hp) : sem (X, K X d) 194 9 [some (.ref x0), some (.int x1), some (.int x2), some (.int x3), some (.int x4)] [] h = gR h 11 x0 24 fun g1 => aI X h g1 x3 fun g2 => if g2 ≤ x4 then some (some (.int (-1)), h) else gR h 11 x0 25 fun g3 => aI X h g3 ((20 * x3) + x4) fun g4 => gd (hS h x0 = (12, 0)) (bI (K X d 193 [.ref x0, .int x1, .int g4] h) fun r5 h1 => gR h1 11 x0 25 fun g6 => aI X h1 g6 ((20 * x3) + x4) fun g7 => gd (hS h1 x0 = (12, 0)) (bI (K X d 193 [.ref x0, .int x2, .int g7] h1) fun r8 h2 => if r5 = r8 then sem (X, K X d) 194 9 [some (.ref x0), some (.int x1), some (.int x2), some (.int x3), some (.int (x4 + 1))] [] h2 else some (some (.int x4), h2))) := by
  refine (s_iload 11 mc_194 dX11_decider_9 rfl rfl).trans ?_
  refine (s_aload_n 12 mc_194 dX11_decider_11 rfl rfl rfl).trans ?_
  refine (s_getfR 15 mc_194 dX11_decider_12 rfl mo_194 fs_11_87 ff_11_87 rfl).trans ?_
  refine gR_c fun g1 => ?_
  refine (s_iload_n 16 mc_194 dX11_decider_15 rfl rfl rfl).trans ?_
  refine (s_iaload 17 mc_194 dX11_decider_16 rfl).trans ?_
  refine aI_c fun g2 => ?_
  refine (s_icmp_ge 66 20 mc_194 dX11_decider_17 rfl rfl).trans ?_
  refine ite_c ?_ ?_
  · skip
    refine (s_iconst 67 (-1) mc_194 dX11_decider_66 rfl (by decide)).trans ?_
    exact s_iret mc_194 dX11_decider_67 mt_194
  · skip
    refine (s_aload_n 21 mc_194 dX11_decider_20 rfl rfl rfl).trans ?_
    refine (s_iload_n 22 mc_194 dX11_decider_21 rfl rfl rfl).trans ?_
    refine (s_aload_n 23 mc_194 dX11_decider_22 rfl rfl rfl).trans ?_
    refine (s_getfR 26 mc_194 dX11_decider_23 rfl mo_194 fs_11_90 ff_11_90 rfl).trans ?_
    refine gR_c fun g3 => ?_
    refine (s_bipush 28 20 mc_194 dX11_decider_26 rfl (by decide)).trans ?_
    refine (s_iload_n 29 mc_194 dX11_decider_28 rfl rfl rfl).trans ?_
    refine (s_imul 30 mc_194 dX11_decider_29 rfl).trans ?_
    refine (s_iload 32 mc_194 dX11_decider_30 rfl rfl).trans ?_
    refine (s_iadd 33 mc_194 dX11_decider_32 rfl).trans ?_
    refine (s_iaload 34 mc_194 dX11_decider_33 rfl).trans ?_
    refine aI_c fun g4 => ?_
    refine (s_iviI 37 mc_194 dX11_decider_34 rfl mo_194 mm_11_442 (by decide) ms_193 mi_193 mr_193 ma_193 mo_193 (by decide) (Nat.le_of_ble_eq_true rfl) rfl rfl (Nat.le_of_ble_eq_true rfl)).trans ?_
    refine gd_c ?_
    refine bI_c fun r5 h1 => ?_
    refine (s_aload_n 38 mc_194 dX11_decider_37 rfl rfl rfl).trans ?_
    refine (s_iload_n 39 mc_194 dX11_decider_38 rfl rfl rfl).trans ?_
    refine (s_aload_n 40 mc_194 dX11_decider_39 rfl rfl rfl).trans ?_
    refine (s_getfR 43 mc_194 dX11_decider_40 rfl mo_194 fs_11_90 ff_11_90 rfl).trans ?_
    refine gR_c fun g6 => ?_
    refine (s_bipush 45 20 mc_194 dX11_decider_43 rfl (by decide)).trans ?_
    refine (s_iload_n 46 mc_194 dX11_decider_45 rfl rfl rfl).trans ?_
    refine (s_imul 47 mc_194 dX11_decider_46 rfl).trans ?_
    refine (s_iload 49 mc_194 dX11_decider_47 rfl rfl).trans ?_
    refine (s_iadd 50 mc_194 dX11_decider_49 rfl).trans ?_
    refine (s_iaload 51 mc_194 dX11_decider_50 rfl).trans ?_
    refine aI_c fun g7 => ?_
    refine (s_iviI 54 mc_194 dX11_decider_51 rfl mo_194 mm_11_442 (by decide) ms_193 mi_193 mr_193 ma_193 mo_193 (by decide) (Nat.le_of_ble_eq_true rfl) rfl rfl (Nat.le_of_ble_eq_true rfl)).trans ?_
    refine gd_c ?_
    refine bI_c fun r8 h2 => ?_
    refine (s_icmp_eq 60 57 mc_194 dX11_decider_54 rfl rfl).trans ?_
    refine ite_c ?_ ?_
    · skip
      refine (s_iinc 1 63 mc_194 dX11_decider_60 rfl rfl (Nat.le_of_ble_eq_true rfl) (by decide) rfl).trans ?_
      refine (s_goto 9 mc_194 dX11_decider_63 rfl).trans ?_
      rfl
    · skip
      refine (s_iload 59 mc_194 dX11_decider_57 rfl rfl).trans ?_
      exact s_iret mc_194 dX11_decider_59 mt_194
/-- FiveLandsModel.givesWay(II)Z -/
theorem k_195 {X : Ctx} {d : Nat} (x0 : Nat) (x1 : Int32) (x2 : Int32) (h : Hp) : K X (d + 1) 195 [.ref x0, .int x1, .int x2] h = gI h 11 x0 62 fun g1 => gI h 11 x0 62 fun g2 => if ¬ (((g1 >>> (x1 &&& 31)) &&& (g2 >>> (x2 &&& 31))) &&& 1) = 0 then gd (hS h x0 = (12, 0)) (bI (K X d 194 [.ref x0, .int x1, .int x2] h) fun r3 h1 => if r3 = (-1) then some (some (.int 0), h1) else gR h1 11 x0 25 fun g4 => bI (K X d 186 [.int x1, .int x2] h1) fun r5 h2 => aI X h2 g4 ((20 * r5) + r3) fun g6 => gd (hS h2 x0 = (12, 0)) (bI (K X d 193 [.ref x0, .int x1, .int g6] h2) fun r7 h3 => gR h3 11 x0 25 fun g8 => bI (K X d 186 [.int x1, .int x2] h3) fun r9 h4 => aI X h4 g8 ((20 * r9) + r3) fun g10 => gd (hS h4 x0 = (12, 0)) (bI (K X d 193 [.ref x0, .int x2, .int g10] h4) fun r11 h5 => if r11 ≤ r7 then some (some (.int 0), h5) else some (some (.int 1), h5)))) else some (some (.int 0), h) := by
  show sem (X, K X d) 195 0 [some (.ref x0), some (.int x1), some (.int x2), none] [] h = _
  refine (s_aload_n 1 mc_195 dX11_givesWay_0 rfl rfl rfl).trans ?_
  refine (s_getfI 4 mc_195 dX11_givesWay_1 rfl mo_195 fs_11_445 ff_11_445 (Or.inl rfl)).trans ?_
  refine gI_c fun g1 => ?_
  refine (s_iload_n 5 mc_195 dX11_givesWay_4 rfl rfl rfl).trans ?_
  refine (s_ishr 6 mc_195 dX11_givesWay_5 rfl).trans ?_
  refine (s_aload_n 7 mc_195 dX11_givesWay_6 rfl rfl rfl).trans ?_
  refine (s_getfI 10 mc_195 dX11_givesWay_7 rfl mo_195 fs_11_445 ff_11_445 (Or.inl rfl)).trans ?_
  refine gI_c fun g2 => ?_
  refine (s_iload_n 11 mc_195 dX11_givesWay_10 rfl rfl rfl).trans ?_
  refine (s_ishr 12 mc_195 dX11_givesWay_11 rfl).trans ?_
  refine (s_iand 13 mc_195 dX11_givesWay_12 rfl).trans ?_
  refine (s_iconst 14 1 mc_195 dX11_givesWay_13 rfl (by decide)).trans ?_
  refine (s_iand 15 mc_195 dX11_givesWay_14 rfl).trans ?_
  refine (s_if_ne 20 18 mc_195 dX11_givesWay_15 rfl rfl).trans ?_
  refine ite_c ?_ ?_
  · skip
    refine (s_aload_n 21 mc_195 dX11_givesWay_20 rfl rfl rfl).trans ?_
    refine (s_iload_n 22 mc_195 dX11_givesWay_21 rfl rfl rfl).trans ?_
    refine (s_iload_n 23 mc_195 dX11_givesWay_22 rfl rfl rfl).trans ?_
    refine (s_iviI 26 mc_195 dX11_givesWay_23 rfl mo_195 mm_11_448 (by decide) ms_194 mi_194 mr_194 ma_194 mo_194 (by decide) (Nat.le_of_ble_eq_true rfl) rfl rfl (Nat.le_of_ble_eq_true rfl)).trans ?_
    refine gd_c ?_
    refine bI_c fun r3 h1 => ?_
    refine (s_istore_n 27 mc_195 dX11_givesWay_26 rfl rfl (Nat.le_of_ble_eq_true rfl) rfl).trans ?_
    refine (s_iload_n 28 mc_195 dX11_givesWay_27 rfl rfl rfl).trans ?_
    refine (s_iconst 29 (-1) mc_195 dX11_givesWay_28 rfl (by decide)).trans ?_
    refine (s_icmp_eq 79 32 mc_195 dX11_givesWay_29 rfl rfl).trans ?_
    refine ite_c ?_ ?_
    · skip
      refine (s_iconst 80 0 mc_195 dX11_givesWay_79 rfl (by decide)).trans ?_
      exact s_zret0 mc_195 dX11_givesWay_80 mt_195
    · skip
      refine (s_aload_n 33 mc_195 dX11_givesWay_32 rfl rfl rfl).trans ?_
      refine (s_iload_n 34 mc_195 dX11_givesWay_33 rfl rfl rfl).trans ?_
      refine (s_aload_n 35 mc_195 dX11_givesWay_34 rfl rfl rfl).trans ?_
      refine (s_getfR 38 mc_195 dX11_givesWay_35 rfl mo_195 fs_11_90 ff_11_90 rfl).trans ?_
      refine gR_c fun g4 => ?_
      refine (s_bipush 40 20 mc_195 dX11_givesWay_38 rfl (by decide)).trans ?_
      refine (s_iload_n 41 mc_195 dX11_givesWay_40 rfl rfl rfl).trans ?_
      refine (s_iload_n 42 mc_195 dX11_givesWay_41 rfl rfl rfl).trans ?_
      refine (s_istI 45 mc_195 dX11_givesWay_42 rfl mo_195 mm_11_438 (by decide) ms_186 mr_186 ma_186 (Nat.le_of_ble_eq_true rfl) rfl rfl (Nat.le_of_ble_eq_true rfl)).trans ?_
      refine bI_c fun r5 h2 => ?_
      refine (s_imul 46 mc_195 dX11_givesWay_45 rfl).trans ?_
      refine (s_iload_n 47 mc_195 dX11_givesWay_46 rfl rfl rfl).trans ?_
      refine (s_iadd 48 mc_195 dX11_givesWay_47 rfl).trans ?_
      refine (s_iaload 49 mc_195 dX11_givesWay_48 rfl).trans ?_
      refine aI_c fun g6 => ?_
      refine (s_iviI 52 mc_195 dX11_givesWay_49 rfl mo_195 mm_11_442 (by decide) ms_193 mi_193 mr_193 ma_193 mo_193 (by decide) (Nat.le_of_ble_eq_true rfl) rfl rfl (Nat.le_of_ble_eq_true rfl)).trans ?_
      refine gd_c ?_
      refine bI_c fun r7 h3 => ?_
      refine (s_aload_n 53 mc_195 dX11_givesWay_52 rfl rfl rfl).trans ?_
      refine (s_iload_n 54 mc_195 dX11_givesWay_53 rfl rfl rfl).trans ?_
      refine (s_aload_n 55 mc_195 dX11_givesWay_54 rfl rfl rfl).trans ?_
      refine (s_getfR 58 mc_195 dX11_givesWay_55 rfl mo_195 fs_11_90 ff_11_90 rfl).trans ?_
      refine gR_c fun g8 => ?_
      refine (s_bipush 60 20 mc_195 dX11_givesWay_58 rfl (by decide)).trans ?_
      refine (s_iload_n 61 mc_195 dX11_givesWay_60 rfl rfl rfl).trans ?_
      refine (s_iload_n 62 mc_195 dX11_givesWay_61 rfl rfl rfl).trans ?_
      refine (s_istI 65 mc_195 dX11_givesWay_62 rfl mo_195 mm_11_438 (by decide) ms_186 mr_186 ma_186 (Nat.le_of_ble_eq_true rfl) rfl rfl (Nat.le_of_ble_eq_true rfl)).trans ?_
      refine bI_c fun r9 h4 => ?_
      refine (s_imul 66 mc_195 dX11_givesWay_65 rfl).trans ?_
      refine (s_iload_n 67 mc_195 dX11_givesWay_66 rfl rfl rfl).trans ?_
      refine (s_iadd 68 mc_195 dX11_givesWay_67 rfl).trans ?_
      refine (s_iaload 69 mc_195 dX11_givesWay_68 rfl).trans ?_
      refine aI_c fun g10 => ?_
      refine (s_iviI 72 mc_195 dX11_givesWay_69 rfl mo_195 mm_11_442 (by decide) ms_193 mi_193 mr_193 ma_193 mo_193 (by decide) (Nat.le_of_ble_eq_true rfl) rfl rfl (Nat.le_of_ble_eq_true rfl)).trans ?_
      refine gd_c ?_
      refine bI_c fun r11 h5 => ?_
      refine (s_icmp_ge 79 75 mc_195 dX11_givesWay_72 rfl rfl).trans ?_
      refine ite_c ?_ ?_
      · skip
        refine (s_iconst 80 0 mc_195 dX11_givesWay_79 rfl (by decide)).trans ?_
        exact s_zret0 mc_195 dX11_givesWay_80 mt_195
      · skip
        refine (s_iconst 76 1 mc_195 dX11_givesWay_75 rfl (by decide)).trans ?_
        refine (s_goto 80 mc_195 dX11_givesWay_76 rfl).trans ?_
        exact s_zret1 mc_195 dX11_givesWay_80 mt_195
  · skip
    refine (s_iconst 19 0 mc_195 dX11_givesWay_18 rfl (by decide)).trans ?_
    exact s_zret0 mc_195 dX11_givesWay_19 mt_195
/-- FiveLandsModel.firstAhead(I)I -/
theorem k_196 {X : Ctx} {d : Nat} (x0 : Nat) (x1 : Int32) (h : Hp) : K X (d + 1) 196 [.ref x0, .int x1] h = sem (X, K X d) 196 2 [some (.ref x0), some (.int x1), some (.int 0)] [] h := by
  show sem (X, K X d) 196 0 [some (.ref x0), some (.int x1), none] [] h = _
  refine (s_iconst 1 0 mc_196 dX11_firstAhead_0 rfl (by decide)).trans ?_
  refine (s_istore_n 2 mc_196 dX11_firstAhead_1 rfl rfl (Nat.le_of_ble_eq_true rfl) rfl).trans ?_
  rfl
theorem b_196_2 {X : Ctx} {d : Nat} (x0 : Nat) (x1 : Int32) (x2 : Int32)  (h : Hp) : sem (X, K X d) 196 2 [some (.ref x0), some (.int x1), some (.int x2)] [] h = if 6 ≤ x2 then some (some (.int (-1)), h) else if x2 = x1 then sem (X, K X d) 196 2 [some (.ref x0), some (.int x1), some (.int (x2 + 1))] [] h else gd (hS h x0 = (12, 0)) (bI (K X d 195 [.ref x0, .int x1, .int x2] h) fun r1 h1 => if r1 = 0 then sem (X, K X d) 196 2 [some (.ref x0), some (.int x1), some (.int (x2 + 1))] [] h1 else some (some (.int x2), h1)) := by
  refine (s_iload_n 3 mc_196 dX11_firstAhead_2 rfl rfl rfl).trans ?_
  refine (s_bipush 5 6 mc_196 dX11_firstAhead_3 rfl (by decide)).trans ?_
  refine (s_icmp_ge 30 8 mc_196 dX11_firstAhead_5 rfl rfl).trans ?_
  refine ite_c ?_ ?_
  · skip
    refine (s_iconst 31 (-1) mc_196 dX11_firstAhead_30 rfl (by decide)).trans ?_
    exact s_iret mc_196 dX11_firstAhead_31 mt_196
  · skip
    refine (s_iload_n 9 mc_196 dX11_firstAhead_8 rfl rfl rfl).trans ?_
    refine (s_iload_n 10 mc_196 dX11_firstAhead_9 rfl rfl rfl).trans ?_
    refine (s_icmp_eq 24 13 mc_196 dX11_firstAhead_10 rfl rfl).trans ?_
    refine ite_c ?_ ?_
    · skip
      refine (s_iinc 1 27 mc_196 dX11_firstAhead_24 rfl rfl (Nat.le_of_ble_eq_true rfl) (by decide) rfl).trans ?_
      refine (s_goto 2 mc_196 dX11_firstAhead_27 rfl).trans ?_
      rfl
    · skip
      refine (s_aload_n 14 mc_196 dX11_firstAhead_13 rfl rfl rfl).trans ?_
      refine (s_iload_n 15 mc_196 dX11_firstAhead_14 rfl rfl rfl).trans ?_
      refine (s_iload_n 16 mc_196 dX11_firstAhead_15 rfl rfl rfl).trans ?_
      refine (s_iviI 19 mc_196 dX11_firstAhead_16 rfl mo_196 mm_11_451 (by decide) ms_195 mi_195 mr_195 ma_195 mo_195 (by decide) (Nat.le_of_ble_eq_true rfl) rfl rfl (Nat.le_of_ble_eq_true rfl)).trans ?_
      refine gd_c ?_
      refine bI_c fun r1 h1 => ?_
      refine (s_if_eq 24 22 mc_196 dX11_firstAhead_19 rfl rfl).trans ?_
      refine ite_c ?_ ?_
      · skip
        refine (s_iinc 1 27 mc_196 dX11_firstAhead_24 rfl rfl (Nat.le_of_ble_eq_true rfl) (by decide) rfl).trans ?_
        refine (s_goto 2 mc_196 dX11_firstAhead_27 rfl).trans ?_
        rfl
      · skip
        refine (s_iload_n 23 mc_196 dX11_firstAhead_22 rfl rfl rfl).trans ?_
        exact s_iret mc_196 dX11_firstAhead_23 mt_196
/-- FiveLandsModel.findsHis()V -/
theorem k_197 {X : Ctx} {d : Nat} (x0 : Nat) (h : Hp) : K X (d + 1) 197 [.ref x0] h = fI h 11 x0 62 0 fun h1 => sem (X, K X d) 197 7 [some (.ref x0), some (.int 0)] [] h1 := by
  show sem (X, K X d) 197 0 [some (.ref x0), none] [] h = _
  refine (s_aload_n 1 mc_197 dX11_findsHis_0 rfl rfl rfl).trans ?_
  refine (s_iconst 2 0 mc_197 dX11_findsHis_1 rfl (by decide)).trans ?_
  refine (s_putfI 5 mc_197 dX11_findsHis_2 rfl mo_197 ff_11_445 rfl (Or.inl rfl)).trans ?_
  refine fI_c fun h1 => ?_
  refine (s_iconst 6 0 mc_197 dX11_findsHis_5 rfl (by decide)).trans ?_
  refine (s_istore_n 7 mc_197 dX11_findsHis_6 rfl rfl (Nat.le_of_ble_eq_true rfl) rfl).trans ?_
  rfl
theorem b_197_7 {X : Ctx} {d : Nat} (x0 : Nat) (x1 : Int32)  (h : Hp) : sem (X, K X d) 197 7 [some (.ref x0), some (.int x1)] [] h = if 6 ≤ x1 then fI h 11 x0 63 0 fun h1 => sem (X, K X d) 197 50 [some (.ref x0), some (.int 0)] [] h1 else gI h 11 x0 62 fun g1 => gd (hS h x0 = (12, 0)) (bI (K X d 192 [.ref x0, .int x1] h) fun r2 h2 => if r2 = 0 then fI h2 11 x0 62 (g1 ||| 0) fun h3 => sem (X, K X d) 197 7 [some (.ref x0), some (.int (x1 + 1))] [] h3 else fI h2 11 x0 62 (g1 ||| (1 <<< (x1 &&& 31))) fun h4 => sem (X, K X d) 197 7 [some (.ref x0), some (.int (x1 + 1))] [] h4) := by
  refine (s_iload_n 8 mc_197 dX11_findsHis_7 rfl rfl rfl).trans ?_
  refine (s_bipush 10 6 mc_197 dX11_findsHis_8 rfl (by decide)).trans ?_
  refine (s_icmp_ge 43 13 mc_197 dX11_findsHis_10 rfl rfl).trans ?_
  refine ite_c ?_ ?_
  · skip
    refine (s_aload_n 44 mc_197 dX11_findsHis_43 rfl rfl rfl).trans ?_
    refine (s_iconst 45 0 mc_197 dX11_findsHis_44 rfl (by decide)).trans ?_
    refine (s_putfI 48 mc_197 dX11_findsHis_45 rfl mo_197 ff_11_457 rfl (Or.inl rfl)).trans ?_
    refine fI_c fun h1 => ?_
    refine (s_iconst 49 0 mc_197 dX11_findsHis_48 rfl (by decide)).trans ?_
    refine (s_istore_n 50 mc_197 dX11_findsHis_49 rfl rfl (Nat.le_of_ble_eq_true rfl) rfl).trans ?_
    rfl
  · skip
    refine (s_aload_n 14 mc_197 dX11_findsHis_13 rfl rfl rfl).trans ?_
    refine (s_dup 15 mc_197 dX11_findsHis_14 rfl rfl).trans ?_
    refine (s_getfI 18 mc_197 dX11_findsHis_15 rfl mo_197 fs_11_445 ff_11_445 (Or.inl rfl)).trans ?_
    refine gI_c fun g1 => ?_
    refine (s_aload_n 19 mc_197 dX11_findsHis_18 rfl rfl rfl).trans ?_
    refine (s_iload_n 20 mc_197 dX11_findsHis_19 rfl rfl rfl).trans ?_
    refine (s_iviI 23 mc_197 dX11_findsHis_20 rfl mo_197 mm_11_454 (by decide) ms_192 mi_192 mr_192 ma_192 mo_192 (by decide) (Nat.le_of_ble_eq_true rfl) rfl rfl (Nat.le_of_ble_eq_true rfl)).trans ?_
    refine gd_c ?_
    refine bI_c fun r2 h2 => ?_
    refine (s_if_eq 32 26 mc_197 dX11_findsHis_23 rfl rfl).trans ?_
    refine ite_c ?_ ?_
    · skip
      refine (s_iconst 33 0 mc_197 dX11_findsHis_32 rfl (by decide)).trans ?_
      refine (s_ior 34 mc_197 dX11_findsHis_33 rfl).trans ?_
      refine (s_putfI 37 mc_197 dX11_findsHis_34 rfl mo_197 ff_11_445 rfl (Or.inl rfl)).trans ?_
      refine fI_c fun h3 => ?_
      refine (s_iinc 1 40 mc_197 dX11_findsHis_37 rfl rfl (Nat.le_of_ble_eq_true rfl) (by decide) rfl).trans ?_
      refine (s_goto 7 mc_197 dX11_findsHis_40 rfl).trans ?_
      rfl
    · skip
      refine (s_iconst 27 1 mc_197 dX11_findsHis_26 rfl (by decide)).trans ?_
      refine (s_iload_n 28 mc_197 dX11_findsHis_27 rfl rfl rfl).trans ?_
      refine (s_ishl 29 mc_197 dX11_findsHis_28 rfl).trans ?_
      refine (s_goto 33 mc_197 dX11_findsHis_29 rfl).trans ?_
      refine (s_ior 34 mc_197 dX11_findsHis_33 rfl).trans ?_
      refine (s_putfI 37 mc_197 dX11_findsHis_34 rfl mo_197 ff_11_445 rfl (Or.inl rfl)).trans ?_
      refine fI_c fun h4 => ?_
      refine (s_iinc 1 40 mc_197 dX11_findsHis_37 rfl rfl (Nat.le_of_ble_eq_true rfl) (by decide) rfl).trans ?_
      refine (s_goto 7 mc_197 dX11_findsHis_40 rfl).trans ?_
      rfl
theorem b_197_50 {X : Ctx} {d : Nat} (x0 : Nat) (x1 : Int32)  (h : Hp) : sem (X, K X d) 197 50 [some (.ref x0), some (.int x1)] [] h = if 6 ≤ x1 then some (none, h) else gI h 11 x0 63 fun g1 => gI h 11 x0 62 fun g2 => if ¬ ((g2 >>> (x1 &&& 31)) &&& 1) = 1 then fI h 11 x0 63 (g1 ||| 0) fun h1 => sem (X, K X d) 197 50 [some (.ref x0), some (.int (x1 + 1))] [] h1 else gd (hS h x0 = (12, 0)) (bI (K X d 196 [.ref x0, .int x1] h) fun r3 h2 => if ¬ r3 = (-1) then fI h2 11 x0 63 (g1 ||| 0) fun h3 => sem (X, K X d) 197 50 [some (.ref x0), some (.int (x1 + 1))] [] h3 else fI h2 11 x0 63 (g1 ||| (1 <<< (x1 &&& 31))) fun h4 => sem (X, K X d) 197 50 [some (.ref x0), some (.int (x1 + 1))] [] h4) := by
  refine (s_iload_n 51 mc_197 dX11_findsHis_50 rfl rfl rfl).trans ?_
  refine (s_bipush 53 6 mc_197 dX11_findsHis_51 rfl (by decide)).trans ?_
  refine (s_icmp_ge 99 56 mc_197 dX11_findsHis_53 rfl rfl).trans ?_
  refine ite_c ?_ ?_
  · skip
    exact s_vret mc_197 dX11_findsHis_99 mt_197
  · skip
    refine (s_aload_n 57 mc_197 dX11_findsHis_56 rfl rfl rfl).trans ?_
    refine (s_dup 58 mc_197 dX11_findsHis_57 rfl rfl).trans ?_
    refine (s_getfI 61 mc_197 dX11_findsHis_58 rfl mo_197 fs_11_457 ff_11_457 (Or.inl rfl)).trans ?_
    refine gI_c fun g1 => ?_
    refine (s_aload_n 62 mc_197 dX11_findsHis_61 rfl rfl rfl).trans ?_
    refine (s_getfI 65 mc_197 dX11_findsHis_62 rfl mo_197 fs_11_445 ff_11_445 (Or.inl rfl)).trans ?_
    refine gI_c fun g2 => ?_
    refine (s_iload_n 66 mc_197 dX11_findsHis_65 rfl rfl rfl).trans ?_
    refine (s_ishr 67 mc_197 dX11_findsHis_66 rfl).trans ?_
    refine (s_iconst 68 1 mc_197 dX11_findsHis_67 rfl (by decide)).trans ?_
    refine (s_iand 69 mc_197 dX11_findsHis_68 rfl).trans ?_
    refine (s_iconst 70 1 mc_197 dX11_findsHis_69 rfl (by decide)).trans ?_
    refine (s_icmp_ne 88 73 mc_197 dX11_findsHis_70 rfl rfl).trans ?_
    refine ite_c ?_ ?_
    · skip
      refine (s_iconst 89 0 mc_197 dX11_findsHis_88 rfl (by decide)).trans ?_
      refine (s_ior 90 mc_197 dX11_findsHis_89 rfl).trans ?_
      refine (s_putfI 93 mc_197 dX11_findsHis_90 rfl mo_197 ff_11_457 rfl (Or.inl rfl)).trans ?_
      refine fI_c fun h1 => ?_
      refine (s_iinc 1 96 mc_197 dX11_findsHis_93 rfl rfl (Nat.le_of_ble_eq_true rfl) (by decide) rfl).trans ?_
      refine (s_goto 50 mc_197 dX11_findsHis_96 rfl).trans ?_
      rfl
    · skip
      refine (s_aload_n 74 mc_197 dX11_findsHis_73 rfl rfl rfl).trans ?_
      refine (s_iload_n 75 mc_197 dX11_findsHis_74 rfl rfl rfl).trans ?_
      refine (s_iviI 78 mc_197 dX11_findsHis_75 rfl mo_197 mm_11_460 (by decide) ms_196 mi_196 mr_196 ma_196 mo_196 (by decide) (Nat.le_of_ble_eq_true rfl) rfl rfl (Nat.le_of_ble_eq_true rfl)).trans ?_
      refine gd_c ?_
      refine bI_c fun r3 h2 => ?_
      refine (s_iconst 79 (-1) mc_197 dX11_findsHis_78 rfl (by decide)).trans ?_
      refine (s_icmp_ne 88 82 mc_197 dX11_findsHis_79 rfl rfl).trans ?_
      refine ite_c ?_ ?_
      · skip
        refine (s_iconst 89 0 mc_197 dX11_findsHis_88 rfl (by decide)).trans ?_
        refine (s_ior 90 mc_197 dX11_findsHis_89 rfl).trans ?_
        refine (s_putfI 93 mc_197 dX11_findsHis_90 rfl mo_197 ff_11_457 rfl (Or.inl rfl)).trans ?_
        refine fI_c fun h3 => ?_
        refine (s_iinc 1 96 mc_197 dX11_findsHis_93 rfl rfl (Nat.le_of_ble_eq_true rfl) (by decide) rfl).trans ?_
        refine (s_goto 50 mc_197 dX11_findsHis_96 rfl).trans ?_
        rfl
      · skip
        refine (s_iconst 83 1 mc_197 dX11_findsHis_82 rfl (by decide)).trans ?_
        refine (s_iload_n 84 mc_197 dX11_findsHis_83 rfl rfl rfl).trans ?_
        refine (s_ishl 85 mc_197 dX11_findsHis_84 rfl).trans ?_
        refine (s_goto 89 mc_197 dX11_findsHis_85 rfl).trans ?_
        refine (s_ior 90 mc_197 dX11_findsHis_89 rfl).trans ?_
        refine (s_putfI 93 mc_197 dX11_findsHis_90 rfl mo_197 ff_11_457 rfl (Or.inl rfl)).trans ?_
        refine fI_c fun h4 => ?_
        refine (s_iinc 1 96 mc_197 dX11_findsHis_93 rfl rfl (Nat.le_of_ble_eq_true rfl) (by decide) rfl).trans ?_
        refine (s_goto 50 mc_197 dX11_findsHis_96 rfl).trans ?_
        rfl
/-- FiveLandsModel.of(III)I -/
theorem k_198 {X : Ctx} {d : Nat} (x0 : Nat) (x1 : Int32) (x2 : Int32) (x3 : Int32) (h : Hp) : K X (d + 1) 198 [.ref x0, .int x1, .int x2, .int x3] h = bI (K X d 143 [.int x1] h) fun r1 h1 => if r1 = 0 then some (some (.int (-1)), h1) else bI (K X d 144 [.int x2] h1) fun r2 h2 => if ¬ r2 = 0 then gd (hS h2 x0 = (12, 0)) (bV (K X d 189 [.ref x0, .int x1] h2) fun h3 => gd (hS h3 x0 = (12, 0)) (bV (K X d 197 [.ref x0] h3) fun h4 => gd (hS h4 x0 = (12, 0)) (bV (K X d 191 [.ref x0, .int x2] h4) fun h5 => sem (X, K X d) 198 (tsw 0 [76, 83, 90, 97, 104, 111, 120, 129] 135 x3) [some (.ref x0), some (.int x1), some (.int x2), some (.int x3)] [] h5))) else some (some (.int (-1)), h2) := by
  show sem (X, K X d) 198 0 [some (.ref x0), some (.int x1), some (.int x2), some (.int x3)] [] h = _
  refine (s_iload_n 1 mc_198 dX11_of_0 rfl rfl rfl).trans ?_
  refine (s_istI 4 mc_198 dX11_of_1 rfl mo_198 mm_11_207 (by decide) ms_143 mr_143 ma_143 (Nat.le_of_ble_eq_true rfl) rfl rfl (Nat.le_of_ble_eq_true rfl)).trans ?_
  refine bI_c fun r1 h1 => ?_
  refine (s_if_eq 14 7 mc_198 dX11_of_4 rfl rfl).trans ?_
  refine ite_c ?_ ?_
  · skip
    refine (s_iconst 15 (-1) mc_198 dX11_of_14 rfl (by decide)).trans ?_
    exact s_iret mc_198 dX11_of_15 mt_198
  · skip
    refine (s_iload_n 8 mc_198 dX11_of_7 rfl rfl rfl).trans ?_
    refine (s_istI 11 mc_198 dX11_of_8 rfl mo_198 mm_11_211 (by decide) ms_144 mr_144 ma_144 (Nat.le_of_ble_eq_true rfl) rfl rfl (Nat.le_of_ble_eq_true rfl)).trans ?_
    refine bI_c fun r2 h2 => ?_
    refine (s_if_ne 16 14 mc_198 dX11_of_11 rfl rfl).trans ?_
    refine ite_c ?_ ?_
    · skip
      refine (s_aload_n 17 mc_198 dX11_of_16 rfl rfl rfl).trans ?_
      refine (s_iload_n 18 mc_198 dX11_of_17 rfl rfl rfl).trans ?_
      refine (s_iviV 21 mc_198 dX11_of_18 rfl mo_198 mm_11_463 (by decide) ms_189 mi_189 mr_189 ma_189 mo_189 (by decide) (Nat.le_of_ble_eq_true rfl) rfl rfl (Nat.le_of_ble_eq_true rfl)).trans ?_
      refine gd_c ?_
      refine bV_c fun h3 => ?_
      refine (s_aload_n 22 mc_198 dX11_of_21 rfl rfl rfl).trans ?_
      refine (s_iviV 25 mc_198 dX11_of_22 rfl mo_198 mm_11_466 (by decide) ms_197 mi_197 mr_197 ma_197 mo_197 (by decide) (Nat.le_of_ble_eq_true rfl) rfl rfl (Nat.le_of_ble_eq_true rfl)).trans ?_
      refine gd_c ?_
      refine bV_c fun h4 => ?_
      refine (s_aload_n 26 mc_198 dX11_of_25 rfl rfl rfl).trans ?_
      refine (s_iload_n 27 mc_198 dX11_of_26 rfl rfl rfl).trans ?_
      refine (s_iviV 30 mc_198 dX11_of_27 rfl mo_198 mm_11_432 (by decide) ms_191 mi_191 mr_191 ma_191 mo_191 (by decide) (Nat.le_of_ble_eq_true rfl) rfl rfl (Nat.le_of_ble_eq_true rfl)).trans ?_
      refine gd_c ?_
      refine bV_c fun h5 => ?_
      refine (s_iload_n 31 mc_198 dX11_of_30 rfl rfl rfl).trans ?_
      refine (s_tsw [76, 83, 90, 97, 104, 111, 120, 129] 135 mc_198 dX11_of_31 rfl rfl rfl).trans ?_
      rfl
    · skip
      refine (s_iconst 15 (-1) mc_198 dX11_of_14 rfl (by decide)).trans ?_
      exact s_iret mc_198 dX11_of_15 mt_198
theorem b_198_76 {X : Ctx} {d : Nat} (x0 : Nat) (v1 : Option Value) (v2 : Option Value) (v3 : Option Value)  (h : Hp) : sem (X, K X d) 198 76 [some (.ref x0), v1, v2, v3] [] h = gR h 11 x0 32 fun g1 => aI X h g1 1 fun g2 => some (some (.int g2), h) := by
  refine (s_aload_n 77 mc_198 dX11_of_76 rfl rfl rfl).trans ?_
  refine (s_getfR 80 mc_198 dX11_of_77 rfl mo_198 fs_11_111 ff_11_111 rfl).trans ?_
  refine gR_c fun g1 => ?_
  refine (s_iconst 81 1 mc_198 dX11_of_80 rfl (by decide)).trans ?_
  refine (s_iaload 82 mc_198 dX11_of_81 rfl).trans ?_
  refine aI_c fun g2 => ?_
  exact s_iret mc_198 dX11_of_82 mt_198
theorem b_198_83 {X : Ctx} {d : Nat} (x0 : Nat) (v1 : Option Value) (v2 : Option Value) (v3 : Option Value)  (h : Hp) : sem (X, K X d) 198 83 [some (.ref x0), v1, v2, v3] [] h = gR h 11 x0 32 fun g1 => aI X h g1 2 fun g2 => some (some (.int g2), h) := by
  refine (s_aload_n 84 mc_198 dX11_of_83 rfl rfl rfl).trans ?_
  refine (s_getfR 87 mc_198 dX11_of_84 rfl mo_198 fs_11_111 ff_11_111 rfl).trans ?_
  refine gR_c fun g1 => ?_
  refine (s_iconst 88 2 mc_198 dX11_of_87 rfl (by decide)).trans ?_
  refine (s_iaload 89 mc_198 dX11_of_88 rfl).trans ?_
  refine aI_c fun g2 => ?_
  exact s_iret mc_198 dX11_of_89 mt_198
theorem b_198_90 {X : Ctx} {d : Nat} (x0 : Nat) (v1 : Option Value) (v2 : Option Value) (v3 : Option Value)  (h : Hp) : sem (X, K X d) 198 90 [some (.ref x0), v1, v2, v3] [] h = gR h 11 x0 32 fun g1 => aI X h g1 3 fun g2 => some (some (.int g2), h) := by
  refine (s_aload_n 91 mc_198 dX11_of_90 rfl rfl rfl).trans ?_
  refine (s_getfR 94 mc_198 dX11_of_91 rfl mo_198 fs_11_111 ff_11_111 rfl).trans ?_
  refine gR_c fun g1 => ?_
  refine (s_iconst 95 3 mc_198 dX11_of_94 rfl (by decide)).trans ?_
  refine (s_iaload 96 mc_198 dX11_of_95 rfl).trans ?_
  refine aI_c fun g2 => ?_
  exact s_iret mc_198 dX11_of_96 mt_198
theorem b_198_97 {X : Ctx} {d : Nat} (x0 : Nat) (v1 : Option Value) (v2 : Option Value) (v3 : Option Value)  (h : Hp) : sem (X, K X d) 198 97 [some (.ref x0), v1, v2, v3] [] h = gR h 11 x0 32 fun g1 => aI X h g1 4 fun g2 => some (some (.int g2), h) := by
  refine (s_aload_n 98 mc_198 dX11_of_97 rfl rfl rfl).trans ?_
  refine (s_getfR 101 mc_198 dX11_of_98 rfl mo_198 fs_11_111 ff_11_111 rfl).trans ?_
  refine gR_c fun g1 => ?_
  refine (s_iconst 102 4 mc_198 dX11_of_101 rfl (by decide)).trans ?_
  refine (s_iaload 103 mc_198 dX11_of_102 rfl).trans ?_
  refine aI_c fun g2 => ?_
  exact s_iret mc_198 dX11_of_103 mt_198
theorem b_198_104 {X : Ctx} {d : Nat} (x0 : Nat) (v1 : Option Value) (v2 : Option Value) (v3 : Option Value)  (h : Hp) : sem (X, K X d) 198 104 [some (.ref x0), v1, v2, v3] [] h = gR h 11 x0 32 fun g1 => aI X h g1 5 fun g2 => some (some (.int g2), h) := by
  refine (s_aload_n 105 mc_198 dX11_of_104 rfl rfl rfl).trans ?_
  refine (s_getfR 108 mc_198 dX11_of_105 rfl mo_198 fs_11_111 ff_11_111 rfl).trans ?_
  refine gR_c fun g1 => ?_
  refine (s_iconst 109 5 mc_198 dX11_of_108 rfl (by decide)).trans ?_
  refine (s_iaload 110 mc_198 dX11_of_109 rfl).trans ?_
  refine aI_c fun g2 => ?_
  exact s_iret mc_198 dX11_of_110 mt_198
theorem b_198_111 {X : Ctx} {d : Nat} (x0 : Nat) (v1 : Option Value) (x2 : Int32) (v3 : Option Value)  (h : Hp) : sem (X, K X d) 198 111 [some (.ref x0), v1, some (.int x2), v3] [] h = gI h 11 x0 62 fun g1 => some (some (.int ((g1 >>> (x2 &&& 31)) &&& 1)), h) := by
  refine (s_aload_n 112 mc_198 dX11_of_111 rfl rfl rfl).trans ?_
  refine (s_getfI 115 mc_198 dX11_of_112 rfl mo_198 fs_11_445 ff_11_445 (Or.inl rfl)).trans ?_
  refine gI_c fun g1 => ?_
  refine (s_iload_n 116 mc_198 dX11_of_115 rfl rfl rfl).trans ?_
  refine (s_ishr 117 mc_198 dX11_of_116 rfl).trans ?_
  refine (s_iconst 118 1 mc_198 dX11_of_117 rfl (by decide)).trans ?_
  refine (s_iand 119 mc_198 dX11_of_118 rfl).trans ?_
  exact s_iret mc_198 dX11_of_119 mt_198
theorem b_198_120 {X : Ctx} {d : Nat} (x0 : Nat) (v1 : Option Value) (x2 : Int32) (v3 : Option Value)  (h : Hp) : sem (X, K X d) 198 120 [some (.ref x0), v1, some (.int x2), v3] [] h = gI h 11 x0 63 fun g1 => some (some (.int ((g1 >>> (x2 &&& 31)) &&& 1)), h) := by
  refine (s_aload_n 121 mc_198 dX11_of_120 rfl rfl rfl).trans ?_
  refine (s_getfI 124 mc_198 dX11_of_121 rfl mo_198 fs_11_457 ff_11_457 (Or.inl rfl)).trans ?_
  refine gI_c fun g1 => ?_
  refine (s_iload_n 125 mc_198 dX11_of_124 rfl rfl rfl).trans ?_
  refine (s_ishr 126 mc_198 dX11_of_125 rfl).trans ?_
  refine (s_iconst 127 1 mc_198 dX11_of_126 rfl (by decide)).trans ?_
  refine (s_iand 128 mc_198 dX11_of_127 rfl).trans ?_
  exact s_iret mc_198 dX11_of_128 mt_198
theorem b_198_129 {X : Ctx} {d : Nat} (x0 : Nat) (v1 : Option Value) (x2 : Int32) (v3 : Option Value)  (h : Hp) : sem (X, K X d) 198 129 [some (.ref x0), v1, some (.int x2), v3] [] h = gd (hS h x0 = (12, 0)) (bI (K X d 196 [.ref x0, .int x2] h) fun r1 h1 => some (some (.int r1), h1)) := by
  refine (s_aload_n 130 mc_198 dX11_of_129 rfl rfl rfl).trans ?_
  refine (s_iload_n 131 mc_198 dX11_of_130 rfl rfl rfl).trans ?_
  refine (s_iviI 134 mc_198 dX11_of_131 rfl mo_198 mm_11_460 (by decide) ms_196 mi_196 mr_196 ma_196 mo_196 (by decide) (Nat.le_of_ble_eq_true rfl) rfl rfl (Nat.le_of_ble_eq_true rfl)).trans ?_
  refine gd_c ?_
  refine bI_c fun r1 h1 => ?_
  exact s_iret mc_198 dX11_of_134 mt_198
theorem b_198_135 {X : Ctx} {d : Nat} (v0 : Option Value) (v1 : Option Value) (v2 : Option Value) (v3 : Option Value)  (h : Hp) : sem (X, K X d) 198 135 [v0, v1, v2, v3] [] h = some (some (.int (-1)), h) := by
  refine (s_iconst 136 (-1) mc_198 dX11_of_135 rfl (by decide)).trans ?_
  exact s_iret mc_198 dX11_of_136 mt_198
/-- FiveLandsModel.decides(III)I -/
theorem k_199 {X : Ctx} {d : Nat} (x0 : Nat) (x1 : Int32) (x2 : Int32) (x3 : Int32) (h : Hp) : K X (d + 1) 199 [.ref x0, .int x1, .int x2, .int x3] h = bI (K X d 143 [.int x1] h) fun r1 h1 => if r1 = 0 then some (some (.int (-1)), h1) else bI (K X d 144 [.int x2] h1) fun r2 h2 => if r2 = 0 then some (some (.int (-1)), h2) else bI (K X d 144 [.int x3] h2) fun r3 h3 => if r3 = 0 then some (some (.int (-1)), h3) else if ¬ x2 = x3 then gd (hS h3 x0 = (12, 0)) (bV (K X d 189 [.ref x0, .int x1] h3) fun h4 => gd (hS h4 x0 = (12, 0)) (bV (K X d 197 [.ref x0] h4) fun h5 => gI h5 11 x0 62 fun g4 => gI h5 11 x0 62 fun g5 => if ¬ (((g4 >>> (x2 &&& 31)) &&& (g5 >>> (x3 &&& 31))) &&& 1) = 1 then some (some (.int (-1)), h5) else gd (hS h5 x0 = (12, 0)) (bI (K X d 194 [.ref x0, .int x2, .int x3] h5) fun r6 h6 => some (some (.int r6), h6)))) else some (some (.int (-1)), h3) := by
  show sem (X, K X d) 199 0 [some (.ref x0), some (.int x1), some (.int x2), some (.int x3)] [] h = _
  refine (s_iload_n 1 mc_199 dX11_decides_0 rfl rfl rfl).trans ?_
  refine (s_istI 4 mc_199 dX11_decides_1 rfl mo_199 mm_11_207 (by decide) ms_143 mr_143 ma_143 (Nat.le_of_ble_eq_true rfl) rfl rfl (Nat.le_of_ble_eq_true rfl)).trans ?_
  refine bI_c fun r1 h1 => ?_
  refine (s_if_eq 26 7 mc_199 dX11_decides_4 rfl rfl).trans ?_
  refine ite_c ?_ ?_
  · skip
    refine (s_iconst 27 (-1) mc_199 dX11_decides_26 rfl (by decide)).trans ?_
    exact s_iret mc_199 dX11_decides_27 mt_199
  · skip
    refine (s_iload_n 8 mc_199 dX11_decides_7 rfl rfl rfl).trans ?_
    refine (s_istI 11 mc_199 dX11_decides_8 rfl mo_199 mm_11_211 (by decide) ms_144 mr_144 ma_144 (Nat.le_of_ble_eq_true rfl) rfl rfl (Nat.le_of_ble_eq_true rfl)).trans ?_
    refine bI_c fun r2 h2 => ?_
    refine (s_if_eq 26 14 mc_199 dX11_decides_11 rfl rfl).trans ?_
    refine ite_c ?_ ?_
    · skip
      refine (s_iconst 27 (-1) mc_199 dX11_decides_26 rfl (by decide)).trans ?_
      exact s_iret mc_199 dX11_decides_27 mt_199
    · skip
      refine (s_iload_n 15 mc_199 dX11_decides_14 rfl rfl rfl).trans ?_
      refine (s_istI 18 mc_199 dX11_decides_15 rfl mo_199 mm_11_211 (by decide) ms_144 mr_144 ma_144 (Nat.le_of_ble_eq_true rfl) rfl rfl (Nat.le_of_ble_eq_true rfl)).trans ?_
      refine bI_c fun r3 h3 => ?_
      refine (s_if_eq 26 21 mc_199 dX11_decides_18 rfl rfl).trans ?_
      refine ite_c ?_ ?_
      · skip
        refine (s_iconst 27 (-1) mc_199 dX11_decides_26 rfl (by decide)).trans ?_
        exact s_iret mc_199 dX11_decides_27 mt_199
      · skip
        refine (s_iload_n 22 mc_199 dX11_decides_21 rfl rfl rfl).trans ?_
        refine (s_iload_n 23 mc_199 dX11_decides_22 rfl rfl rfl).trans ?_
        refine (s_icmp_ne 28 26 mc_199 dX11_decides_23 rfl rfl).trans ?_
        refine ite_c ?_ ?_
        · skip
          refine (s_aload_n 29 mc_199 dX11_decides_28 rfl rfl rfl).trans ?_
          refine (s_iload_n 30 mc_199 dX11_decides_29 rfl rfl rfl).trans ?_
          refine (s_iviV 33 mc_199 dX11_decides_30 rfl mo_199 mm_11_463 (by decide) ms_189 mi_189 mr_189 ma_189 mo_189 (by decide) (Nat.le_of_ble_eq_true rfl) rfl rfl (Nat.le_of_ble_eq_true rfl)).trans ?_
          refine gd_c ?_
          refine bV_c fun h4 => ?_
          refine (s_aload_n 34 mc_199 dX11_decides_33 rfl rfl rfl).trans ?_
          refine (s_iviV 37 mc_199 dX11_decides_34 rfl mo_199 mm_11_466 (by decide) ms_197 mi_197 mr_197 ma_197 mo_197 (by decide) (Nat.le_of_ble_eq_true rfl) rfl rfl (Nat.le_of_ble_eq_true rfl)).trans ?_
          refine gd_c ?_
          refine bV_c fun h5 => ?_
          refine (s_aload_n 38 mc_199 dX11_decides_37 rfl rfl rfl).trans ?_
          refine (s_getfI 41 mc_199 dX11_decides_38 rfl mo_199 fs_11_445 ff_11_445 (Or.inl rfl)).trans ?_
          refine gI_c fun g4 => ?_
          refine (s_iload_n 42 mc_199 dX11_decides_41 rfl rfl rfl).trans ?_
          refine (s_ishr 43 mc_199 dX11_decides_42 rfl).trans ?_
          refine (s_aload_n 44 mc_199 dX11_decides_43 rfl rfl rfl).trans ?_
          refine (s_getfI 47 mc_199 dX11_decides_44 rfl mo_199 fs_11_445 ff_11_445 (Or.inl rfl)).trans ?_
          refine gI_c fun g5 => ?_
          refine (s_iload_n 48 mc_199 dX11_decides_47 rfl rfl rfl).trans ?_
          refine (s_ishr 49 mc_199 dX11_decides_48 rfl).trans ?_
          refine (s_iand 50 mc_199 dX11_decides_49 rfl).trans ?_
          refine (s_iconst 51 1 mc_199 dX11_decides_50 rfl (by decide)).trans ?_
          refine (s_iand 52 mc_199 dX11_decides_51 rfl).trans ?_
          refine (s_iconst 53 1 mc_199 dX11_decides_52 rfl (by decide)).trans ?_
          refine (s_icmp_ne 65 56 mc_199 dX11_decides_53 rfl rfl).trans ?_
          refine ite_c ?_ ?_
          · skip
            refine (s_iconst 66 (-1) mc_199 dX11_decides_65 rfl (by decide)).trans ?_
            exact s_iret mc_199 dX11_decides_66 mt_199
          · skip
            refine (s_aload_n 57 mc_199 dX11_decides_56 rfl rfl rfl).trans ?_
            refine (s_iload_n 58 mc_199 dX11_decides_57 rfl rfl rfl).trans ?_
            refine (s_iload_n 59 mc_199 dX11_decides_58 rfl rfl rfl).trans ?_
            refine (s_iviI 62 mc_199 dX11_decides_59 rfl mo_199 mm_11_448 (by decide) ms_194 mi_194 mr_194 ma_194 mo_194 (by decide) (Nat.le_of_ble_eq_true rfl) rfl rfl (Nat.le_of_ble_eq_true rfl)).trans ?_
            refine gd_c ?_
            refine bI_c fun r6 h6 => ?_
            refine (s_goto 66 mc_199 dX11_decides_62 rfl).trans ?_
            exact s_iret mc_199 dX11_decides_66 mt_199
        · skip
          refine (s_iconst 27 (-1) mc_199 dX11_decides_26 rfl (by decide)).trans ?_
          exact s_iret mc_199 dX11_decides_27 mt_199
/-- FiveLandsModel.taxOf(II)J -/
theorem k_200 {X : Ctx} {d : Nat} (x0 : Nat) (x1 : Int32) (x2 : Int32) (h : Hp) : K X (d + 1) 200 [.ref x0, .int x1, .int x2] h = gR h 11 x0 16 fun g1 => aI X h g1 x1 fun g2 => sem (X, K X d) 200 15 [some (.ref x0), some (.int x1), some (.int x2), some (.int (x2 - g2)), some (.long 0), none, some (.int 0), none, none] [] h := by
  show sem (X, K X d) 200 0 [some (.ref x0), some (.int x1), some (.int x2), none, none, none, none, none, none] [] h = _
  refine (s_iload_n 1 mc_200 dX11_taxOf_0 rfl rfl rfl).trans ?_
  refine (s_aload_n 2 mc_200 dX11_taxOf_1 rfl rfl rfl).trans ?_
  refine (s_getfR 5 mc_200 dX11_taxOf_2 rfl mo_200 fs_11_62 ff_11_62 rfl).trans ?_
  refine gR_c fun g1 => ?_
  refine (s_iload_n 6 mc_200 dX11_taxOf_5 rfl rfl rfl).trans ?_
  refine (s_iaload 7 mc_200 dX11_taxOf_6 rfl).trans ?_
  refine aI_c fun g2 => ?_
  refine (s_isub 8 mc_200 dX11_taxOf_7 rfl).trans ?_
  refine (s_istore_n 9 mc_200 dX11_taxOf_8 rfl rfl (Nat.le_of_ble_eq_true rfl) rfl).trans ?_
  refine (s_lconst 10 0 mc_200 dX11_taxOf_9 rfl (by decide)).trans ?_
  refine (s_lstore 12 mc_200 dX11_taxOf_10 rfl (Nat.le_of_ble_eq_true rfl) rfl).trans ?_
  refine (s_iconst 13 0 mc_200 dX11_taxOf_12 rfl (by decide)).trans ?_
  refine (s_istore 15 mc_200 dX11_taxOf_13 rfl (Nat.le_of_ble_eq_true rfl) rfl).trans ?_
  rfl
theorem b_200_15 {X : Ctx} {d : Nat} (x0 : Nat) (x1 : Int32) (v2 : Option Value) (x3 : Int32) (x4 : Int64) (x6 : Int32) (v7 : Option Value) (v8 : Option Value)  (h : Hp) : sem (X, K X d) 200 15 [some (.ref x0), some (.int x1), v2, some (.int x3), some (.long x4), none, some (.int x6), v7, v8] [] h = gR h 11 x0 17 fun g1 => aI X h g1 x1 fun g2 => if g2 ≤ x6 then some (some (.long x4), h) else gR h 11 x0 17 fun g3 => aI X h g3 x1 fun g4 => if g4 ≤ (x6 + 1) then sem (X, K X d) 200 74 [some (.ref x0), some (.int x1), v2, some (.int x3), some (.long x4), none, some (.int x6), some (.int ((20 * x1) + x6)), v8] [.int x3] h else gR h 11 x0 18 fun g5 => aI X h g5 (((20 * x1) + x6) + 1) fun g6 => if x3 ≤ g6 then sem (X, K X d) 200 74 [some (.ref x0), some (.int x1), v2, some (.int x3), some (.long x4), none, some (.int x6), some (.int ((20 * x1) + x6)), v8] [.int x3] h else gR h 11 x0 18 fun g7 => aI X h g7 (((20 * x1) + x6) + 1) fun g8 => sem (X, K X d) 200 74 [some (.ref x0), some (.int x1), v2, some (.int x3), some (.long x4), none, some (.int x6), some (.int ((20 * x1) + x6)), v8] [.int g8] h := by
  refine (s_iload 17 mc_200 dX11_taxOf_15 rfl rfl).trans ?_
  refine (s_aload_n 18 mc_200 dX11_taxOf_17 rfl rfl rfl).trans ?_
  refine (s_getfR 21 mc_200 dX11_taxOf_18 rfl mo_200 fs_11_65 ff_11_65 rfl).trans ?_
  refine gR_c fun g1 => ?_
  refine (s_iload_n 22 mc_200 dX11_taxOf_21 rfl rfl rfl).trans ?_
  refine (s_iaload 23 mc_200 dX11_taxOf_22 rfl).trans ?_
  refine aI_c fun g2 => ?_
  refine (s_icmp_ge 119 26 mc_200 dX11_taxOf_23 rfl rfl).trans ?_
  refine ite_c ?_ ?_
  · skip
    refine (s_lload 121 mc_200 dX11_taxOf_119 rfl rfl rfl).trans ?_
    exact s_lret mc_200 dX11_taxOf_121 mt_200
  · skip
    refine (s_bipush 28 20 mc_200 dX11_taxOf_26 rfl (by decide)).trans ?_
    refine (s_iload_n 29 mc_200 dX11_taxOf_28 rfl rfl rfl).trans ?_
    refine (s_imul 30 mc_200 dX11_taxOf_29 rfl).trans ?_
    refine (s_iload 32 mc_200 dX11_taxOf_30 rfl rfl).trans ?_
    refine (s_iadd 33 mc_200 dX11_taxOf_32 rfl).trans ?_
    refine (s_istore 35 mc_200 dX11_taxOf_33 rfl (Nat.le_of_ble_eq_true rfl) rfl).trans ?_
    refine (s_iload 37 mc_200 dX11_taxOf_35 rfl rfl).trans ?_
    refine (s_iconst 38 1 mc_200 dX11_taxOf_37 rfl (by decide)).trans ?_
    refine (s_iadd 39 mc_200 dX11_taxOf_38 rfl).trans ?_
    refine (s_aload_n 40 mc_200 dX11_taxOf_39 rfl rfl rfl).trans ?_
    refine (s_getfR 43 mc_200 dX11_taxOf_40 rfl mo_200 fs_11_65 ff_11_65 rfl).trans ?_
    refine gR_c fun g3 => ?_
    refine (s_iload_n 44 mc_200 dX11_taxOf_43 rfl rfl rfl).trans ?_
    refine (s_iaload 45 mc_200 dX11_taxOf_44 rfl).trans ?_
    refine aI_c fun g4 => ?_
    refine (s_icmp_ge 73 48 mc_200 dX11_taxOf_45 rfl rfl).trans ?_
    refine ite_c ?_ ?_
    · skip
      refine (s_iload_n 74 mc_200 dX11_taxOf_73 rfl rfl rfl).trans ?_
      rfl
    · skip
      refine (s_aload_n 49 mc_200 dX11_taxOf_48 rfl rfl rfl).trans ?_
      refine (s_getfR 52 mc_200 dX11_taxOf_49 rfl mo_200 fs_11_68 ff_11_68 rfl).trans ?_
      refine gR_c fun g5 => ?_
      refine (s_iload 54 mc_200 dX11_taxOf_52 rfl rfl).trans ?_
      refine (s_iconst 55 1 mc_200 dX11_taxOf_54 rfl (by decide)).trans ?_
      refine (s_iadd 56 mc_200 dX11_taxOf_55 rfl).trans ?_
      refine (s_iaload 57 mc_200 dX11_taxOf_56 rfl).trans ?_
      refine aI_c fun g6 => ?_
      refine (s_iload_n 58 mc_200 dX11_taxOf_57 rfl rfl rfl).trans ?_
      refine (s_icmp_ge 73 61 mc_200 dX11_taxOf_58 rfl rfl).trans ?_
      refine ite_c ?_ ?_
      · skip
        refine (s_iload_n 74 mc_200 dX11_taxOf_73 rfl rfl rfl).trans ?_
        rfl
      · skip
        refine (s_aload_n 62 mc_200 dX11_taxOf_61 rfl rfl rfl).trans ?_
        refine (s_getfR 65 mc_200 dX11_taxOf_62 rfl mo_200 fs_11_68 ff_11_68 rfl).trans ?_
        refine gR_c fun g7 => ?_
        refine (s_iload 67 mc_200 dX11_taxOf_65 rfl rfl).trans ?_
        refine (s_iconst 68 1 mc_200 dX11_taxOf_67 rfl (by decide)).trans ?_
        refine (s_iadd 69 mc_200 dX11_taxOf_68 rfl).trans ?_
        refine (s_iaload 70 mc_200 dX11_taxOf_69 rfl).trans ?_
        refine aI_c fun g8 => ?_
        refine (s_goto 74 mc_200 dX11_taxOf_70 rfl).trans ?_
        rfl
theorem b_200_74 {X : Ctx} {d : Nat} (x0 : Nat) (v1 : Option Value) (v2 : Option Value) (v3 : Option Value) (x4 : Int64) (x6 : Int32) (x7 : Int32) (v8 : Option Value) (s0 : Int32) (h : Hp) : sem (X, K X d) 200 74 [some (.ref x0), v1, v2, v3, some (.long x4), none, some (.int x6), some (.int x7), v8] [.int s0] h = gR h 11 x0 18 fun g1 => aI X h g1 x7 fun g2 => if s0 ≤ g2 then sem (X, K X d) 200 15 [some (.ref x0), v1, v2, v3, some (.long x4), none, some (.int (x6 + 1)), some (.int x7), some (.int s0)] [] h else gR h 11 x0 18 fun g3 => aI X h g3 x7 fun g4 => gR h 11 x0 19 fun g5 => aI X h g5 x7 fun g6 => sem (X, K X d) 200 15 [some (.ref x0), v1, v2, v3, some (.long (x4 + (((s0 - g4) : Int32).toInt64 * (g6 : Int32).toInt64))), none, some (.int (x6 + 1)), some (.int x7), some (.int s0)] [] h := by
  refine (s_istore 76 mc_200 dX11_taxOf_74 rfl (Nat.le_of_ble_eq_true rfl) rfl).trans ?_
  refine (s_iload 78 mc_200 dX11_taxOf_76 rfl rfl).trans ?_
  refine (s_aload_n 79 mc_200 dX11_taxOf_78 rfl rfl rfl).trans ?_
  refine (s_getfR 82 mc_200 dX11_taxOf_79 rfl mo_200 fs_11_68 ff_11_68 rfl).trans ?_
  refine gR_c fun g1 => ?_
  refine (s_iload 84 mc_200 dX11_taxOf_82 rfl rfl).trans ?_
  refine (s_iaload 85 mc_200 dX11_taxOf_84 rfl).trans ?_
  refine aI_c fun g2 => ?_
  refine (s_icmp_le 113 88 mc_200 dX11_taxOf_85 rfl rfl).trans ?_
  refine ite_c ?_ ?_
  · skip
    refine (s_iinc 1 116 mc_200 dX11_taxOf_113 rfl rfl (Nat.le_of_ble_eq_true rfl) (by decide) rfl).trans ?_
    refine (s_goto 15 mc_200 dX11_taxOf_116 rfl).trans ?_
    rfl
  · skip
    refine (s_lload 90 mc_200 dX11_taxOf_88 rfl rfl rfl).trans ?_
    refine (s_iload 92 mc_200 dX11_taxOf_90 rfl rfl).trans ?_
    refine (s_aload_n 93 mc_200 dX11_taxOf_92 rfl rfl rfl).trans ?_
    refine (s_getfR 96 mc_200 dX11_taxOf_93 rfl mo_200 fs_11_68 ff_11_68 rfl).trans ?_
    refine gR_c fun g3 => ?_
    refine (s_iload 98 mc_200 dX11_taxOf_96 rfl rfl).trans ?_
    refine (s_iaload 99 mc_200 dX11_taxOf_98 rfl).trans ?_
    refine aI_c fun g4 => ?_
    refine (s_isub 100 mc_200 dX11_taxOf_99 rfl).trans ?_
    refine (s_i2l 101 mc_200 dX11_taxOf_100 rfl).trans ?_
    refine (s_aload_n 102 mc_200 dX11_taxOf_101 rfl rfl rfl).trans ?_
    refine (s_getfR 105 mc_200 dX11_taxOf_102 rfl mo_200 fs_11_71 ff_11_71 rfl).trans ?_
    refine gR_c fun g5 => ?_
    refine (s_iload 107 mc_200 dX11_taxOf_105 rfl rfl).trans ?_
    refine (s_iaload 108 mc_200 dX11_taxOf_107 rfl).trans ?_
    refine aI_c fun g6 => ?_
    refine (s_i2l 109 mc_200 dX11_taxOf_108 rfl).trans ?_
    refine (s_lmul 110 mc_200 dX11_taxOf_109 rfl).trans ?_
    refine (s_ladd 111 mc_200 dX11_taxOf_110 rfl).trans ?_
    refine (s_lstore 113 mc_200 dX11_taxOf_111 rfl (Nat.le_of_ble_eq_true rfl) rfl).trans ?_
    refine (s_iinc 1 116 mc_200 dX11_taxOf_113 rfl rfl (Nat.le_of_ble_eq_true rfl) (by decide) rfl).trans ?_
    refine (s_goto 15 mc_200 dX11_taxOf_116 rfl).trans ?_
    rfl
/-- FiveLandsModel.tax(II)J -/
theorem k_201 {X : Ctx} {d : Nat} (x0 : Nat) (x1 : Int32) (x2 : Int32) (h : Hp) : K X (d + 1) 201 [.ref x0, .int x1, .int x2] h = bI (K X d 144 [.int x1] h) fun r1 h1 => if r1 = 0 then some (some (.long (-1)), h1) else bI (K X d 142 [.int x2, .int 0, .int 99999999] h1) fun r2 h2 => if r2 = 0 then some (some (.long (-1)), h2) else gd (hS h2 x0 = (12, 0)) (bJ (K X d 200 [.ref x0, .int x1, .int x2] h2) fun r3 h3 => some (some (.long r3), h3)) := by
  show sem (X, K X d) 201 0 [some (.ref x0), some (.int x1), some (.int x2)] [] h = _
  refine (s_iload_n 1 mc_201 dX11_tax_0 rfl rfl rfl).trans ?_
  refine (s_istI 4 mc_201 dX11_tax_1 rfl mo_201 mm_11_211 (by decide) ms_144 mr_144 ma_144 (Nat.le_of_ble_eq_true rfl) rfl rfl (Nat.le_of_ble_eq_true rfl)).trans ?_
  refine bI_c fun r1 h1 => ?_
  refine (s_if_eq 27 7 mc_201 dX11_tax_4 rfl rfl).trans ?_
  refine ite_c ?_ ?_
  · skip
    refine (s_ldc2_w 30 (-1) mc_201 dX11_tax_27 rfl mo_201 cl_11_474 (by decide)).trans ?_
    exact s_lret mc_201 dX11_tax_30 mt_201
  · skip
    refine (s_iload_n 8 mc_201 dX11_tax_7 rfl rfl rfl).trans ?_
    refine (s_iconst 9 0 mc_201 dX11_tax_8 rfl (by decide)).trans ?_
    refine (s_ldc_w 12 99999999 mc_201 dX11_tax_9 rfl mo_201 cs_11_469 (by decide)).trans ?_
    refine (s_istI 15 mc_201 dX11_tax_12 rfl mo_201 mm_11_1 (by decide) ms_142 mr_142 ma_142 (Nat.le_of_ble_eq_true rfl) rfl rfl (Nat.le_of_ble_eq_true rfl)).trans ?_
    refine bI_c fun r2 h2 => ?_
    refine (s_if_eq 27 18 mc_201 dX11_tax_15 rfl rfl).trans ?_
    refine ite_c ?_ ?_
    · skip
      refine (s_ldc2_w 30 (-1) mc_201 dX11_tax_27 rfl mo_201 cl_11_474 (by decide)).trans ?_
      exact s_lret mc_201 dX11_tax_30 mt_201
    · skip
      refine (s_aload_n 19 mc_201 dX11_tax_18 rfl rfl rfl).trans ?_
      refine (s_iload_n 20 mc_201 dX11_tax_19 rfl rfl rfl).trans ?_
      refine (s_iload_n 21 mc_201 dX11_tax_20 rfl rfl rfl).trans ?_
      refine (s_iviJ 24 mc_201 dX11_tax_21 rfl mo_201 mm_11_470 (by decide) ms_200 mi_200 mr_200 ma_200 mo_200 (by decide) (Nat.le_of_ble_eq_true rfl) rfl rfl (Nat.le_of_ble_eq_true rfl)).trans ?_
      refine gd_c ?_
      refine bJ_c fun r3 h3 => ?_
      refine (s_goto 30 mc_201 dX11_tax_24 rfl).trans ?_
      exact s_lret mc_201 dX11_tax_30 mt_201
/-- FiveLandsModel.reliefWith(II)I -/
theorem k_202 {X : Ctx} {d : Nat} (x0 : Nat) (x1 : Int32) (x2 : Int32) (h : Hp) : K X (d + 1) 202 [.ref x0, .int x1, .int x2] h = gR h 11 x0 60 fun g1 => bI (K X d 186 [.int x1, .int x2] h) fun r2 h1 => aI X h1 g1 r2 fun g3 => if g3 = (-1) then gR h1 11 x0 20 fun g4 => aI X h1 g4 x1 fun g5 => some (some (.int g5), h1) else some (some (.int g3), h1) := by
  show sem (X, K X d) 202 0 [some (.ref x0), some (.int x1), some (.int x2), none] [] h = _
  refine (s_aload_n 1 mc_202 dX11_reliefWith_0 rfl rfl rfl).trans ?_
  refine (s_getfR 4 mc_202 dX11_reliefWith_1 rfl mo_202 fs_11_146 ff_11_146 rfl).trans ?_
  refine gR_c fun g1 => ?_
  refine (s_iload_n 5 mc_202 dX11_reliefWith_4 rfl rfl rfl).trans ?_
  refine (s_iload_n 6 mc_202 dX11_reliefWith_5 rfl rfl rfl).trans ?_
  refine (s_istI 9 mc_202 dX11_reliefWith_6 rfl mo_202 mm_11_438 (by decide) ms_186 mr_186 ma_186 (Nat.le_of_ble_eq_true rfl) rfl rfl (Nat.le_of_ble_eq_true rfl)).trans ?_
  refine bI_c fun r2 h1 => ?_
  refine (s_iaload 10 mc_202 dX11_reliefWith_9 rfl).trans ?_
  refine aI_c fun g3 => ?_
  refine (s_istore_n 11 mc_202 dX11_reliefWith_10 rfl rfl (Nat.le_of_ble_eq_true rfl) rfl).trans ?_
  refine (s_iload_n 12 mc_202 dX11_reliefWith_11 rfl rfl rfl).trans ?_
  refine (s_iconst 13 (-1) mc_202 dX11_reliefWith_12 rfl (by decide)).trans ?_
  refine (s_icmp_eq 20 16 mc_202 dX11_reliefWith_13 rfl rfl).trans ?_
  refine ite_c ?_ ?_
  · skip
    refine (s_aload_n 21 mc_202 dX11_reliefWith_20 rfl rfl rfl).trans ?_
    refine (s_getfR 24 mc_202 dX11_reliefWith_21 rfl mo_202 fs_11_74 ff_11_74 rfl).trans ?_
    refine gR_c fun g4 => ?_
    refine (s_iload_n 25 mc_202 dX11_reliefWith_24 rfl rfl rfl).trans ?_
    refine (s_iaload 26 mc_202 dX11_reliefWith_25 rfl).trans ?_
    refine aI_c fun g5 => ?_
    exact s_iret mc_202 dX11_reliefWith_26 mt_202
  · skip
    refine (s_iload_n 17 mc_202 dX11_reliefWith_16 rfl rfl rfl).trans ?_
    refine (s_goto 26 mc_202 dX11_reliefWith_17 rfl).trans ?_
    exact s_iret mc_202 dX11_reliefWith_26 mt_202
/-- FiveLandsModel.seenAs(II)I -/
theorem k_203 {X : Ctx} {d : Nat} (x0 : Nat) (x1 : Int32) (x2 : Int32) (h : Hp) : K X (d + 1) 203 [.ref x0, .int x1, .int x2] h = gR h 11 x0 47 fun g1 => aI X h g1 x1 fun g2 => if g2 = 5 then gI h 11 x0 63 fun g3 => if ¬ ((g3 >>> (x2 &&& 31)) &&& 1) = 1 then sem (X, K X d) 203 38 [some (.ref x0), some (.int x1), some (.int x2), some (.int 0), some (.int 0)] [] h else sem (X, K X d) 203 38 [some (.ref x0), some (.int x1), some (.int x2), some (.int 1), some (.int 0)] [] h else gR h 11 x0 47 fun g4 => aI X h g4 x1 fun g5 => some (some (.int g5), h) := by
  show sem (X, K X d) 203 0 [some (.ref x0), some (.int x1), some (.int x2), none, none] [] h = _
  refine (s_aload_n 1 mc_203 dX11_seenAs_0 rfl rfl rfl).trans ?_
  refine (s_getfR 4 mc_203 dX11_seenAs_1 rfl mo_203 fs_11_125 ff_11_125 rfl).trans ?_
  refine gR_c fun g1 => ?_
  refine (s_iload_n 5 mc_203 dX11_seenAs_4 rfl rfl rfl).trans ?_
  refine (s_iaload 6 mc_203 dX11_seenAs_5 rfl).trans ?_
  refine aI_c fun g2 => ?_
  refine (s_iconst 7 5 mc_203 dX11_seenAs_6 rfl (by decide)).trans ?_
  refine (s_icmp_eq 17 10 mc_203 dX11_seenAs_7 rfl rfl).trans ?_
  refine ite_c ?_ ?_
  · skip
    refine (s_aload_n 18 mc_203 dX11_seenAs_17 rfl rfl rfl).trans ?_
    refine (s_getfI 21 mc_203 dX11_seenAs_18 rfl mo_203 fs_11_457 ff_11_457 (Or.inl rfl)).trans ?_
    refine gI_c fun g3 => ?_
    refine (s_iload_n 22 mc_203 dX11_seenAs_21 rfl rfl rfl).trans ?_
    refine (s_ishr 23 mc_203 dX11_seenAs_22 rfl).trans ?_
    refine (s_iconst 24 1 mc_203 dX11_seenAs_23 rfl (by decide)).trans ?_
    refine (s_iand 25 mc_203 dX11_seenAs_24 rfl).trans ?_
    refine (s_iconst 26 1 mc_203 dX11_seenAs_25 rfl (by decide)).trans ?_
    refine (s_icmp_ne 33 29 mc_203 dX11_seenAs_26 rfl rfl).trans ?_
    refine ite_c ?_ ?_
    · skip
      refine (s_iconst 34 0 mc_203 dX11_seenAs_33 rfl (by decide)).trans ?_
      refine (s_istore_n 35 mc_203 dX11_seenAs_34 rfl rfl (Nat.le_of_ble_eq_true rfl) rfl).trans ?_
      refine (s_iconst 36 0 mc_203 dX11_seenAs_35 rfl (by decide)).trans ?_
      refine (s_istore 38 mc_203 dX11_seenAs_36 rfl (Nat.le_of_ble_eq_true rfl) rfl).trans ?_
      rfl
    · skip
      refine (s_iconst 30 1 mc_203 dX11_seenAs_29 rfl (by decide)).trans ?_
      refine (s_goto 34 mc_203 dX11_seenAs_30 rfl).trans ?_
      refine (s_istore_n 35 mc_203 dX11_seenAs_34 rfl rfl (Nat.le_of_ble_eq_true rfl) rfl).trans ?_
      refine (s_iconst 36 0 mc_203 dX11_seenAs_35 rfl (by decide)).trans ?_
      refine (s_istore 38 mc_203 dX11_seenAs_36 rfl (Nat.le_of_ble_eq_true rfl) rfl).trans ?_
      rfl
  · skip
    refine (s_aload_n 11 mc_203 dX11_seenAs_10 rfl rfl rfl).trans ?_
    refine (s_getfR 14 mc_203 dX11_seenAs_11 rfl mo_203 fs_11_125 ff_11_125 rfl).trans ?_
    refine gR_c fun g4 => ?_
    refine (s_iload_n 15 mc_203 dX11_seenAs_14 rfl rfl rfl).trans ?_
    refine (s_iaload 16 mc_203 dX11_seenAs_15 rfl).trans ?_
    refine aI_c fun g5 => ?_
    exact s_iret mc_203 dX11_seenAs_16 mt_203
theorem b_203_38 {X : Ctx} {d : Nat} (x0 : Nat) (v1 : Option Value) (x2 : Int32) (x3 : Int32) (x4 : Int32)  (h : Hp) : sem (X, K X d) 203 38 [some (.ref x0), v1, some (.int x2), some (.int x3), some (.int x4)] [] h = if 6 ≤ x4 then some (some (.int 5), h) else if x4 = x2 then sem (X, K X d) 203 38 [some (.ref x0), v1, some (.int x2), some (.int x3), some (.int (x4 + 1))] [] h else if ¬ x3 = 0 then sem (X, K X d) 203 68 [some (.ref x0), v1, some (.int x2), some (.int x3), some (.int x4)] [] h else gI h 11 x0 63 fun g1 => if ¬ ((g1 >>> (x4 &&& 31)) &&& 1) = 1 then sem (X, K X d) 203 38 [some (.ref x0), v1, some (.int x2), some (.int x3), some (.int (x4 + 1))] [] h else sem (X, K X d) 203 68 [some (.ref x0), v1, some (.int x2), some (.int x3), some (.int x4)] [] h := by
  refine (s_iload 40 mc_203 dX11_seenAs_38 rfl rfl).trans ?_
  refine (s_bipush 42 6 mc_203 dX11_seenAs_40 rfl (by decide)).trans ?_
  refine (s_icmp_ge 95 45 mc_203 dX11_seenAs_42 rfl rfl).trans ?_
  refine ite_c ?_ ?_
  · skip
    refine (s_iconst 96 5 mc_203 dX11_seenAs_95 rfl (by decide)).trans ?_
    exact s_iret mc_203 dX11_seenAs_96 mt_203
  · skip
    refine (s_iload 47 mc_203 dX11_seenAs_45 rfl rfl).trans ?_
    refine (s_iload_n 48 mc_203 dX11_seenAs_47 rfl rfl rfl).trans ?_
    refine (s_icmp_eq 89 51 mc_203 dX11_seenAs_48 rfl rfl).trans ?_
    refine ite_c ?_ ?_
    · skip
      refine (s_iinc 1 92 mc_203 dX11_seenAs_89 rfl rfl (Nat.le_of_ble_eq_true rfl) (by decide) rfl).trans ?_
      refine (s_goto 38 mc_203 dX11_seenAs_92 rfl).trans ?_
      rfl
    · skip
      refine (s_iload_n 52 mc_203 dX11_seenAs_51 rfl rfl rfl).trans ?_
      refine (s_if_ne 68 55 mc_203 dX11_seenAs_52 rfl rfl).trans ?_
      refine ite_c ?_ ?_
      · skip
        rfl
      · skip
        refine (s_aload_n 56 mc_203 dX11_seenAs_55 rfl rfl rfl).trans ?_
        refine (s_getfI 59 mc_203 dX11_seenAs_56 rfl mo_203 fs_11_457 ff_11_457 (Or.inl rfl)).trans ?_
        refine gI_c fun g1 => ?_
        refine (s_iload 61 mc_203 dX11_seenAs_59 rfl rfl).trans ?_
        refine (s_ishr 62 mc_203 dX11_seenAs_61 rfl).trans ?_
        refine (s_iconst 63 1 mc_203 dX11_seenAs_62 rfl (by decide)).trans ?_
        refine (s_iand 64 mc_203 dX11_seenAs_63 rfl).trans ?_
        refine (s_iconst 65 1 mc_203 dX11_seenAs_64 rfl (by decide)).trans ?_
        refine (s_icmp_ne 89 68 mc_203 dX11_seenAs_65 rfl rfl).trans ?_
        refine ite_c ?_ ?_
        · skip
          refine (s_iinc 1 92 mc_203 dX11_seenAs_89 rfl rfl (Nat.le_of_ble_eq_true rfl) (by decide) rfl).trans ?_
          refine (s_goto 38 mc_203 dX11_seenAs_92 rfl).trans ?_
          rfl
        · skip
          rfl
theorem b_203_68 {X : Ctx} {d : Nat} (x0 : Nat) (x1 : Int32) (x2 : Int32) (v3 : Option Value) (x4 : Int32)  (h : Hp) : sem (X, K X d) 203 68 [some (.ref x0), some (.int x1), some (.int x2), v3, some (.int x4)] [] h = gR h 11 x0 61 fun g1 => bI (K X d 186 [.int x2, .int x4] h) fun r2 h1 => aZ h1 g1 r2 fun g3 => if g3 = 0 then sem (X, K X d) 203 38 [some (.ref x0), some (.int x1), some (.int x2), v3, some (.int (x4 + 1))] [] h1 else gR h1 11 x0 48 fun g4 => aI X h1 g4 x1 fun g5 => some (some (.int g5), h1) := by
  refine (s_aload_n 69 mc_203 dX11_seenAs_68 rfl rfl rfl).trans ?_
  refine (s_getfR 72 mc_203 dX11_seenAs_69 rfl mo_203 fs_11_149 ff_11_149 rfl).trans ?_
  refine gR_c fun g1 => ?_
  refine (s_iload_n 73 mc_203 dX11_seenAs_72 rfl rfl rfl).trans ?_
  refine (s_iload 75 mc_203 dX11_seenAs_73 rfl rfl).trans ?_
  refine (s_istI 78 mc_203 dX11_seenAs_75 rfl mo_203 mm_11_438 (by decide) ms_186 mr_186 ma_186 (Nat.le_of_ble_eq_true rfl) rfl rfl (Nat.le_of_ble_eq_true rfl)).trans ?_
  refine bI_c fun r2 h1 => ?_
  refine (s_baload 79 mc_203 dX11_seenAs_78 rfl).trans ?_
  refine aZ_c fun g3 => ?_
  refine (s_if_eq 89 82 mc_203 dX11_seenAs_79 rfl rfl).trans ?_
  refine ite_c ?_ ?_
  · skip
    refine (s_iinc 1 92 mc_203 dX11_seenAs_89 rfl rfl (Nat.le_of_ble_eq_true rfl) (by decide) rfl).trans ?_
    refine (s_goto 38 mc_203 dX11_seenAs_92 rfl).trans ?_
    rfl
  · skip
    refine (s_aload_n 83 mc_203 dX11_seenAs_82 rfl rfl rfl).trans ?_
    refine (s_getfR 86 mc_203 dX11_seenAs_83 rfl mo_203 fs_11_128 ff_11_128 rfl).trans ?_
    refine gR_c fun g4 => ?_
    refine (s_iload_n 87 mc_203 dX11_seenAs_86 rfl rfl rfl).trans ?_
    refine (s_iaload 88 mc_203 dX11_seenAs_87 rfl).trans ?_
    refine aI_c fun g5 => ?_
    exact s_iret mc_203 dX11_seenAs_88 mt_203
/-- FiveLandsModel.isFreed(II)Z -/
theorem k_204 {X : Ctx} {d : Nat} (x0 : Nat) (x1 : Int32) (x2 : Int32) (h : Hp) : K X (d + 1) 204 [.ref x0, .int x1, .int x2] h = gI h 11 x0 63 fun g1 => if ¬ ((g1 >>> (x2 &&& 31)) &&& 1) = 1 then some (some (.int 0), h) else gR h 11 x0 50 fun g2 => aI X h g2 x1 fun g3 => if g3 = x2 then some (some (.int 0), h) else gR h 11 x0 50 fun g4 => aI X h g4 x1 fun g5 => gd (hS h x0 = (12, 0)) (bI (K X d 202 [.ref x0, .int x2, .int g5] h) fun r6 h1 => if ¬ r6 = 2 then some (some (.int 0), h1) else some (some (.int 1), h1)) := by
  show sem (X, K X d) 204 0 [some (.ref x0), some (.int x1), some (.int x2)] [] h = _
  refine (s_aload_n 1 mc_204 dX11_isFreed_0 rfl rfl rfl).trans ?_
  refine (s_getfI 4 mc_204 dX11_isFreed_1 rfl mo_204 fs_11_457 ff_11_457 (Or.inl rfl)).trans ?_
  refine gI_c fun g1 => ?_
  refine (s_iload_n 5 mc_204 dX11_isFreed_4 rfl rfl rfl).trans ?_
  refine (s_ishr 6 mc_204 dX11_isFreed_5 rfl).trans ?_
  refine (s_iconst 7 1 mc_204 dX11_isFreed_6 rfl (by decide)).trans ?_
  refine (s_iand 8 mc_204 dX11_isFreed_7 rfl).trans ?_
  refine (s_iconst 9 1 mc_204 dX11_isFreed_8 rfl (by decide)).trans ?_
  refine (s_icmp_ne 41 12 mc_204 dX11_isFreed_9 rfl rfl).trans ?_
  refine ite_c ?_ ?_
  · skip
    refine (s_iconst 42 0 mc_204 dX11_isFreed_41 rfl (by decide)).trans ?_
    exact s_zret0 mc_204 dX11_isFreed_42 mt_204
  · skip
    refine (s_aload_n 13 mc_204 dX11_isFreed_12 rfl rfl rfl).trans ?_
    refine (s_getfR 16 mc_204 dX11_isFreed_13 rfl mo_204 fs_11_134 ff_11_134 rfl).trans ?_
    refine gR_c fun g2 => ?_
    refine (s_iload_n 17 mc_204 dX11_isFreed_16 rfl rfl rfl).trans ?_
    refine (s_iaload 18 mc_204 dX11_isFreed_17 rfl).trans ?_
    refine aI_c fun g3 => ?_
    refine (s_iload_n 19 mc_204 dX11_isFreed_18 rfl rfl rfl).trans ?_
    refine (s_icmp_eq 41 22 mc_204 dX11_isFreed_19 rfl rfl).trans ?_
    refine ite_c ?_ ?_
    · skip
      refine (s_iconst 42 0 mc_204 dX11_isFreed_41 rfl (by decide)).trans ?_
      exact s_zret0 mc_204 dX11_isFreed_42 mt_204
    · skip
      refine (s_aload_n 23 mc_204 dX11_isFreed_22 rfl rfl rfl).trans ?_
      refine (s_iload_n 24 mc_204 dX11_isFreed_23 rfl rfl rfl).trans ?_
      refine (s_aload_n 25 mc_204 dX11_isFreed_24 rfl rfl rfl).trans ?_
      refine (s_getfR 28 mc_204 dX11_isFreed_25 rfl mo_204 fs_11_134 ff_11_134 rfl).trans ?_
      refine gR_c fun g4 => ?_
      refine (s_iload_n 29 mc_204 dX11_isFreed_28 rfl rfl rfl).trans ?_
      refine (s_iaload 30 mc_204 dX11_isFreed_29 rfl).trans ?_
      refine aI_c fun g5 => ?_
      refine (s_iviI 33 mc_204 dX11_isFreed_30 rfl mo_204 mm_11_476 (by decide) ms_202 mi_202 mr_202 ma_202 mo_202 (by decide) (Nat.le_of_ble_eq_true rfl) rfl rfl (Nat.le_of_ble_eq_true rfl)).trans ?_
      refine gd_c ?_
      refine bI_c fun r6 h1 => ?_
      refine (s_iconst 34 2 mc_204 dX11_isFreed_33 rfl (by decide)).trans ?_
      refine (s_icmp_ne 41 37 mc_204 dX11_isFreed_34 rfl rfl).trans ?_
      refine ite_c ?_ ?_
      · skip
        refine (s_iconst 42 0 mc_204 dX11_isFreed_41 rfl (by decide)).trans ?_
        exact s_zret0 mc_204 dX11_isFreed_42 mt_204
      · skip
        refine (s_iconst 38 1 mc_204 dX11_isFreed_37 rfl (by decide)).trans ?_
        refine (s_goto 42 mc_204 dX11_isFreed_38 rfl).trans ?_
        exact s_zret1 mc_204 dX11_isFreed_42 mt_204
/-- FiveLandsModel.rate(II)I -/
theorem k_205 {X : Ctx} {d : Nat} (x0 : Nat) (x1 : Int32) (x2 : Int32) (h : Hp) : K X (d + 1) 205 [.ref x0, .int x1, .int x2] h = sem (X, K X d) 205 2 [some (.ref x0), some (.int x1), some (.int x2), some (.int 0), none, none] [] h := by
  show sem (X, K X d) 205 0 [some (.ref x0), some (.int x1), some (.int x2), none, none, none] [] h = _
  refine (s_iconst 1 0 mc_205 dX11_rate_0 rfl (by decide)).trans ?_
  refine (s_istore_n 2 mc_205 dX11_rate_1 rfl rfl (Nat.le_of_ble_eq_true rfl) rfl).trans ?_
  rfl
theorem b_205_2 {X : Ctx} {d : Nat} (x0 : Nat) (x1 : Int32) (x2 : Int32) (x3 : Int32) (v4 : Option Value) (v5 : Option Value)  (h : Hp) : sem (X, K X d) 205 2 [some (.ref x0), some (.int x1), some (.int x2), some (.int x3), v4, v5] [] h = gR h 11 x0 9 fun g1 => aI X h g1 x1 fun g2 => if g2 ≤ x3 then some (some (.int 0), h) else gR h 11 x0 10 fun g3 => aI X h g3 ((20 * x1) + x3) fun g4 => if ¬ g4 = 1 then sem (X, K X d) 205 2 [some (.ref x0), some (.int x1), some (.int x2), some (.int (x3 + 1)), some (.int ((20 * x1) + x3)), v5] [] h else gR h 11 x0 11 fun g5 => aI X h g5 ((20 * x1) + x3) fun g6 => if g6 = x2 then gR h 11 x0 14 fun g7 => aI X h g7 ((20 * x1) + x3) fun g8 => gR h 11 x0 13 fun g9 => aI X h g9 ((20 * x1) + x3) fun g10 => if g8 ≤ g10 then sem (X, K X d) 205 88 [some (.ref x0), some (.int x1), some (.int x2), some (.int x3), some (.int ((20 * x1) + x3)), v5] [] h else gR h 11 x0 13 fun g11 => aI X h g11 ((20 * x1) + x3) fun g12 => gR h 11 x0 14 fun g13 => aI X h g13 ((20 * x1) + x3) fun g14 => gd (hS h x0 = (12, 0)) (bI (K X d 185 [.ref x0, .int x1, .int g12, .int g14] h) fun r15 h1 => if r15 = 1 then sem (X, K X d) 205 88 [some (.ref x0), some (.int x1), some (.int x2), some (.int x3), some (.int ((20 * x1) + x3)), v5] [] h1 else sem (X, K X d) 205 2 [some (.ref x0), some (.int x1), some (.int x2), some (.int (x3 + 1)), some (.int ((20 * x1) + x3)), v5] [] h1) else sem (X, K X d) 205 2 [some (.ref x0), some (.int x1), some (.int x2), some (.int (x3 + 1)), some (.int ((20 * x1) + x3)), v5] [] h := by
  refine (s_iload_n 3 mc_205 dX11_rate_2 rfl rfl rfl).trans ?_
  refine (s_aload_n 4 mc_205 dX11_rate_3 rfl rfl rfl).trans ?_
  refine (s_getfR 7 mc_205 dX11_rate_4 rfl mo_205 fs_11_41 ff_11_41 rfl).trans ?_
  refine gR_c fun g1 => ?_
  refine (s_iload_n 8 mc_205 dX11_rate_7 rfl rfl rfl).trans ?_
  refine (s_iaload 9 mc_205 dX11_rate_8 rfl).trans ?_
  refine aI_c fun g2 => ?_
  refine (s_icmp_ge 139 12 mc_205 dX11_rate_9 rfl rfl).trans ?_
  refine ite_c ?_ ?_
  · skip
    refine (s_iconst 140 0 mc_205 dX11_rate_139 rfl (by decide)).trans ?_
    exact s_iret mc_205 dX11_rate_140 mt_205
  · skip
    refine (s_bipush 14 20 mc_205 dX11_rate_12 rfl (by decide)).trans ?_
    refine (s_iload_n 15 mc_205 dX11_rate_14 rfl rfl rfl).trans ?_
    refine (s_imul 16 mc_205 dX11_rate_15 rfl).trans ?_
    refine (s_iload_n 17 mc_205 dX11_rate_16 rfl rfl rfl).trans ?_
    refine (s_iadd 18 mc_205 dX11_rate_17 rfl).trans ?_
    refine (s_istore 20 mc_205 dX11_rate_18 rfl (Nat.le_of_ble_eq_true rfl) rfl).trans ?_
    refine (s_aload_n 21 mc_205 dX11_rate_20 rfl rfl rfl).trans ?_
    refine (s_getfR 24 mc_205 dX11_rate_21 rfl mo_205 fs_11_44 ff_11_44 rfl).trans ?_
    refine gR_c fun g3 => ?_
    refine (s_iload 26 mc_205 dX11_rate_24 rfl rfl).trans ?_
    refine (s_iaload 27 mc_205 dX11_rate_26 rfl).trans ?_
    refine aI_c fun g4 => ?_
    refine (s_iconst 28 1 mc_205 dX11_rate_27 rfl (by decide)).trans ?_
    refine (s_icmp_ne 133 31 mc_205 dX11_rate_28 rfl rfl).trans ?_
    refine ite_c ?_ ?_
    · skip
      refine (s_iinc 1 136 mc_205 dX11_rate_133 rfl rfl (Nat.le_of_ble_eq_true rfl) (by decide) rfl).trans ?_
      refine (s_goto 2 mc_205 dX11_rate_136 rfl).trans ?_
      rfl
    · skip
      refine (s_aload_n 32 mc_205 dX11_rate_31 rfl rfl rfl).trans ?_
      refine (s_getfR 35 mc_205 dX11_rate_32 rfl mo_205 fs_11_47 ff_11_47 rfl).trans ?_
      refine gR_c fun g5 => ?_
      refine (s_iload 37 mc_205 dX11_rate_35 rfl rfl).trans ?_
      refine (s_iaload 38 mc_205 dX11_rate_37 rfl).trans ?_
      refine aI_c fun g6 => ?_
      refine (s_iload_n 39 mc_205 dX11_rate_38 rfl rfl rfl).trans ?_
      refine (s_icmp_eq 45 42 mc_205 dX11_rate_39 rfl rfl).trans ?_
      refine ite_c ?_ ?_
      · skip
        refine (s_aload_n 46 mc_205 dX11_rate_45 rfl rfl rfl).trans ?_
        refine (s_getfR 49 mc_205 dX11_rate_46 rfl mo_205 fs_11_56 ff_11_56 rfl).trans ?_
        refine gR_c fun g7 => ?_
        refine (s_iload 51 mc_205 dX11_rate_49 rfl rfl).trans ?_
        refine (s_iaload 52 mc_205 dX11_rate_51 rfl).trans ?_
        refine aI_c fun g8 => ?_
        refine (s_aload_n 53 mc_205 dX11_rate_52 rfl rfl rfl).trans ?_
        refine (s_getfR 56 mc_205 dX11_rate_53 rfl mo_205 fs_11_53 ff_11_53 rfl).trans ?_
        refine gR_c fun g9 => ?_
        refine (s_iload 58 mc_205 dX11_rate_56 rfl rfl).trans ?_
        refine (s_iaload 59 mc_205 dX11_rate_58 rfl).trans ?_
        refine aI_c fun g10 => ?_
        refine (s_icmp_le 88 62 mc_205 dX11_rate_59 rfl rfl).trans ?_
        refine ite_c ?_ ?_
        · skip
          rfl
        · skip
          refine (s_aload_n 63 mc_205 dX11_rate_62 rfl rfl rfl).trans ?_
          refine (s_iload_n 64 mc_205 dX11_rate_63 rfl rfl rfl).trans ?_
          refine (s_aload_n 65 mc_205 dX11_rate_64 rfl rfl rfl).trans ?_
          refine (s_getfR 68 mc_205 dX11_rate_65 rfl mo_205 fs_11_53 ff_11_53 rfl).trans ?_
          refine gR_c fun g11 => ?_
          refine (s_iload 70 mc_205 dX11_rate_68 rfl rfl).trans ?_
          refine (s_iaload 71 mc_205 dX11_rate_70 rfl).trans ?_
          refine aI_c fun g12 => ?_
          refine (s_aload_n 72 mc_205 dX11_rate_71 rfl rfl rfl).trans ?_
          refine (s_getfR 75 mc_205 dX11_rate_72 rfl mo_205 fs_11_56 ff_11_56 rfl).trans ?_
          refine gR_c fun g13 => ?_
          refine (s_iload 77 mc_205 dX11_rate_75 rfl rfl).trans ?_
          refine (s_iaload 78 mc_205 dX11_rate_77 rfl).trans ?_
          refine aI_c fun g14 => ?_
          refine (s_iviI 81 mc_205 dX11_rate_78 rfl mo_205 mm_11_435 (by decide) ms_185 mi_185 mr_185 ma_185 mo_185 (by decide) (Nat.le_of_ble_eq_true rfl) rfl rfl (Nat.le_of_ble_eq_true rfl)).trans ?_
          refine gd_c ?_
          refine bI_c fun r15 h1 => ?_
          refine (s_iconst 82 1 mc_205 dX11_rate_81 rfl (by decide)).trans ?_
          refine (s_icmp_eq 88 85 mc_205 dX11_rate_82 rfl rfl).trans ?_
          refine ite_c ?_ ?_
          · skip
            rfl
          · skip
            refine (s_goto 133 mc_205 dX11_rate_85 rfl).trans ?_
            refine (s_iinc 1 136 mc_205 dX11_rate_133 rfl rfl (Nat.le_of_ble_eq_true rfl) (by decide) rfl).trans ?_
            refine (s_goto 2 mc_205 dX11_rate_136 rfl).trans ?_
            rfl
      · skip
        refine (s_goto 133 mc_205 dX11_rate_42 rfl).trans ?_
        refine (s_iinc 1 136 mc_205 dX11_rate_133 rfl rfl (Nat.le_of_ble_eq_true rfl) (by decide) rfl).trans ?_
        refine (s_goto 2 mc_205 dX11_rate_136 rfl).trans ?_
        rfl
theorem b_205_88 {X : Ctx} {d : Nat} (x0 : Nat) (x1 : Int32) (v2 : Option Value) (v3 : Option Value) (x4 : Int32) (v5 : Option Value)  (h : Hp) : sem (X, K X d) 205 88 [some (.ref x0), some (.int x1), v2, v3, some (.int x4), v5] [] h = gR h 11 x0 12 fun g1 => aI X h g1 x4 fun g2 => gR h 11 x0 13 fun g3 => aI X h g3 x4 fun g4 => gd (hS h x0 = (12, 0)) (bI (K X d 185 [.ref x0, .int x1, .int g2, .int g4] h) fun r5 h1 => if 0 ≤ r5 then if r5 ≤ 100 then some (some (.int r5), h1) else some (some (.int 100), h1) else some (some (.int 0), h1)) := by
  refine (s_aload_n 89 mc_205 dX11_rate_88 rfl rfl rfl).trans ?_
  refine (s_iload_n 90 mc_205 dX11_rate_89 rfl rfl rfl).trans ?_
  refine (s_aload_n 91 mc_205 dX11_rate_90 rfl rfl rfl).trans ?_
  refine (s_getfR 94 mc_205 dX11_rate_91 rfl mo_205 fs_11_50 ff_11_50 rfl).trans ?_
  refine gR_c fun g1 => ?_
  refine (s_iload 96 mc_205 dX11_rate_94 rfl rfl).trans ?_
  refine (s_iaload 97 mc_205 dX11_rate_96 rfl).trans ?_
  refine aI_c fun g2 => ?_
  refine (s_aload_n 98 mc_205 dX11_rate_97 rfl rfl rfl).trans ?_
  refine (s_getfR 101 mc_205 dX11_rate_98 rfl mo_205 fs_11_53 ff_11_53 rfl).trans ?_
  refine gR_c fun g3 => ?_
  refine (s_iload 103 mc_205 dX11_rate_101 rfl rfl).trans ?_
  refine (s_iaload 104 mc_205 dX11_rate_103 rfl).trans ?_
  refine aI_c fun g4 => ?_
  refine (s_iviI 107 mc_205 dX11_rate_104 rfl mo_205 mm_11_435 (by decide) ms_185 mi_185 mr_185 ma_185 mo_185 (by decide) (Nat.le_of_ble_eq_true rfl) rfl rfl (Nat.le_of_ble_eq_true rfl)).trans ?_
  refine gd_c ?_
  refine bI_c fun r5 h1 => ?_
  refine (s_istore 109 mc_205 dX11_rate_107 rfl (Nat.le_of_ble_eq_true rfl) rfl).trans ?_
  refine (s_iload 111 mc_205 dX11_rate_109 rfl rfl).trans ?_
  refine (s_if_ge 118 114 mc_205 dX11_rate_111 rfl rfl).trans ?_
  refine ite_c ?_ ?_
  · skip
    refine (s_iload 120 mc_205 dX11_rate_118 rfl rfl).trans ?_
    refine (s_bipush 122 100 mc_205 dX11_rate_120 rfl (by decide)).trans ?_
    refine (s_icmp_le 130 125 mc_205 dX11_rate_122 rfl rfl).trans ?_
    refine ite_c ?_ ?_
    · skip
      refine (s_iload 132 mc_205 dX11_rate_130 rfl rfl).trans ?_
      exact s_iret mc_205 dX11_rate_132 mt_205
    · skip
      refine (s_bipush 127 100 mc_205 dX11_rate_125 rfl (by decide)).trans ?_
      refine (s_goto 132 mc_205 dX11_rate_127 rfl).trans ?_
      exact s_iret mc_205 dX11_rate_132 mt_205
  · skip
    refine (s_iconst 115 0 mc_205 dX11_rate_114 rfl (by decide)).trans ?_
    refine (s_goto 132 mc_205 dX11_rate_115 rfl).trans ?_
    exact s_iret mc_205 dX11_rate_132 mt_205
/-- FiveLandsModel.bounded(III)I -/
theorem k_206 {X : Ctx} {d : Nat} (x0 : Nat) (x1 : Int32) (x2 : Int32) (x3 : Int32) (h : Hp) : K X (d + 1) 206 [.ref x0, .int x1, .int x2, .int x3] h = gR h 11 x0 58 fun g1 => aI X h g1 x2 fun g2 => if ¬ ((g2 >>> (x3 &&& 31)) &&& 1) = 1 then gR h 11 x0 59 fun g3 => aI X h g3 ((6 * x2) + x3) fun g4 => if g4 = (-1) then some (some (.int x1), h) else if x1 ≤ g4 then some (some (.int x1), h) else some (some (.int g4), h) else some (some (.int 0), h) := by
  show sem (X, K X d) 206 0 [some (.ref x0), some (.int x1), some (.int x2), some (.int x3), none] [] h = _
  refine (s_aload_n 1 mc_206 dX11_bounded_0 rfl rfl rfl).trans ?_
  refine (s_getfR 4 mc_206 dX11_bounded_1 rfl mo_206 fs_11_140 ff_11_140 rfl).trans ?_
  refine gR_c fun g1 => ?_
  refine (s_iload_n 5 mc_206 dX11_bounded_4 rfl rfl rfl).trans ?_
  refine (s_iaload 6 mc_206 dX11_bounded_5 rfl).trans ?_
  refine aI_c fun g2 => ?_
  refine (s_iload_n 7 mc_206 dX11_bounded_6 rfl rfl rfl).trans ?_
  refine (s_ishr 8 mc_206 dX11_bounded_7 rfl).trans ?_
  refine (s_iconst 9 1 mc_206 dX11_bounded_8 rfl (by decide)).trans ?_
  refine (s_iand 10 mc_206 dX11_bounded_9 rfl).trans ?_
  refine (s_iconst 11 1 mc_206 dX11_bounded_10 rfl (by decide)).trans ?_
  refine (s_icmp_ne 16 14 mc_206 dX11_bounded_11 rfl rfl).trans ?_
  refine ite_c ?_ ?_
  · skip
    refine (s_aload_n 17 mc_206 dX11_bounded_16 rfl rfl rfl).trans ?_
    refine (s_getfR 20 mc_206 dX11_bounded_17 rfl mo_206 fs_11_143 ff_11_143 rfl).trans ?_
    refine gR_c fun g3 => ?_
    refine (s_bipush 22 6 mc_206 dX11_bounded_20 rfl (by decide)).trans ?_
    refine (s_iload_n 23 mc_206 dX11_bounded_22 rfl rfl rfl).trans ?_
    refine (s_imul 24 mc_206 dX11_bounded_23 rfl).trans ?_
    refine (s_iload_n 25 mc_206 dX11_bounded_24 rfl rfl rfl).trans ?_
    refine (s_iadd 26 mc_206 dX11_bounded_25 rfl).trans ?_
    refine (s_iaload 27 mc_206 dX11_bounded_26 rfl).trans ?_
    refine aI_c fun g4 => ?_
    refine (s_istore 29 mc_206 dX11_bounded_27 rfl (Nat.le_of_ble_eq_true rfl) rfl).trans ?_
    refine (s_iload 31 mc_206 dX11_bounded_29 rfl rfl).trans ?_
    refine (s_iconst 32 (-1) mc_206 dX11_bounded_31 rfl (by decide)).trans ?_
    refine (s_icmp_eq 46 35 mc_206 dX11_bounded_32 rfl rfl).trans ?_
    refine ite_c ?_ ?_
    · skip
      refine (s_iload_n 47 mc_206 dX11_bounded_46 rfl rfl rfl).trans ?_
      exact s_iret mc_206 dX11_bounded_47 mt_206
    · skip
      refine (s_iload 37 mc_206 dX11_bounded_35 rfl rfl).trans ?_
      refine (s_iload_n 38 mc_206 dX11_bounded_37 rfl rfl rfl).trans ?_
      refine (s_icmp_ge 46 41 mc_206 dX11_bounded_38 rfl rfl).trans ?_
      refine ite_c ?_ ?_
      · skip
        refine (s_iload_n 47 mc_206 dX11_bounded_46 rfl rfl rfl).trans ?_
        exact s_iret mc_206 dX11_bounded_47 mt_206
      · skip
        refine (s_iload 43 mc_206 dX11_bounded_41 rfl rfl).trans ?_
        refine (s_goto 47 mc_206 dX11_bounded_43 rfl).trans ?_
        exact s_iret mc_206 dX11_bounded_47 mt_206
  · skip
    refine (s_iconst 15 0 mc_206 dX11_bounded_14 rfl (by decide)).trans ?_
    exact s_iret mc_206 dX11_bounded_15 mt_206
/-- FiveLandsModel.ahead(II)J -/
theorem k_207 {X : Ctx} {d : Nat} (x0 : Nat) (x1 : Int32) (x2 : Int32) (h : Hp) : K X (d + 1) 207 [.ref x0, .int x1, .int x2] h = gI h 11 x0 63 fun g1 => if ¬ ((g1 >>> (x2 &&& 31)) &&& 1) = 1 then gd (hS h x0 = (12, 0)) (bI (K X d 203 [.ref x0, .int x1, .int x2] h) fun r2 h1 => gd (hS h1 x0 = (12, 0)) (bV (K X d 191 [.ref x0, .int x2] h1) fun h2 => gR h2 11 x0 32 fun g3 => gR h2 11 x0 50 fun g4 => aI X h2 g4 x1 fun g5 => if ¬ g5 = x2 then sem (X, K X d) 207 82 [some (.ref x0), some (.int x1), some (.int x2), some (.int r2), none, none] [.int 0, .int 6, .ref g3] h2 else sem (X, K X d) 207 82 [some (.ref x0), some (.int x1), some (.int x2), some (.int r2), none, none] [.int 1, .int 6, .ref g3] h2)) else gd (hS h x0 = (12, 0)) (bI (K X d 204 [.ref x0, .int x1, .int x2] h) fun r6 h3 => if r6 = 0 then gI h3 11 x0 57 fun g7 => gd (hS h3 x0 = (12, 0)) (bJ (K X d 200 [.ref x0, .int x2, .int g7] h3) fun r8 h4 => gR h4 11 x0 49 fun g9 => aI X h4 g9 x1 fun g10 => gI h4 11 x0 57 fun g11 => gd (¬ (g11 : Int32).toInt64 = 0) (some (some (.long ((r8 * (g10 : Int32).toInt64) / (g11 : Int32).toInt64)), h4))) else some (some (.long 0), h3)) := by
  show sem (X, K X d) 207 0 [some (.ref x0), some (.int x1), some (.int x2), none, none, none] [] h = _
  refine (s_aload_n 1 mc_207 dX11_ahead_0 rfl rfl rfl).trans ?_
  refine (s_getfI 4 mc_207 dX11_ahead_1 rfl mo_207 fs_11_457 ff_11_457 (Or.inl rfl)).trans ?_
  refine gI_c fun g1 => ?_
  refine (s_iload_n 5 mc_207 dX11_ahead_4 rfl rfl rfl).trans ?_
  refine (s_ishr 6 mc_207 dX11_ahead_5 rfl).trans ?_
  refine (s_iconst 7 1 mc_207 dX11_ahead_6 rfl (by decide)).trans ?_
  refine (s_iand 8 mc_207 dX11_ahead_7 rfl).trans ?_
  refine (s_iconst 9 1 mc_207 dX11_ahead_8 rfl (by decide)).trans ?_
  refine (s_icmp_ne 49 12 mc_207 dX11_ahead_9 rfl rfl).trans ?_
  refine ite_c ?_ ?_
  · skip
    refine (s_aload_n 50 mc_207 dX11_ahead_49 rfl rfl rfl).trans ?_
    refine (s_iload_n 51 mc_207 dX11_ahead_50 rfl rfl rfl).trans ?_
    refine (s_iload_n 52 mc_207 dX11_ahead_51 rfl rfl rfl).trans ?_
    refine (s_iviI 55 mc_207 dX11_ahead_52 rfl mo_207 mm_11_482 (by decide) ms_203 mi_203 mr_203 ma_203 mo_203 (by decide) (Nat.le_of_ble_eq_true rfl) rfl rfl (Nat.le_of_ble_eq_true rfl)).trans ?_
    refine gd_c ?_
    refine bI_c fun r2 h1 => ?_
    refine (s_istore_n 56 mc_207 dX11_ahead_55 rfl rfl (Nat.le_of_ble_eq_true rfl) rfl).trans ?_
    refine (s_aload_n 57 mc_207 dX11_ahead_56 rfl rfl rfl).trans ?_
    refine (s_iload_n 58 mc_207 dX11_ahead_57 rfl rfl rfl).trans ?_
    refine (s_iviV 61 mc_207 dX11_ahead_58 rfl mo_207 mm_11_432 (by decide) ms_191 mi_191 mr_191 ma_191 mo_191 (by decide) (Nat.le_of_ble_eq_true rfl) rfl rfl (Nat.le_of_ble_eq_true rfl)).trans ?_
    refine gd_c ?_
    refine bV_c fun h2 => ?_
    refine (s_aload_n 62 mc_207 dX11_ahead_61 rfl rfl rfl).trans ?_
    refine (s_getfR 65 mc_207 dX11_ahead_62 rfl mo_207 fs_11_111 ff_11_111 rfl).trans ?_
    refine gR_c fun g3 => ?_
    refine (s_bipush 67 6 mc_207 dX11_ahead_65 rfl (by decide)).trans ?_
    refine (s_aload_n 68 mc_207 dX11_ahead_67 rfl rfl rfl).trans ?_
    refine (s_getfR 71 mc_207 dX11_ahead_68 rfl mo_207 fs_11_134 ff_11_134 rfl).trans ?_
    refine gR_c fun g4 => ?_
    refine (s_iload_n 72 mc_207 dX11_ahead_71 rfl rfl rfl).trans ?_
    refine (s_iaload 73 mc_207 dX11_ahead_72 rfl).trans ?_
    refine aI_c fun g5 => ?_
    refine (s_iload_n 74 mc_207 dX11_ahead_73 rfl rfl rfl).trans ?_
    refine (s_icmp_ne 81 77 mc_207 dX11_ahead_74 rfl rfl).trans ?_
    refine ite_c ?_ ?_
    · skip
      refine (s_iconst 82 0 mc_207 dX11_ahead_81 rfl (by decide)).trans ?_
      rfl
    · skip
      refine (s_iconst 78 1 mc_207 dX11_ahead_77 rfl (by decide)).trans ?_
      refine (s_goto 82 mc_207 dX11_ahead_78 rfl).trans ?_
      rfl
  · skip
    refine (s_aload_n 13 mc_207 dX11_ahead_12 rfl rfl rfl).trans ?_
    refine (s_iload_n 14 mc_207 dX11_ahead_13 rfl rfl rfl).trans ?_
    refine (s_iload_n 15 mc_207 dX11_ahead_14 rfl rfl rfl).trans ?_
    refine (s_iviI 18 mc_207 dX11_ahead_15 rfl mo_207 mm_11_479 (by decide) ms_204 mi_204 mr_204 ma_204 mo_204 (by decide) (Nat.le_of_ble_eq_true rfl) rfl rfl (Nat.le_of_ble_eq_true rfl)).trans ?_
    refine gd_c ?_
    refine bI_c fun r6 h3 => ?_
    refine (s_if_eq 25 21 mc_207 dX11_ahead_18 rfl rfl).trans ?_
    refine ite_c ?_ ?_
    · skip
      refine (s_aload_n 26 mc_207 dX11_ahead_25 rfl rfl rfl).trans ?_
      refine (s_iload_n 27 mc_207 dX11_ahead_26 rfl rfl rfl).trans ?_
      refine (s_aload_n 28 mc_207 dX11_ahead_27 rfl rfl rfl).trans ?_
      refine (s_getfI 31 mc_207 dX11_ahead_28 rfl mo_207 fs_11_424 ff_11_424 (Or.inl rfl)).trans ?_
      refine gI_c fun g7 => ?_
      refine (s_iviJ 34 mc_207 dX11_ahead_31 rfl mo_207 mm_11_470 (by decide) ms_200 mi_200 mr_200 ma_200 mo_200 (by decide) (Nat.le_of_ble_eq_true rfl) rfl rfl (Nat.le_of_ble_eq_true rfl)).trans ?_
      refine gd_c ?_
      refine bJ_c fun r8 h4 => ?_
      refine (s_aload_n 35 mc_207 dX11_ahead_34 rfl rfl rfl).trans ?_
      refine (s_getfR 38 mc_207 dX11_ahead_35 rfl mo_207 fs_11_131 ff_11_131 rfl).trans ?_
      refine gR_c fun g9 => ?_
      refine (s_iload_n 39 mc_207 dX11_ahead_38 rfl rfl rfl).trans ?_
      refine (s_iaload 40 mc_207 dX11_ahead_39 rfl).trans ?_
      refine aI_c fun g10 => ?_
      refine (s_i2l 41 mc_207 dX11_ahead_40 rfl).trans ?_
      refine (s_lmul 42 mc_207 dX11_ahead_41 rfl).trans ?_
      refine (s_aload_n 43 mc_207 dX11_ahead_42 rfl rfl rfl).trans ?_
      refine (s_getfI 46 mc_207 dX11_ahead_43 rfl mo_207 fs_11_424 ff_11_424 (Or.inl rfl)).trans ?_
      refine gI_c fun g11 => ?_
      refine (s_i2l 47 mc_207 dX11_ahead_46 rfl).trans ?_
      refine (s_ldiv 48 mc_207 dX11_ahead_47 rfl).trans ?_
      refine gd_c ?_
      exact s_lret mc_207 dX11_ahead_48 mt_207
    · skip
      refine (s_lconst 22 0 mc_207 dX11_ahead_21 rfl (by decide)).trans ?_
      refine (s_goto 48 mc_207 dX11_ahead_22 rfl).trans ?_
      exact s_lret mc_207 dX11_ahead_48 mt_207
theorem b_207_82 {X : Ctx} {d : Nat} (x0 : Nat) (x1 : Int32) (x2 : Int32) (v3 : Option Value) (v4 : Option Value) (v5 : Option Value) (s0 : Nat) (s1 : Int32) (s2 : Int32) (h : Hp) : sem (X, K X d) 207 82 [some (.ref x0), some (.int x1), some (.int x2), v3, v4, v5] [.int s2, .int s1, .ref s0] h = wI h s0 s1 s2 fun h1 => gR h1 11 x0 32 fun g1 => gR h1 11 x0 51 fun g2 => aI X h1 g2 x1 fun g3 => if ¬ g3 = x2 then sem (X, K X d) 207 104 [some (.ref x0), some (.int x1), some (.int x2), v3, v4, v5] [.int 0, .int 7, .ref g1] h1 else sem (X, K X d) 207 104 [some (.ref x0), some (.int x1), some (.int x2), v3, v4, v5] [.int 1, .int 7, .ref g1] h1 := by
  refine (s_iastore 83 mc_207 dX11_ahead_82 rfl).trans ?_
  refine wI_c fun h1 => ?_
  refine (s_aload_n 84 mc_207 dX11_ahead_83 rfl rfl rfl).trans ?_
  refine (s_getfR 87 mc_207 dX11_ahead_84 rfl mo_207 fs_11_111 ff_11_111 rfl).trans ?_
  refine gR_c fun g1 => ?_
  refine (s_bipush 89 7 mc_207 dX11_ahead_87 rfl (by decide)).trans ?_
  refine (s_aload_n 90 mc_207 dX11_ahead_89 rfl rfl rfl).trans ?_
  refine (s_getfR 93 mc_207 dX11_ahead_90 rfl mo_207 fs_11_137 ff_11_137 rfl).trans ?_
  refine gR_c fun g2 => ?_
  refine (s_iload_n 94 mc_207 dX11_ahead_93 rfl rfl rfl).trans ?_
  refine (s_iaload 95 mc_207 dX11_ahead_94 rfl).trans ?_
  refine aI_c fun g3 => ?_
  refine (s_iload_n 96 mc_207 dX11_ahead_95 rfl rfl rfl).trans ?_
  refine (s_icmp_ne 103 99 mc_207 dX11_ahead_96 rfl rfl).trans ?_
  refine ite_c ?_ ?_
  · skip
    refine (s_iconst 104 0 mc_207 dX11_ahead_103 rfl (by decide)).trans ?_
    rfl
  · skip
    refine (s_iconst 100 1 mc_207 dX11_ahead_99 rfl (by decide)).trans ?_
    refine (s_goto 104 mc_207 dX11_ahead_100 rfl).trans ?_
    rfl
theorem b_207_104 {X : Ctx} {d : Nat} (x0 : Nat) (x1 : Int32) (x2 : Int32) (x3 : Int32) (v4 : Option Value) (v5 : Option Value) (s0 : Nat) (s1 : Int32) (s2 : Int32) (h : Hp) : sem (X, K X d) 207 104 [some (.ref x0), some (.int x1), some (.int x2), some (.int x3), v4, v5] [.int s2, .int s1, .ref s0] h = wI h s0 s1 s2 fun h1 => gR h1 11 x0 32 fun g1 => gR h1 11 x0 49 fun g2 => aI X h1 g2 x1 fun g3 => wI h1 g1 8 g3 fun h2 => gd (hS h2 x0 = (12, 0)) (bI (K X d 205 [.ref x0, .int x2, .int x3] h2) fun r4 h3 => sem (X, K X d) 207 129 [some (.ref x0), some (.int x1), some (.int x2), some (.int x3), some (.int r4), some (.int 0)] [] h3) := by
  refine (s_iastore 105 mc_207 dX11_ahead_104 rfl).trans ?_
  refine wI_c fun h1 => ?_
  refine (s_aload_n 106 mc_207 dX11_ahead_105 rfl rfl rfl).trans ?_
  refine (s_getfR 109 mc_207 dX11_ahead_106 rfl mo_207 fs_11_111 ff_11_111 rfl).trans ?_
  refine gR_c fun g1 => ?_
  refine (s_bipush 111 8 mc_207 dX11_ahead_109 rfl (by decide)).trans ?_
  refine (s_aload_n 112 mc_207 dX11_ahead_111 rfl rfl rfl).trans ?_
  refine (s_getfR 115 mc_207 dX11_ahead_112 rfl mo_207 fs_11_131 ff_11_131 rfl).trans ?_
  refine gR_c fun g2 => ?_
  refine (s_iload_n 116 mc_207 dX11_ahead_115 rfl rfl rfl).trans ?_
  refine (s_iaload 117 mc_207 dX11_ahead_116 rfl).trans ?_
  refine aI_c fun g3 => ?_
  refine (s_iastore 118 mc_207 dX11_ahead_117 rfl).trans ?_
  refine wI_c fun h2 => ?_
  refine (s_aload_n 119 mc_207 dX11_ahead_118 rfl rfl rfl).trans ?_
  refine (s_iload_n 120 mc_207 dX11_ahead_119 rfl rfl rfl).trans ?_
  refine (s_iload_n 121 mc_207 dX11_ahead_120 rfl rfl rfl).trans ?_
  refine (s_iviI 124 mc_207 dX11_ahead_121 rfl mo_207 mm_11_485 (by decide) ms_205 mi_205 mr_205 ma_205 mo_205 (by decide) (Nat.le_of_ble_eq_true rfl) rfl rfl (Nat.le_of_ble_eq_true rfl)).trans ?_
  refine gd_c ?_
  refine bI_c fun r4 h3 => ?_
  refine (s_istore 126 mc_207 dX11_ahead_124 rfl (Nat.le_of_ble_eq_true rfl) rfl).trans ?_
  refine (s_iconst 127 0 mc_207 dX11_ahead_126 rfl (by decide)).trans ?_
  refine (s_istore 129 mc_207 dX11_ahead_127 rfl (Nat.le_of_ble_eq_true rfl) rfl).trans ?_
  rfl
theorem b_207_129 {X : Ctx} {d : Nat} (x0 : Nat) (x1 : Int32) (x2 : Int32) (x3 : Int32) (x4 : Int32) (x5 : Int32)  (h : Hp) : sem (X, K X d) 207 129 [some (.ref x0), some (.int x1), some (.int x2), some (.int x3), some (.int x4), some (.int x5)] [] h = if 6 ≤ x5 then gR h 11 x0 49 fun g1 => aI X h g1 x1 fun g2 => some (some (.long ((x4 : Int32).toInt64 * (g2 : Int32).toInt64)), h) else gI h 11 x0 63 fun g3 => if ¬ ((g3 >>> (x5 &&& 31)) &&& 1) = 1 then sem (X, K X d) 207 129 [some (.ref x0), some (.int x1), some (.int x2), some (.int x3), some (.int x4), some (.int (x5 + 1))] [] h else bI (K X d 186 [.int x2, .int x5] h) fun r4 h1 => gd (hS h1 x0 = (12, 0)) (bI (K X d 206 [.ref x0, .int x4, .int r4, .int x3] h1) fun r5 h2 => sem (X, K X d) 207 129 [some (.ref x0), some (.int x1), some (.int x2), some (.int x3), some (.int r5), some (.int (x5 + 1))] [] h2) := by
  refine (s_iload 131 mc_207 dX11_ahead_129 rfl rfl).trans ?_
  refine (s_bipush 133 6 mc_207 dX11_ahead_131 rfl (by decide)).trans ?_
  refine (s_icmp_ge 170 136 mc_207 dX11_ahead_133 rfl rfl).trans ?_
  refine ite_c ?_ ?_
  · skip
    refine (s_iload 172 mc_207 dX11_ahead_170 rfl rfl).trans ?_
    refine (s_i2l 173 mc_207 dX11_ahead_172 rfl).trans ?_
    refine (s_aload_n 174 mc_207 dX11_ahead_173 rfl rfl rfl).trans ?_
    refine (s_getfR 177 mc_207 dX11_ahead_174 rfl mo_207 fs_11_131 ff_11_131 rfl).trans ?_
    refine gR_c fun g1 => ?_
    refine (s_iload_n 178 mc_207 dX11_ahead_177 rfl rfl rfl).trans ?_
    refine (s_iaload 179 mc_207 dX11_ahead_178 rfl).trans ?_
    refine aI_c fun g2 => ?_
    refine (s_i2l 180 mc_207 dX11_ahead_179 rfl).trans ?_
    refine (s_lmul 181 mc_207 dX11_ahead_180 rfl).trans ?_
    exact s_lret mc_207 dX11_ahead_181 mt_207
  · skip
    refine (s_aload_n 137 mc_207 dX11_ahead_136 rfl rfl rfl).trans ?_
    refine (s_getfI 140 mc_207 dX11_ahead_137 rfl mo_207 fs_11_457 ff_11_457 (Or.inl rfl)).trans ?_
    refine gI_c fun g3 => ?_
    refine (s_iload 142 mc_207 dX11_ahead_140 rfl rfl).trans ?_
    refine (s_ishr 143 mc_207 dX11_ahead_142 rfl).trans ?_
    refine (s_iconst 144 1 mc_207 dX11_ahead_143 rfl (by decide)).trans ?_
    refine (s_iand 145 mc_207 dX11_ahead_144 rfl).trans ?_
    refine (s_iconst 146 1 mc_207 dX11_ahead_145 rfl (by decide)).trans ?_
    refine (s_icmp_ne 164 149 mc_207 dX11_ahead_146 rfl rfl).trans ?_
    refine ite_c ?_ ?_
    · skip
      refine (s_iinc 1 167 mc_207 dX11_ahead_164 rfl rfl (Nat.le_of_ble_eq_true rfl) (by decide) rfl).trans ?_
      refine (s_goto 129 mc_207 dX11_ahead_167 rfl).trans ?_
      rfl
    · skip
      refine (s_aload_n 150 mc_207 dX11_ahead_149 rfl rfl rfl).trans ?_
      refine (s_iload 152 mc_207 dX11_ahead_150 rfl rfl).trans ?_
      refine (s_iload_n 153 mc_207 dX11_ahead_152 rfl rfl rfl).trans ?_
      refine (s_iload 155 mc_207 dX11_ahead_153 rfl rfl).trans ?_
      refine (s_istI 158 mc_207 dX11_ahead_155 rfl mo_207 mm_11_438 (by decide) ms_186 mr_186 ma_186 (Nat.le_of_ble_eq_true rfl) rfl rfl (Nat.le_of_ble_eq_true rfl)).trans ?_
      refine bI_c fun r4 h1 => ?_
      refine (s_iload_n 159 mc_207 dX11_ahead_158 rfl rfl rfl).trans ?_
      refine (s_iviI 162 mc_207 dX11_ahead_159 rfl mo_207 mm_11_488 (by decide) ms_206 mi_206 mr_206 ma_206 mo_206 (by decide) (Nat.le_of_ble_eq_true rfl) rfl rfl (Nat.le_of_ble_eq_true rfl)).trans ?_
      refine gd_c ?_
      refine bI_c fun r5 h2 => ?_
      refine (s_istore 164 mc_207 dX11_ahead_162 rfl (Nat.le_of_ble_eq_true rfl) rfl).trans ?_
      refine (s_iinc 1 167 mc_207 dX11_ahead_164 rfl rfl (Nat.le_of_ble_eq_true rfl) (by decide) rfl).trans ?_
      refine (s_goto 129 mc_207 dX11_ahead_167 rfl).trans ?_
      rfl
/-- FiveLandsModel.isOff(II)Z -/
theorem k_208 {X : Ctx} {d : Nat} (x0 : Nat) (x1 : Int32) (x2 : Int32) (h : Hp) : K X (d + 1) 208 [.ref x0, .int x1, .int x2] h = if x1 = x2 then some (some (.int 0), h) else gd (hS h x0 = (12, 0)) (bI (K X d 202 [.ref x0, .int x1, .int x2] h) fun r1 h1 => if ¬ r1 = 1 then some (some (.int 0), h1) else some (some (.int 1), h1)) := by
  show sem (X, K X d) 208 0 [some (.ref x0), some (.int x1), some (.int x2)] [] h = _
  refine (s_iload_n 1 mc_208 dX11_isOff_0 rfl rfl rfl).trans ?_
  refine (s_iload_n 2 mc_208 dX11_isOff_1 rfl rfl rfl).trans ?_
  refine (s_icmp_eq 19 5 mc_208 dX11_isOff_2 rfl rfl).trans ?_
  refine ite_c ?_ ?_
  · skip
    refine (s_iconst 20 0 mc_208 dX11_isOff_19 rfl (by decide)).trans ?_
    exact s_zret0 mc_208 dX11_isOff_20 mt_208
  · skip
    refine (s_aload_n 6 mc_208 dX11_isOff_5 rfl rfl rfl).trans ?_
    refine (s_iload_n 7 mc_208 dX11_isOff_6 rfl rfl rfl).trans ?_
    refine (s_iload_n 8 mc_208 dX11_isOff_7 rfl rfl rfl).trans ?_
    refine (s_iviI 11 mc_208 dX11_isOff_8 rfl mo_208 mm_11_476 (by decide) ms_202 mi_202 mr_202 ma_202 mo_202 (by decide) (Nat.le_of_ble_eq_true rfl) rfl rfl (Nat.le_of_ble_eq_true rfl)).trans ?_
    refine gd_c ?_
    refine bI_c fun r1 h1 => ?_
    refine (s_iconst 12 1 mc_208 dX11_isOff_11 rfl (by decide)).trans ?_
    refine (s_icmp_ne 19 15 mc_208 dX11_isOff_12 rfl rfl).trans ?_
    refine ite_c ?_ ?_
    · skip
      refine (s_iconst 20 0 mc_208 dX11_isOff_19 rfl (by decide)).trans ?_
      exact s_zret0 mc_208 dX11_isOff_20 mt_208
    · skip
      refine (s_iconst 16 1 mc_208 dX11_isOff_15 rfl (by decide)).trans ?_
      refine (s_goto 20 mc_208 dX11_isOff_16 rfl).trans ?_
      exact s_zret1 mc_208 dX11_isOff_20 mt_208
/-- FiveLandsModel.lessOthers(I)J -/
theorem k_209 {X : Ctx} {d : Nat} (x0 : Nat) (x1 : Int32) (h : Hp) : K X (d + 1) 209 [.ref x0, .int x1] h = gR h 11 x0 64 fun g1 => aJ h g1 x1 fun g2 => sem (X, K X d) 209 10 [some (.ref x0), some (.int x1), some (.long g2), none, some (.int 0)] [] h := by
  show sem (X, K X d) 209 0 [some (.ref x0), some (.int x1), none, none, none] [] h = _
  refine (s_aload_n 1 mc_209 dX11_lessOthers_0 rfl rfl rfl).trans ?_
  refine (s_getfR 4 mc_209 dX11_lessOthers_1 rfl mo_209 fs_11_152 ff_11_152 rfl).trans ?_
  refine gR_c fun g1 => ?_
  refine (s_iload_n 5 mc_209 dX11_lessOthers_4 rfl rfl rfl).trans ?_
  refine (s_laload 6 mc_209 dX11_lessOthers_5 rfl).trans ?_
  refine aJ_c fun g2 => ?_
  refine (s_lstore_n 7 mc_209 dX11_lessOthers_6 rfl rfl (Nat.le_of_ble_eq_true rfl) rfl).trans ?_
  refine (s_iconst 8 0 mc_209 dX11_lessOthers_7 rfl (by decide)).trans ?_
  refine (s_istore 10 mc_209 dX11_lessOthers_8 rfl (Nat.le_of_ble_eq_true rfl) rfl).trans ?_
  rfl
theorem b_209_10 {X : Ctx} {d : Nat} (x0 : Nat) (x1 : Int32) (x2 : Int64) (x4 : Int32)  (h : Hp) : sem (X, K X d) 209 10 [some (.ref x0), some (.int x1), some (.long x2), none, some (.int x4)] [] h = if 6 ≤ x4 then some (some (.long x2), h) else gI h 11 x0 63 fun g1 => if ¬ ((g1 >>> (x4 &&& 31)) &&& 1) = 0 then sem (X, K X d) 209 10 [some (.ref x0), some (.int x1), some (.long x2), none, some (.int (x4 + 1))] [] h else gd (hS h x0 = (12, 0)) (bI (K X d 208 [.ref x0, .int x1, .int x4] h) fun r2 h1 => if r2 = 0 then sem (X, K X d) 209 10 [some (.ref x0), some (.int x1), some (.long x2), none, some (.int (x4 + 1))] [] h1 else gR h1 11 x0 64 fun g3 => aJ h1 g3 x4 fun g4 => sem (X, K X d) 209 10 [some (.ref x0), some (.int x1), some (.long (x2 - g4)), none, some (.int (x4 + 1))] [] h1) := by
  refine (s_iload 12 mc_209 dX11_lessOthers_10 rfl rfl).trans ?_
  refine (s_bipush 14 6 mc_209 dX11_lessOthers_12 rfl (by decide)).trans ?_
  refine (s_icmp_ge 55 17 mc_209 dX11_lessOthers_14 rfl rfl).trans ?_
  refine ite_c ?_ ?_
  · skip
    refine (s_lload_n 56 mc_209 dX11_lessOthers_55 rfl rfl rfl rfl).trans ?_
    exact s_lret mc_209 dX11_lessOthers_56 mt_209
  · skip
    refine (s_aload_n 18 mc_209 dX11_lessOthers_17 rfl rfl rfl).trans ?_
    refine (s_getfI 21 mc_209 dX11_lessOthers_18 rfl mo_209 fs_11_457 ff_11_457 (Or.inl rfl)).trans ?_
    refine gI_c fun g1 => ?_
    refine (s_iload 23 mc_209 dX11_lessOthers_21 rfl rfl).trans ?_
    refine (s_ishr 24 mc_209 dX11_lessOthers_23 rfl).trans ?_
    refine (s_iconst 25 1 mc_209 dX11_lessOthers_24 rfl (by decide)).trans ?_
    refine (s_iand 26 mc_209 dX11_lessOthers_25 rfl).trans ?_
    refine (s_if_ne 49 29 mc_209 dX11_lessOthers_26 rfl rfl).trans ?_
    refine ite_c ?_ ?_
    · skip
      refine (s_iinc 1 52 mc_209 dX11_lessOthers_49 rfl rfl (Nat.le_of_ble_eq_true rfl) (by decide) rfl).trans ?_
      refine (s_goto 10 mc_209 dX11_lessOthers_52 rfl).trans ?_
      rfl
    · skip
      refine (s_aload_n 30 mc_209 dX11_lessOthers_29 rfl rfl rfl).trans ?_
      refine (s_iload_n 31 mc_209 dX11_lessOthers_30 rfl rfl rfl).trans ?_
      refine (s_iload 33 mc_209 dX11_lessOthers_31 rfl rfl).trans ?_
      refine (s_iviI 36 mc_209 dX11_lessOthers_33 rfl mo_209 mm_11_491 (by decide) ms_208 mi_208 mr_208 ma_208 mo_208 (by decide) (Nat.le_of_ble_eq_true rfl) rfl rfl (Nat.le_of_ble_eq_true rfl)).trans ?_
      refine gd_c ?_
      refine bI_c fun r2 h1 => ?_
      refine (s_if_eq 49 39 mc_209 dX11_lessOthers_36 rfl rfl).trans ?_
      refine ite_c ?_ ?_
      · skip
        refine (s_iinc 1 52 mc_209 dX11_lessOthers_49 rfl rfl (Nat.le_of_ble_eq_true rfl) (by decide) rfl).trans ?_
        refine (s_goto 10 mc_209 dX11_lessOthers_52 rfl).trans ?_
        rfl
      · skip
        refine (s_lload_n 40 mc_209 dX11_lessOthers_39 rfl rfl rfl rfl).trans ?_
        refine (s_aload_n 41 mc_209 dX11_lessOthers_40 rfl rfl rfl).trans ?_
        refine (s_getfR 44 mc_209 dX11_lessOthers_41 rfl mo_209 fs_11_152 ff_11_152 rfl).trans ?_
        refine gR_c fun g3 => ?_
        refine (s_iload 46 mc_209 dX11_lessOthers_44 rfl rfl).trans ?_
        refine (s_laload 47 mc_209 dX11_lessOthers_46 rfl).trans ?_
        refine aJ_c fun g4 => ?_
        refine (s_lsub 48 mc_209 dX11_lessOthers_47 rfl).trans ?_
        refine (s_lstore_n 49 mc_209 dX11_lessOthers_48 rfl rfl (Nat.le_of_ble_eq_true rfl) rfl).trans ?_
        refine (s_iinc 1 52 mc_209 dX11_lessOthers_49 rfl rfl (Nat.le_of_ble_eq_true rfl) (by decide) rfl).trans ?_
        refine (s_goto 10 mc_209 dX11_lessOthers_52 rfl).trans ?_
        rfl
/-- FiveLandsModel.swapsRows(III)V -/
theorem k_210 {X : Ctx} {d : Nat} (x0 : Nat) (x1 : Int32) (x2 : Int32) (x3 : Int32) (h : Hp) : K X (d + 1) 210 [.ref x0, .int x1, .int x2, .int x3] h = sem (X, K X d) 210 3 [some (.ref x0), some (.int x1), some (.int x2), some (.int x3), some (.int 0), none, none] [] h := by
  show sem (X, K X d) 210 0 [some (.ref x0), some (.int x1), some (.int x2), some (.int x3), none, none, none] [] h = _
  refine (s_iconst 1 0 mc_210 dX11_swapsRows_0 rfl (by decide)).trans ?_
  refine (s_istore 3 mc_210 dX11_swapsRows_1 rfl (Nat.le_of_ble_eq_true rfl) rfl).trans ?_
  rfl
theorem b_210_3 {X : Ctx} {d : Nat} (x0 : Nat) (x1 : Int32) (x2 : Int32) (x3 : Int32) (x4 : Int32) (v5 : Option Value) (v6 : Option Value)  (h : Hp) : sem (X, K X d) 210 3 [some (.ref x0), some (.int x1), some (.int x2), some (.int x3), some (.int x4), v5, v6] [] h = if x1 < x4 then some (none, h) else gR h 11 x0 68 fun g1 => aJ h g1 ((7 * x2) + x4) fun g2 => gR h 11 x0 68 fun g3 => gR h 11 x0 68 fun g4 => aJ h g4 ((7 * x3) + x4) fun g5 => wJ h g3 ((7 * x2) + x4) g5 fun h1 => gR h1 11 x0 68 fun g6 => wJ h1 g6 ((7 * x3) + x4) g2 fun h2 => sem (X, K X d) 210 3 [some (.ref x0), some (.int x1), some (.int x2), some (.int x3), some (.int (x4 + 1)), some (.long g2), none] [] h2 := by
  refine (s_iload 5 mc_210 dX11_swapsRows_3 rfl rfl).trans ?_
  refine (s_iload_n 6 mc_210 dX11_swapsRows_5 rfl rfl rfl).trans ?_
  refine (s_icmp_gt 67 9 mc_210 dX11_swapsRows_6 rfl rfl).trans ?_
  refine ite_c ?_ ?_
  · skip
    exact s_vret mc_210 dX11_swapsRows_67 mt_210
  · skip
    refine (s_aload_n 10 mc_210 dX11_swapsRows_9 rfl rfl rfl).trans ?_
    refine (s_getfR 13 mc_210 dX11_swapsRows_10 rfl mo_210 fs_11_165 ff_11_165 rfl).trans ?_
    refine gR_c fun g1 => ?_
    refine (s_bipush 15 7 mc_210 dX11_swapsRows_13 rfl (by decide)).trans ?_
    refine (s_iload_n 16 mc_210 dX11_swapsRows_15 rfl rfl rfl).trans ?_
    refine (s_imul 17 mc_210 dX11_swapsRows_16 rfl).trans ?_
    refine (s_iload 19 mc_210 dX11_swapsRows_17 rfl rfl).trans ?_
    refine (s_iadd 20 mc_210 dX11_swapsRows_19 rfl).trans ?_
    refine (s_laload 21 mc_210 dX11_swapsRows_20 rfl).trans ?_
    refine aJ_c fun g2 => ?_
    refine (s_lstore 23 mc_210 dX11_swapsRows_21 rfl (Nat.le_of_ble_eq_true rfl) rfl).trans ?_
    refine (s_aload_n 24 mc_210 dX11_swapsRows_23 rfl rfl rfl).trans ?_
    refine (s_getfR 27 mc_210 dX11_swapsRows_24 rfl mo_210 fs_11_165 ff_11_165 rfl).trans ?_
    refine gR_c fun g3 => ?_
    refine (s_bipush 29 7 mc_210 dX11_swapsRows_27 rfl (by decide)).trans ?_
    refine (s_iload_n 30 mc_210 dX11_swapsRows_29 rfl rfl rfl).trans ?_
    refine (s_imul 31 mc_210 dX11_swapsRows_30 rfl).trans ?_
    refine (s_iload 33 mc_210 dX11_swapsRows_31 rfl rfl).trans ?_
    refine (s_iadd 34 mc_210 dX11_swapsRows_33 rfl).trans ?_
    refine (s_aload_n 35 mc_210 dX11_swapsRows_34 rfl rfl rfl).trans ?_
    refine (s_getfR 38 mc_210 dX11_swapsRows_35 rfl mo_210 fs_11_165 ff_11_165 rfl).trans ?_
    refine gR_c fun g4 => ?_
    refine (s_bipush 40 7 mc_210 dX11_swapsRows_38 rfl (by decide)).trans ?_
    refine (s_iload_n 41 mc_210 dX11_swapsRows_40 rfl rfl rfl).trans ?_
    refine (s_imul 42 mc_210 dX11_swapsRows_41 rfl).trans ?_
    refine (s_iload 44 mc_210 dX11_swapsRows_42 rfl rfl).trans ?_
    refine (s_iadd 45 mc_210 dX11_swapsRows_44 rfl).trans ?_
    refine (s_laload 46 mc_210 dX11_swapsRows_45 rfl).trans ?_
    refine aJ_c fun g5 => ?_
    refine (s_lastore 47 mc_210 dX11_swapsRows_46 rfl).trans ?_
    refine wJ_c fun h1 => ?_
    refine (s_aload_n 48 mc_210 dX11_swapsRows_47 rfl rfl rfl).trans ?_
    refine (s_getfR 51 mc_210 dX11_swapsRows_48 rfl mo_210 fs_11_165 ff_11_165 rfl).trans ?_
    refine gR_c fun g6 => ?_
    refine (s_bipush 53 7 mc_210 dX11_swapsRows_51 rfl (by decide)).trans ?_
    refine (s_iload_n 54 mc_210 dX11_swapsRows_53 rfl rfl rfl).trans ?_
    refine (s_imul 55 mc_210 dX11_swapsRows_54 rfl).trans ?_
    refine (s_iload 57 mc_210 dX11_swapsRows_55 rfl rfl).trans ?_
    refine (s_iadd 58 mc_210 dX11_swapsRows_57 rfl).trans ?_
    refine (s_lload 60 mc_210 dX11_swapsRows_58 rfl rfl rfl).trans ?_
    refine (s_lastore 61 mc_210 dX11_swapsRows_60 rfl).trans ?_
    refine wJ_c fun h2 => ?_
    refine (s_iinc 1 64 mc_210 dX11_swapsRows_61 rfl rfl (Nat.le_of_ble_eq_true rfl) (by decide) rfl).trans ?_
    refine (s_goto 3 mc_210 dX11_swapsRows_64 rfl).trans ?_
    rfl
/-- FiveLandsModel.solves(I)Z -/
theorem k_211 {X : Ctx} {d : Nat} (x0 : Nat) (x1 : Int32) (h : Hp) : K X (d + 1) 211 [.ref x0, .int x1] h = sem (X, K X d) 211 5 [some (.ref x0), some (.int x1), some (.long 1), none, some (.int 0), none, none, none, none, none] [] h := by
  show sem (X, K X d) 211 0 [some (.ref x0), some (.int x1), none, none, none, none, none, none, none, none] [] h = _
  refine (s_lconst 1 1 mc_211 dX11_solves_0 rfl (by decide)).trans ?_
  refine (s_lstore_n 2 mc_211 dX11_solves_1 rfl rfl (Nat.le_of_ble_eq_true rfl) rfl).trans ?_
  refine (s_iconst 3 0 mc_211 dX11_solves_2 rfl (by decide)).trans ?_
  refine (s_istore 5 mc_211 dX11_solves_3 rfl (Nat.le_of_ble_eq_true rfl) rfl).trans ?_
  rfl
theorem b_211_5 {X : Ctx} {d : Nat} (x0 : Nat) (x1 : Int32) (x2 : Int64) (x4 : Int32) (v5 : Option Value) (v6 : Option Value) (v7 : Option Value) (v8 : Option Value) (v9 : Option Value)  (h : Hp) : sem (X, K X d) 211 5 [some (.ref x0), some (.int x1), some (.long x2), none, some (.int x4), v5, v6, v7, v8, v9] [] h = if x1 ≤ x4 then fJ h 11 x0 70 x2 fun h1 => sem (X, K X d) 211 211 [some (.ref x0), some (.int x1), some (.long x2), none, some (.int 0), v5, v6, v7, v8, v9] [] h1 else sem (X, K X d) 211 15 [some (.ref x0), some (.int x1), some (.long x2), none, some (.int x4), some (.int x4), v6, v7, v8, v9] [] h := by
  refine (s_iload 7 mc_211 dX11_solves_5 rfl rfl).trans ?_
  refine (s_iload_n 8 mc_211 dX11_solves_7 rfl rfl rfl).trans ?_
  refine (s_icmp_ge 203 11 mc_211 dX11_solves_8 rfl rfl).trans ?_
  refine ite_c ?_ ?_
  · skip
    refine (s_aload_n 204 mc_211 dX11_solves_203 rfl rfl rfl).trans ?_
    refine (s_lload_n 205 mc_211 dX11_solves_204 rfl rfl rfl rfl).trans ?_
    refine (s_putfJ 208 mc_211 dX11_solves_205 rfl mo_211 ff_11_498 rfl (Or.inl rfl)).trans ?_
    refine fJ_c fun h1 => ?_
    refine (s_iconst 209 0 mc_211 dX11_solves_208 rfl (by decide)).trans ?_
    refine (s_istore 211 mc_211 dX11_solves_209 rfl (Nat.le_of_ble_eq_true rfl) rfl).trans ?_
    rfl
  · skip
    refine (s_iload 13 mc_211 dX11_solves_11 rfl rfl).trans ?_
    refine (s_istore 15 mc_211 dX11_solves_13 rfl (Nat.le_of_ble_eq_true rfl) rfl).trans ?_
    rfl
theorem b_211_15 {X : Ctx} {d : Nat} (x0 : Nat) (x1 : Int32) (v2 : Option Value) (v3 : Option Value) (x4 : Int32) (x5 : Int32) (v6 : Option Value) (v7 : Option Value) (v8 : Option Value) (v9 : Option Value)  (h : Hp) : sem (X, K X d) 211 15 [some (.ref x0), some (.int x1), v2, v3, some (.int x4), some (.int x5), v6, v7, v8, v9] [] h = if x1 ≤ x5 then sem (X, K X d) 211 45 [some (.ref x0), some (.int x1), v2, v3, some (.int x4), some (.int x5), v6, v7, v8, v9] [] h else gR h 11 x0 68 fun g1 => aJ h g1 ((7 * x5) + x4) fun g2 => if ¬ (lg_cmp g2 0) = 0 then sem (X, K X d) 211 45 [some (.ref x0), some (.int x1), v2, v3, some (.int x4), some (.int x5), v6, v7, v8, v9] [] h else sem (X, K X d) 211 15 [some (.ref x0), some (.int x1), v2, v3, some (.int x4), some (.int (x5 + 1)), v6, v7, v8, v9] [] h := by
  refine (s_iload 17 mc_211 dX11_solves_15 rfl rfl).trans ?_
  refine (s_iload_n 18 mc_211 dX11_solves_17 rfl rfl rfl).trans ?_
  refine (s_icmp_ge 45 21 mc_211 dX11_solves_18 rfl rfl).trans ?_
  refine ite_c ?_ ?_
  · skip
    rfl
  · skip
    refine (s_aload_n 22 mc_211 dX11_solves_21 rfl rfl rfl).trans ?_
    refine (s_getfR 25 mc_211 dX11_solves_22 rfl mo_211 fs_11_165 ff_11_165 rfl).trans ?_
    refine gR_c fun g1 => ?_
    refine (s_bipush 27 7 mc_211 dX11_solves_25 rfl (by decide)).trans ?_
    refine (s_iload 29 mc_211 dX11_solves_27 rfl rfl).trans ?_
    refine (s_imul 30 mc_211 dX11_solves_29 rfl).trans ?_
    refine (s_iload 32 mc_211 dX11_solves_30 rfl rfl).trans ?_
    refine (s_iadd 33 mc_211 dX11_solves_32 rfl).trans ?_
    refine (s_laload 34 mc_211 dX11_solves_33 rfl).trans ?_
    refine aJ_c fun g2 => ?_
    refine (s_lconst 35 0 mc_211 dX11_solves_34 rfl (by decide)).trans ?_
    refine (s_lcmp 36 mc_211 dX11_solves_35 rfl).trans ?_
    refine (s_if_ne 45 39 mc_211 dX11_solves_36 rfl rfl).trans ?_
    refine ite_c ?_ ?_
    · skip
      rfl
    · skip
      refine (s_iinc 1 42 mc_211 dX11_solves_39 rfl rfl (Nat.le_of_ble_eq_true rfl) (by decide) rfl).trans ?_
      refine (s_goto 15 mc_211 dX11_solves_42 rfl).trans ?_
      rfl
theorem b_211_45 {X : Ctx} {d : Nat} (x0 : Nat) (x1 : Int32) (v2 : Option Value) (v3 : Option Value) (x4 : Int32) (x5 : Int32) (v6 : Option Value) (v7 : Option Value) (v8 : Option Value) (v9 : Option Value)  (h : Hp) : sem (X, K X d) 211 45 [some (.ref x0), some (.int x1), v2, v3, some (.int x4), some (.int x5), v6, v7, v8, v9] [] h = if ¬ x5 = x1 then if x5 = x4 then sem (X, K X d) 211 72 [some (.ref x0), some (.int x1), v2, v3, some (.int x4), some (.int x5), some (.int 0), v7, v8, v9] [] h else gd (hS h x0 = (12, 0)) (bV (K X d 210 [.ref x0, .int x1, .int x5, .int x4] h) fun h1 => sem (X, K X d) 211 72 [some (.ref x0), some (.int x1), v2, v3, some (.int x4), some (.int x5), some (.int 0), v7, v8, v9] [] h1) else some (some (.int 0), h) := by
  refine (s_iload 47 mc_211 dX11_solves_45 rfl rfl).trans ?_
  refine (s_iload_n 48 mc_211 dX11_solves_47 rfl rfl rfl).trans ?_
  refine (s_icmp_ne 53 51 mc_211 dX11_solves_48 rfl rfl).trans ?_
  refine ite_c ?_ ?_
  · skip
    refine (s_iload 55 mc_211 dX11_solves_53 rfl rfl).trans ?_
    refine (s_iload 57 mc_211 dX11_solves_55 rfl rfl).trans ?_
    refine (s_icmp_eq 69 60 mc_211 dX11_solves_57 rfl rfl).trans ?_
    refine ite_c ?_ ?_
    · skip
      refine (s_iconst 70 0 mc_211 dX11_solves_69 rfl (by decide)).trans ?_
      refine (s_istore 72 mc_211 dX11_solves_70 rfl (Nat.le_of_ble_eq_true rfl) rfl).trans ?_
      rfl
    · skip
      refine (s_aload_n 61 mc_211 dX11_solves_60 rfl rfl rfl).trans ?_
      refine (s_iload_n 62 mc_211 dX11_solves_61 rfl rfl rfl).trans ?_
      refine (s_iload 64 mc_211 dX11_solves_62 rfl rfl).trans ?_
      refine (s_iload 66 mc_211 dX11_solves_64 rfl rfl).trans ?_
      refine (s_iviV 69 mc_211 dX11_solves_66 rfl mo_211 mm_11_494 (by decide) ms_210 mi_210 mr_210 ma_210 mo_210 (by decide) (Nat.le_of_ble_eq_true rfl) rfl rfl (Nat.le_of_ble_eq_true rfl)).trans ?_
      refine gd_c ?_
      refine bV_c fun h1 => ?_
      refine (s_iconst 70 0 mc_211 dX11_solves_69 rfl (by decide)).trans ?_
      refine (s_istore 72 mc_211 dX11_solves_70 rfl (Nat.le_of_ble_eq_true rfl) rfl).trans ?_
      rfl
  · skip
    refine (s_iconst 52 0 mc_211 dX11_solves_51 rfl (by decide)).trans ?_
    exact s_zret0 mc_211 dX11_solves_52 mt_211
theorem b_211_72 {X : Ctx} {d : Nat} (x0 : Nat) (x1 : Int32) (v2 : Option Value) (v3 : Option Value) (x4 : Int32) (v5 : Option Value) (x6 : Int32) (v7 : Option Value) (v8 : Option Value) (v9 : Option Value)  (h : Hp) : sem (X, K X d) 211 72 [some (.ref x0), some (.int x1), v2, v3, some (.int x4), v5, some (.int x6), v7, v8, v9] [] h = if x1 ≤ x6 then gR h 11 x0 68 fun g1 => aJ h g1 ((7 * x4) + x4) fun g2 => sem (X, K X d) 211 5 [some (.ref x0), some (.int x1), some (.long g2), none, some (.int (x4 + 1)), v5, some (.int x6), v7, v8, v9] [] h else if ¬ x6 = x4 then gR h 11 x0 68 fun g3 => aJ h g3 ((7 * x6) + x4) fun g4 => sem (X, K X d) 211 106 [some (.ref x0), some (.int x1), v2, v3, some (.int x4), v5, some (.int x6), some (.long g4), none, some (.int 0)] [] h else sem (X, K X d) 211 72 [some (.ref x0), some (.int x1), v2, v3, some (.int x4), v5, some (.int (x6 + 1)), v7, v8, v9] [] h := by
  refine (s_iload 74 mc_211 dX11_solves_72 rfl rfl).trans ?_
  refine (s_iload_n 75 mc_211 dX11_solves_74 rfl rfl rfl).trans ?_
  refine (s_icmp_ge 183 78 mc_211 dX11_solves_75 rfl rfl).trans ?_
  refine ite_c ?_ ?_
  · skip
    refine (s_aload_n 184 mc_211 dX11_solves_183 rfl rfl rfl).trans ?_
    refine (s_getfR 187 mc_211 dX11_solves_184 rfl mo_211 fs_11_165 ff_11_165 rfl).trans ?_
    refine gR_c fun g1 => ?_
    refine (s_bipush 189 7 mc_211 dX11_solves_187 rfl (by decide)).trans ?_
    refine (s_iload 191 mc_211 dX11_solves_189 rfl rfl).trans ?_
    refine (s_imul 192 mc_211 dX11_solves_191 rfl).trans ?_
    refine (s_iload 194 mc_211 dX11_solves_192 rfl rfl).trans ?_
    refine (s_iadd 195 mc_211 dX11_solves_194 rfl).trans ?_
    refine (s_laload 196 mc_211 dX11_solves_195 rfl).trans ?_
    refine aJ_c fun g2 => ?_
    refine (s_lstore_n 197 mc_211 dX11_solves_196 rfl rfl (Nat.le_of_ble_eq_true rfl) rfl).trans ?_
    refine (s_iinc 1 200 mc_211 dX11_solves_197 rfl rfl (Nat.le_of_ble_eq_true rfl) (by decide) rfl).trans ?_
    refine (s_goto 5 mc_211 dX11_solves_200 rfl).trans ?_
    rfl
  · skip
    refine (s_iload 80 mc_211 dX11_solves_78 rfl rfl).trans ?_
    refine (s_iload 82 mc_211 dX11_solves_80 rfl rfl).trans ?_
    refine (s_icmp_ne 88 85 mc_211 dX11_solves_82 rfl rfl).trans ?_
    refine ite_c ?_ ?_
    · skip
      refine (s_aload_n 89 mc_211 dX11_solves_88 rfl rfl rfl).trans ?_
      refine (s_getfR 92 mc_211 dX11_solves_89 rfl mo_211 fs_11_165 ff_11_165 rfl).trans ?_
      refine gR_c fun g3 => ?_
      refine (s_bipush 94 7 mc_211 dX11_solves_92 rfl (by decide)).trans ?_
      refine (s_iload 96 mc_211 dX11_solves_94 rfl rfl).trans ?_
      refine (s_imul 97 mc_211 dX11_solves_96 rfl).trans ?_
      refine (s_iload 99 mc_211 dX11_solves_97 rfl rfl).trans ?_
      refine (s_iadd 100 mc_211 dX11_solves_99 rfl).trans ?_
      refine (s_laload 101 mc_211 dX11_solves_100 rfl).trans ?_
      refine aJ_c fun g4 => ?_
      refine (s_lstore 103 mc_211 dX11_solves_101 rfl (Nat.le_of_ble_eq_true rfl) rfl).trans ?_
      refine (s_iconst 104 0 mc_211 dX11_solves_103 rfl (by decide)).trans ?_
      refine (s_istore 106 mc_211 dX11_solves_104 rfl (Nat.le_of_ble_eq_true rfl) rfl).trans ?_
      rfl
    · skip
      refine (s_goto 177 mc_211 dX11_solves_85 rfl).trans ?_
      refine (s_iinc 1 180 mc_211 dX11_solves_177 rfl rfl (Nat.le_of_ble_eq_true rfl) (by decide) rfl).trans ?_
      refine (s_goto 72 mc_211 dX11_solves_180 rfl).trans ?_
      rfl
theorem b_211_106 {X : Ctx} {d : Nat} (x0 : Nat) (x1 : Int32) (x2 : Int64) (x4 : Int32) (v5 : Option Value) (x6 : Int32) (x7 : Int64) (x9 : Int32)  (h : Hp) : sem (X, K X d) 211 106 [some (.ref x0), some (.int x1), some (.long x2), none, some (.int x4), v5, some (.int x6), some (.long x7), none, some (.int x9)] [] h = if x1 < x9 then sem (X, K X d) 211 72 [some (.ref x0), some (.int x1), some (.long x2), none, some (.int x4), v5, some (.int (x6 + 1)), some (.long x7), none, some (.int x9)] [] h else gR h 11 x0 68 fun g1 => gR h 11 x0 68 fun g2 => aJ h g2 ((7 * x6) + x9) fun g3 => gR h 11 x0 68 fun g4 => aJ h g4 ((7 * x4) + x4) fun g5 => gR h 11 x0 68 fun g6 => aJ h g6 ((7 * x4) + x9) fun g7 => gd (¬ x2 = 0) (wJ h g1 ((7 * x6) + x9) (((g3 * g5) - (x7 * g7)) / x2) fun h1 => sem (X, K X d) 211 106 [some (.ref x0), some (.int x1), some (.long x2), none, some (.int x4), v5, some (.int x6), some (.long x7), none, some (.int (x9 + 1))] [] h1) := by
  refine (s_iload 108 mc_211 dX11_solves_106 rfl rfl).trans ?_
  refine (s_iload_n 109 mc_211 dX11_solves_108 rfl rfl rfl).trans ?_
  refine (s_icmp_gt 177 112 mc_211 dX11_solves_109 rfl rfl).trans ?_
  refine ite_c ?_ ?_
  · skip
    refine (s_iinc 1 180 mc_211 dX11_solves_177 rfl rfl (Nat.le_of_ble_eq_true rfl) (by decide) rfl).trans ?_
    refine (s_goto 72 mc_211 dX11_solves_180 rfl).trans ?_
    rfl
  · skip
    refine (s_aload_n 113 mc_211 dX11_solves_112 rfl rfl rfl).trans ?_
    refine (s_getfR 116 mc_211 dX11_solves_113 rfl mo_211 fs_11_165 ff_11_165 rfl).trans ?_
    refine gR_c fun g1 => ?_
    refine (s_bipush 118 7 mc_211 dX11_solves_116 rfl (by decide)).trans ?_
    refine (s_iload 120 mc_211 dX11_solves_118 rfl rfl).trans ?_
    refine (s_imul 121 mc_211 dX11_solves_120 rfl).trans ?_
    refine (s_iload 123 mc_211 dX11_solves_121 rfl rfl).trans ?_
    refine (s_iadd 124 mc_211 dX11_solves_123 rfl).trans ?_
    refine (s_aload_n 125 mc_211 dX11_solves_124 rfl rfl rfl).trans ?_
    refine (s_getfR 128 mc_211 dX11_solves_125 rfl mo_211 fs_11_165 ff_11_165 rfl).trans ?_
    refine gR_c fun g2 => ?_
    refine (s_bipush 130 7 mc_211 dX11_solves_128 rfl (by decide)).trans ?_
    refine (s_iload 132 mc_211 dX11_solves_130 rfl rfl).trans ?_
    refine (s_imul 133 mc_211 dX11_solves_132 rfl).trans ?_
    refine (s_iload 135 mc_211 dX11_solves_133 rfl rfl).trans ?_
    refine (s_iadd 136 mc_211 dX11_solves_135 rfl).trans ?_
    refine (s_laload 137 mc_211 dX11_solves_136 rfl).trans ?_
    refine aJ_c fun g3 => ?_
    refine (s_aload_n 138 mc_211 dX11_solves_137 rfl rfl rfl).trans ?_
    refine (s_getfR 141 mc_211 dX11_solves_138 rfl mo_211 fs_11_165 ff_11_165 rfl).trans ?_
    refine gR_c fun g4 => ?_
    refine (s_bipush 143 7 mc_211 dX11_solves_141 rfl (by decide)).trans ?_
    refine (s_iload 145 mc_211 dX11_solves_143 rfl rfl).trans ?_
    refine (s_imul 146 mc_211 dX11_solves_145 rfl).trans ?_
    refine (s_iload 148 mc_211 dX11_solves_146 rfl rfl).trans ?_
    refine (s_iadd 149 mc_211 dX11_solves_148 rfl).trans ?_
    refine (s_laload 150 mc_211 dX11_solves_149 rfl).trans ?_
    refine aJ_c fun g5 => ?_
    refine (s_lmul 151 mc_211 dX11_solves_150 rfl).trans ?_
    refine (s_lload 153 mc_211 dX11_solves_151 rfl rfl rfl).trans ?_
    refine (s_aload_n 154 mc_211 dX11_solves_153 rfl rfl rfl).trans ?_
    refine (s_getfR 157 mc_211 dX11_solves_154 rfl mo_211 fs_11_165 ff_11_165 rfl).trans ?_
    refine gR_c fun g6 => ?_
    refine (s_bipush 159 7 mc_211 dX11_solves_157 rfl (by decide)).trans ?_
    refine (s_iload 161 mc_211 dX11_solves_159 rfl rfl).trans ?_
    refine (s_imul 162 mc_211 dX11_solves_161 rfl).trans ?_
    refine (s_iload 164 mc_211 dX11_solves_162 rfl rfl).trans ?_
    refine (s_iadd 165 mc_211 dX11_solves_164 rfl).trans ?_
    refine (s_laload 166 mc_211 dX11_solves_165 rfl).trans ?_
    refine aJ_c fun g7 => ?_
    refine (s_lmul 167 mc_211 dX11_solves_166 rfl).trans ?_
    refine (s_lsub 168 mc_211 dX11_solves_167 rfl).trans ?_
    refine (s_lload_n 169 mc_211 dX11_solves_168 rfl rfl rfl rfl).trans ?_
    refine (s_ldiv 170 mc_211 dX11_solves_169 rfl).trans ?_
    refine gd_c ?_
    refine (s_lastore 171 mc_211 dX11_solves_170 rfl).trans ?_
    refine wJ_c fun h1 => ?_
    refine (s_iinc 1 174 mc_211 dX11_solves_171 rfl rfl (Nat.le_of_ble_eq_true rfl) (by decide) rfl).trans ?_
    refine (s_goto 106 mc_211 dX11_solves_174 rfl).trans ?_
    rfl
theorem b_211_211 {X : Ctx} {d : Nat} (x0 : Nat) (x1 : Int32) (v2 : Option Value) (v3 : Option Value) (x4 : Int32) (v5 : Option Value) (v6 : Option Value) (v7 : Option Value) (v8 : Option Value) (v9 : Option Value)  (h : Hp) : sem (X, K X d) 211 211 [some (.ref x0), some (.int x1), v2, v3, some (.int x4), v5, v6, v7, v8, v9] [] h = if x1 ≤ x4 then some (some (.int 1), h) else gR h 11 x0 67 fun g1 => gR h 11 x0 69 fun g2 => aI X h g2 x4 fun g3 => gR h 11 x0 68 fun g4 => aJ h g4 ((7 * x4) + x1) fun g5 => gJ h 11 x0 70 fun g6 => gR h 11 x0 68 fun g7 => aJ h g7 ((7 * x4) + x4) fun g8 => gd (¬ g8 = 0) (wJ h g1 g3 (g5 * (g6 / g8)) fun h1 => sem (X, K X d) 211 211 [some (.ref x0), some (.int x1), v2, v3, some (.int (x4 + 1)), v5, v6, v7, v8, v9] [] h1) := by
  refine (s_iload 213 mc_211 dX11_solves_211 rfl rfl).trans ?_
  refine (s_iload_n 214 mc_211 dX11_solves_213 rfl rfl rfl).trans ?_
  refine (s_icmp_ge 266 217 mc_211 dX11_solves_214 rfl rfl).trans ?_
  refine ite_c ?_ ?_
  · skip
    refine (s_iconst 267 1 mc_211 dX11_solves_266 rfl (by decide)).trans ?_
    exact s_zret1 mc_211 dX11_solves_267 mt_211
  · skip
    refine (s_aload_n 218 mc_211 dX11_solves_217 rfl rfl rfl).trans ?_
    refine (s_getfR 221 mc_211 dX11_solves_218 rfl mo_211 fs_11_162 ff_11_162 rfl).trans ?_
    refine gR_c fun g1 => ?_
    refine (s_aload_n 222 mc_211 dX11_solves_221 rfl rfl rfl).trans ?_
    refine (s_getfR 225 mc_211 dX11_solves_222 rfl mo_211 fs_11_168 ff_11_168 rfl).trans ?_
    refine gR_c fun g2 => ?_
    refine (s_iload 227 mc_211 dX11_solves_225 rfl rfl).trans ?_
    refine (s_iaload 228 mc_211 dX11_solves_227 rfl).trans ?_
    refine aI_c fun g3 => ?_
    refine (s_aload_n 229 mc_211 dX11_solves_228 rfl rfl rfl).trans ?_
    refine (s_getfR 232 mc_211 dX11_solves_229 rfl mo_211 fs_11_165 ff_11_165 rfl).trans ?_
    refine gR_c fun g4 => ?_
    refine (s_bipush 234 7 mc_211 dX11_solves_232 rfl (by decide)).trans ?_
    refine (s_iload 236 mc_211 dX11_solves_234 rfl rfl).trans ?_
    refine (s_imul 237 mc_211 dX11_solves_236 rfl).trans ?_
    refine (s_iload_n 238 mc_211 dX11_solves_237 rfl rfl rfl).trans ?_
    refine (s_iadd 239 mc_211 dX11_solves_238 rfl).trans ?_
    refine (s_laload 240 mc_211 dX11_solves_239 rfl).trans ?_
    refine aJ_c fun g5 => ?_
    refine (s_aload_n 241 mc_211 dX11_solves_240 rfl rfl rfl).trans ?_
    refine (s_getfJ 244 mc_211 dX11_solves_241 rfl mo_211 fs_11_498 ff_11_498 rfl).trans ?_
    refine gJ_c fun g6 => ?_
    refine (s_aload_n 245 mc_211 dX11_solves_244 rfl rfl rfl).trans ?_
    refine (s_getfR 248 mc_211 dX11_solves_245 rfl mo_211 fs_11_165 ff_11_165 rfl).trans ?_
    refine gR_c fun g7 => ?_
    refine (s_bipush 250 7 mc_211 dX11_solves_248 rfl (by decide)).trans ?_
    refine (s_iload 252 mc_211 dX11_solves_250 rfl rfl).trans ?_
    refine (s_imul 253 mc_211 dX11_solves_252 rfl).trans ?_
    refine (s_iload 255 mc_211 dX11_solves_253 rfl rfl).trans ?_
    refine (s_iadd 256 mc_211 dX11_solves_255 rfl).trans ?_
    refine (s_laload 257 mc_211 dX11_solves_256 rfl).trans ?_
    refine aJ_c fun g8 => ?_
    refine (s_ldiv 258 mc_211 dX11_solves_257 rfl).trans ?_
    refine gd_c ?_
    refine (s_lmul 259 mc_211 dX11_solves_258 rfl).trans ?_
    refine (s_lastore 260 mc_211 dX11_solves_259 rfl).trans ?_
    refine wJ_c fun h1 => ?_
    refine (s_iinc 1 263 mc_211 dX11_solves_260 rfl rfl (Nat.le_of_ble_eq_true rfl) (by decide) rfl).trans ?_
    refine (s_goto 211 mc_211 dX11_solves_263 rfl).trans ?_
    rfl
/-- FiveLandsModel.isAnswer(I)Z -/
theorem k_212 {X : Ctx} {d : Nat} (x0 : Nat) (x1 : Int32) (h : Hp) : K X (d + 1) 212 [.ref x0, .int x1] h = sem (X, K X d) 212 4 [some (.ref x0), some (.int x1), some (.int 0), some (.int 0), none, none, none, none, none] [] h := by
  show sem (X, K X d) 212 0 [some (.ref x0), some (.int x1), none, none, none, none, none, none, none] [] h = _
  refine (s_iconst 1 0 mc_212 dX11_isAnswer_0 rfl (by decide)).trans ?_
  refine (s_istore_n 2 mc_212 dX11_isAnswer_1 rfl rfl (Nat.le_of_ble_eq_true rfl) rfl).trans ?_
  refine (s_iconst 3 0 mc_212 dX11_isAnswer_2 rfl (by decide)).trans ?_
  refine (s_istore_n 4 mc_212 dX11_isAnswer_3 rfl rfl (Nat.le_of_ble_eq_true rfl) rfl).trans ?_
  rfl
theorem b_212_4 {X : Ctx} {d : Nat} (x0 : Nat) (x1 : Int32) (x2 : Int32) (x3 : Int32) (v4 : Option Value) (v5 : Option Value) (v6 : Option Value) (v7 : Option Value) (v8 : Option Value)  (h : Hp) : sem (X, K X d) 212 4 [some (.ref x0), some (.int x1), some (.int x2), some (.int x3), v4, v5, v6, v7, v8] [] h = if 6 ≤ x3 then sem (X, K X d) 212 46 [some (.ref x0), some (.int x1), some (.int x2), some (.int 0), v4, v5, v6, v7, v8] [] h else gR h 11 x0 67 fun g1 => wJ h g1 x3 0 fun h1 => if ¬ ((x1 >>> (x3 &&& 31)) &&& 1) = 0 then gR h1 11 x0 69 fun g2 => wI h1 g2 x2 x3 fun h2 => sem (X, K X d) 212 4 [some (.ref x0), some (.int x1), some (.int (x2 + 1)), some (.int (x3 + 1)), v4, v5, v6, v7, v8] [] h2 else sem (X, K X d) 212 4 [some (.ref x0), some (.int x1), some (.int x2), some (.int (x3 + 1)), v4, v5, v6, v7, v8] [] h1 := by
  refine (s_iload_n 5 mc_212 dX11_isAnswer_4 rfl rfl rfl).trans ?_
  refine (s_bipush 7 6 mc_212 dX11_isAnswer_5 rfl (by decide)).trans ?_
  refine (s_icmp_ge 44 10 mc_212 dX11_isAnswer_7 rfl rfl).trans ?_
  refine ite_c ?_ ?_
  · skip
    refine (s_iconst 45 0 mc_212 dX11_isAnswer_44 rfl (by decide)).trans ?_
    refine (s_istore_n 46 mc_212 dX11_isAnswer_45 rfl rfl (Nat.le_of_ble_eq_true rfl) rfl).trans ?_
    rfl
  · skip
    refine (s_aload_n 11 mc_212 dX11_isAnswer_10 rfl rfl rfl).trans ?_
    refine (s_getfR 14 mc_212 dX11_isAnswer_11 rfl mo_212 fs_11_162 ff_11_162 rfl).trans ?_
    refine gR_c fun g1 => ?_
    refine (s_iload_n 15 mc_212 dX11_isAnswer_14 rfl rfl rfl).trans ?_
    refine (s_lconst 16 0 mc_212 dX11_isAnswer_15 rfl (by decide)).trans ?_
    refine (s_lastore 17 mc_212 dX11_isAnswer_16 rfl).trans ?_
    refine wJ_c fun h1 => ?_
    refine (s_iload_n 18 mc_212 dX11_isAnswer_17 rfl rfl rfl).trans ?_
    refine (s_iload_n 19 mc_212 dX11_isAnswer_18 rfl rfl rfl).trans ?_
    refine (s_ishr 20 mc_212 dX11_isAnswer_19 rfl).trans ?_
    refine (s_iconst 21 1 mc_212 dX11_isAnswer_20 rfl (by decide)).trans ?_
    refine (s_iand 22 mc_212 dX11_isAnswer_21 rfl).trans ?_
    refine (s_if_ne 28 25 mc_212 dX11_isAnswer_22 rfl rfl).trans ?_
    refine ite_c ?_ ?_
    · skip
      refine (s_aload_n 29 mc_212 dX11_isAnswer_28 rfl rfl rfl).trans ?_
      refine (s_getfR 32 mc_212 dX11_isAnswer_29 rfl mo_212 fs_11_168 ff_11_168 rfl).trans ?_
      refine gR_c fun g2 => ?_
      refine (s_iload_n 33 mc_212 dX11_isAnswer_32 rfl rfl rfl).trans ?_
      refine (s_iload_n 34 mc_212 dX11_isAnswer_33 rfl rfl rfl).trans ?_
      refine (s_iastore 35 mc_212 dX11_isAnswer_34 rfl).trans ?_
      refine wI_c fun h2 => ?_
      refine (s_iinc 1 38 mc_212 dX11_isAnswer_35 rfl rfl (Nat.le_of_ble_eq_true rfl) (by decide) rfl).trans ?_
      refine (s_iinc 1 41 mc_212 dX11_isAnswer_38 rfl rfl (Nat.le_of_ble_eq_true rfl) (by decide) rfl).trans ?_
      refine (s_goto 4 mc_212 dX11_isAnswer_41 rfl).trans ?_
      rfl
    · skip
      refine (s_goto 38 mc_212 dX11_isAnswer_25 rfl).trans ?_
      refine (s_iinc 1 41 mc_212 dX11_isAnswer_38 rfl rfl (Nat.le_of_ble_eq_true rfl) (by decide) rfl).trans ?_
      refine (s_goto 4 mc_212 dX11_isAnswer_41 rfl).trans ?_
      rfl
theorem b_212_46 {X : Ctx} {d : Nat} (x0 : Nat) (v1 : Option Value) (x2 : Int32) (x3 : Int32) (v4 : Option Value) (v5 : Option Value) (v6 : Option Value) (v7 : Option Value) (v8 : Option Value)  (h : Hp) : sem (X, K X d) 212 46 [some (.ref x0), v1, some (.int x2), some (.int x3), v4, v5, v6, v7, v8] [] h = if x2 ≤ x3 then gd (hS h x0 = (12, 0)) (bI (K X d 211 [.ref x0, .int x2] h) fun r1 h1 => if ¬ r1 = 0 then gJ h1 11 x0 70 fun g2 => if 0 ≤ (lg_cmp g2 0) then sem (X, K X d) 212 166 [some (.ref x0), v1, some (.int x2), some (.long 1), none, some (.int 0), v6, v7, v8] [] h1 else sem (X, K X d) 212 166 [some (.ref x0), v1, some (.int x2), some (.long (-1)), none, some (.int 0), v6, v7, v8] [] h1 else some (some (.int 0), h1)) else sem (X, K X d) 212 54 [some (.ref x0), v1, some (.int x2), some (.int x3), some (.int 0), v5, v6, v7, v8] [] h := by
  refine (s_iload_n 47 mc_212 dX11_isAnswer_46 rfl rfl rfl).trans ?_
  refine (s_iload_n 48 mc_212 dX11_isAnswer_47 rfl rfl rfl).trans ?_
  refine (s_icmp_ge 136 51 mc_212 dX11_isAnswer_48 rfl rfl).trans ?_
  refine ite_c ?_ ?_
  · skip
    refine (s_aload_n 137 mc_212 dX11_isAnswer_136 rfl rfl rfl).trans ?_
    refine (s_iload_n 138 mc_212 dX11_isAnswer_137 rfl rfl rfl).trans ?_
    refine (s_iviI 141 mc_212 dX11_isAnswer_138 rfl mo_212 mm_11_506 (by decide) ms_211 mi_211 mr_211 ma_211 mo_211 (by decide) (Nat.le_of_ble_eq_true rfl) rfl rfl (Nat.le_of_ble_eq_true rfl)).trans ?_
    refine gd_c ?_
    refine bI_c fun r1 h1 => ?_
    refine (s_if_ne 146 144 mc_212 dX11_isAnswer_141 rfl rfl).trans ?_
    refine ite_c ?_ ?_
    · skip
      refine (s_aload_n 147 mc_212 dX11_isAnswer_146 rfl rfl rfl).trans ?_
      refine (s_getfJ 150 mc_212 dX11_isAnswer_147 rfl mo_212 fs_11_498 ff_11_498 rfl).trans ?_
      refine gJ_c fun g2 => ?_
      refine (s_lconst 151 0 mc_212 dX11_isAnswer_150 rfl (by decide)).trans ?_
      refine (s_lcmp 152 mc_212 dX11_isAnswer_151 rfl).trans ?_
      refine (s_if_ge 161 155 mc_212 dX11_isAnswer_152 rfl rfl).trans ?_
      refine ite_c ?_ ?_
      · skip
        refine (s_lconst 162 1 mc_212 dX11_isAnswer_161 rfl (by decide)).trans ?_
        refine (s_lstore_n 163 mc_212 dX11_isAnswer_162 rfl rfl (Nat.le_of_ble_eq_true rfl) rfl).trans ?_
        refine (s_iconst 164 0 mc_212 dX11_isAnswer_163 rfl (by decide)).trans ?_
        refine (s_istore 166 mc_212 dX11_isAnswer_164 rfl (Nat.le_of_ble_eq_true rfl) rfl).trans ?_
        rfl
      · skip
        refine (s_ldc2_w 158 (-1) mc_212 dX11_isAnswer_155 rfl mo_212 cl_11_474 (by decide)).trans ?_
        refine (s_goto 162 mc_212 dX11_isAnswer_158 rfl).trans ?_
        refine (s_lstore_n 163 mc_212 dX11_isAnswer_162 rfl rfl (Nat.le_of_ble_eq_true rfl) rfl).trans ?_
        refine (s_iconst 164 0 mc_212 dX11_isAnswer_163 rfl (by decide)).trans ?_
        refine (s_istore 166 mc_212 dX11_isAnswer_164 rfl (Nat.le_of_ble_eq_true rfl) rfl).trans ?_
        rfl
    · skip
      refine (s_iconst 145 0 mc_212 dX11_isAnswer_144 rfl (by decide)).trans ?_
      exact s_zret0 mc_212 dX11_isAnswer_145 mt_212
  · skip
    refine (s_iconst 52 0 mc_212 dX11_isAnswer_51 rfl (by decide)).trans ?_
    refine (s_istore 54 mc_212 dX11_isAnswer_52 rfl (Nat.le_of_ble_eq_true rfl) rfl).trans ?_
    rfl
theorem b_212_54 {X : Ctx} {d : Nat} (x0 : Nat) (v1 : Option Value) (x2 : Int32) (x3 : Int32) (x4 : Int32) (v5 : Option Value) (v6 : Option Value) (v7 : Option Value) (v8 : Option Value)  (h : Hp) : sem (X, K X d) 212 54 [some (.ref x0), v1, some (.int x2), some (.int x3), some (.int x4), v5, v6, v7, v8] [] h = if x2 ≤ x4 then gR h 11 x0 68 fun g1 => gR h 11 x0 69 fun g2 => aI X h g2 x3 fun g3 => gd (hS h x0 = (12, 0)) (bJ (K X d 209 [.ref x0, .int g3] h) fun r4 h1 => wJ h1 g1 ((7 * x3) + x2) r4 fun h2 => sem (X, K X d) 212 46 [some (.ref x0), v1, some (.int x2), some (.int (x3 + 1)), some (.int x4), v5, v6, v7, v8] [] h2) else gR h 11 x0 68 fun g5 => if x3 = x4 then wJ h g5 ((7 * x3) + x4) 1 fun h3 => sem (X, K X d) 212 54 [some (.ref x0), v1, some (.int x2), some (.int x3), some (.int (x4 + 1)), v5, v6, v7, v8] [] h3 else gR h 11 x0 69 fun g6 => aI X h g6 x3 fun g7 => gR h 11 x0 69 fun g8 => aI X h g8 x4 fun g9 => gd (hS h x0 = (12, 0)) (bI (K X d 208 [.ref x0, .int g7, .int g9] h) fun r10 h4 => if r10 = 0 then wJ h4 g5 ((7 * x3) + x4) 0 fun h5 => sem (X, K X d) 212 54 [some (.ref x0), v1, some (.int x2), some (.int x3), some (.int (x4 + 1)), v5, v6, v7, v8] [] h5 else wJ h4 g5 ((7 * x3) + x4) 1 fun h6 => sem (X, K X d) 212 54 [some (.ref x0), v1, some (.int x2), some (.int x3), some (.int (x4 + 1)), v5, v6, v7, v8] [] h6) := by
  refine (s_iload 56 mc_212 dX11_isAnswer_54 rfl rfl).trans ?_
  refine (s_iload_n 57 mc_212 dX11_isAnswer_56 rfl rfl rfl).trans ?_
  refine (s_icmp_ge 109 60 mc_212 dX11_isAnswer_57 rfl rfl).trans ?_
  refine ite_c ?_ ?_
  · skip
    refine (s_aload_n 110 mc_212 dX11_isAnswer_109 rfl rfl rfl).trans ?_
    refine (s_getfR 113 mc_212 dX11_isAnswer_110 rfl mo_212 fs_11_165 ff_11_165 rfl).trans ?_
    refine gR_c fun g1 => ?_
    refine (s_bipush 115 7 mc_212 dX11_isAnswer_113 rfl (by decide)).trans ?_
    refine (s_iload_n 116 mc_212 dX11_isAnswer_115 rfl rfl rfl).trans ?_
    refine (s_imul 117 mc_212 dX11_isAnswer_116 rfl).trans ?_
    refine (s_iload_n 118 mc_212 dX11_isAnswer_117 rfl rfl rfl).trans ?_
    refine (s_iadd 119 mc_212 dX11_isAnswer_118 rfl).trans ?_
    refine (s_aload_n 120 mc_212 dX11_isAnswer_119 rfl rfl rfl).trans ?_
    refine (s_aload_n 121 mc_212 dX11_isAnswer_120 rfl rfl rfl).trans ?_
    refine (s_getfR 124 mc_212 dX11_isAnswer_121 rfl mo_212 fs_11_168 ff_11_168 rfl).trans ?_
    refine gR_c fun g2 => ?_
    refine (s_iload_n 125 mc_212 dX11_isAnswer_124 rfl rfl rfl).trans ?_
    refine (s_iaload 126 mc_212 dX11_isAnswer_125 rfl).trans ?_
    refine aI_c fun g3 => ?_
    refine (s_iviJ 129 mc_212 dX11_isAnswer_126 rfl mo_212 mm_11_502 (by decide) ms_209 mi_209 mr_209 ma_209 mo_209 (by decide) (Nat.le_of_ble_eq_true rfl) rfl rfl (Nat.le_of_ble_eq_true rfl)).trans ?_
    refine gd_c ?_
    refine bJ_c fun r4 h1 => ?_
    refine (s_lastore 130 mc_212 dX11_isAnswer_129 rfl).trans ?_
    refine wJ_c fun h2 => ?_
    refine (s_iinc 1 133 mc_212 dX11_isAnswer_130 rfl rfl (Nat.le_of_ble_eq_true rfl) (by decide) rfl).trans ?_
    refine (s_goto 46 mc_212 dX11_isAnswer_133 rfl).trans ?_
    rfl
  · skip
    refine (s_aload_n 61 mc_212 dX11_isAnswer_60 rfl rfl rfl).trans ?_
    refine (s_getfR 64 mc_212 dX11_isAnswer_61 rfl mo_212 fs_11_165 ff_11_165 rfl).trans ?_
    refine gR_c fun g5 => ?_
    refine (s_bipush 66 7 mc_212 dX11_isAnswer_64 rfl (by decide)).trans ?_
    refine (s_iload_n 67 mc_212 dX11_isAnswer_66 rfl rfl rfl).trans ?_
    refine (s_imul 68 mc_212 dX11_isAnswer_67 rfl).trans ?_
    refine (s_iload 70 mc_212 dX11_isAnswer_68 rfl rfl).trans ?_
    refine (s_iadd 71 mc_212 dX11_isAnswer_70 rfl).trans ?_
    refine (s_iload_n 72 mc_212 dX11_isAnswer_71 rfl rfl rfl).trans ?_
    refine (s_iload 74 mc_212 dX11_isAnswer_72 rfl rfl).trans ?_
    refine (s_icmp_eq 97 77 mc_212 dX11_isAnswer_74 rfl rfl).trans ?_
    refine ite_c ?_ ?_
    · skip
      refine (s_lconst 98 1 mc_212 dX11_isAnswer_97 rfl (by decide)).trans ?_
      refine (s_goto 102 mc_212 dX11_isAnswer_98 rfl).trans ?_
      refine (s_lastore 103 mc_212 dX11_isAnswer_102 rfl).trans ?_
      refine wJ_c fun h3 => ?_
      refine (s_iinc 1 106 mc_212 dX11_isAnswer_103 rfl rfl (Nat.le_of_ble_eq_true rfl) (by decide) rfl).trans ?_
      refine (s_goto 54 mc_212 dX11_isAnswer_106 rfl).trans ?_
      rfl
    · skip
      refine (s_aload_n 78 mc_212 dX11_isAnswer_77 rfl rfl rfl).trans ?_
      refine (s_aload_n 79 mc_212 dX11_isAnswer_78 rfl rfl rfl).trans ?_
      refine (s_getfR 82 mc_212 dX11_isAnswer_79 rfl mo_212 fs_11_168 ff_11_168 rfl).trans ?_
      refine gR_c fun g6 => ?_
      refine (s_iload_n 83 mc_212 dX11_isAnswer_82 rfl rfl rfl).trans ?_
      refine (s_iaload 84 mc_212 dX11_isAnswer_83 rfl).trans ?_
      refine aI_c fun g7 => ?_
      refine (s_aload_n 85 mc_212 dX11_isAnswer_84 rfl rfl rfl).trans ?_
      refine (s_getfR 88 mc_212 dX11_isAnswer_85 rfl mo_212 fs_11_168 ff_11_168 rfl).trans ?_
      refine gR_c fun g8 => ?_
      refine (s_iload 90 mc_212 dX11_isAnswer_88 rfl rfl).trans ?_
      refine (s_iaload 91 mc_212 dX11_isAnswer_90 rfl).trans ?_
      refine aI_c fun g9 => ?_
      refine (s_iviI 94 mc_212 dX11_isAnswer_91 rfl mo_212 mm_11_491 (by decide) ms_208 mi_208 mr_208 ma_208 mo_208 (by decide) (Nat.le_of_ble_eq_true rfl) rfl rfl (Nat.le_of_ble_eq_true rfl)).trans ?_
      refine gd_c ?_
      refine bI_c fun r10 h4 => ?_
      refine (s_if_eq 101 97 mc_212 dX11_isAnswer_94 rfl rfl).trans ?_
      refine ite_c ?_ ?_
      · skip
        refine (s_lconst 102 0 mc_212 dX11_isAnswer_101 rfl (by decide)).trans ?_
        refine (s_lastore 103 mc_212 dX11_isAnswer_102 rfl).trans ?_
        refine wJ_c fun h5 => ?_
        refine (s_iinc 1 106 mc_212 dX11_isAnswer_103 rfl rfl (Nat.le_of_ble_eq_true rfl) (by decide) rfl).trans ?_
        refine (s_goto 54 mc_212 dX11_isAnswer_106 rfl).trans ?_
        rfl
      · skip
        refine (s_lconst 98 1 mc_212 dX11_isAnswer_97 rfl (by decide)).trans ?_
        refine (s_goto 102 mc_212 dX11_isAnswer_98 rfl).trans ?_
        refine (s_lastore 103 mc_212 dX11_isAnswer_102 rfl).trans ?_
        refine wJ_c fun h6 => ?_
        refine (s_iinc 1 106 mc_212 dX11_isAnswer_103 rfl rfl (Nat.le_of_ble_eq_true rfl) (by decide) rfl).trans ?_
        refine (s_goto 54 mc_212 dX11_isAnswer_106 rfl).trans ?_
        rfl
theorem b_212_166 {X : Ctx} {d : Nat} (x0 : Nat) (x1 : Int32) (v2 : Option Value) (x3 : Int64) (x5 : Int32) (v6 : Option Value) (v7 : Option Value) (v8 : Option Value)  (h : Hp) : sem (X, K X d) 212 166 [some (.ref x0), some (.int x1), v2, some (.long x3), none, some (.int x5), v6, v7, v8] [] h = if 6 ≤ x5 then some (some (.int 1), h) else gI h 11 x0 63 fun g1 => if ¬ ((g1 >>> (x5 &&& 31)) &&& 1) = 0 then if ¬ ((x1 >>> (x5 &&& 31)) &&& 1) = 1 then gd (hS h x0 = (12, 0)) (bJ (K X d 209 [.ref x0, .int x5] h) fun r2 h1 => gJ h1 11 x0 70 fun g3 => sem (X, K X d) 212 230 [some (.ref x0), some (.int x1), v2, some (.long x3), none, some (.int x5), some (.long (r2 * g3)), none, some (.int 0)] [] h1) else gR h 11 x0 67 fun g4 => aJ h g4 x5 fun g5 => if 0 < (lg_cmp (g5 * x3) 0) then sem (X, K X d) 212 166 [some (.ref x0), some (.int x1), v2, some (.long x3), none, some (.int (x5 + 1)), v6, v7, v8] [] h else some (some (.int 0), h) else sem (X, K X d) 212 166 [some (.ref x0), some (.int x1), v2, some (.long x3), none, some (.int (x5 + 1)), v6, v7, v8] [] h := by
  refine (s_iload 168 mc_212 dX11_isAnswer_166 rfl rfl).trans ?_
  refine (s_bipush 170 6 mc_212 dX11_isAnswer_168 rfl (by decide)).trans ?_
  refine (s_icmp_ge 293 173 mc_212 dX11_isAnswer_170 rfl rfl).trans ?_
  refine ite_c ?_ ?_
  · skip
    refine (s_iconst 294 1 mc_212 dX11_isAnswer_293 rfl (by decide)).trans ?_
    exact s_zret1 mc_212 dX11_isAnswer_294 mt_212
  · skip
    refine (s_aload_n 174 mc_212 dX11_isAnswer_173 rfl rfl rfl).trans ?_
    refine (s_getfI 177 mc_212 dX11_isAnswer_174 rfl mo_212 fs_11_457 ff_11_457 (Or.inl rfl)).trans ?_
    refine gI_c fun g1 => ?_
    refine (s_iload 179 mc_212 dX11_isAnswer_177 rfl rfl).trans ?_
    refine (s_ishr 180 mc_212 dX11_isAnswer_179 rfl).trans ?_
    refine (s_iconst 181 1 mc_212 dX11_isAnswer_180 rfl (by decide)).trans ?_
    refine (s_iand 182 mc_212 dX11_isAnswer_181 rfl).trans ?_
    refine (s_if_ne 188 185 mc_212 dX11_isAnswer_182 rfl rfl).trans ?_
    refine ite_c ?_ ?_
    · skip
      refine (s_iload_n 189 mc_212 dX11_isAnswer_188 rfl rfl rfl).trans ?_
      refine (s_iload 191 mc_212 dX11_isAnswer_189 rfl rfl).trans ?_
      refine (s_ishr 192 mc_212 dX11_isAnswer_191 rfl).trans ?_
      refine (s_iconst 193 1 mc_212 dX11_isAnswer_192 rfl (by decide)).trans ?_
      refine (s_iand 194 mc_212 dX11_isAnswer_193 rfl).trans ?_
      refine (s_iconst 195 1 mc_212 dX11_isAnswer_194 rfl (by decide)).trans ?_
      refine (s_icmp_ne 214 198 mc_212 dX11_isAnswer_195 rfl rfl).trans ?_
      refine ite_c ?_ ?_
      · skip
        refine (s_aload_n 215 mc_212 dX11_isAnswer_214 rfl rfl rfl).trans ?_
        refine (s_iload 217 mc_212 dX11_isAnswer_215 rfl rfl).trans ?_
        refine (s_iviJ 220 mc_212 dX11_isAnswer_217 rfl mo_212 mm_11_502 (by decide) ms_209 mi_209 mr_209 ma_209 mo_209 (by decide) (Nat.le_of_ble_eq_true rfl) rfl rfl (Nat.le_of_ble_eq_true rfl)).trans ?_
        refine gd_c ?_
        refine bJ_c fun r2 h1 => ?_
        refine (s_aload_n 221 mc_212 dX11_isAnswer_220 rfl rfl rfl).trans ?_
        refine (s_getfJ 224 mc_212 dX11_isAnswer_221 rfl mo_212 fs_11_498 ff_11_498 rfl).trans ?_
        refine gJ_c fun g3 => ?_
        refine (s_lmul 225 mc_212 dX11_isAnswer_224 rfl).trans ?_
        refine (s_lstore 227 mc_212 dX11_isAnswer_225 rfl (Nat.le_of_ble_eq_true rfl) rfl).trans ?_
        refine (s_iconst 228 0 mc_212 dX11_isAnswer_227 rfl (by decide)).trans ?_
        refine (s_istore 230 mc_212 dX11_isAnswer_228 rfl (Nat.le_of_ble_eq_true rfl) rfl).trans ?_
        rfl
      · skip
        refine (s_aload_n 199 mc_212 dX11_isAnswer_198 rfl rfl rfl).trans ?_
        refine (s_getfR 202 mc_212 dX11_isAnswer_199 rfl mo_212 fs_11_162 ff_11_162 rfl).trans ?_
        refine gR_c fun g4 => ?_
        refine (s_iload 204 mc_212 dX11_isAnswer_202 rfl rfl).trans ?_
        refine (s_laload 205 mc_212 dX11_isAnswer_204 rfl).trans ?_
        refine aJ_c fun g5 => ?_
        refine (s_lload_n 206 mc_212 dX11_isAnswer_205 rfl rfl rfl rfl).trans ?_
        refine (s_lmul 207 mc_212 dX11_isAnswer_206 rfl).trans ?_
        refine (s_lconst 208 0 mc_212 dX11_isAnswer_207 rfl (by decide)).trans ?_
        refine (s_lcmp 209 mc_212 dX11_isAnswer_208 rfl).trans ?_
        refine (s_if_gt 287 212 mc_212 dX11_isAnswer_209 rfl rfl).trans ?_
        refine ite_c ?_ ?_
        · skip
          refine (s_iinc 1 290 mc_212 dX11_isAnswer_287 rfl rfl (Nat.le_of_ble_eq_true rfl) (by decide) rfl).trans ?_
          refine (s_goto 166 mc_212 dX11_isAnswer_290 rfl).trans ?_
          rfl
        · skip
          refine (s_iconst 213 0 mc_212 dX11_isAnswer_212 rfl (by decide)).trans ?_
          exact s_zret0 mc_212 dX11_isAnswer_213 mt_212
    · skip
      refine (s_goto 287 mc_212 dX11_isAnswer_185 rfl).trans ?_
      refine (s_iinc 1 290 mc_212 dX11_isAnswer_287 rfl rfl (Nat.le_of_ble_eq_true rfl) (by decide) rfl).trans ?_
      refine (s_goto 166 mc_212 dX11_isAnswer_290 rfl).trans ?_
      rfl
theorem b_212_230 {X : Ctx} {d : Nat} (x0 : Nat) (x1 : Int32) (v2 : Option Value) (x3 : Int64) (x5 : Int32) (x6 : Int64) (x8 : Int32)  (h : Hp) : sem (X, K X d) 212 230 [some (.ref x0), some (.int x1), v2, some (.long x3), none, some (.int x5), some (.long x6), none, some (.int x8)] [] h = if 6 ≤ x8 then if (lg_cmp (x6 * x3) 0) ≤ 0 then sem (X, K X d) 212 166 [some (.ref x0), some (.int x1), v2, some (.long x3), none, some (.int (x5 + 1)), some (.long x6), none, some (.int x8)] [] h else some (some (.int 0), h) else if ¬ ((x1 >>> (x8 &&& 31)) &&& 1) = 1 then sem (X, K X d) 212 230 [some (.ref x0), some (.int x1), v2, some (.long x3), none, some (.int x5), some (.long x6), none, some (.int (x8 + 1))] [] h else gd (hS h x0 = (12, 0)) (bI (K X d 208 [.ref x0, .int x5, .int x8] h) fun r1 h1 => if r1 = 0 then sem (X, K X d) 212 230 [some (.ref x0), some (.int x1), v2, some (.long x3), none, some (.int x5), some (.long x6), none, some (.int (x8 + 1))] [] h1 else gR h1 11 x0 67 fun g2 => aJ h1 g2 x8 fun g3 => sem (X, K X d) 212 230 [some (.ref x0), some (.int x1), v2, some (.long x3), none, some (.int x5), some (.long (x6 - g3)), none, some (.int (x8 + 1))] [] h1) := by
  refine (s_iload 232 mc_212 dX11_isAnswer_230 rfl rfl).trans ?_
  refine (s_bipush 234 6 mc_212 dX11_isAnswer_232 rfl (by decide)).trans ?_
  refine (s_icmp_ge 276 237 mc_212 dX11_isAnswer_234 rfl rfl).trans ?_
  refine ite_c ?_ ?_
  · skip
    refine (s_lload 278 mc_212 dX11_isAnswer_276 rfl rfl rfl).trans ?_
    refine (s_lload_n 279 mc_212 dX11_isAnswer_278 rfl rfl rfl rfl).trans ?_
    refine (s_lmul 280 mc_212 dX11_isAnswer_279 rfl).trans ?_
    refine (s_lconst 281 0 mc_212 dX11_isAnswer_280 rfl (by decide)).trans ?_
    refine (s_lcmp 282 mc_212 dX11_isAnswer_281 rfl).trans ?_
    refine (s_if_le 287 285 mc_212 dX11_isAnswer_282 rfl rfl).trans ?_
    refine ite_c ?_ ?_
    · skip
      refine (s_iinc 1 290 mc_212 dX11_isAnswer_287 rfl rfl (Nat.le_of_ble_eq_true rfl) (by decide) rfl).trans ?_
      refine (s_goto 166 mc_212 dX11_isAnswer_290 rfl).trans ?_
      rfl
    · skip
      refine (s_iconst 286 0 mc_212 dX11_isAnswer_285 rfl (by decide)).trans ?_
      exact s_zret0 mc_212 dX11_isAnswer_286 mt_212
  · skip
    refine (s_iload_n 238 mc_212 dX11_isAnswer_237 rfl rfl rfl).trans ?_
    refine (s_iload 240 mc_212 dX11_isAnswer_238 rfl rfl).trans ?_
    refine (s_ishr 241 mc_212 dX11_isAnswer_240 rfl).trans ?_
    refine (s_iconst 242 1 mc_212 dX11_isAnswer_241 rfl (by decide)).trans ?_
    refine (s_iand 243 mc_212 dX11_isAnswer_242 rfl).trans ?_
    refine (s_iconst 244 1 mc_212 dX11_isAnswer_243 rfl (by decide)).trans ?_
    refine (s_icmp_ne 270 247 mc_212 dX11_isAnswer_244 rfl rfl).trans ?_
    refine ite_c ?_ ?_
    · skip
      refine (s_iinc 1 273 mc_212 dX11_isAnswer_270 rfl rfl (Nat.le_of_ble_eq_true rfl) (by decide) rfl).trans ?_
      refine (s_goto 230 mc_212 dX11_isAnswer_273 rfl).trans ?_
      rfl
    · skip
      refine (s_aload_n 248 mc_212 dX11_isAnswer_247 rfl rfl rfl).trans ?_
      refine (s_iload 250 mc_212 dX11_isAnswer_248 rfl rfl).trans ?_
      refine (s_iload 252 mc_212 dX11_isAnswer_250 rfl rfl).trans ?_
      refine (s_iviI 255 mc_212 dX11_isAnswer_252 rfl mo_212 mm_11_491 (by decide) ms_208 mi_208 mr_208 ma_208 mo_208 (by decide) (Nat.le_of_ble_eq_true rfl) rfl rfl (Nat.le_of_ble_eq_true rfl)).trans ?_
      refine gd_c ?_
      refine bI_c fun r1 h1 => ?_
      refine (s_if_eq 270 258 mc_212 dX11_isAnswer_255 rfl rfl).trans ?_
      refine ite_c ?_ ?_
      · skip
        refine (s_iinc 1 273 mc_212 dX11_isAnswer_270 rfl rfl (Nat.le_of_ble_eq_true rfl) (by decide) rfl).trans ?_
        refine (s_goto 230 mc_212 dX11_isAnswer_273 rfl).trans ?_
        rfl
      · skip
        refine (s_lload 260 mc_212 dX11_isAnswer_258 rfl rfl rfl).trans ?_
        refine (s_aload_n 261 mc_212 dX11_isAnswer_260 rfl rfl rfl).trans ?_
        refine (s_getfR 264 mc_212 dX11_isAnswer_261 rfl mo_212 fs_11_162 ff_11_162 rfl).trans ?_
        refine gR_c fun g2 => ?_
        refine (s_iload 266 mc_212 dX11_isAnswer_264 rfl rfl).trans ?_
        refine (s_laload 267 mc_212 dX11_isAnswer_266 rfl).trans ?_
        refine aJ_c fun g3 => ?_
        refine (s_lsub 268 mc_212 dX11_isAnswer_267 rfl).trans ?_
        refine (s_lstore 270 mc_212 dX11_isAnswer_268 rfl (Nat.le_of_ble_eq_true rfl) rfl).trans ?_
        refine (s_iinc 1 273 mc_212 dX11_isAnswer_270 rfl rfl (Nat.le_of_ble_eq_true rfl) (by decide) rfl).trans ?_
        refine (s_goto 230 mc_212 dX11_isAnswer_273 rfl).trans ?_
        rfl
/-- FiveLandsModel.findsTaken(I)I -/
theorem k_213 {X : Ctx} {d : Nat} (x0 : Nat) (x1 : Int32) (h : Hp) : K X (d + 1) 213 [.ref x0, .int x1] h = sem (X, K X d) 213 2 [some (.ref x0), some (.int x1), some (.int 0), none, none] [] h := by
  show sem (X, K X d) 213 0 [some (.ref x0), some (.int x1), none, none, none] [] h = _
  refine (s_iconst 1 0 mc_213 dX11_findsTaken_0 rfl (by decide)).trans ?_
  refine (s_istore_n 2 mc_213 dX11_findsTaken_1 rfl rfl (Nat.le_of_ble_eq_true rfl) rfl).trans ?_
  rfl
theorem b_213_2 {X : Ctx} {d : Nat} (x0 : Nat) (x1 : Int32) (x2 : Int32) (v3 : Option Value) (v4 : Option Value)  (h : Hp) : sem (X, K X d) 213 2 [some (.ref x0), some (.int x1), some (.int x2), v3, v4] [] h = if 6 ≤ x2 then sem (X, K X d) 213 42 [some (.ref x0), some (.int x1), some (.int 0), some (.int 0), v4] [] h else gR h 11 x0 64 fun g1 => gd (hS h x0 = (12, 0)) (bJ (K X d 207 [.ref x0, .int x1, .int x2] h) fun r2 h1 => wJ h1 g1 x2 r2 fun h2 => gR h2 11 x0 66 fun g3 => gR h2 11 x0 64 fun g4 => aJ h2 g4 x2 fun g5 => wJ h2 g3 x2 g5 fun h3 => sem (X, K X d) 213 2 [some (.ref x0), some (.int x1), some (.int (x2 + 1)), v3, v4] [] h3) := by
  refine (s_iload_n 3 mc_213 dX11_findsTaken_2 rfl rfl rfl).trans ?_
  refine (s_bipush 5 6 mc_213 dX11_findsTaken_3 rfl (by decide)).trans ?_
  refine (s_icmp_ge 38 8 mc_213 dX11_findsTaken_5 rfl rfl).trans ?_
  refine ite_c ?_ ?_
  · skip
    refine (s_iconst 39 0 mc_213 dX11_findsTaken_38 rfl (by decide)).trans ?_
    refine (s_istore_n 40 mc_213 dX11_findsTaken_39 rfl rfl (Nat.le_of_ble_eq_true rfl) rfl).trans ?_
    refine (s_iconst 41 0 mc_213 dX11_findsTaken_40 rfl (by decide)).trans ?_
    refine (s_istore_n 42 mc_213 dX11_findsTaken_41 rfl rfl (Nat.le_of_ble_eq_true rfl) rfl).trans ?_
    rfl
  · skip
    refine (s_aload_n 9 mc_213 dX11_findsTaken_8 rfl rfl rfl).trans ?_
    refine (s_getfR 12 mc_213 dX11_findsTaken_9 rfl mo_213 fs_11_152 ff_11_152 rfl).trans ?_
    refine gR_c fun g1 => ?_
    refine (s_iload_n 13 mc_213 dX11_findsTaken_12 rfl rfl rfl).trans ?_
    refine (s_aload_n 14 mc_213 dX11_findsTaken_13 rfl rfl rfl).trans ?_
    refine (s_iload_n 15 mc_213 dX11_findsTaken_14 rfl rfl rfl).trans ?_
    refine (s_iload_n 16 mc_213 dX11_findsTaken_15 rfl rfl rfl).trans ?_
    refine (s_iviJ 19 mc_213 dX11_findsTaken_16 rfl mo_213 mm_11_509 (by decide) ms_207 mi_207 mr_207 ma_207 mo_207 (by decide) (Nat.le_of_ble_eq_true rfl) rfl rfl (Nat.le_of_ble_eq_true rfl)).trans ?_
    refine gd_c ?_
    refine bJ_c fun r2 h1 => ?_
    refine (s_lastore 20 mc_213 dX11_findsTaken_19 rfl).trans ?_
    refine wJ_c fun h2 => ?_
    refine (s_aload_n 21 mc_213 dX11_findsTaken_20 rfl rfl rfl).trans ?_
    refine (s_getfR 24 mc_213 dX11_findsTaken_21 rfl mo_213 fs_11_159 ff_11_159 rfl).trans ?_
    refine gR_c fun g3 => ?_
    refine (s_iload_n 25 mc_213 dX11_findsTaken_24 rfl rfl rfl).trans ?_
    refine (s_aload_n 26 mc_213 dX11_findsTaken_25 rfl rfl rfl).trans ?_
    refine (s_getfR 29 mc_213 dX11_findsTaken_26 rfl mo_213 fs_11_152 ff_11_152 rfl).trans ?_
    refine gR_c fun g4 => ?_
    refine (s_iload_n 30 mc_213 dX11_findsTaken_29 rfl rfl rfl).trans ?_
    refine (s_laload 31 mc_213 dX11_findsTaken_30 rfl).trans ?_
    refine aJ_c fun g5 => ?_
    refine (s_lastore 32 mc_213 dX11_findsTaken_31 rfl).trans ?_
    refine wJ_c fun h3 => ?_
    refine (s_iinc 1 35 mc_213 dX11_findsTaken_32 rfl rfl (Nat.le_of_ble_eq_true rfl) (by decide) rfl).trans ?_
    refine (s_goto 2 mc_213 dX11_findsTaken_35 rfl).trans ?_
    rfl
theorem b_213_42 {X : Ctx} {d : Nat} (x0 : Nat) (v1 : Option Value) (v2 : Option Value) (x3 : Int32) (v4 : Option Value)  (h : Hp) : sem (X, K X d) 213 42 [some (.ref x0), v1, v2, some (.int x3), v4] [] h = if 64 ≤ x3 then sem (X, K X d) 213 133 [some (.ref x0), v1, v2, some (.int 0), v4] [] h else gI h 11 x0 63 fun g1 => if ¬ (x3 &&& (g1 ^^^ (-1))) = 0 then sem (X, K X d) 213 42 [some (.ref x0), v1, v2, some (.int (x3 + 1)), v4] [] h else gd (hS h x0 = (12, 0)) (bI (K X d 212 [.ref x0, .int x3] h) fun r2 h1 => if ¬ r2 = 0 then sem (X, K X d) 213 73 [some (.ref x0), v1, v2, some (.int x3), some (.int 0)] [] h1 else sem (X, K X d) 213 42 [some (.ref x0), v1, v2, some (.int (x3 + 1)), v4] [] h1) := by
  refine (s_iload_n 43 mc_213 dX11_findsTaken_42 rfl rfl rfl).trans ?_
  refine (s_bipush 45 64 mc_213 dX11_findsTaken_43 rfl (by decide)).trans ?_
  refine (s_icmp_ge 131 48 mc_213 dX11_findsTaken_45 rfl rfl).trans ?_
  refine ite_c ?_ ?_
  · skip
    refine (s_iconst 132 0 mc_213 dX11_findsTaken_131 rfl (by decide)).trans ?_
    refine (s_istore_n 133 mc_213 dX11_findsTaken_132 rfl rfl (Nat.le_of_ble_eq_true rfl) rfl).trans ?_
    rfl
  · skip
    refine (s_iload_n 49 mc_213 dX11_findsTaken_48 rfl rfl rfl).trans ?_
    refine (s_aload_n 50 mc_213 dX11_findsTaken_49 rfl rfl rfl).trans ?_
    refine (s_getfI 53 mc_213 dX11_findsTaken_50 rfl mo_213 fs_11_457 ff_11_457 (Or.inl rfl)).trans ?_
    refine gI_c fun g1 => ?_
    refine (s_iconst 54 (-1) mc_213 dX11_findsTaken_53 rfl (by decide)).trans ?_
    refine (s_ixor 55 mc_213 dX11_findsTaken_54 rfl).trans ?_
    refine (s_iand 56 mc_213 dX11_findsTaken_55 rfl).trans ?_
    refine (s_if_ne 125 59 mc_213 dX11_findsTaken_56 rfl rfl).trans ?_
    refine ite_c ?_ ?_
    · skip
      refine (s_iinc 1 128 mc_213 dX11_findsTaken_125 rfl rfl (Nat.le_of_ble_eq_true rfl) (by decide) rfl).trans ?_
      refine (s_goto 42 mc_213 dX11_findsTaken_128 rfl).trans ?_
      rfl
    · skip
      refine (s_aload_n 60 mc_213 dX11_findsTaken_59 rfl rfl rfl).trans ?_
      refine (s_iload_n 61 mc_213 dX11_findsTaken_60 rfl rfl rfl).trans ?_
      refine (s_iviI 64 mc_213 dX11_findsTaken_61 rfl mo_213 mm_11_512 (by decide) ms_212 mi_212 mr_212 ma_212 mo_212 (by decide) (Nat.le_of_ble_eq_true rfl) rfl rfl (Nat.le_of_ble_eq_true rfl)).trans ?_
      refine gd_c ?_
      refine bI_c fun r2 h1 => ?_
      refine (s_if_ne 70 67 mc_213 dX11_findsTaken_64 rfl rfl).trans ?_
      refine ite_c ?_ ?_
      · skip
        refine (s_iconst 71 0 mc_213 dX11_findsTaken_70 rfl (by decide)).trans ?_
        refine (s_istore 73 mc_213 dX11_findsTaken_71 rfl (Nat.le_of_ble_eq_true rfl) rfl).trans ?_
        rfl
      · skip
        refine (s_goto 125 mc_213 dX11_findsTaken_67 rfl).trans ?_
        refine (s_iinc 1 128 mc_213 dX11_findsTaken_125 rfl rfl (Nat.le_of_ble_eq_true rfl) (by decide) rfl).trans ?_
        refine (s_goto 42 mc_213 dX11_findsTaken_128 rfl).trans ?_
        rfl
theorem b_213_73 {X : Ctx} {d : Nat} (x0 : Nat) (v1 : Option Value) (x2 : Int32) (x3 : Int32) (x4 : Int32)  (h : Hp) : sem (X, K X d) 213 73 [some (.ref x0), v1, some (.int x2), some (.int x3), some (.int x4)] [] h = if 6 ≤ x4 then sem (X, K X d) 213 42 [some (.ref x0), v1, some (.int (x2 + 1)), some (.int (x3 + 1)), some (.int x4)] [] h else if ¬ x2 = 0 then sem (X, K X d) 213 42 [some (.ref x0), v1, some (.int (x2 + 1)), some (.int (x3 + 1)), some (.int x4)] [] h else gI h 11 x0 63 fun g1 => if ¬ ((g1 >>> (x4 &&& 31)) &&& 1) = 1 then sem (X, K X d) 213 73 [some (.ref x0), v1, some (.int x2), some (.int x3), some (.int (x4 + 1))] [] h else gR h 11 x0 66 fun g2 => gR h 11 x0 67 fun g3 => aJ h g3 x4 fun g4 => gJ h 11 x0 70 fun g5 => gd (¬ g5 = 0) (wJ h g2 x4 (g4 / g5) fun h1 => sem (X, K X d) 213 73 [some (.ref x0), v1, some (.int x2), some (.int x3), some (.int (x4 + 1))] [] h1) := by
  refine (s_iload 75 mc_213 dX11_findsTaken_73 rfl rfl).trans ?_
  refine (s_bipush 77 6 mc_213 dX11_findsTaken_75 rfl (by decide)).trans ?_
  refine (s_icmp_ge 122 80 mc_213 dX11_findsTaken_77 rfl rfl).trans ?_
  refine ite_c ?_ ?_
  · skip
    refine (s_iinc 1 125 mc_213 dX11_findsTaken_122 rfl rfl (Nat.le_of_ble_eq_true rfl) (by decide) rfl).trans ?_
    refine (s_iinc 1 128 mc_213 dX11_findsTaken_125 rfl rfl (Nat.le_of_ble_eq_true rfl) (by decide) rfl).trans ?_
    refine (s_goto 42 mc_213 dX11_findsTaken_128 rfl).trans ?_
    rfl
  · skip
    refine (s_iload_n 81 mc_213 dX11_findsTaken_80 rfl rfl rfl).trans ?_
    refine (s_if_ne 122 84 mc_213 dX11_findsTaken_81 rfl rfl).trans ?_
    refine ite_c ?_ ?_
    · skip
      refine (s_iinc 1 125 mc_213 dX11_findsTaken_122 rfl rfl (Nat.le_of_ble_eq_true rfl) (by decide) rfl).trans ?_
      refine (s_iinc 1 128 mc_213 dX11_findsTaken_125 rfl rfl (Nat.le_of_ble_eq_true rfl) (by decide) rfl).trans ?_
      refine (s_goto 42 mc_213 dX11_findsTaken_128 rfl).trans ?_
      rfl
    · skip
      refine (s_aload_n 85 mc_213 dX11_findsTaken_84 rfl rfl rfl).trans ?_
      refine (s_getfI 88 mc_213 dX11_findsTaken_85 rfl mo_213 fs_11_457 ff_11_457 (Or.inl rfl)).trans ?_
      refine gI_c fun g1 => ?_
      refine (s_iload 90 mc_213 dX11_findsTaken_88 rfl rfl).trans ?_
      refine (s_ishr 91 mc_213 dX11_findsTaken_90 rfl).trans ?_
      refine (s_iconst 92 1 mc_213 dX11_findsTaken_91 rfl (by decide)).trans ?_
      refine (s_iand 93 mc_213 dX11_findsTaken_92 rfl).trans ?_
      refine (s_iconst 94 1 mc_213 dX11_findsTaken_93 rfl (by decide)).trans ?_
      refine (s_icmp_ne 116 97 mc_213 dX11_findsTaken_94 rfl rfl).trans ?_
      refine ite_c ?_ ?_
      · skip
        refine (s_iinc 1 119 mc_213 dX11_findsTaken_116 rfl rfl (Nat.le_of_ble_eq_true rfl) (by decide) rfl).trans ?_
        refine (s_goto 73 mc_213 dX11_findsTaken_119 rfl).trans ?_
        rfl
      · skip
        refine (s_aload_n 98 mc_213 dX11_findsTaken_97 rfl rfl rfl).trans ?_
        refine (s_getfR 101 mc_213 dX11_findsTaken_98 rfl mo_213 fs_11_159 ff_11_159 rfl).trans ?_
        refine gR_c fun g2 => ?_
        refine (s_iload 103 mc_213 dX11_findsTaken_101 rfl rfl).trans ?_
        refine (s_aload_n 104 mc_213 dX11_findsTaken_103 rfl rfl rfl).trans ?_
        refine (s_getfR 107 mc_213 dX11_findsTaken_104 rfl mo_213 fs_11_162 ff_11_162 rfl).trans ?_
        refine gR_c fun g3 => ?_
        refine (s_iload 109 mc_213 dX11_findsTaken_107 rfl rfl).trans ?_
        refine (s_laload 110 mc_213 dX11_findsTaken_109 rfl).trans ?_
        refine aJ_c fun g4 => ?_
        refine (s_aload_n 111 mc_213 dX11_findsTaken_110 rfl rfl rfl).trans ?_
        refine (s_getfJ 114 mc_213 dX11_findsTaken_111 rfl mo_213 fs_11_498 ff_11_498 rfl).trans ?_
        refine gJ_c fun g5 => ?_
        refine (s_ldiv 115 mc_213 dX11_findsTaken_114 rfl).trans ?_
        refine gd_c ?_
        refine (s_lastore 116 mc_213 dX11_findsTaken_115 rfl).trans ?_
        refine wJ_c fun h1 => ?_
        refine (s_iinc 1 119 mc_213 dX11_findsTaken_116 rfl rfl (Nat.le_of_ble_eq_true rfl) (by decide) rfl).trans ?_
        refine (s_goto 73 mc_213 dX11_findsTaken_119 rfl).trans ?_
        rfl
theorem b_213_133 {X : Ctx} {d : Nat} (x0 : Nat) (v1 : Option Value) (x2 : Int32) (x3 : Int32) (v4 : Option Value)  (h : Hp) : sem (X, K X d) 213 133 [some (.ref x0), v1, some (.int x2), some (.int x3), v4] [] h = if 6 ≤ x3 then some (some (.int x2), h) else gR h 11 x0 65 fun g1 => gR h 11 x0 66 fun g2 => aJ h g2 x3 fun g3 => wJ h g1 x3 g3 fun h1 => sem (X, K X d) 213 133 [some (.ref x0), v1, some (.int x2), some (.int (x3 + 1)), v4] [] h1 := by
  refine (s_iload_n 134 mc_213 dX11_findsTaken_133 rfl rfl rfl).trans ?_
  refine (s_bipush 136 6 mc_213 dX11_findsTaken_134 rfl (by decide)).trans ?_
  refine (s_icmp_ge 157 139 mc_213 dX11_findsTaken_136 rfl rfl).trans ?_
  refine ite_c ?_ ?_
  · skip
    refine (s_iload_n 158 mc_213 dX11_findsTaken_157 rfl rfl rfl).trans ?_
    exact s_iret mc_213 dX11_findsTaken_158 mt_213
  · skip
    refine (s_aload_n 140 mc_213 dX11_findsTaken_139 rfl rfl rfl).trans ?_
    refine (s_getfR 143 mc_213 dX11_findsTaken_140 rfl mo_213 fs_11_156 ff_11_156 rfl).trans ?_
    refine gR_c fun g1 => ?_
    refine (s_iload_n 144 mc_213 dX11_findsTaken_143 rfl rfl rfl).trans ?_
    refine (s_aload_n 145 mc_213 dX11_findsTaken_144 rfl rfl rfl).trans ?_
    refine (s_getfR 148 mc_213 dX11_findsTaken_145 rfl mo_213 fs_11_159 ff_11_159 rfl).trans ?_
    refine gR_c fun g2 => ?_
    refine (s_iload_n 149 mc_213 dX11_findsTaken_148 rfl rfl rfl).trans ?_
    refine (s_laload 150 mc_213 dX11_findsTaken_149 rfl).trans ?_
    refine aJ_c fun g3 => ?_
    refine (s_lastore 151 mc_213 dX11_findsTaken_150 rfl).trans ?_
    refine wJ_c fun h1 => ?_
    refine (s_iinc 1 154 mc_213 dX11_findsTaken_151 rfl rfl (Nat.le_of_ble_eq_true rfl) (by decide) rfl).trans ?_
    refine (s_goto 133 mc_213 dX11_findsTaken_154 rfl).trans ?_
    rfl
/-- FiveLandsModel.takes(IIII)J -/
theorem k_214 {X : Ctx} {d : Nat} (x0 : Nat) (x1 : Int32) (x2 : Int32) (x3 : Int32) (x4 : Int32) (h : Hp) : K X (d + 1) 214 [.ref x0, .int x1, .int x2, .int x3, .int x4] h = bI (K X d 143 [.int x1] h) fun r1 h1 => if r1 = 0 then some (some (.long (-1)), h1) else gR h1 11 x0 3 fun g2 => aI X h1 g2 x1 fun g3 => bI (K X d 142 [.int x2, .int 0, .int (g3 - 1)] h1) fun r4 h2 => if r4 = 0 then some (some (.long (-1)), h2) else bI (K X d 142 [.int x4, .int 0, .int 4] h2) fun r5 h3 => if r5 = 0 then some (some (.long (-1)), h3) else if x4 = 3 then gd (hS h3 x0 = (12, 0)) (bV (K X d 189 [.ref x0, .int x1] h3) fun h4 => gd (hS h4 x0 = (12, 0)) (bV (K X d 197 [.ref x0] h4) fun h5 => gd (hS h5 x0 = (12, 0)) (bI (K X d 213 [.ref x0, .int x2] h5) fun r6 h6 => sem (X, K X d) 214 (tsw 0 [100, 108, 115, 122] 126 x4) [some (.ref x0), some (.int x1), some (.int x2), some (.int x3), some (.int x4), some (.int r6)] [] h6))) else bI (K X d 144 [.int x3] h3) fun r7 h7 => if ¬ r7 = 0 then gd (hS h7 x0 = (12, 0)) (bV (K X d 189 [.ref x0, .int x1] h7) fun h8 => gd (hS h8 x0 = (12, 0)) (bV (K X d 197 [.ref x0] h8) fun h9 => gd (hS h9 x0 = (12, 0)) (bI (K X d 213 [.ref x0, .int x2] h9) fun r8 h10 => sem (X, K X d) 214 (tsw 0 [100, 108, 115, 122] 126 x4) [some (.ref x0), some (.int x1), some (.int x2), some (.int x3), some (.int x4), some (.int r8)] [] h10))) else some (some (.long (-1)), h7) := by
  show sem (X, K X d) 214 0 [some (.ref x0), some (.int x1), some (.int x2), some (.int x3), some (.int x4), none] [] h = _
  refine (s_iload_n 1 mc_214 dX11_takes_0 rfl rfl rfl).trans ?_
  refine (s_istI 4 mc_214 dX11_takes_1 rfl mo_214 mm_11_207 (by decide) ms_143 mr_143 ma_143 (Nat.le_of_ble_eq_true rfl) rfl rfl (Nat.le_of_ble_eq_true rfl)).trans ?_
  refine bI_c fun r1 h1 => ?_
  refine (s_if_eq 46 7 mc_214 dX11_takes_4 rfl rfl).trans ?_
  refine ite_c ?_ ?_
  · skip
    refine (s_ldc2_w 49 (-1) mc_214 dX11_takes_46 rfl mo_214 cl_11_474 (by decide)).trans ?_
    exact s_lret mc_214 dX11_takes_49 mt_214
  · skip
    refine (s_iload_n 8 mc_214 dX11_takes_7 rfl rfl rfl).trans ?_
    refine (s_iconst 9 0 mc_214 dX11_takes_8 rfl (by decide)).trans ?_
    refine (s_aload_n 10 mc_214 dX11_takes_9 rfl rfl rfl).trans ?_
    refine (s_getfR 13 mc_214 dX11_takes_10 rfl mo_214 fs_11_23 ff_11_23 rfl).trans ?_
    refine gR_c fun g2 => ?_
    refine (s_iload_n 14 mc_214 dX11_takes_13 rfl rfl rfl).trans ?_
    refine (s_iaload 15 mc_214 dX11_takes_14 rfl).trans ?_
    refine aI_c fun g3 => ?_
    refine (s_iconst 16 1 mc_214 dX11_takes_15 rfl (by decide)).trans ?_
    refine (s_isub 17 mc_214 dX11_takes_16 rfl).trans ?_
    refine (s_istI 20 mc_214 dX11_takes_17 rfl mo_214 mm_11_1 (by decide) ms_142 mr_142 ma_142 (Nat.le_of_ble_eq_true rfl) rfl rfl (Nat.le_of_ble_eq_true rfl)).trans ?_
    refine bI_c fun r4 h2 => ?_
    refine (s_if_eq 46 23 mc_214 dX11_takes_20 rfl rfl).trans ?_
    refine ite_c ?_ ?_
    · skip
      refine (s_ldc2_w 49 (-1) mc_214 dX11_takes_46 rfl mo_214 cl_11_474 (by decide)).trans ?_
      exact s_lret mc_214 dX11_takes_49 mt_214
    · skip
      refine (s_iload 25 mc_214 dX11_takes_23 rfl rfl).trans ?_
      refine (s_iconst 26 0 mc_214 dX11_takes_25 rfl (by decide)).trans ?_
      refine (s_iconst 27 4 mc_214 dX11_takes_26 rfl (by decide)).trans ?_
      refine (s_istI 30 mc_214 dX11_takes_27 rfl mo_214 mm_11_1 (by decide) ms_142 mr_142 ma_142 (Nat.le_of_ble_eq_true rfl) rfl rfl (Nat.le_of_ble_eq_true rfl)).trans ?_
      refine bI_c fun r5 h3 => ?_
      refine (s_if_eq 46 33 mc_214 dX11_takes_30 rfl rfl).trans ?_
      refine ite_c ?_ ?_
      · skip
        refine (s_ldc2_w 49 (-1) mc_214 dX11_takes_46 rfl mo_214 cl_11_474 (by decide)).trans ?_
        exact s_lret mc_214 dX11_takes_49 mt_214
      · skip
        refine (s_iload 35 mc_214 dX11_takes_33 rfl rfl).trans ?_
        refine (s_iconst 36 3 mc_214 dX11_takes_35 rfl (by decide)).trans ?_
        refine (s_icmp_eq 50 39 mc_214 dX11_takes_36 rfl rfl).trans ?_
        refine ite_c ?_ ?_
        · skip
          refine (s_aload_n 51 mc_214 dX11_takes_50 rfl rfl rfl).trans ?_
          refine (s_iload_n 52 mc_214 dX11_takes_51 rfl rfl rfl).trans ?_
          refine (s_iviV 55 mc_214 dX11_takes_52 rfl mo_214 mm_11_463 (by decide) ms_189 mi_189 mr_189 ma_189 mo_189 (by decide) (Nat.le_of_ble_eq_true rfl) rfl rfl (Nat.le_of_ble_eq_true rfl)).trans ?_
          refine gd_c ?_
          refine bV_c fun h4 => ?_
          refine (s_aload_n 56 mc_214 dX11_takes_55 rfl rfl rfl).trans ?_
          refine (s_iviV 59 mc_214 dX11_takes_56 rfl mo_214 mm_11_466 (by decide) ms_197 mi_197 mr_197 ma_197 mo_197 (by decide) (Nat.le_of_ble_eq_true rfl) rfl rfl (Nat.le_of_ble_eq_true rfl)).trans ?_
          refine gd_c ?_
          refine bV_c fun h5 => ?_
          refine (s_aload_n 60 mc_214 dX11_takes_59 rfl rfl rfl).trans ?_
          refine (s_iload_n 61 mc_214 dX11_takes_60 rfl rfl rfl).trans ?_
          refine (s_iviI 64 mc_214 dX11_takes_61 rfl mo_214 mm_11_515 (by decide) ms_213 mi_213 mr_213 ma_213 mo_213 (by decide) (Nat.le_of_ble_eq_true rfl) rfl rfl (Nat.le_of_ble_eq_true rfl)).trans ?_
          refine gd_c ?_
          refine bI_c fun r6 h6 => ?_
          refine (s_istore 66 mc_214 dX11_takes_64 rfl (Nat.le_of_ble_eq_true rfl) rfl).trans ?_
          refine (s_iload 68 mc_214 dX11_takes_66 rfl rfl).trans ?_
          refine (s_tsw [100, 108, 115, 122] 126 mc_214 dX11_takes_68 rfl rfl rfl).trans ?_
          rfl
        · skip
          refine (s_iload_n 40 mc_214 dX11_takes_39 rfl rfl rfl).trans ?_
          refine (s_istI 43 mc_214 dX11_takes_40 rfl mo_214 mm_11_211 (by decide) ms_144 mr_144 ma_144 (Nat.le_of_ble_eq_true rfl) rfl rfl (Nat.le_of_ble_eq_true rfl)).trans ?_
          refine bI_c fun r7 h7 => ?_
          refine (s_if_ne 50 46 mc_214 dX11_takes_43 rfl rfl).trans ?_
          refine ite_c ?_ ?_
          · skip
            refine (s_aload_n 51 mc_214 dX11_takes_50 rfl rfl rfl).trans ?_
            refine (s_iload_n 52 mc_214 dX11_takes_51 rfl rfl rfl).trans ?_
            refine (s_iviV 55 mc_214 dX11_takes_52 rfl mo_214 mm_11_463 (by decide) ms_189 mi_189 mr_189 ma_189 mo_189 (by decide) (Nat.le_of_ble_eq_true rfl) rfl rfl (Nat.le_of_ble_eq_true rfl)).trans ?_
            refine gd_c ?_
            refine bV_c fun h8 => ?_
            refine (s_aload_n 56 mc_214 dX11_takes_55 rfl rfl rfl).trans ?_
            refine (s_iviV 59 mc_214 dX11_takes_56 rfl mo_214 mm_11_466 (by decide) ms_197 mi_197 mr_197 ma_197 mo_197 (by decide) (Nat.le_of_ble_eq_true rfl) rfl rfl (Nat.le_of_ble_eq_true rfl)).trans ?_
            refine gd_c ?_
            refine bV_c fun h9 => ?_
            refine (s_aload_n 60 mc_214 dX11_takes_59 rfl rfl rfl).trans ?_
            refine (s_iload_n 61 mc_214 dX11_takes_60 rfl rfl rfl).trans ?_
            refine (s_iviI 64 mc_214 dX11_takes_61 rfl mo_214 mm_11_515 (by decide) ms_213 mi_213 mr_213 ma_213 mo_213 (by decide) (Nat.le_of_ble_eq_true rfl) rfl rfl (Nat.le_of_ble_eq_true rfl)).trans ?_
            refine gd_c ?_
            refine bI_c fun r8 h10 => ?_
            refine (s_istore 66 mc_214 dX11_takes_64 rfl (Nat.le_of_ble_eq_true rfl) rfl).trans ?_
            refine (s_iload 68 mc_214 dX11_takes_66 rfl rfl).trans ?_
            refine (s_tsw [100, 108, 115, 122] 126 mc_214 dX11_takes_68 rfl rfl rfl).trans ?_
            rfl
          · skip
            refine (s_ldc2_w 49 (-1) mc_214 dX11_takes_46 rfl mo_214 cl_11_474 (by decide)).trans ?_
            exact s_lret mc_214 dX11_takes_49 mt_214
theorem b_214_100 {X : Ctx} {d : Nat} (x0 : Nat) (v1 : Option Value) (x2 : Int32) (x3 : Int32) (v4 : Option Value) (v5 : Option Value)  (h : Hp) : sem (X, K X d) 214 100 [some (.ref x0), v1, some (.int x2), some (.int x3), v4, v5] [] h = gd (hS h x0 = (12, 0)) (bI (K X d 203 [.ref x0, .int x2, .int x3] h) fun r1 h1 => some (some (.long (r1 : Int32).toInt64), h1)) := by
  refine (s_aload_n 101 mc_214 dX11_takes_100 rfl rfl rfl).trans ?_
  refine (s_iload_n 102 mc_214 dX11_takes_101 rfl rfl rfl).trans ?_
  refine (s_iload_n 103 mc_214 dX11_takes_102 rfl rfl rfl).trans ?_
  refine (s_iviI 106 mc_214 dX11_takes_103 rfl mo_214 mm_11_482 (by decide) ms_203 mi_203 mr_203 ma_203 mo_203 (by decide) (Nat.le_of_ble_eq_true rfl) rfl rfl (Nat.le_of_ble_eq_true rfl)).trans ?_
  refine gd_c ?_
  refine bI_c fun r1 h1 => ?_
  refine (s_i2l 107 mc_214 dX11_takes_106 rfl).trans ?_
  exact s_lret mc_214 dX11_takes_107 mt_214
theorem b_214_108 {X : Ctx} {d : Nat} (x0 : Nat) (v1 : Option Value) (v2 : Option Value) (x3 : Int32) (v4 : Option Value) (v5 : Option Value)  (h : Hp) : sem (X, K X d) 214 108 [some (.ref x0), v1, v2, some (.int x3), v4, v5] [] h = gR h 11 x0 64 fun g1 => aJ h g1 x3 fun g2 => some (some (.long g2), h) := by
  refine (s_aload_n 109 mc_214 dX11_takes_108 rfl rfl rfl).trans ?_
  refine (s_getfR 112 mc_214 dX11_takes_109 rfl mo_214 fs_11_152 ff_11_152 rfl).trans ?_
  refine gR_c fun g1 => ?_
  refine (s_iload_n 113 mc_214 dX11_takes_112 rfl rfl rfl).trans ?_
  refine (s_laload 114 mc_214 dX11_takes_113 rfl).trans ?_
  refine aJ_c fun g2 => ?_
  exact s_lret mc_214 dX11_takes_114 mt_214
theorem b_214_115 {X : Ctx} {d : Nat} (x0 : Nat) (v1 : Option Value) (v2 : Option Value) (x3 : Int32) (v4 : Option Value) (v5 : Option Value)  (h : Hp) : sem (X, K X d) 214 115 [some (.ref x0), v1, v2, some (.int x3), v4, v5] [] h = gR h 11 x0 65 fun g1 => aJ h g1 x3 fun g2 => some (some (.long g2), h) := by
  refine (s_aload_n 116 mc_214 dX11_takes_115 rfl rfl rfl).trans ?_
  refine (s_getfR 119 mc_214 dX11_takes_116 rfl mo_214 fs_11_156 ff_11_156 rfl).trans ?_
  refine gR_c fun g1 => ?_
  refine (s_iload_n 120 mc_214 dX11_takes_119 rfl rfl rfl).trans ?_
  refine (s_laload 121 mc_214 dX11_takes_120 rfl).trans ?_
  refine aJ_c fun g2 => ?_
  exact s_lret mc_214 dX11_takes_121 mt_214
theorem b_214_122 {X : Ctx} {d : Nat} (v0 : Option Value) (v1 : Option Value) (v2 : Option Value) (v3 : Option Value) (v4 : Option Value) (x5 : Int32)  (h : Hp) : sem (X, K X d) 214 122 [v0, v1, v2, v3, v4, some (.int x5)] [] h = some (some (.long (x5 : Int32).toInt64), h) := by
  refine (s_iload 124 mc_214 dX11_takes_122 rfl rfl).trans ?_
  refine (s_i2l 125 mc_214 dX11_takes_124 rfl).trans ?_
  exact s_lret mc_214 dX11_takes_125 mt_214
theorem b_214_126 {X : Ctx} {d : Nat} (x0 : Nat) (v1 : Option Value) (x2 : Int32) (x3 : Int32) (v4 : Option Value) (v5 : Option Value)  (h : Hp) : sem (X, K X d) 214 126 [some (.ref x0), v1, some (.int x2), some (.int x3), v4, v5] [] h = gd (hS h x0 = (12, 0)) (bI (K X d 204 [.ref x0, .int x2, .int x3] h) fun r1 h1 => if r1 = 0 then some (some (.long 0), h1) else some (some (.long 1), h1)) := by
  refine (s_aload_n 127 mc_214 dX11_takes_126 rfl rfl rfl).trans ?_
  refine (s_iload_n 128 mc_214 dX11_takes_127 rfl rfl rfl).trans ?_
  refine (s_iload_n 129 mc_214 dX11_takes_128 rfl rfl rfl).trans ?_
  refine (s_iviI 132 mc_214 dX11_takes_129 rfl mo_214 mm_11_479 (by decide) ms_204 mi_204 mr_204 ma_204 mo_204 (by decide) (Nat.le_of_ble_eq_true rfl) rfl rfl (Nat.le_of_ble_eq_true rfl)).trans ?_
  refine gd_c ?_
  refine bI_c fun r1 h1 => ?_
  refine (s_if_eq 139 135 mc_214 dX11_takes_132 rfl rfl).trans ?_
  refine ite_c ?_ ?_
  · skip
    refine (s_lconst 140 0 mc_214 dX11_takes_139 rfl (by decide)).trans ?_
    exact s_lret mc_214 dX11_takes_140 mt_214
  · skip
    refine (s_lconst 136 1 mc_214 dX11_takes_135 rfl (by decide)).trans ?_
    refine (s_goto 140 mc_214 dX11_takes_136 rfl).trans ?_
    exact s_lret mc_214 dX11_takes_140 mt_214
/-- FiveLandsModel.owesNow()J -/
theorem k_215 {X : Ctx} {d : Nat} (x0 : Nat) (h : Hp) : K X (d + 1) 215 [.ref x0] h = gd (hS h x0 = (12, 0)) (bV (K X d 197 [.ref x0] h) fun h1 => fI h1 11 x0 71 0 fun h2 => fI h2 11 x0 72 0 fun h3 => sem (X, K X d) 215 18 [some (.ref x0), some (.long 0), none, some (.int 0), none, none] [] h3) := by
  show sem (X, K X d) 215 0 [some (.ref x0), none, none, none, none, none] [] h = _
  refine (s_aload_n 1 mc_215 dX11_owesNow_0 rfl rfl rfl).trans ?_
  refine (s_iviV 4 mc_215 dX11_owesNow_1 rfl mo_215 mm_11_466 (by decide) ms_197 mi_197 mr_197 ma_197 mo_197 (by decide) (Nat.le_of_ble_eq_true rfl) rfl rfl (Nat.le_of_ble_eq_true rfl)).trans ?_
  refine gd_c ?_
  refine bV_c fun h1 => ?_
  refine (s_lconst 5 0 mc_215 dX11_owesNow_4 rfl (by decide)).trans ?_
  refine (s_lstore_n 6 mc_215 dX11_owesNow_5 rfl rfl (Nat.le_of_ble_eq_true rfl) rfl).trans ?_
  refine (s_aload_n 7 mc_215 dX11_owesNow_6 rfl rfl rfl).trans ?_
  refine (s_iconst 8 0 mc_215 dX11_owesNow_7 rfl (by decide)).trans ?_
  refine (s_putfI 11 mc_215 dX11_owesNow_8 rfl mo_215 ff_11_518 rfl (Or.inl rfl)).trans ?_
  refine fI_c fun h2 => ?_
  refine (s_aload_n 12 mc_215 dX11_owesNow_11 rfl rfl rfl).trans ?_
  refine (s_iconst 13 0 mc_215 dX11_owesNow_12 rfl (by decide)).trans ?_
  refine (s_putfI 16 mc_215 dX11_owesNow_13 rfl mo_215 ff_11_521 rfl (Or.inl rfl)).trans ?_
  refine fI_c fun h3 => ?_
  refine (s_iconst 17 0 mc_215 dX11_owesNow_16 rfl (by decide)).trans ?_
  refine (s_istore_n 18 mc_215 dX11_owesNow_17 rfl rfl (Nat.le_of_ble_eq_true rfl) rfl).trans ?_
  rfl
theorem b_215_18 {X : Ctx} {d : Nat} (x0 : Nat) (x1 : Int64) (x3 : Int32) (v4 : Option Value) (v5 : Option Value)  (h : Hp) : sem (X, K X d) 215 18 [some (.ref x0), some (.long x1), none, some (.int x3), v4, v5] [] h = gI h 11 x0 55 fun g1 => if g1 ≤ x3 then some (some (.long x1), h) else gd (hS h x0 = (12, 0)) (bI (K X d 213 [.ref x0, .int x3] h) fun r2 h1 => sem (X, K X d) 215 38 [some (.ref x0), some (.long x1), none, some (.int x3), some (.int 0), some (.int 0)] [] h1) := by
  refine (s_iload_n 19 mc_215 dX11_owesNow_18 rfl rfl rfl).trans ?_
  refine (s_aload_n 20 mc_215 dX11_owesNow_19 rfl rfl rfl).trans ?_
  refine (s_getfI 23 mc_215 dX11_owesNow_20 rfl mo_215 fs_11_421 ff_11_421 (Or.inl rfl)).trans ?_
  refine gI_c fun g1 => ?_
  refine (s_icmp_ge 132 26 mc_215 dX11_owesNow_23 rfl rfl).trans ?_
  refine ite_c ?_ ?_
  · skip
    refine (s_lload_n 133 mc_215 dX11_owesNow_132 rfl rfl rfl rfl).trans ?_
    exact s_lret mc_215 dX11_owesNow_133 mt_215
  · skip
    refine (s_aload_n 27 mc_215 dX11_owesNow_26 rfl rfl rfl).trans ?_
    refine (s_iload_n 28 mc_215 dX11_owesNow_27 rfl rfl rfl).trans ?_
    refine (s_iviI 31 mc_215 dX11_owesNow_28 rfl mo_215 mm_11_515 (by decide) ms_213 mi_213 mr_213 ma_213 mo_213 (by decide) (Nat.le_of_ble_eq_true rfl) rfl rfl (Nat.le_of_ble_eq_true rfl)).trans ?_
    refine gd_c ?_
    refine bI_c fun r2 h1 => ?_
    refine (s_pop 32 mc_215 dX11_owesNow_31 rfl rfl).trans ?_
    refine (s_iconst 33 0 mc_215 dX11_owesNow_32 rfl (by decide)).trans ?_
    refine (s_istore 35 mc_215 dX11_owesNow_33 rfl (Nat.le_of_ble_eq_true rfl) rfl).trans ?_
    refine (s_iconst 36 0 mc_215 dX11_owesNow_35 rfl (by decide)).trans ?_
    refine (s_istore 38 mc_215 dX11_owesNow_36 rfl (Nat.le_of_ble_eq_true rfl) rfl).trans ?_
    rfl
theorem b_215_38 {X : Ctx} {d : Nat} (x0 : Nat) (x1 : Int64) (x3 : Int32) (x4 : Int32) (x5 : Int32)  (h : Hp) : sem (X, K X d) 215 38 [some (.ref x0), some (.long x1), none, some (.int x3), some (.int x4), some (.int x5)] [] h = if 6 ≤ x5 then gI h 11 x0 71 fun g1 => if ¬ x4 = 0 then sem (X, K X d) 215 100 [some (.ref x0), some (.long x1), none, some (.int x3), some (.int x4), some (.int x5)] [.int 0, .int g1, .ref x0] h else sem (X, K X d) 215 100 [some (.ref x0), some (.long x1), none, some (.int x3), some (.int x4), some (.int x5)] [.int (1 <<< (x3 &&& 31)), .int g1, .ref x0] h else gR h 11 x0 65 fun g2 => aJ h g2 x5 fun g3 => gR h 11 x0 65 fun g4 => aJ h g4 x5 fun g5 => if (lg_cmp g5 0) ≤ 0 then sem (X, K X d) 215 38 [some (.ref x0), some (.long (x1 + g3)), none, some (.int x3), some (.int (x4 + 0)), some (.int (x5 + 1))] [] h else sem (X, K X d) 215 38 [some (.ref x0), some (.long (x1 + g3)), none, some (.int x3), some (.int (x4 + 1)), some (.int (x5 + 1))] [] h := by
  refine (s_iload 40 mc_215 dX11_owesNow_38 rfl rfl).trans ?_
  refine (s_bipush 42 6 mc_215 dX11_owesNow_40 rfl (by decide)).trans ?_
  refine (s_icmp_ge 83 45 mc_215 dX11_owesNow_42 rfl rfl).trans ?_
  refine ite_c ?_ ?_
  · skip
    refine (s_aload_n 84 mc_215 dX11_owesNow_83 rfl rfl rfl).trans ?_
    refine (s_dup 85 mc_215 dX11_owesNow_84 rfl rfl).trans ?_
    refine (s_getfI 88 mc_215 dX11_owesNow_85 rfl mo_215 fs_11_518 ff_11_518 (Or.inl rfl)).trans ?_
    refine gI_c fun g1 => ?_
    refine (s_iload 90 mc_215 dX11_owesNow_88 rfl rfl).trans ?_
    refine (s_if_ne 99 93 mc_215 dX11_owesNow_90 rfl rfl).trans ?_
    refine ite_c ?_ ?_
    · skip
      refine (s_iconst 100 0 mc_215 dX11_owesNow_99 rfl (by decide)).trans ?_
      rfl
    · skip
      refine (s_iconst 94 1 mc_215 dX11_owesNow_93 rfl (by decide)).trans ?_
      refine (s_iload_n 95 mc_215 dX11_owesNow_94 rfl rfl rfl).trans ?_
      refine (s_ishl 96 mc_215 dX11_owesNow_95 rfl).trans ?_
      refine (s_goto 100 mc_215 dX11_owesNow_96 rfl).trans ?_
      rfl
  · skip
    refine (s_lload_n 46 mc_215 dX11_owesNow_45 rfl rfl rfl rfl).trans ?_
    refine (s_aload_n 47 mc_215 dX11_owesNow_46 rfl rfl rfl).trans ?_
    refine (s_getfR 50 mc_215 dX11_owesNow_47 rfl mo_215 fs_11_156 ff_11_156 rfl).trans ?_
    refine gR_c fun g2 => ?_
    refine (s_iload 52 mc_215 dX11_owesNow_50 rfl rfl).trans ?_
    refine (s_laload 53 mc_215 dX11_owesNow_52 rfl).trans ?_
    refine aJ_c fun g3 => ?_
    refine (s_ladd 54 mc_215 dX11_owesNow_53 rfl).trans ?_
    refine (s_lstore_n 55 mc_215 dX11_owesNow_54 rfl rfl (Nat.le_of_ble_eq_true rfl) rfl).trans ?_
    refine (s_iload 57 mc_215 dX11_owesNow_55 rfl rfl).trans ?_
    refine (s_aload_n 58 mc_215 dX11_owesNow_57 rfl rfl rfl).trans ?_
    refine (s_getfR 61 mc_215 dX11_owesNow_58 rfl mo_215 fs_11_156 ff_11_156 rfl).trans ?_
    refine gR_c fun g4 => ?_
    refine (s_iload 63 mc_215 dX11_owesNow_61 rfl rfl).trans ?_
    refine (s_laload 64 mc_215 dX11_owesNow_63 rfl).trans ?_
    refine aJ_c fun g5 => ?_
    refine (s_lconst 65 0 mc_215 dX11_owesNow_64 rfl (by decide)).trans ?_
    refine (s_lcmp 66 mc_215 dX11_owesNow_65 rfl).trans ?_
    refine (s_if_le 73 69 mc_215 dX11_owesNow_66 rfl rfl).trans ?_
    refine ite_c ?_ ?_
    · skip
      refine (s_iconst 74 0 mc_215 dX11_owesNow_73 rfl (by decide)).trans ?_
      refine (s_iadd 75 mc_215 dX11_owesNow_74 rfl).trans ?_
      refine (s_istore 77 mc_215 dX11_owesNow_75 rfl (Nat.le_of_ble_eq_true rfl) rfl).trans ?_
      refine (s_iinc 1 80 mc_215 dX11_owesNow_77 rfl rfl (Nat.le_of_ble_eq_true rfl) (by decide) rfl).trans ?_
      refine (s_goto 38 mc_215 dX11_owesNow_80 rfl).trans ?_
      rfl
    · skip
      refine (s_iconst 70 1 mc_215 dX11_owesNow_69 rfl (by decide)).trans ?_
      refine (s_goto 74 mc_215 dX11_owesNow_70 rfl).trans ?_
      refine (s_iadd 75 mc_215 dX11_owesNow_74 rfl).trans ?_
      refine (s_istore 77 mc_215 dX11_owesNow_75 rfl (Nat.le_of_ble_eq_true rfl) rfl).trans ?_
      refine (s_iinc 1 80 mc_215 dX11_owesNow_77 rfl rfl (Nat.le_of_ble_eq_true rfl) (by decide) rfl).trans ?_
      refine (s_goto 38 mc_215 dX11_owesNow_80 rfl).trans ?_
      rfl
theorem b_215_100 {X : Ctx} {d : Nat} (x0 : Nat) (v1 : Option Value) (v2 : Option Value) (x3 : Int32) (x4 : Int32) (v5 : Option Value) (s0 : Nat) (s1 : Int32) (s2 : Int32) (h : Hp) : sem (X, K X d) 215 100 [some (.ref x0), v1, v2, some (.int x3), some (.int x4), v5] [.int s2, .int s1, .ref s0] h = fI h 11 s0 71 (s1 ||| s2) fun h1 => gI h1 11 x0 72 fun g1 => if x4 ≤ 1 then fI h1 11 x0 72 (g1 ||| 0) fun h2 => sem (X, K X d) 215 18 [some (.ref x0), v1, v2, some (.int (x3 + 1)), some (.int x4), v5] [] h2 else fI h1 11 x0 72 (g1 ||| (1 <<< (x3 &&& 31))) fun h3 => sem (X, K X d) 215 18 [some (.ref x0), v1, v2, some (.int (x3 + 1)), some (.int x4), v5] [] h3 := by
  refine (s_ior 101 mc_215 dX11_owesNow_100 rfl).trans ?_
  refine (s_putfI 104 mc_215 dX11_owesNow_101 rfl mo_215 ff_11_518 rfl (Or.inl rfl)).trans ?_
  refine fI_c fun h1 => ?_
  refine (s_aload_n 105 mc_215 dX11_owesNow_104 rfl rfl rfl).trans ?_
  refine (s_dup 106 mc_215 dX11_owesNow_105 rfl rfl).trans ?_
  refine (s_getfI 109 mc_215 dX11_owesNow_106 rfl mo_215 fs_11_521 ff_11_521 (Or.inl rfl)).trans ?_
  refine gI_c fun g1 => ?_
  refine (s_iload 111 mc_215 dX11_owesNow_109 rfl rfl).trans ?_
  refine (s_iconst 112 1 mc_215 dX11_owesNow_111 rfl (by decide)).trans ?_
  refine (s_icmp_le 121 115 mc_215 dX11_owesNow_112 rfl rfl).trans ?_
  refine ite_c ?_ ?_
  · skip
    refine (s_iconst 122 0 mc_215 dX11_owesNow_121 rfl (by decide)).trans ?_
    refine (s_ior 123 mc_215 dX11_owesNow_122 rfl).trans ?_
    refine (s_putfI 126 mc_215 dX11_owesNow_123 rfl mo_215 ff_11_521 rfl (Or.inl rfl)).trans ?_
    refine fI_c fun h2 => ?_
    refine (s_iinc 1 129 mc_215 dX11_owesNow_126 rfl rfl (Nat.le_of_ble_eq_true rfl) (by decide) rfl).trans ?_
    refine (s_goto 18 mc_215 dX11_owesNow_129 rfl).trans ?_
    rfl
  · skip
    refine (s_iconst 116 1 mc_215 dX11_owesNow_115 rfl (by decide)).trans ?_
    refine (s_iload_n 117 mc_215 dX11_owesNow_116 rfl rfl rfl).trans ?_
    refine (s_ishl 118 mc_215 dX11_owesNow_117 rfl).trans ?_
    refine (s_goto 122 mc_215 dX11_owesNow_118 rfl).trans ?_
    refine (s_ior 123 mc_215 dX11_owesNow_122 rfl).trans ?_
    refine (s_putfI 126 mc_215 dX11_owesNow_123 rfl mo_215 ff_11_521 rfl (Or.inl rfl)).trans ?_
    refine fI_c fun h3 => ?_
    refine (s_iinc 1 129 mc_215 dX11_owesNow_126 rfl rfl (Nat.le_of_ble_eq_true rfl) (by decide) rfl).trans ?_
    refine (s_goto 18 mc_215 dX11_owesNow_129 rfl).trans ?_
    rfl
/-- FiveLandsModel.owes(II)J -/
theorem k_216 {X : Ctx} {d : Nat} (x0 : Nat) (x1 : Int32) (x2 : Int32) (h : Hp) : K X (d + 1) 216 [.ref x0, .int x1, .int x2] h = bI (K X d 143 [.int x1] h) fun r1 h1 => if ¬ r1 = 0 then gd (hS h1 x0 = (12, 0)) (bV (K X d 189 [.ref x0, .int x1] h1) fun h2 => gd (hS h2 x0 = (12, 0)) (bJ (K X d 215 [.ref x0] h2) fun r2 h3 => sem (X, K X d) 216 (tsw 0 [60, 62, 68, 74, 80, 86] 92 x2) [some (.ref x0), some (.int x1), some (.int x2), some (.long r2), none] [] h3)) else some (some (.long (-1)), h1) := by
  show sem (X, K X d) 216 0 [some (.ref x0), some (.int x1), some (.int x2), none, none] [] h = _
  refine (s_iload_n 1 mc_216 dX11_owes_0 rfl rfl rfl).trans ?_
  refine (s_istI 4 mc_216 dX11_owes_1 rfl mo_216 mm_11_207 (by decide) ms_143 mr_143 ma_143 (Nat.le_of_ble_eq_true rfl) rfl rfl (Nat.le_of_ble_eq_true rfl)).trans ?_
  refine bI_c fun r1 h1 => ?_
  refine (s_if_ne 11 7 mc_216 dX11_owes_4 rfl rfl).trans ?_
  refine ite_c ?_ ?_
  · skip
    refine (s_aload_n 12 mc_216 dX11_owes_11 rfl rfl rfl).trans ?_
    refine (s_iload_n 13 mc_216 dX11_owes_12 rfl rfl rfl).trans ?_
    refine (s_iviV 16 mc_216 dX11_owes_13 rfl mo_216 mm_11_463 (by decide) ms_189 mi_189 mr_189 ma_189 mo_189 (by decide) (Nat.le_of_ble_eq_true rfl) rfl rfl (Nat.le_of_ble_eq_true rfl)).trans ?_
    refine gd_c ?_
    refine bV_c fun h2 => ?_
    refine (s_aload_n 17 mc_216 dX11_owes_16 rfl rfl rfl).trans ?_
    refine (s_iviJ 20 mc_216 dX11_owes_17 rfl mo_216 mm_11_524 (by decide) ms_215 mi_215 mr_215 ma_215 mo_215 (by decide) (Nat.le_of_ble_eq_true rfl) rfl rfl (Nat.le_of_ble_eq_true rfl)).trans ?_
    refine gd_c ?_
    refine bJ_c fun r2 h3 => ?_
    refine (s_lstore_n 21 mc_216 dX11_owes_20 rfl rfl (Nat.le_of_ble_eq_true rfl) rfl).trans ?_
    refine (s_iload_n 22 mc_216 dX11_owes_21 rfl rfl rfl).trans ?_
    refine (s_tsw [60, 62, 68, 74, 80, 86] 92 mc_216 dX11_owes_22 rfl rfl rfl).trans ?_
    rfl
  · skip
    refine (s_ldc2_w 10 (-1) mc_216 dX11_owes_7 rfl mo_216 cl_11_474 (by decide)).trans ?_
    exact s_lret mc_216 dX11_owes_10 mt_216
theorem b_216_60 {X : Ctx} {d : Nat} (v0 : Option Value) (v1 : Option Value) (v2 : Option Value) (x3 : Int64)  (h : Hp) : sem (X, K X d) 216 60 [v0, v1, v2, some (.long x3), none] [] h = some (some (.long x3), h) := by
  refine (s_lload_n 61 mc_216 dX11_owes_60 rfl rfl rfl rfl).trans ?_
  exact s_lret mc_216 dX11_owes_61 mt_216
theorem b_216_62 {X : Ctx} {d : Nat} (x0 : Nat) (v1 : Option Value) (v2 : Option Value) (v3 : Option Value) (v4 : Option Value)  (h : Hp) : sem (X, K X d) 216 62 [some (.ref x0), v1, v2, v3, v4] [] h = gI h 11 x0 71 fun g1 => some (some (.long (g1 : Int32).toInt64), h) := by
  refine (s_aload_n 63 mc_216 dX11_owes_62 rfl rfl rfl).trans ?_
  refine (s_getfI 66 mc_216 dX11_owes_63 rfl mo_216 fs_11_518 ff_11_518 (Or.inl rfl)).trans ?_
  refine gI_c fun g1 => ?_
  refine (s_i2l 67 mc_216 dX11_owes_66 rfl).trans ?_
  exact s_lret mc_216 dX11_owes_67 mt_216
theorem b_216_68 {X : Ctx} {d : Nat} (x0 : Nat) (v1 : Option Value) (v2 : Option Value) (v3 : Option Value) (v4 : Option Value)  (h : Hp) : sem (X, K X d) 216 68 [some (.ref x0), v1, v2, v3, v4] [] h = gI h 11 x0 72 fun g1 => some (some (.long (g1 : Int32).toInt64), h) := by
  refine (s_aload_n 69 mc_216 dX11_owes_68 rfl rfl rfl).trans ?_
  refine (s_getfI 72 mc_216 dX11_owes_69 rfl mo_216 fs_11_521 ff_11_521 (Or.inl rfl)).trans ?_
  refine gI_c fun g1 => ?_
  refine (s_i2l 73 mc_216 dX11_owes_72 rfl).trans ?_
  exact s_lret mc_216 dX11_owes_73 mt_216
theorem b_216_74 {X : Ctx} {d : Nat} (x0 : Nat) (v1 : Option Value) (v2 : Option Value) (v3 : Option Value) (v4 : Option Value)  (h : Hp) : sem (X, K X d) 216 74 [some (.ref x0), v1, v2, v3, v4] [] h = gI h 11 x0 63 fun g1 => some (some (.long (g1 : Int32).toInt64), h) := by
  refine (s_aload_n 75 mc_216 dX11_owes_74 rfl rfl rfl).trans ?_
  refine (s_getfI 78 mc_216 dX11_owes_75 rfl mo_216 fs_11_457 ff_11_457 (Or.inl rfl)).trans ?_
  refine gI_c fun g1 => ?_
  refine (s_i2l 79 mc_216 dX11_owes_78 rfl).trans ?_
  exact s_lret mc_216 dX11_owes_79 mt_216
theorem b_216_80 {X : Ctx} {d : Nat} (x0 : Nat) (v1 : Option Value) (v2 : Option Value) (v3 : Option Value) (v4 : Option Value)  (h : Hp) : sem (X, K X d) 216 80 [some (.ref x0), v1, v2, v3, v4] [] h = gI h 11 x0 57 fun g1 => some (some (.long (g1 : Int32).toInt64), h) := by
  refine (s_aload_n 81 mc_216 dX11_owes_80 rfl rfl rfl).trans ?_
  refine (s_getfI 84 mc_216 dX11_owes_81 rfl mo_216 fs_11_424 ff_11_424 (Or.inl rfl)).trans ?_
  refine gI_c fun g1 => ?_
  refine (s_i2l 85 mc_216 dX11_owes_84 rfl).trans ?_
  exact s_lret mc_216 dX11_owes_85 mt_216
theorem b_216_86 {X : Ctx} {d : Nat} (x0 : Nat) (v1 : Option Value) (v2 : Option Value) (v3 : Option Value) (v4 : Option Value)  (h : Hp) : sem (X, K X d) 216 86 [some (.ref x0), v1, v2, v3, v4] [] h = gI h 11 x0 56 fun g1 => some (some (.long (g1 : Int32).toInt64), h) := by
  refine (s_aload_n 87 mc_216 dX11_owes_86 rfl rfl rfl).trans ?_
  refine (s_getfI 90 mc_216 dX11_owes_87 rfl mo_216 fs_11_408 ff_11_408 (Or.inl rfl)).trans ?_
  refine gI_c fun g1 => ?_
  refine (s_i2l 91 mc_216 dX11_owes_90 rfl).trans ?_
  exact s_lret mc_216 dX11_owes_91 mt_216
theorem b_216_92 {X : Ctx} {d : Nat} (v0 : Option Value) (v1 : Option Value) (v2 : Option Value) (v3 : Option Value) (v4 : Option Value)  (h : Hp) : sem (X, K X d) 216 92 [v0, v1, v2, v3, v4] [] h = some (some (.long (-1)), h) := by
  refine (s_ldc2_w 95 (-1) mc_216 dX11_owes_92 rfl mo_216 cl_11_474 (by decide)).trans ?_
  exact s_lret mc_216 dX11_owes_95 mt_216
/-- FiveLandsModel.edge(IIII)J -/
theorem k_217 {X : Ctx} {d : Nat} (x0 : Nat) (x1 : Int32) (x2 : Int32) (x3 : Int32) (x4 : Int32) (h : Hp) : K X (d + 1) 217 [.ref x0, .int x1, .int x2, .int x3, .int x4] h = if ¬ x4 = 1 then sem (X, K X d) 217 15 [some (.ref x0), some (.int x1), some (.int x2), some (.int x3), some (.int x4), none, none, none, none, none, none, none, none, none] [.long (-1)] h else sem (X, K X d) 217 15 [some (.ref x0), some (.int x1), some (.int x2), some (.int x3), some (.int x4), none, none, none, none, none, none, none, none, none] [.long (-1000000000000)] h := by
  show sem (X, K X d) 217 0 [some (.ref x0), some (.int x1), some (.int x2), some (.int x3), some (.int x4), none, none, none, none, none, none, none, none, none] [] h = _
  refine (s_iload 2 mc_217 dX11_edge_0 rfl rfl).trans ?_
  refine (s_iconst 3 1 mc_217 dX11_edge_2 rfl (by decide)).trans ?_
  refine (s_icmp_ne 12 6 mc_217 dX11_edge_3 rfl rfl).trans ?_
  refine ite_c ?_ ?_
  · skip
    refine (s_ldc2_w 15 (-1) mc_217 dX11_edge_12 rfl mo_217 cl_11_474 (by decide)).trans ?_
    rfl
  · skip
    refine (s_ldc2_w 9 (-1000000000000) mc_217 dX11_edge_6 rfl mo_217 cl_11_528 (by decide)).trans ?_
    refine (s_goto 15 mc_217 dX11_edge_9 rfl).trans ?_
    rfl
theorem b_217_15 {X : Ctx} {d : Nat} (x0 : Nat) (x1 : Int32) (x2 : Int32) (x3 : Int32) (x4 : Int32) (v5 : Option Value) (v6 : Option Value) (v7 : Option Value) (v8 : Option Value) (v9 : Option Value) (v10 : Option Value) (v11 : Option Value) (v12 : Option Value) (v13 : Option Value) (s0 : Int64) (h : Hp) : sem (X, K X d) 217 15 [some (.ref x0), some (.int x1), some (.int x2), some (.int x3), some (.int x4), v5, v6, v7, v8, v9, v10, v11, v12, v13] [.long s0] h = bI (K X d 143 [.int x1] h) fun r1 h1 => if r1 = 0 then some (some (.long s0), h1) else bI (K X d 144 [.int x2] h1) fun r2 h2 => if r2 = 0 then some (some (.long s0), h2) else bI (K X d 144 [.int x3] h2) fun r3 h3 => if r3 = 0 then some (some (.long s0), h3) else if x2 = x3 then some (some (.long s0), h3) else bI (K X d 142 [.int x4, .int 0, .int 1] h3) fun r4 h4 => if ¬ r4 = 0 then gd (hS h4 x0 = (12, 0)) (bV (K X d 189 [.ref x0, .int x1] h4) fun h5 => gd (hS h5 x0 = (12, 0)) (bJ (K X d 215 [.ref x0] h5) fun r5 h6 => gd (hS h6 x0 = (12, 0)) (bI (K X d 192 [.ref x0, .int x2] h6) fun r6 h7 => gR h7 11 x0 46 fun g7 => aI X h7 g7 x2 fun g8 => gR h7 11 x0 46 fun g9 => aI X h7 g9 x3 fun g10 => sem (X, K X d) 217 93 [some (.ref x0), some (.int x1), some (.int x2), some (.int x3), some (.int x4), some (.long s0), none, some (.long r5), none, some (.int r6), some (.int g8), some (.int g10), some (.int 1), v13] [] h7))) else some (some (.long s0), h4) := by
  refine (s_lstore 17 mc_217 dX11_edge_15 rfl (Nat.le_of_ble_eq_true rfl) rfl).trans ?_
  refine (s_iload_n 18 mc_217 dX11_edge_17 rfl rfl rfl).trans ?_
  refine (s_istI 21 mc_217 dX11_edge_18 rfl mo_217 mm_11_207 (by decide) ms_143 mr_143 ma_143 (Nat.le_of_ble_eq_true rfl) rfl rfl (Nat.le_of_ble_eq_true rfl)).trans ?_
  refine bI_c fun r1 h1 => ?_
  refine (s_if_eq 53 24 mc_217 dX11_edge_21 rfl rfl).trans ?_
  refine ite_c ?_ ?_
  · skip
    refine (s_lload 55 mc_217 dX11_edge_53 rfl rfl rfl).trans ?_
    exact s_lret mc_217 dX11_edge_55 mt_217
  · skip
    refine (s_iload_n 25 mc_217 dX11_edge_24 rfl rfl rfl).trans ?_
    refine (s_istI 28 mc_217 dX11_edge_25 rfl mo_217 mm_11_211 (by decide) ms_144 mr_144 ma_144 (Nat.le_of_ble_eq_true rfl) rfl rfl (Nat.le_of_ble_eq_true rfl)).trans ?_
    refine bI_c fun r2 h2 => ?_
    refine (s_if_eq 53 31 mc_217 dX11_edge_28 rfl rfl).trans ?_
    refine ite_c ?_ ?_
    · skip
      refine (s_lload 55 mc_217 dX11_edge_53 rfl rfl rfl).trans ?_
      exact s_lret mc_217 dX11_edge_55 mt_217
    · skip
      refine (s_iload_n 32 mc_217 dX11_edge_31 rfl rfl rfl).trans ?_
      refine (s_istI 35 mc_217 dX11_edge_32 rfl mo_217 mm_11_211 (by decide) ms_144 mr_144 ma_144 (Nat.le_of_ble_eq_true rfl) rfl rfl (Nat.le_of_ble_eq_true rfl)).trans ?_
      refine bI_c fun r3 h3 => ?_
      refine (s_if_eq 53 38 mc_217 dX11_edge_35 rfl rfl).trans ?_
      refine ite_c ?_ ?_
      · skip
        refine (s_lload 55 mc_217 dX11_edge_53 rfl rfl rfl).trans ?_
        exact s_lret mc_217 dX11_edge_55 mt_217
      · skip
        refine (s_iload_n 39 mc_217 dX11_edge_38 rfl rfl rfl).trans ?_
        refine (s_iload_n 40 mc_217 dX11_edge_39 rfl rfl rfl).trans ?_
        refine (s_icmp_eq 53 43 mc_217 dX11_edge_40 rfl rfl).trans ?_
        refine ite_c ?_ ?_
        · skip
          refine (s_lload 55 mc_217 dX11_edge_53 rfl rfl rfl).trans ?_
          exact s_lret mc_217 dX11_edge_55 mt_217
        · skip
          refine (s_iload 45 mc_217 dX11_edge_43 rfl rfl).trans ?_
          refine (s_iconst 46 0 mc_217 dX11_edge_45 rfl (by decide)).trans ?_
          refine (s_iconst 47 1 mc_217 dX11_edge_46 rfl (by decide)).trans ?_
          refine (s_istI 50 mc_217 dX11_edge_47 rfl mo_217 mm_11_1 (by decide) ms_142 mr_142 ma_142 (Nat.le_of_ble_eq_true rfl) rfl rfl (Nat.le_of_ble_eq_true rfl)).trans ?_
          refine bI_c fun r4 h4 => ?_
          refine (s_if_ne 56 53 mc_217 dX11_edge_50 rfl rfl).trans ?_
          refine ite_c ?_ ?_
          · skip
            refine (s_aload_n 57 mc_217 dX11_edge_56 rfl rfl rfl).trans ?_
            refine (s_iload_n 58 mc_217 dX11_edge_57 rfl rfl rfl).trans ?_
            refine (s_iviV 61 mc_217 dX11_edge_58 rfl mo_217 mm_11_463 (by decide) ms_189 mi_189 mr_189 ma_189 mo_189 (by decide) (Nat.le_of_ble_eq_true rfl) rfl rfl (Nat.le_of_ble_eq_true rfl)).trans ?_
            refine gd_c ?_
            refine bV_c fun h5 => ?_
            refine (s_aload_n 62 mc_217 dX11_edge_61 rfl rfl rfl).trans ?_
            refine (s_iviJ 65 mc_217 dX11_edge_62 rfl mo_217 mm_11_524 (by decide) ms_215 mi_215 mr_215 ma_215 mo_215 (by decide) (Nat.le_of_ble_eq_true rfl) rfl rfl (Nat.le_of_ble_eq_true rfl)).trans ?_
            refine gd_c ?_
            refine bJ_c fun r5 h6 => ?_
            refine (s_lstore 67 mc_217 dX11_edge_65 rfl (Nat.le_of_ble_eq_true rfl) rfl).trans ?_
            refine (s_aload_n 68 mc_217 dX11_edge_67 rfl rfl rfl).trans ?_
            refine (s_iload_n 69 mc_217 dX11_edge_68 rfl rfl rfl).trans ?_
            refine (s_iviI 72 mc_217 dX11_edge_69 rfl mo_217 mm_11_454 (by decide) ms_192 mi_192 mr_192 ma_192 mo_192 (by decide) (Nat.le_of_ble_eq_true rfl) rfl rfl (Nat.le_of_ble_eq_true rfl)).trans ?_
            refine gd_c ?_
            refine bI_c fun r6 h7 => ?_
            refine (s_istore 74 mc_217 dX11_edge_72 rfl (Nat.le_of_ble_eq_true rfl) rfl).trans ?_
            refine (s_aload_n 75 mc_217 dX11_edge_74 rfl rfl rfl).trans ?_
            refine (s_getfR 78 mc_217 dX11_edge_75 rfl mo_217 fs_11_122 ff_11_122 rfl).trans ?_
            refine gR_c fun g7 => ?_
            refine (s_iload_n 79 mc_217 dX11_edge_78 rfl rfl rfl).trans ?_
            refine (s_iaload 80 mc_217 dX11_edge_79 rfl).trans ?_
            refine aI_c fun g8 => ?_
            refine (s_istore 82 mc_217 dX11_edge_80 rfl (Nat.le_of_ble_eq_true rfl) rfl).trans ?_
            refine (s_aload_n 83 mc_217 dX11_edge_82 rfl rfl rfl).trans ?_
            refine (s_getfR 86 mc_217 dX11_edge_83 rfl mo_217 fs_11_122 ff_11_122 rfl).trans ?_
            refine gR_c fun g9 => ?_
            refine (s_iload_n 87 mc_217 dX11_edge_86 rfl rfl rfl).trans ?_
            refine (s_iaload 88 mc_217 dX11_edge_87 rfl).trans ?_
            refine aI_c fun g10 => ?_
            refine (s_istore 90 mc_217 dX11_edge_88 rfl (Nat.le_of_ble_eq_true rfl) rfl).trans ?_
            refine (s_iconst 91 1 mc_217 dX11_edge_90 rfl (by decide)).trans ?_
            refine (s_istore 93 mc_217 dX11_edge_91 rfl (Nat.le_of_ble_eq_true rfl) rfl).trans ?_
            rfl
          · skip
            refine (s_lload 55 mc_217 dX11_edge_53 rfl rfl rfl).trans ?_
            exact s_lret mc_217 dX11_edge_55 mt_217
theorem b_217_93 {X : Ctx} {d : Nat} (v0 : Option Value) (v1 : Option Value) (v2 : Option Value) (v3 : Option Value) (v4 : Option Value) (x5 : Int64) (v7 : Option Value) (v8 : Option Value) (v9 : Option Value) (x10 : Int32) (x11 : Int32) (x12 : Int32) (v13 : Option Value)  (h : Hp) : sem (X, K X d) 217 93 [v0, v1, v2, v3, v4, some (.long x5), none, v7, v8, v9, some (.int x10), some (.int x11), some (.int x12), v13] [] h = if x12 ≤ x10 then sem (X, K X d) 217 110 [v0, v1, v2, v3, v4, some (.long x5), none, v7, v8, v9, some (.int x10), some (.int x11), some (.int x12), some (.int 0)] [] h else if x11 < x12 then some (some (.long x5), h) else sem (X, K X d) 217 110 [v0, v1, v2, v3, v4, some (.long x5), none, v7, v8, v9, some (.int x10), some (.int x11), some (.int x12), some (.int 0)] [] h := by
  refine (s_iload 95 mc_217 dX11_edge_93 rfl rfl).trans ?_
  refine (s_iload 97 mc_217 dX11_edge_95 rfl rfl).trans ?_
  refine (s_icmp_le 107 100 mc_217 dX11_edge_97 rfl rfl).trans ?_
  refine ite_c ?_ ?_
  · skip
    refine (s_iconst 108 0 mc_217 dX11_edge_107 rfl (by decide)).trans ?_
    refine (s_istore 110 mc_217 dX11_edge_108 rfl (Nat.le_of_ble_eq_true rfl) rfl).trans ?_
    rfl
  · skip
    refine (s_iload 102 mc_217 dX11_edge_100 rfl rfl).trans ?_
    refine (s_iload 104 mc_217 dX11_edge_102 rfl rfl).trans ?_
    refine (s_icmp_gt 225 107 mc_217 dX11_edge_104 rfl rfl).trans ?_
    refine ite_c ?_ ?_
    · skip
      refine (s_lload 227 mc_217 dX11_edge_225 rfl rfl rfl).trans ?_
      exact s_lret mc_217 dX11_edge_227 mt_217
    · skip
      refine (s_iconst 108 0 mc_217 dX11_edge_107 rfl (by decide)).trans ?_
      refine (s_istore 110 mc_217 dX11_edge_108 rfl (Nat.le_of_ble_eq_true rfl) rfl).trans ?_
      rfl
theorem b_217_110 {X : Ctx} {d : Nat} (v0 : Option Value) (v1 : Option Value) (v2 : Option Value) (v3 : Option Value) (v4 : Option Value) (v5 : Option Value) (v6 : Option Value) (v7 : Option Value) (v8 : Option Value) (v9 : Option Value) (x10 : Int32) (x11 : Int32) (x12 : Int32) (x13 : Int32)  (h : Hp) : sem (X, K X d) 217 110 [v0, v1, v2, v3, v4, v5, v6, v7, v8, v9, some (.int x10), some (.int x11), some (.int x12), some (.int x13)] [] h = if 2 ≤ x13 then sem (X, K X d) 217 93 [v0, v1, v2, v3, v4, v5, v6, v7, v8, v9, some (.int x10), some (.int x11), some (.int (x12 + 1)), some (.int x13)] [] h else if ¬ x13 = 0 then sem (X, K X d) 217 130 [v0, v1, v2, v3, v4, v5, v6, v7, v8, v9, some (.int x10), some (.int x11), some (.int x12), some (.int x13)] [.int x11, .int x12] h else sem (X, K X d) 217 130 [v0, v1, v2, v3, v4, v5, v6, v7, v8, v9, some (.int x10), some (.int x11), some (.int x12), some (.int x13)] [.int x10, .int x12] h := by
  refine (s_iload 112 mc_217 dX11_edge_110 rfl rfl).trans ?_
  refine (s_iconst 113 2 mc_217 dX11_edge_112 rfl (by decide)).trans ?_
  refine (s_icmp_ge 219 116 mc_217 dX11_edge_113 rfl rfl).trans ?_
  refine ite_c ?_ ?_
  · skip
    refine (s_iinc 1 222 mc_217 dX11_edge_219 rfl rfl (Nat.le_of_ble_eq_true rfl) (by decide) rfl).trans ?_
    refine (s_goto 93 mc_217 dX11_edge_222 rfl).trans ?_
    rfl
  · skip
    refine (s_iload 118 mc_217 dX11_edge_116 rfl rfl).trans ?_
    refine (s_iload 120 mc_217 dX11_edge_118 rfl rfl).trans ?_
    refine (s_if_ne 128 123 mc_217 dX11_edge_120 rfl rfl).trans ?_
    refine ite_c ?_ ?_
    · skip
      refine (s_iload 130 mc_217 dX11_edge_128 rfl rfl).trans ?_
      rfl
    · skip
      refine (s_iload 125 mc_217 dX11_edge_123 rfl rfl).trans ?_
      refine (s_goto 130 mc_217 dX11_edge_125 rfl).trans ?_
      rfl
theorem b_217_130 {X : Ctx} {d : Nat} (x0 : Nat) (v1 : Option Value) (x2 : Int32) (v3 : Option Value) (v4 : Option Value) (v5 : Option Value) (v6 : Option Value) (v7 : Option Value) (v8 : Option Value) (v9 : Option Value) (x10 : Int32) (v11 : Option Value) (x12 : Int32) (x13 : Int32) (s0 : Int32) (s1 : Int32) (h : Hp) : sem (X, K X d) 217 130 [some (.ref x0), v1, some (.int x2), v3, v4, v5, v6, v7, v8, v9, some (.int x10), v11, some (.int x12), some (.int x13)] [.int s1, .int s0] h = if s0 ≤ s1 then gR h 11 x0 46 fun g1 => if ¬ x13 = 0 then sem (X, K X d) 217 159 [some (.ref x0), v1, some (.int x2), v3, v4, v5, v6, v7, v8, v9, some (.int x10), v11, some (.int x12), some (.int x13)] [.int (x10 + x12), .int x2, .ref g1] h else sem (X, K X d) 217 159 [some (.ref x0), v1, some (.int x2), v3, v4, v5, v6, v7, v8, v9, some (.int x10), v11, some (.int x12), some (.int x13)] [.int (x10 - x12), .int x2, .ref g1] h else sem (X, K X d) 217 110 [some (.ref x0), v1, some (.int x2), v3, v4, v5, v6, v7, v8, v9, some (.int x10), v11, some (.int x12), some (.int (x13 + 1))] [] h := by
  refine (s_icmp_le 136 133 mc_217 dX11_edge_130 rfl rfl).trans ?_
  refine ite_c ?_ ?_
  · skip
    refine (s_aload_n 137 mc_217 dX11_edge_136 rfl rfl rfl).trans ?_
    refine (s_getfR 140 mc_217 dX11_edge_137 rfl mo_217 fs_11_122 ff_11_122 rfl).trans ?_
    refine gR_c fun g1 => ?_
    refine (s_iload_n 141 mc_217 dX11_edge_140 rfl rfl rfl).trans ?_
    refine (s_iload 143 mc_217 dX11_edge_141 rfl rfl).trans ?_
    refine (s_if_ne 154 146 mc_217 dX11_edge_143 rfl rfl).trans ?_
    refine ite_c ?_ ?_
    · skip
      refine (s_iload 156 mc_217 dX11_edge_154 rfl rfl).trans ?_
      refine (s_iload 158 mc_217 dX11_edge_156 rfl rfl).trans ?_
      refine (s_iadd 159 mc_217 dX11_edge_158 rfl).trans ?_
      rfl
    · skip
      refine (s_iload 148 mc_217 dX11_edge_146 rfl rfl).trans ?_
      refine (s_iload 150 mc_217 dX11_edge_148 rfl rfl).trans ?_
      refine (s_isub 151 mc_217 dX11_edge_150 rfl).trans ?_
      refine (s_goto 159 mc_217 dX11_edge_151 rfl).trans ?_
      rfl
  · skip
    refine (s_goto 213 mc_217 dX11_edge_133 rfl).trans ?_
    refine (s_iinc 1 216 mc_217 dX11_edge_213 rfl rfl (Nat.le_of_ble_eq_true rfl) (by decide) rfl).trans ?_
    refine (s_goto 110 mc_217 dX11_edge_216 rfl).trans ?_
    rfl
theorem b_217_159 {X : Ctx} {d : Nat} (x0 : Nat) (v1 : Option Value) (v2 : Option Value) (x3 : Int32) (v4 : Option Value) (v5 : Option Value) (v6 : Option Value) (v7 : Option Value) (v8 : Option Value) (v9 : Option Value) (v10 : Option Value) (x11 : Int32) (x12 : Int32) (x13 : Int32) (s0 : Nat) (s1 : Int32) (s2 : Int32) (h : Hp) : sem (X, K X d) 217 159 [some (.ref x0), v1, v2, some (.int x3), v4, v5, v6, v7, v8, v9, v10, some (.int x11), some (.int x12), some (.int x13)] [.int s2, .int s1, .ref s0] h = wI h s0 s1 s2 fun h1 => gR h1 11 x0 46 fun g1 => if ¬ x13 = 0 then sem (X, K X d) 217 183 [some (.ref x0), v1, v2, some (.int x3), v4, v5, v6, v7, v8, v9, v10, some (.int x11), some (.int x12), some (.int x13)] [.int (x11 - x12), .int x3, .ref g1] h1 else sem (X, K X d) 217 183 [some (.ref x0), v1, v2, some (.int x3), v4, v5, v6, v7, v8, v9, v10, some (.int x11), some (.int x12), some (.int x13)] [.int (x11 + x12), .int x3, .ref g1] h1 := by
  refine (s_iastore 160 mc_217 dX11_edge_159 rfl).trans ?_
  refine wI_c fun h1 => ?_
  refine (s_aload_n 161 mc_217 dX11_edge_160 rfl rfl rfl).trans ?_
  refine (s_getfR 164 mc_217 dX11_edge_161 rfl mo_217 fs_11_122 ff_11_122 rfl).trans ?_
  refine gR_c fun g1 => ?_
  refine (s_iload_n 165 mc_217 dX11_edge_164 rfl rfl rfl).trans ?_
  refine (s_iload 167 mc_217 dX11_edge_165 rfl rfl).trans ?_
  refine (s_if_ne 178 170 mc_217 dX11_edge_167 rfl rfl).trans ?_
  refine ite_c ?_ ?_
  · skip
    refine (s_iload 180 mc_217 dX11_edge_178 rfl rfl).trans ?_
    refine (s_iload 182 mc_217 dX11_edge_180 rfl rfl).trans ?_
    refine (s_isub 183 mc_217 dX11_edge_182 rfl).trans ?_
    rfl
  · skip
    refine (s_iload 172 mc_217 dX11_edge_170 rfl rfl).trans ?_
    refine (s_iload 174 mc_217 dX11_edge_172 rfl rfl).trans ?_
    refine (s_iadd 175 mc_217 dX11_edge_174 rfl).trans ?_
    refine (s_goto 183 mc_217 dX11_edge_175 rfl).trans ?_
    rfl
theorem b_217_183 {X : Ctx} {d : Nat} (x0 : Nat) (v1 : Option Value) (x2 : Int32) (v3 : Option Value) (x4 : Int32) (v5 : Option Value) (v6 : Option Value) (x7 : Int64) (x9 : Int32) (v10 : Option Value) (v11 : Option Value) (x12 : Int32) (x13 : Int32) (s0 : Nat) (s1 : Int32) (s2 : Int32) (h : Hp) : sem (X, K X d) 217 183 [some (.ref x0), v1, some (.int x2), v3, some (.int x4), v5, v6, some (.long x7), none, some (.int x9), v10, v11, some (.int x12), some (.int x13)] [.int s2, .int s1, .ref s0] h = wI h s0 s1 s2 fun h1 => gd (hS h1 x0 = (12, 0)) (bI (K X d 192 [.ref x0, .int x2] h1) fun r1 h2 => if r1 = x9 then sem (X, K X d) 217 110 [some (.ref x0), v1, some (.int x2), v3, some (.int x4), v5, v6, some (.long x7), none, some (.int x9), v10, v11, some (.int x12), some (.int (x13 + 1))] [] h2 else if ¬ x4 = 0 then gd (hS h2 x0 = (12, 0)) (bJ (K X d 215 [.ref x0] h2) fun r2 h3 => some (some (.long (r2 - x7)), h3)) else some (some (.long (x12 : Int32).toInt64), h2)) := by
  refine (s_iastore 184 mc_217 dX11_edge_183 rfl).trans ?_
  refine wI_c fun h1 => ?_
  refine (s_aload_n 185 mc_217 dX11_edge_184 rfl rfl rfl).trans ?_
  refine (s_iload_n 186 mc_217 dX11_edge_185 rfl rfl rfl).trans ?_
  refine (s_iviI 189 mc_217 dX11_edge_186 rfl mo_217 mm_11_454 (by decide) ms_192 mi_192 mr_192 ma_192 mo_192 (by decide) (Nat.le_of_ble_eq_true rfl) rfl rfl (Nat.le_of_ble_eq_true rfl)).trans ?_
  refine gd_c ?_
  refine bI_c fun r1 h2 => ?_
  refine (s_iload 191 mc_217 dX11_edge_189 rfl rfl).trans ?_
  refine (s_icmp_eq 213 194 mc_217 dX11_edge_191 rfl rfl).trans ?_
  refine ite_c ?_ ?_
  · skip
    refine (s_iinc 1 216 mc_217 dX11_edge_213 rfl rfl (Nat.le_of_ble_eq_true rfl) (by decide) rfl).trans ?_
    refine (s_goto 110 mc_217 dX11_edge_216 rfl).trans ?_
    rfl
  · skip
    refine (s_iload 196 mc_217 dX11_edge_194 rfl rfl).trans ?_
    refine (s_if_ne 205 199 mc_217 dX11_edge_196 rfl rfl).trans ?_
    refine ite_c ?_ ?_
    · skip
      refine (s_aload_n 206 mc_217 dX11_edge_205 rfl rfl rfl).trans ?_
      refine (s_iviJ 209 mc_217 dX11_edge_206 rfl mo_217 mm_11_524 (by decide) ms_215 mi_215 mr_215 ma_215 mo_215 (by decide) (Nat.le_of_ble_eq_true rfl) rfl rfl (Nat.le_of_ble_eq_true rfl)).trans ?_
      refine gd_c ?_
      refine bJ_c fun r2 h3 => ?_
      refine (s_lload 211 mc_217 dX11_edge_209 rfl rfl rfl).trans ?_
      refine (s_lsub 212 mc_217 dX11_edge_211 rfl).trans ?_
      exact s_lret mc_217 dX11_edge_212 mt_217
    · skip
      refine (s_iload 201 mc_217 dX11_edge_199 rfl rfl).trans ?_
      refine (s_i2l 202 mc_217 dX11_edge_201 rfl).trans ?_
      refine (s_goto 212 mc_217 dX11_edge_202 rfl).trans ?_
      exact s_lret mc_217 dX11_edge_212 mt_217
/-- FiveLandsModel.hangs(II)I -/
theorem k_218 {X : Ctx} {d : Nat} (x0 : Nat) (x1 : Int32) (x2 : Int32) (h : Hp) : K X (d + 1) 218 [.ref x0, .int x1, .int x2] h = bI (K X d 143 [.int x1] h) fun r1 h1 => if r1 = 0 then some (some (.int (-1)), h1) else bI (K X d 144 [.int x2] h1) fun r2 h2 => if ¬ r2 = 0 then gd (hS h2 x0 = (12, 0)) (bV (K X d 189 [.ref x0, .int x1] h2) fun h3 => gR h3 11 x0 46 fun g3 => aI X h3 g3 x2 fun g4 => sem (X, K X d) 218 37 [some (.ref x0), some (.int x1), some (.int x2), some (.int 0), some (.int 0), some (.int g4), some (.int 0), none, none] [] h3) else some (some (.int (-1)), h2) := by
  show sem (X, K X d) 218 0 [some (.ref x0), some (.int x1), some (.int x2), none, none, none, none, none, none] [] h = _
  refine (s_iload_n 1 mc_218 dX11_hangs_0 rfl rfl rfl).trans ?_
  refine (s_istI 4 mc_218 dX11_hangs_1 rfl mo_218 mm_11_207 (by decide) ms_143 mr_143 ma_143 (Nat.le_of_ble_eq_true rfl) rfl rfl (Nat.le_of_ble_eq_true rfl)).trans ?_
  refine bI_c fun r1 h1 => ?_
  refine (s_if_eq 14 7 mc_218 dX11_hangs_4 rfl rfl).trans ?_
  refine ite_c ?_ ?_
  · skip
    refine (s_iconst 15 (-1) mc_218 dX11_hangs_14 rfl (by decide)).trans ?_
    exact s_iret mc_218 dX11_hangs_15 mt_218
  · skip
    refine (s_iload_n 8 mc_218 dX11_hangs_7 rfl rfl rfl).trans ?_
    refine (s_istI 11 mc_218 dX11_hangs_8 rfl mo_218 mm_11_211 (by decide) ms_144 mr_144 ma_144 (Nat.le_of_ble_eq_true rfl) rfl rfl (Nat.le_of_ble_eq_true rfl)).trans ?_
    refine bI_c fun r2 h2 => ?_
    refine (s_if_ne 16 14 mc_218 dX11_hangs_11 rfl rfl).trans ?_
    refine ite_c ?_ ?_
    · skip
      refine (s_aload_n 17 mc_218 dX11_hangs_16 rfl rfl rfl).trans ?_
      refine (s_iload_n 18 mc_218 dX11_hangs_17 rfl rfl rfl).trans ?_
      refine (s_iviV 21 mc_218 dX11_hangs_18 rfl mo_218 mm_11_463 (by decide) ms_189 mi_189 mr_189 ma_189 mo_189 (by decide) (Nat.le_of_ble_eq_true rfl) rfl rfl (Nat.le_of_ble_eq_true rfl)).trans ?_
      refine gd_c ?_
      refine bV_c fun h3 => ?_
      refine (s_iconst 22 0 mc_218 dX11_hangs_21 rfl (by decide)).trans ?_
      refine (s_istore_n 23 mc_218 dX11_hangs_22 rfl rfl (Nat.le_of_ble_eq_true rfl) rfl).trans ?_
      refine (s_iconst 24 0 mc_218 dX11_hangs_23 rfl (by decide)).trans ?_
      refine (s_istore 26 mc_218 dX11_hangs_24 rfl (Nat.le_of_ble_eq_true rfl) rfl).trans ?_
      refine (s_aload_n 27 mc_218 dX11_hangs_26 rfl rfl rfl).trans ?_
      refine (s_getfR 30 mc_218 dX11_hangs_27 rfl mo_218 fs_11_122 ff_11_122 rfl).trans ?_
      refine gR_c fun g3 => ?_
      refine (s_iload_n 31 mc_218 dX11_hangs_30 rfl rfl rfl).trans ?_
      refine (s_iaload 32 mc_218 dX11_hangs_31 rfl).trans ?_
      refine aI_c fun g4 => ?_
      refine (s_istore 34 mc_218 dX11_hangs_32 rfl (Nat.le_of_ble_eq_true rfl) rfl).trans ?_
      refine (s_iconst 35 0 mc_218 dX11_hangs_34 rfl (by decide)).trans ?_
      refine (s_istore 37 mc_218 dX11_hangs_35 rfl (Nat.le_of_ble_eq_true rfl) rfl).trans ?_
      rfl
    · skip
      refine (s_iconst 15 (-1) mc_218 dX11_hangs_14 rfl (by decide)).trans ?_
      exact s_iret mc_218 dX11_hangs_15 mt_218
theorem b_218_37 {X : Ctx} {d : Nat} (x0 : Nat) (v1 : Option Value) (v2 : Option Value) (x3 : Int32) (x4 : Int32) (v5 : Option Value) (x6 : Int32) (v7 : Option Value) (v8 : Option Value)  (h : Hp) : sem (X, K X d) 218 37 [some (.ref x0), v1, v2, some (.int x3), some (.int x4), v5, some (.int x6), v7, v8] [] h = gI h 11 x0 56 fun g1 => if g1 < x6 then if x3 = 0 then some (some (.int 0), h) else if x4 = 0 then some (some (.int 1), h) else some (some (.int 2), h) else sem (X, K X d) 218 49 [some (.ref x0), v1, v2, some (.int x3), some (.int x4), v5, some (.int x6), some (.int 0), v8] [] h := by
  refine (s_iload 39 mc_218 dX11_hangs_37 rfl rfl).trans ?_
  refine (s_aload_n 40 mc_218 dX11_hangs_39 rfl rfl rfl).trans ?_
  refine (s_getfI 43 mc_218 dX11_hangs_40 rfl mo_218 fs_11_408 ff_11_408 (Or.inl rfl)).trans ?_
  refine gI_c fun g1 => ?_
  refine (s_icmp_gt 161 46 mc_218 dX11_hangs_43 rfl rfl).trans ?_
  refine ite_c ?_ ?_
  · skip
    refine (s_iload_n 162 mc_218 dX11_hangs_161 rfl rfl rfl).trans ?_
    refine (s_if_eq 178 165 mc_218 dX11_hangs_162 rfl rfl).trans ?_
    refine ite_c ?_ ?_
    · skip
      refine (s_iconst 179 0 mc_218 dX11_hangs_178 rfl (by decide)).trans ?_
      exact s_iret mc_218 dX11_hangs_179 mt_218
    · skip
      refine (s_iload 167 mc_218 dX11_hangs_165 rfl rfl).trans ?_
      refine (s_if_eq 174 170 mc_218 dX11_hangs_167 rfl rfl).trans ?_
      refine ite_c ?_ ?_
      · skip
        refine (s_iconst 175 1 mc_218 dX11_hangs_174 rfl (by decide)).trans ?_
        refine (s_goto 179 mc_218 dX11_hangs_175 rfl).trans ?_
        exact s_iret mc_218 dX11_hangs_179 mt_218
      · skip
        refine (s_iconst 171 2 mc_218 dX11_hangs_170 rfl (by decide)).trans ?_
        refine (s_goto 179 mc_218 dX11_hangs_171 rfl).trans ?_
        exact s_iret mc_218 dX11_hangs_179 mt_218
  · skip
    refine (s_iconst 47 0 mc_218 dX11_hangs_46 rfl (by decide)).trans ?_
    refine (s_istore 49 mc_218 dX11_hangs_47 rfl (Nat.le_of_ble_eq_true rfl) rfl).trans ?_
    rfl
theorem b_218_49 {X : Ctx} {d : Nat} (x0 : Nat) (v1 : Option Value) (x2 : Int32) (x3 : Int32) (v4 : Option Value) (x5 : Int32) (x6 : Int32) (x7 : Int32) (v8 : Option Value)  (h : Hp) : sem (X, K X d) 218 49 [some (.ref x0), v1, some (.int x2), some (.int x3), v4, some (.int x5), some (.int x6), some (.int x7), v8] [] h = if 6 ≤ x7 then sem (X, K X d) 218 37 [some (.ref x0), v1, some (.int x2), some (.int x3), v4, some (.int x5), some (.int (x6 + 1)), some (.int x7), v8] [] h else if ¬ x7 = x2 then gR h 11 x0 46 fun g1 => wI h g1 x2 (x5 + x6) fun h1 => gR h1 11 x0 46 fun g2 => aI X h1 g2 x7 fun g3 => gI h1 11 x0 56 fun g4 => wI h1 g2 x7 (g3 + (g4 - x6)) fun h2 => gd (hS h2 x0 = (12, 0)) (bI (K X d 192 [.ref x0, .int x2] h2) fun r5 h3 => gR h3 11 x0 46 fun g6 => aI X h3 g6 x7 fun g7 => gI h3 11 x0 56 fun g8 => wI h3 g6 x7 (g7 - (g8 - x6)) fun h4 => if ¬ x3 = 0 then sem (X, K X d) 218 131 [some (.ref x0), v1, some (.int x2), some (.int x3), v4, some (.int x5), some (.int x6), some (.int x7), some (.int r5)] [.int 1] h4 else if r5 = 0 then sem (X, K X d) 218 131 [some (.ref x0), v1, some (.int x2), some (.int x3), v4, some (.int x5), some (.int x6), some (.int x7), some (.int r5)] [.int 0] h4 else sem (X, K X d) 218 131 [some (.ref x0), v1, some (.int x2), some (.int x3), v4, some (.int x5), some (.int x6), some (.int x7), some (.int r5)] [.int 1] h4) else sem (X, K X d) 218 49 [some (.ref x0), v1, some (.int x2), some (.int x3), v4, some (.int x5), some (.int x6), some (.int (x7 + 1)), v8] [] h := by
  refine (s_iload 51 mc_218 dX11_hangs_49 rfl rfl).trans ?_
  refine (s_bipush 53 6 mc_218 dX11_hangs_51 rfl (by decide)).trans ?_
  refine (s_icmp_ge 155 56 mc_218 dX11_hangs_53 rfl rfl).trans ?_
  refine ite_c ?_ ?_
  · skip
    refine (s_iinc 1 158 mc_218 dX11_hangs_155 rfl rfl (Nat.le_of_ble_eq_true rfl) (by decide) rfl).trans ?_
    refine (s_goto 37 mc_218 dX11_hangs_158 rfl).trans ?_
    rfl
  · skip
    refine (s_iload 58 mc_218 dX11_hangs_56 rfl rfl).trans ?_
    refine (s_iload_n 59 mc_218 dX11_hangs_58 rfl rfl rfl).trans ?_
    refine (s_icmp_ne 65 62 mc_218 dX11_hangs_59 rfl rfl).trans ?_
    refine ite_c ?_ ?_
    · skip
      refine (s_aload_n 66 mc_218 dX11_hangs_65 rfl rfl rfl).trans ?_
      refine (s_getfR 69 mc_218 dX11_hangs_66 rfl mo_218 fs_11_122 ff_11_122 rfl).trans ?_
      refine gR_c fun g1 => ?_
      refine (s_iload_n 70 mc_218 dX11_hangs_69 rfl rfl rfl).trans ?_
      refine (s_iload 72 mc_218 dX11_hangs_70 rfl rfl).trans ?_
      refine (s_iload 74 mc_218 dX11_hangs_72 rfl rfl).trans ?_
      refine (s_iadd 75 mc_218 dX11_hangs_74 rfl).trans ?_
      refine (s_iastore 76 mc_218 dX11_hangs_75 rfl).trans ?_
      refine wI_c fun h1 => ?_
      refine (s_aload_n 77 mc_218 dX11_hangs_76 rfl rfl rfl).trans ?_
      refine (s_getfR 80 mc_218 dX11_hangs_77 rfl mo_218 fs_11_122 ff_11_122 rfl).trans ?_
      refine gR_c fun g2 => ?_
      refine (s_iload 82 mc_218 dX11_hangs_80 rfl rfl).trans ?_
      refine (s_dup2 83 mc_218 dX11_hangs_82 rfl rfl rfl).trans ?_
      refine (s_iaload 84 mc_218 dX11_hangs_83 rfl).trans ?_
      refine aI_c fun g3 => ?_
      refine (s_aload_n 85 mc_218 dX11_hangs_84 rfl rfl rfl).trans ?_
      refine (s_getfI 88 mc_218 dX11_hangs_85 rfl mo_218 fs_11_408 ff_11_408 (Or.inl rfl)).trans ?_
      refine gI_c fun g4 => ?_
      refine (s_iload 90 mc_218 dX11_hangs_88 rfl rfl).trans ?_
      refine (s_isub 91 mc_218 dX11_hangs_90 rfl).trans ?_
      refine (s_iadd 92 mc_218 dX11_hangs_91 rfl).trans ?_
      refine (s_iastore 93 mc_218 dX11_hangs_92 rfl).trans ?_
      refine wI_c fun h2 => ?_
      refine (s_aload_n 94 mc_218 dX11_hangs_93 rfl rfl rfl).trans ?_
      refine (s_iload_n 95 mc_218 dX11_hangs_94 rfl rfl rfl).trans ?_
      refine (s_iviI 98 mc_218 dX11_hangs_95 rfl mo_218 mm_11_454 (by decide) ms_192 mi_192 mr_192 ma_192 mo_192 (by decide) (Nat.le_of_ble_eq_true rfl) rfl rfl (Nat.le_of_ble_eq_true rfl)).trans ?_
      refine gd_c ?_
      refine bI_c fun r5 h3 => ?_
      refine (s_istore 100 mc_218 dX11_hangs_98 rfl (Nat.le_of_ble_eq_true rfl) rfl).trans ?_
      refine (s_aload_n 101 mc_218 dX11_hangs_100 rfl rfl rfl).trans ?_
      refine (s_getfR 104 mc_218 dX11_hangs_101 rfl mo_218 fs_11_122 ff_11_122 rfl).trans ?_
      refine gR_c fun g6 => ?_
      refine (s_iload 106 mc_218 dX11_hangs_104 rfl rfl).trans ?_
      refine (s_dup2 107 mc_218 dX11_hangs_106 rfl rfl rfl).trans ?_
      refine (s_iaload 108 mc_218 dX11_hangs_107 rfl).trans ?_
      refine aI_c fun g7 => ?_
      refine (s_aload_n 109 mc_218 dX11_hangs_108 rfl rfl rfl).trans ?_
      refine (s_getfI 112 mc_218 dX11_hangs_109 rfl mo_218 fs_11_408 ff_11_408 (Or.inl rfl)).trans ?_
      refine gI_c fun g8 => ?_
      refine (s_iload 114 mc_218 dX11_hangs_112 rfl rfl).trans ?_
      refine (s_isub 115 mc_218 dX11_hangs_114 rfl).trans ?_
      refine (s_isub 116 mc_218 dX11_hangs_115 rfl).trans ?_
      refine (s_iastore 117 mc_218 dX11_hangs_116 rfl).trans ?_
      refine wI_c fun h4 => ?_
      refine (s_iload_n 118 mc_218 dX11_hangs_117 rfl rfl rfl).trans ?_
      refine (s_if_ne 126 121 mc_218 dX11_hangs_118 rfl rfl).trans ?_
      refine ite_c ?_ ?_
      · skip
        refine (s_iconst 127 1 mc_218 dX11_hangs_126 rfl (by decide)).trans ?_
        refine (s_goto 131 mc_218 dX11_hangs_127 rfl).trans ?_
        rfl
      · skip
        refine (s_iload 123 mc_218 dX11_hangs_121 rfl rfl).trans ?_
        refine (s_if_eq 130 126 mc_218 dX11_hangs_123 rfl rfl).trans ?_
        refine ite_c ?_ ?_
        · skip
          refine (s_iconst 131 0 mc_218 dX11_hangs_130 rfl (by decide)).trans ?_
          rfl
        · skip
          refine (s_iconst 127 1 mc_218 dX11_hangs_126 rfl (by decide)).trans ?_
          refine (s_goto 131 mc_218 dX11_hangs_127 rfl).trans ?_
          rfl
    · skip
      refine (s_goto 149 mc_218 dX11_hangs_62 rfl).trans ?_
      refine (s_iinc 1 152 mc_218 dX11_hangs_149 rfl rfl (Nat.le_of_ble_eq_true rfl) (by decide) rfl).trans ?_
      refine (s_goto 49 mc_218 dX11_hangs_152 rfl).trans ?_
      rfl
theorem b_218_131 {X : Ctx} {d : Nat} (v0 : Option Value) (v1 : Option Value) (v2 : Option Value) (v3 : Option Value) (x4 : Int32) (v5 : Option Value) (v6 : Option Value) (x7 : Int32) (x8 : Int32) (s0 : Int32) (h : Hp) : sem (X, K X d) 218 131 [v0, v1, v2, v3, some (.int x4), v5, v6, some (.int x7), some (.int x8)] [.int s0] h = if ¬ x4 = 0 then sem (X, K X d) 218 49 [v0, v1, v2, some (.int s0), some (.int 1), v5, v6, some (.int (x7 + 1)), some (.int x8)] [] h else if ¬ x8 = 0 then sem (X, K X d) 218 49 [v0, v1, v2, some (.int s0), some (.int 0), v5, v6, some (.int (x7 + 1)), some (.int x8)] [] h else sem (X, K X d) 218 49 [v0, v1, v2, some (.int s0), some (.int 1), v5, v6, some (.int (x7 + 1)), some (.int x8)] [] h := by
  refine (s_istore_n 132 mc_218 dX11_hangs_131 rfl rfl (Nat.le_of_ble_eq_true rfl) rfl).trans ?_
  refine (s_iload 134 mc_218 dX11_hangs_132 rfl rfl).trans ?_
  refine (s_if_ne 142 137 mc_218 dX11_hangs_134 rfl rfl).trans ?_
  refine ite_c ?_ ?_
  · skip
    refine (s_iconst 143 1 mc_218 dX11_hangs_142 rfl (by decide)).trans ?_
    refine (s_goto 147 mc_218 dX11_hangs_143 rfl).trans ?_
    refine (s_istore 149 mc_218 dX11_hangs_147 rfl (Nat.le_of_ble_eq_true rfl) rfl).trans ?_
    refine (s_iinc 1 152 mc_218 dX11_hangs_149 rfl rfl (Nat.le_of_ble_eq_true rfl) (by decide) rfl).trans ?_
    refine (s_goto 49 mc_218 dX11_hangs_152 rfl).trans ?_
    rfl
  · skip
    refine (s_iload 139 mc_218 dX11_hangs_137 rfl rfl).trans ?_
    refine (s_if_ne 146 142 mc_218 dX11_hangs_139 rfl rfl).trans ?_
    refine ite_c ?_ ?_
    · skip
      refine (s_iconst 147 0 mc_218 dX11_hangs_146 rfl (by decide)).trans ?_
      refine (s_istore 149 mc_218 dX11_hangs_147 rfl (Nat.le_of_ble_eq_true rfl) rfl).trans ?_
      refine (s_iinc 1 152 mc_218 dX11_hangs_149 rfl rfl (Nat.le_of_ble_eq_true rfl) (by decide) rfl).trans ?_
      refine (s_goto 49 mc_218 dX11_hangs_152 rfl).trans ?_
      rfl
    · skip
      refine (s_iconst 143 1 mc_218 dX11_hangs_142 rfl (by decide)).trans ?_
      refine (s_goto 147 mc_218 dX11_hangs_143 rfl).trans ?_
      refine (s_istore 149 mc_218 dX11_hangs_147 rfl (Nat.le_of_ble_eq_true rfl) rfl).trans ?_
      refine (s_iinc 1 152 mc_218 dX11_hangs_149 rfl rfl (Nat.le_of_ble_eq_true rfl) (by decide) rfl).trans ?_
      refine (s_goto 49 mc_218 dX11_hangs_152 rfl).trans ?_
      rfl
/-- FiveLandsModel.move(II)I -/
theorem k_219 {X : Ctx} {d : Nat} (x0 : Nat) (x1 : Int32) (x2 : Int32) (h : Hp) : K X (d + 1) 219 [.ref x0, .int x1, .int x2] h = bI (K X d 142 [.int x1, .int 0, .int 359] h) fun r1 h1 => if r1 = 0 then some (some (.int (-1)), h1) else bI (K X d 144 [.int x2] h1) fun r2 h2 => if r2 = 0 then some (some (.int (-1)), h2) else gI h2 11 x0 73 fun g3 => if ¬ g3 = 20 then gR h2 11 x0 74 fun g4 => gI h2 11 x0 73 fun g5 => wI h2 g4 g5 x1 fun h3 => gR h3 11 x0 75 fun g6 => gI h3 11 x0 73 fun g7 => wI h3 g6 g7 x2 fun h4 => gI h4 11 x0 73 fun g8 => fI h4 11 x0 73 (g8 + 1) fun h5 => gI h5 11 x0 73 fun g9 => some (some (.int (g9 - 1)), h5) else some (some (.int (-1)), h2) := by
  show sem (X, K X d) 219 0 [some (.ref x0), some (.int x1), some (.int x2)] [] h = _
  refine (s_iload_n 1 mc_219 dX11_move_0 rfl rfl rfl).trans ?_
  refine (s_iconst 2 0 mc_219 dX11_move_1 rfl (by decide)).trans ?_
  refine (s_sipush 5 359 mc_219 dX11_move_2 rfl (by decide)).trans ?_
  refine (s_istI 8 mc_219 dX11_move_5 rfl mo_219 mm_11_1 (by decide) ms_142 mr_142 ma_142 (Nat.le_of_ble_eq_true rfl) rfl rfl (Nat.le_of_ble_eq_true rfl)).trans ?_
  refine bI_c fun r1 h1 => ?_
  refine (s_if_eq 27 11 mc_219 dX11_move_8 rfl rfl).trans ?_
  refine ite_c ?_ ?_
  · skip
    refine (s_iconst 28 (-1) mc_219 dX11_move_27 rfl (by decide)).trans ?_
    exact s_iret mc_219 dX11_move_28 mt_219
  · skip
    refine (s_iload_n 12 mc_219 dX11_move_11 rfl rfl rfl).trans ?_
    refine (s_istI 15 mc_219 dX11_move_12 rfl mo_219 mm_11_211 (by decide) ms_144 mr_144 ma_144 (Nat.le_of_ble_eq_true rfl) rfl rfl (Nat.le_of_ble_eq_true rfl)).trans ?_
    refine bI_c fun r2 h2 => ?_
    refine (s_if_eq 27 18 mc_219 dX11_move_15 rfl rfl).trans ?_
    refine ite_c ?_ ?_
    · skip
      refine (s_iconst 28 (-1) mc_219 dX11_move_27 rfl (by decide)).trans ?_
      exact s_iret mc_219 dX11_move_28 mt_219
    · skip
      refine (s_aload_n 19 mc_219 dX11_move_18 rfl rfl rfl).trans ?_
      refine (s_getfI 22 mc_219 dX11_move_19 rfl mo_219 fs_11_530 ff_11_530 (Or.inl rfl)).trans ?_
      refine gI_c fun g3 => ?_
      refine (s_bipush 24 20 mc_219 dX11_move_22 rfl (by decide)).trans ?_
      refine (s_icmp_ne 29 27 mc_219 dX11_move_24 rfl rfl).trans ?_
      refine ite_c ?_ ?_
      · skip
        refine (s_aload_n 30 mc_219 dX11_move_29 rfl rfl rfl).trans ?_
        refine (s_getfR 33 mc_219 dX11_move_30 rfl mo_219 fs_11_171 ff_11_171 rfl).trans ?_
        refine gR_c fun g4 => ?_
        refine (s_aload_n 34 mc_219 dX11_move_33 rfl rfl rfl).trans ?_
        refine (s_getfI 37 mc_219 dX11_move_34 rfl mo_219 fs_11_530 ff_11_530 (Or.inl rfl)).trans ?_
        refine gI_c fun g5 => ?_
        refine (s_iload_n 38 mc_219 dX11_move_37 rfl rfl rfl).trans ?_
        refine (s_iastore 39 mc_219 dX11_move_38 rfl).trans ?_
        refine wI_c fun h3 => ?_
        refine (s_aload_n 40 mc_219 dX11_move_39 rfl rfl rfl).trans ?_
        refine (s_getfR 43 mc_219 dX11_move_40 rfl mo_219 fs_11_174 ff_11_174 rfl).trans ?_
        refine gR_c fun g6 => ?_
        refine (s_aload_n 44 mc_219 dX11_move_43 rfl rfl rfl).trans ?_
        refine (s_getfI 47 mc_219 dX11_move_44 rfl mo_219 fs_11_530 ff_11_530 (Or.inl rfl)).trans ?_
        refine gI_c fun g7 => ?_
        refine (s_iload_n 48 mc_219 dX11_move_47 rfl rfl rfl).trans ?_
        refine (s_iastore 49 mc_219 dX11_move_48 rfl).trans ?_
        refine wI_c fun h4 => ?_
        refine (s_aload_n 50 mc_219 dX11_move_49 rfl rfl rfl).trans ?_
        refine (s_dup 51 mc_219 dX11_move_50 rfl rfl).trans ?_
        refine (s_getfI 54 mc_219 dX11_move_51 rfl mo_219 fs_11_530 ff_11_530 (Or.inl rfl)).trans ?_
        refine gI_c fun g8 => ?_
        refine (s_iconst 55 1 mc_219 dX11_move_54 rfl (by decide)).trans ?_
        refine (s_iadd 56 mc_219 dX11_move_55 rfl).trans ?_
        refine (s_putfI 59 mc_219 dX11_move_56 rfl mo_219 ff_11_530 rfl (Or.inl rfl)).trans ?_
        refine fI_c fun h5 => ?_
        refine (s_aload_n 60 mc_219 dX11_move_59 rfl rfl rfl).trans ?_
        refine (s_getfI 63 mc_219 dX11_move_60 rfl mo_219 fs_11_530 ff_11_530 (Or.inl rfl)).trans ?_
        refine gI_c fun g9 => ?_
        refine (s_iconst 64 1 mc_219 dX11_move_63 rfl (by decide)).trans ?_
        refine (s_isub 65 mc_219 dX11_move_64 rfl).trans ?_
        exact s_iret mc_219 dX11_move_65 mt_219
      · skip
        refine (s_iconst 28 (-1) mc_219 dX11_move_27 rfl (by decide)).trans ?_
        exact s_iret mc_219 dX11_move_28 mt_219
/-- FiveLandsModel.owesByMove(II)J -/
theorem k_220 {X : Ctx} {d : Nat} (x0 : Nat) (x1 : Int32) (x2 : Int32) (h : Hp) : K X (d + 1) 220 [.ref x0, .int x1, .int x2] h = gd (hS h x0 = (12, 0)) (bV (K X d 189 [.ref x0, .int x1] h) fun h1 => gR h1 11 x0 74 fun g1 => aI X h1 g1 x2 fun g2 => sem (X, K X d) 220 12 [some (.ref x0), some (.int x1), some (.int x2), some (.int g2), none] [] h1) := by
  show sem (X, K X d) 220 0 [some (.ref x0), some (.int x1), some (.int x2), none, none] [] h = _
  refine (s_aload_n 1 mc_220 dX11_owesByMove_0 rfl rfl rfl).trans ?_
  refine (s_iload_n 2 mc_220 dX11_owesByMove_1 rfl rfl rfl).trans ?_
  refine (s_iviV 5 mc_220 dX11_owesByMove_2 rfl mo_220 mm_11_463 (by decide) ms_189 mi_189 mr_189 ma_189 mo_189 (by decide) (Nat.le_of_ble_eq_true rfl) rfl rfl (Nat.le_of_ble_eq_true rfl)).trans ?_
  refine gd_c ?_
  refine bV_c fun h1 => ?_
  refine (s_aload_n 6 mc_220 dX11_owesByMove_5 rfl rfl rfl).trans ?_
  refine (s_getfR 9 mc_220 dX11_owesByMove_6 rfl mo_220 fs_11_171 ff_11_171 rfl).trans ?_
  refine gR_c fun g1 => ?_
  refine (s_iload_n 10 mc_220 dX11_owesByMove_9 rfl rfl rfl).trans ?_
  refine (s_iaload 11 mc_220 dX11_owesByMove_10 rfl).trans ?_
  refine aI_c fun g2 => ?_
  refine (s_istore_n 12 mc_220 dX11_owesByMove_11 rfl rfl (Nat.le_of_ble_eq_true rfl) rfl).trans ?_
  rfl
theorem b_220_12 {X : Ctx} {d : Nat} (x0 : Nat) (x1 : Int32) (x2 : Int32) (x3 : Int32) (v4 : Option Value)  (h : Hp) : sem (X, K X d) 220 12 [some (.ref x0), some (.int x1), some (.int x2), some (.int x3), v4] [] h = if 360 ≤ x3 then gR h 11 x0 46 fun g1 => gR h 11 x0 75 fun g2 => aI X h g2 x2 fun g3 => aI X h g1 g3 fun g4 => gR h 11 x0 74 fun g5 => aI X h g5 x2 fun g6 => wI h g1 g3 (g4 + (360 - g6)) fun h1 => gR h1 11 x0 75 fun g7 => aI X h1 g7 x2 fun g8 => fI h1 11 x0 52 (1 <<< (g8 &&& 31)) fun h2 => gd (hS h2 x0 = (12, 0)) (bJ (K X d 215 [.ref x0] h2) fun r9 h3 => some (some (.long r9), h3)) else gR h 11 x0 0 fun g10 => aI X h g10 ((360 * x1) + x3) fun g11 => if g11 = (-1) then sem (X, K X d) 220 12 [some (.ref x0), some (.int x1), some (.int x2), some (.int (x3 + 1)), some (.int g11)] [] h else gR h 11 x0 46 fun g12 => aI X h g12 g11 fun g13 => wI h g12 g11 (g13 - 1) fun h4 => sem (X, K X d) 220 12 [some (.ref x0), some (.int x1), some (.int x2), some (.int (x3 + 1)), some (.int g11)] [] h4 := by
  refine (s_iload_n 13 mc_220 dX11_owesByMove_12 rfl rfl rfl).trans ?_
  refine (s_sipush 16 360 mc_220 dX11_owesByMove_13 rfl (by decide)).trans ?_
  refine (s_icmp_ge 56 19 mc_220 dX11_owesByMove_16 rfl rfl).trans ?_
  refine ite_c ?_ ?_
  · skip
    refine (s_aload_n 57 mc_220 dX11_owesByMove_56 rfl rfl rfl).trans ?_
    refine (s_getfR 60 mc_220 dX11_owesByMove_57 rfl mo_220 fs_11_122 ff_11_122 rfl).trans ?_
    refine gR_c fun g1 => ?_
    refine (s_aload_n 61 mc_220 dX11_owesByMove_60 rfl rfl rfl).trans ?_
    refine (s_getfR 64 mc_220 dX11_owesByMove_61 rfl mo_220 fs_11_174 ff_11_174 rfl).trans ?_
    refine gR_c fun g2 => ?_
    refine (s_iload_n 65 mc_220 dX11_owesByMove_64 rfl rfl rfl).trans ?_
    refine (s_iaload 66 mc_220 dX11_owesByMove_65 rfl).trans ?_
    refine aI_c fun g3 => ?_
    refine (s_dup2 67 mc_220 dX11_owesByMove_66 rfl rfl rfl).trans ?_
    refine (s_iaload 68 mc_220 dX11_owesByMove_67 rfl).trans ?_
    refine aI_c fun g4 => ?_
    refine (s_sipush 71 360 mc_220 dX11_owesByMove_68 rfl (by decide)).trans ?_
    refine (s_aload_n 72 mc_220 dX11_owesByMove_71 rfl rfl rfl).trans ?_
    refine (s_getfR 75 mc_220 dX11_owesByMove_72 rfl mo_220 fs_11_171 ff_11_171 rfl).trans ?_
    refine gR_c fun g5 => ?_
    refine (s_iload_n 76 mc_220 dX11_owesByMove_75 rfl rfl rfl).trans ?_
    refine (s_iaload 77 mc_220 dX11_owesByMove_76 rfl).trans ?_
    refine aI_c fun g6 => ?_
    refine (s_isub 78 mc_220 dX11_owesByMove_77 rfl).trans ?_
    refine (s_iadd 79 mc_220 dX11_owesByMove_78 rfl).trans ?_
    refine (s_iastore 80 mc_220 dX11_owesByMove_79 rfl).trans ?_
    refine wI_c fun h1 => ?_
    refine (s_aload_n 81 mc_220 dX11_owesByMove_80 rfl rfl rfl).trans ?_
    refine (s_iconst 82 1 mc_220 dX11_owesByMove_81 rfl (by decide)).trans ?_
    refine (s_aload_n 83 mc_220 dX11_owesByMove_82 rfl rfl rfl).trans ?_
    refine (s_getfR 86 mc_220 dX11_owesByMove_83 rfl mo_220 fs_11_174 ff_11_174 rfl).trans ?_
    refine gR_c fun g7 => ?_
    refine (s_iload_n 87 mc_220 dX11_owesByMove_86 rfl rfl rfl).trans ?_
    refine (s_iaload 88 mc_220 dX11_owesByMove_87 rfl).trans ?_
    refine aI_c fun g8 => ?_
    refine (s_ishl 89 mc_220 dX11_owesByMove_88 rfl).trans ?_
    refine (s_putfI 92 mc_220 dX11_owesByMove_89 rfl mo_220 ff_11_414 rfl (Or.inl rfl)).trans ?_
    refine fI_c fun h2 => ?_
    refine (s_aload_n 93 mc_220 dX11_owesByMove_92 rfl rfl rfl).trans ?_
    refine (s_iviJ 96 mc_220 dX11_owesByMove_93 rfl mo_220 mm_11_524 (by decide) ms_215 mi_215 mr_215 ma_215 mo_215 (by decide) (Nat.le_of_ble_eq_true rfl) rfl rfl (Nat.le_of_ble_eq_true rfl)).trans ?_
    refine gd_c ?_
    refine bJ_c fun r9 h3 => ?_
    exact s_lret mc_220 dX11_owesByMove_96 mt_220
  · skip
    refine (s_aload_n 20 mc_220 dX11_owesByMove_19 rfl rfl rfl).trans ?_
    refine (s_getfR 23 mc_220 dX11_owesByMove_20 rfl mo_220 fs_11_13 ff_11_13 rfl).trans ?_
    refine gR_c fun g10 => ?_
    refine (s_sipush 26 360 mc_220 dX11_owesByMove_23 rfl (by decide)).trans ?_
    refine (s_iload_n 27 mc_220 dX11_owesByMove_26 rfl rfl rfl).trans ?_
    refine (s_imul 28 mc_220 dX11_owesByMove_27 rfl).trans ?_
    refine (s_iload_n 29 mc_220 dX11_owesByMove_28 rfl rfl rfl).trans ?_
    refine (s_iadd 30 mc_220 dX11_owesByMove_29 rfl).trans ?_
    refine (s_iaload 31 mc_220 dX11_owesByMove_30 rfl).trans ?_
    refine aI_c fun g11 => ?_
    refine (s_istore 33 mc_220 dX11_owesByMove_31 rfl (Nat.le_of_ble_eq_true rfl) rfl).trans ?_
    refine (s_iload 35 mc_220 dX11_owesByMove_33 rfl rfl).trans ?_
    refine (s_iconst 36 (-1) mc_220 dX11_owesByMove_35 rfl (by decide)).trans ?_
    refine (s_icmp_eq 50 39 mc_220 dX11_owesByMove_36 rfl rfl).trans ?_
    refine ite_c ?_ ?_
    · skip
      refine (s_iinc 1 53 mc_220 dX11_owesByMove_50 rfl rfl (Nat.le_of_ble_eq_true rfl) (by decide) rfl).trans ?_
      refine (s_goto 12 mc_220 dX11_owesByMove_53 rfl).trans ?_
      rfl
    · skip
      refine (s_aload_n 40 mc_220 dX11_owesByMove_39 rfl rfl rfl).trans ?_
      refine (s_getfR 43 mc_220 dX11_owesByMove_40 rfl mo_220 fs_11_122 ff_11_122 rfl).trans ?_
      refine gR_c fun g12 => ?_
      refine (s_iload 45 mc_220 dX11_owesByMove_43 rfl rfl).trans ?_
      refine (s_dup2 46 mc_220 dX11_owesByMove_45 rfl rfl rfl).trans ?_
      refine (s_iaload 47 mc_220 dX11_owesByMove_46 rfl).trans ?_
      refine aI_c fun g13 => ?_
      refine (s_iconst 48 1 mc_220 dX11_owesByMove_47 rfl (by decide)).trans ?_
      refine (s_isub 49 mc_220 dX11_owesByMove_48 rfl).trans ?_
      refine (s_iastore 50 mc_220 dX11_owesByMove_49 rfl).trans ?_
      refine wI_c fun h4 => ?_
      refine (s_iinc 1 53 mc_220 dX11_owesByMove_50 rfl rfl (Nat.le_of_ble_eq_true rfl) (by decide) rfl).trans ?_
      refine (s_goto 12 mc_220 dX11_owesByMove_53 rfl).trans ?_
      rfl
/-- FiveLandsModel.best(II)J -/
theorem k_221 {X : Ctx} {d : Nat} (x0 : Nat) (x1 : Int32) (x2 : Int32) (h : Hp) : K X (d + 1) 221 [.ref x0, .int x1, .int x2] h = bI (K X d 143 [.int x1] h) fun r1 h1 => if r1 = 0 then some (some (.long (-1)), h1) else if 0 ≤ x2 then gI h1 11 x0 73 fun g2 => bI (K X d 142 [.int x2, .int 10, .int (9 + g2)] h1) fun r3 h2 => if r3 = 0 then if x2 ≤ 1 then gd (hS h2 x0 = (12, 0)) (bV (K X d 189 [.ref x0, .int x1] h2) fun h3 => gd (hS h3 x0 = (12, 0)) (bJ (K X d 215 [.ref x0] h3) fun r4 h4 => sem (X, K X d) 221 66 [some (.ref x0), some (.int x1), some (.int x2), some (.long r4), none, some (.int (-1)), some (.int 0), none, none] [] h4)) else some (some (.long (-1)), h2) else gd (hS h2 x0 = (12, 0)) (bJ (K X d 220 [.ref x0, .int x1, .int (x2 - 10)] h2) fun r5 h5 => some (some (.long r5), h5)) else some (some (.long (-1)), h1) := by
  show sem (X, K X d) 221 0 [some (.ref x0), some (.int x1), some (.int x2), none, none, none, none, none, none] [] h = _
  refine (s_iload_n 1 mc_221 dX11_best_0 rfl rfl rfl).trans ?_
  refine (s_istI 4 mc_221 dX11_best_1 rfl mo_221 mm_11_207 (by decide) ms_143 mr_143 ma_143 (Nat.le_of_ble_eq_true rfl) rfl rfl (Nat.le_of_ble_eq_true rfl)).trans ?_
  refine bI_c fun r1 h1 => ?_
  refine (s_if_eq 11 7 mc_221 dX11_best_4 rfl rfl).trans ?_
  refine ite_c ?_ ?_
  · skip
    refine (s_ldc2_w 14 (-1) mc_221 dX11_best_11 rfl mo_221 cl_11_474 (by decide)).trans ?_
    exact s_lret mc_221 dX11_best_14 mt_221
  · skip
    refine (s_iload_n 8 mc_221 dX11_best_7 rfl rfl rfl).trans ?_
    refine (s_if_ge 15 11 mc_221 dX11_best_8 rfl rfl).trans ?_
    refine ite_c ?_ ?_
    · skip
      refine (s_iload_n 16 mc_221 dX11_best_15 rfl rfl rfl).trans ?_
      refine (s_bipush 18 10 mc_221 dX11_best_16 rfl (by decide)).trans ?_
      refine (s_bipush 20 9 mc_221 dX11_best_18 rfl (by decide)).trans ?_
      refine (s_aload_n 21 mc_221 dX11_best_20 rfl rfl rfl).trans ?_
      refine (s_getfI 24 mc_221 dX11_best_21 rfl mo_221 fs_11_530 ff_11_530 (Or.inl rfl)).trans ?_
      refine gI_c fun g2 => ?_
      refine (s_iadd 25 mc_221 dX11_best_24 rfl).trans ?_
      refine (s_istI 28 mc_221 dX11_best_25 rfl mo_221 mm_11_1 (by decide) ms_142 mr_142 ma_142 (Nat.le_of_ble_eq_true rfl) rfl rfl (Nat.le_of_ble_eq_true rfl)).trans ?_
      refine bI_c fun r3 h2 => ?_
      refine (s_if_eq 41 31 mc_221 dX11_best_28 rfl rfl).trans ?_
      refine ite_c ?_ ?_
      · skip
        refine (s_iload_n 42 mc_221 dX11_best_41 rfl rfl rfl).trans ?_
        refine (s_iconst 43 1 mc_221 dX11_best_42 rfl (by decide)).trans ?_
        refine (s_icmp_le 50 46 mc_221 dX11_best_43 rfl rfl).trans ?_
        refine ite_c ?_ ?_
        · skip
          refine (s_aload_n 51 mc_221 dX11_best_50 rfl rfl rfl).trans ?_
          refine (s_iload_n 52 mc_221 dX11_best_51 rfl rfl rfl).trans ?_
          refine (s_iviV 55 mc_221 dX11_best_52 rfl mo_221 mm_11_463 (by decide) ms_189 mi_189 mr_189 ma_189 mo_189 (by decide) (Nat.le_of_ble_eq_true rfl) rfl rfl (Nat.le_of_ble_eq_true rfl)).trans ?_
          refine gd_c ?_
          refine bV_c fun h3 => ?_
          refine (s_aload_n 56 mc_221 dX11_best_55 rfl rfl rfl).trans ?_
          refine (s_iviJ 59 mc_221 dX11_best_56 rfl mo_221 mm_11_524 (by decide) ms_215 mi_215 mr_215 ma_215 mo_215 (by decide) (Nat.le_of_ble_eq_true rfl) rfl rfl (Nat.le_of_ble_eq_true rfl)).trans ?_
          refine gd_c ?_
          refine bJ_c fun r4 h4 => ?_
          refine (s_lstore_n 60 mc_221 dX11_best_59 rfl rfl (Nat.le_of_ble_eq_true rfl) rfl).trans ?_
          refine (s_iconst 61 (-1) mc_221 dX11_best_60 rfl (by decide)).trans ?_
          refine (s_istore 63 mc_221 dX11_best_61 rfl (Nat.le_of_ble_eq_true rfl) rfl).trans ?_
          refine (s_iconst 64 0 mc_221 dX11_best_63 rfl (by decide)).trans ?_
          refine (s_istore 66 mc_221 dX11_best_64 rfl (Nat.le_of_ble_eq_true rfl) rfl).trans ?_
          rfl
        · skip
          refine (s_ldc2_w 49 (-1) mc_221 dX11_best_46 rfl mo_221 cl_11_474 (by decide)).trans ?_
          exact s_lret mc_221 dX11_best_49 mt_221
      · skip
        refine (s_aload_n 32 mc_221 dX11_best_31 rfl rfl rfl).trans ?_
        refine (s_iload_n 33 mc_221 dX11_best_32 rfl rfl rfl).trans ?_
        refine (s_iload_n 34 mc_221 dX11_best_33 rfl rfl rfl).trans ?_
        refine (s_bipush 36 10 mc_221 dX11_best_34 rfl (by decide)).trans ?_
        refine (s_isub 37 mc_221 dX11_best_36 rfl).trans ?_
        refine (s_iviJ 40 mc_221 dX11_best_37 rfl mo_221 mm_11_533 (by decide) ms_220 mi_220 mr_220 ma_220 mo_220 (by decide) (Nat.le_of_ble_eq_true rfl) rfl rfl (Nat.le_of_ble_eq_true rfl)).trans ?_
        refine gd_c ?_
        refine bJ_c fun r5 h5 => ?_
        exact s_lret mc_221 dX11_best_40 mt_221
    · skip
      refine (s_ldc2_w 14 (-1) mc_221 dX11_best_11 rfl mo_221 cl_11_474 (by decide)).trans ?_
      exact s_lret mc_221 dX11_best_14 mt_221
theorem b_221_66 {X : Ctx} {d : Nat} (x0 : Nat) (x1 : Int32) (x2 : Int32) (x3 : Int64) (x5 : Int32) (x6 : Int32) (v7 : Option Value) (v8 : Option Value)  (h : Hp) : sem (X, K X d) 221 66 [some (.ref x0), some (.int x1), some (.int x2), some (.long x3), none, some (.int x5), some (.int x6), v7, v8] [] h = gI h 11 x0 73 fun g1 => if g1 ≤ x6 then if ¬ x2 = 0 then some (some (.long x3), h) else some (some (.long (x5 : Int32).toInt64), h) else gd (hS h x0 = (12, 0)) (bJ (K X d 220 [.ref x0, .int x1, .int x6] h) fun r2 h1 => if (lg_cmp r2 x3) < 0 then sem (X, K X d) 221 66 [some (.ref x0), some (.int x1), some (.int x2), some (.long r2), none, some (.int x6), some (.int (x6 + 1)), some (.long r2), none] [] h1 else sem (X, K X d) 221 66 [some (.ref x0), some (.int x1), some (.int x2), some (.long x3), none, some (.int x5), some (.int (x6 + 1)), some (.long r2), none] [] h1) := by
  refine (s_iload 68 mc_221 dX11_best_66 rfl rfl).trans ?_
  refine (s_aload_n 69 mc_221 dX11_best_68 rfl rfl rfl).trans ?_
  refine (s_getfI 72 mc_221 dX11_best_69 rfl mo_221 fs_11_530 ff_11_530 (Or.inl rfl)).trans ?_
  refine gI_c fun g1 => ?_
  refine (s_icmp_ge 107 75 mc_221 dX11_best_72 rfl rfl).trans ?_
  refine ite_c ?_ ?_
  · skip
    refine (s_iload_n 108 mc_221 dX11_best_107 rfl rfl rfl).trans ?_
    refine (s_if_ne 117 111 mc_221 dX11_best_108 rfl rfl).trans ?_
    refine ite_c ?_ ?_
    · skip
      refine (s_lload_n 118 mc_221 dX11_best_117 rfl rfl rfl rfl).trans ?_
      exact s_lret mc_221 dX11_best_118 mt_221
    · skip
      refine (s_iload 113 mc_221 dX11_best_111 rfl rfl).trans ?_
      refine (s_i2l 114 mc_221 dX11_best_113 rfl).trans ?_
      refine (s_goto 118 mc_221 dX11_best_114 rfl).trans ?_
      exact s_lret mc_221 dX11_best_118 mt_221
  · skip
    refine (s_aload_n 76 mc_221 dX11_best_75 rfl rfl rfl).trans ?_
    refine (s_iload_n 77 mc_221 dX11_best_76 rfl rfl rfl).trans ?_
    refine (s_iload 79 mc_221 dX11_best_77 rfl rfl).trans ?_
    refine (s_iviJ 82 mc_221 dX11_best_79 rfl mo_221 mm_11_533 (by decide) ms_220 mi_220 mr_220 ma_220 mo_220 (by decide) (Nat.le_of_ble_eq_true rfl) rfl rfl (Nat.le_of_ble_eq_true rfl)).trans ?_
    refine gd_c ?_
    refine bJ_c fun r2 h1 => ?_
    refine (s_lstore 84 mc_221 dX11_best_82 rfl (Nat.le_of_ble_eq_true rfl) rfl).trans ?_
    refine (s_lload 86 mc_221 dX11_best_84 rfl rfl rfl).trans ?_
    refine (s_lload_n 87 mc_221 dX11_best_86 rfl rfl rfl rfl).trans ?_
    refine (s_lcmp 88 mc_221 dX11_best_87 rfl).trans ?_
    refine (s_if_lt 94 91 mc_221 dX11_best_88 rfl rfl).trans ?_
    refine ite_c ?_ ?_
    · skip
      refine (s_lload 96 mc_221 dX11_best_94 rfl rfl rfl).trans ?_
      refine (s_lstore_n 97 mc_221 dX11_best_96 rfl rfl (Nat.le_of_ble_eq_true rfl) rfl).trans ?_
      refine (s_iload 99 mc_221 dX11_best_97 rfl rfl).trans ?_
      refine (s_istore 101 mc_221 dX11_best_99 rfl (Nat.le_of_ble_eq_true rfl) rfl).trans ?_
      refine (s_iinc 1 104 mc_221 dX11_best_101 rfl rfl (Nat.le_of_ble_eq_true rfl) (by decide) rfl).trans ?_
      refine (s_goto 66 mc_221 dX11_best_104 rfl).trans ?_
      rfl
    · skip
      refine (s_goto 101 mc_221 dX11_best_91 rfl).trans ?_
      refine (s_iinc 1 104 mc_221 dX11_best_101 rfl rfl (Nat.le_of_ble_eq_true rfl) (by decide) rfl).trans ?_
      refine (s_goto 66 mc_221 dX11_best_104 rfl).trans ?_
      rfl
/-- FiveLandsModel.turning(III)I -/
theorem k_222 {X : Ctx} {d : Nat} (x0 : Nat) (x1 : Int32) (x2 : Int32) (x3 : Int32) (h : Hp) : K X (d + 1) 222 [.ref x0, .int x1, .int x2, .int x3] h = gR h 11 x0 3 fun g1 => aI X h g1 0 fun g2 => bI (K X d 142 [.int x1, .int 0, .int (g2 - 1)] h) fun r3 h1 => if r3 = 0 then some (some (.int (-1)), h1) else bI (K X d 144 [.int x2] h1) fun r4 h2 => if r4 = 0 then some (some (.int (-1)), h2) else bI (K X d 142 [.int x3, .int 0, .int 999999] h2) fun r5 h3 => if r5 = 0 then some (some (.int (-1)), h3) else gI h3 11 x0 76 fun g6 => if ¬ g6 = 6 then gR h3 11 x0 78 fun g7 => gI h3 11 x0 76 fun g8 => wI h3 g7 g8 x1 fun h4 => gR h4 11 x0 79 fun g9 => gI h4 11 x0 76 fun g10 => wI h4 g9 g10 x2 fun h5 => gR h5 11 x0 80 fun g11 => gI h5 11 x0 76 fun g12 => wI h5 g11 g12 x3 fun h6 => gI h6 11 x0 76 fun g13 => fI h6 11 x0 76 (g13 + 1) fun h7 => gI h7 11 x0 76 fun g14 => some (some (.int (g14 - 1)), h7) else some (some (.int (-1)), h3) := by
  show sem (X, K X d) 222 0 [some (.ref x0), some (.int x1), some (.int x2), some (.int x3)] [] h = _
  refine (s_iload_n 1 mc_222 dX11_turning_0 rfl rfl rfl).trans ?_
  refine (s_iconst 2 0 mc_222 dX11_turning_1 rfl (by decide)).trans ?_
  refine (s_aload_n 3 mc_222 dX11_turning_2 rfl rfl rfl).trans ?_
  refine (s_getfR 6 mc_222 dX11_turning_3 rfl mo_222 fs_11_23 ff_11_23 rfl).trans ?_
  refine gR_c fun g1 => ?_
  refine (s_iconst 7 0 mc_222 dX11_turning_6 rfl (by decide)).trans ?_
  refine (s_iaload 8 mc_222 dX11_turning_7 rfl).trans ?_
  refine aI_c fun g2 => ?_
  refine (s_iconst 9 1 mc_222 dX11_turning_8 rfl (by decide)).trans ?_
  refine (s_isub 10 mc_222 dX11_turning_9 rfl).trans ?_
  refine (s_istI 13 mc_222 dX11_turning_10 rfl mo_222 mm_11_1 (by decide) ms_142 mr_142 ma_142 (Nat.le_of_ble_eq_true rfl) rfl rfl (Nat.le_of_ble_eq_true rfl)).trans ?_
  refine bI_c fun r3 h1 => ?_
  refine (s_if_eq 42 16 mc_222 dX11_turning_13 rfl rfl).trans ?_
  refine ite_c ?_ ?_
  · skip
    refine (s_iconst 43 (-1) mc_222 dX11_turning_42 rfl (by decide)).trans ?_
    exact s_iret mc_222 dX11_turning_43 mt_222
  · skip
    refine (s_iload_n 17 mc_222 dX11_turning_16 rfl rfl rfl).trans ?_
    refine (s_istI 20 mc_222 dX11_turning_17 rfl mo_222 mm_11_211 (by decide) ms_144 mr_144 ma_144 (Nat.le_of_ble_eq_true rfl) rfl rfl (Nat.le_of_ble_eq_true rfl)).trans ?_
    refine bI_c fun r4 h2 => ?_
    refine (s_if_eq 42 23 mc_222 dX11_turning_20 rfl rfl).trans ?_
    refine ite_c ?_ ?_
    · skip
      refine (s_iconst 43 (-1) mc_222 dX11_turning_42 rfl (by decide)).trans ?_
      exact s_iret mc_222 dX11_turning_43 mt_222
    · skip
      refine (s_iload_n 24 mc_222 dX11_turning_23 rfl rfl rfl).trans ?_
      refine (s_iconst 25 0 mc_222 dX11_turning_24 rfl (by decide)).trans ?_
      refine (s_ldc 27 999999 mc_222 dX11_turning_25 rfl mo_222 cs_11_214 (by decide)).trans ?_
      refine (s_istI 30 mc_222 dX11_turning_27 rfl mo_222 mm_11_1 (by decide) ms_142 mr_142 ma_142 (Nat.le_of_ble_eq_true rfl) rfl rfl (Nat.le_of_ble_eq_true rfl)).trans ?_
      refine bI_c fun r5 h3 => ?_
      refine (s_if_eq 42 33 mc_222 dX11_turning_30 rfl rfl).trans ?_
      refine ite_c ?_ ?_
      · skip
        refine (s_iconst 43 (-1) mc_222 dX11_turning_42 rfl (by decide)).trans ?_
        exact s_iret mc_222 dX11_turning_43 mt_222
      · skip
        refine (s_aload_n 34 mc_222 dX11_turning_33 rfl rfl rfl).trans ?_
        refine (s_getfI 37 mc_222 dX11_turning_34 rfl mo_222 fs_11_536 ff_11_536 (Or.inl rfl)).trans ?_
        refine gI_c fun g6 => ?_
        refine (s_bipush 39 6 mc_222 dX11_turning_37 rfl (by decide)).trans ?_
        refine (s_icmp_ne 44 42 mc_222 dX11_turning_39 rfl rfl).trans ?_
        refine ite_c ?_ ?_
        · skip
          refine (s_aload_n 45 mc_222 dX11_turning_44 rfl rfl rfl).trans ?_
          refine (s_getfR 48 mc_222 dX11_turning_45 rfl mo_222 fs_11_177 ff_11_177 rfl).trans ?_
          refine gR_c fun g7 => ?_
          refine (s_aload_n 49 mc_222 dX11_turning_48 rfl rfl rfl).trans ?_
          refine (s_getfI 52 mc_222 dX11_turning_49 rfl mo_222 fs_11_536 ff_11_536 (Or.inl rfl)).trans ?_
          refine gI_c fun g8 => ?_
          refine (s_iload_n 53 mc_222 dX11_turning_52 rfl rfl rfl).trans ?_
          refine (s_iastore 54 mc_222 dX11_turning_53 rfl).trans ?_
          refine wI_c fun h4 => ?_
          refine (s_aload_n 55 mc_222 dX11_turning_54 rfl rfl rfl).trans ?_
          refine (s_getfR 58 mc_222 dX11_turning_55 rfl mo_222 fs_11_180 ff_11_180 rfl).trans ?_
          refine gR_c fun g9 => ?_
          refine (s_aload_n 59 mc_222 dX11_turning_58 rfl rfl rfl).trans ?_
          refine (s_getfI 62 mc_222 dX11_turning_59 rfl mo_222 fs_11_536 ff_11_536 (Or.inl rfl)).trans ?_
          refine gI_c fun g10 => ?_
          refine (s_iload_n 63 mc_222 dX11_turning_62 rfl rfl rfl).trans ?_
          refine (s_iastore 64 mc_222 dX11_turning_63 rfl).trans ?_
          refine wI_c fun h5 => ?_
          refine (s_aload_n 65 mc_222 dX11_turning_64 rfl rfl rfl).trans ?_
          refine (s_getfR 68 mc_222 dX11_turning_65 rfl mo_222 fs_11_183 ff_11_183 rfl).trans ?_
          refine gR_c fun g11 => ?_
          refine (s_aload_n 69 mc_222 dX11_turning_68 rfl rfl rfl).trans ?_
          refine (s_getfI 72 mc_222 dX11_turning_69 rfl mo_222 fs_11_536 ff_11_536 (Or.inl rfl)).trans ?_
          refine gI_c fun g12 => ?_
          refine (s_iload_n 73 mc_222 dX11_turning_72 rfl rfl rfl).trans ?_
          refine (s_iastore 74 mc_222 dX11_turning_73 rfl).trans ?_
          refine wI_c fun h6 => ?_
          refine (s_aload_n 75 mc_222 dX11_turning_74 rfl rfl rfl).trans ?_
          refine (s_dup 76 mc_222 dX11_turning_75 rfl rfl).trans ?_
          refine (s_getfI 79 mc_222 dX11_turning_76 rfl mo_222 fs_11_536 ff_11_536 (Or.inl rfl)).trans ?_
          refine gI_c fun g13 => ?_
          refine (s_iconst 80 1 mc_222 dX11_turning_79 rfl (by decide)).trans ?_
          refine (s_iadd 81 mc_222 dX11_turning_80 rfl).trans ?_
          refine (s_putfI 84 mc_222 dX11_turning_81 rfl mo_222 ff_11_536 rfl (Or.inl rfl)).trans ?_
          refine fI_c fun h7 => ?_
          refine (s_aload_n 85 mc_222 dX11_turning_84 rfl rfl rfl).trans ?_
          refine (s_getfI 88 mc_222 dX11_turning_85 rfl mo_222 fs_11_536 ff_11_536 (Or.inl rfl)).trans ?_
          refine gI_c fun g14 => ?_
          refine (s_iconst 89 1 mc_222 dX11_turning_88 rfl (by decide)).trans ?_
          refine (s_isub 90 mc_222 dX11_turning_89 rfl).trans ?_
          exact s_iret mc_222 dX11_turning_90 mt_222
        · skip
          refine (s_iconst 43 (-1) mc_222 dX11_turning_42 rfl (by decide)).trans ?_
          exact s_iret mc_222 dX11_turning_43 mt_222
/-- FiveLandsModel.canTurn(I)Z -/
theorem k_223 {X : Ctx} {d : Nat} (x0 : Nat) (x1 : Int32) (h : Hp) : K X (d + 1) 223 [.ref x0, .int x1] h = sem (X, K X d) 223 4 [some (.ref x0), some (.int x1), some (.int 0), some (.int 0)] [] h := by
  show sem (X, K X d) 223 0 [some (.ref x0), some (.int x1), none, none] [] h = _
  refine (s_iconst 1 0 mc_223 dX11_canTurn_0 rfl (by decide)).trans ?_
  refine (s_istore_n 2 mc_223 dX11_canTurn_1 rfl rfl (Nat.le_of_ble_eq_true rfl) rfl).trans ?_
  refine (s_iconst 3 0 mc_223 dX11_canTurn_2 rfl (by decide)).trans ?_
  refine (s_istore_n 4 mc_223 dX11_canTurn_3 rfl rfl (Nat.le_of_ble_eq_true rfl) rfl).trans ?_
  rfl
theorem b_223_4 {X : Ctx} {d : Nat} (x0 : Nat) (x1 : Int32) (x2 : Int32) (x3 : Int32)  (h : Hp) : sem (X, K X d) 223 4 [some (.ref x0), some (.int x1), some (.int x2), some (.int x3)] [] h = gI h 11 x0 76 fun g1 => if g1 ≤ x3 then some (some (.int 1), h) else if ¬ ((x1 >>> (x3 &&& 31)) &&& 1) = 0 then gR h 11 x0 78 fun g2 => aI X h g2 x3 fun g3 => if ¬ ((x2 >>> (g3 &&& 31)) &&& 1) = 1 then gR h 11 x0 78 fun g4 => aI X h g4 x3 fun g5 => sem (X, K X d) 223 4 [some (.ref x0), some (.int x1), some (.int (x2 ||| (1 <<< (g5 &&& 31)))), some (.int (x3 + 1))] [] h else some (some (.int 0), h) else sem (X, K X d) 223 4 [some (.ref x0), some (.int x1), some (.int x2), some (.int (x3 + 1))] [] h := by
  refine (s_iload_n 5 mc_223 dX11_canTurn_4 rfl rfl rfl).trans ?_
  refine (s_aload_n 6 mc_223 dX11_canTurn_5 rfl rfl rfl).trans ?_
  refine (s_getfI 9 mc_223 dX11_canTurn_6 rfl mo_223 fs_11_536 ff_11_536 (Or.inl rfl)).trans ?_
  refine gI_c fun g1 => ?_
  refine (s_icmp_ge 56 12 mc_223 dX11_canTurn_9 rfl rfl).trans ?_
  refine ite_c ?_ ?_
  · skip
    refine (s_iconst 57 1 mc_223 dX11_canTurn_56 rfl (by decide)).trans ?_
    exact s_zret1 mc_223 dX11_canTurn_57 mt_223
  · skip
    refine (s_iload_n 13 mc_223 dX11_canTurn_12 rfl rfl rfl).trans ?_
    refine (s_iload_n 14 mc_223 dX11_canTurn_13 rfl rfl rfl).trans ?_
    refine (s_ishr 15 mc_223 dX11_canTurn_14 rfl).trans ?_
    refine (s_iconst 16 1 mc_223 dX11_canTurn_15 rfl (by decide)).trans ?_
    refine (s_iand 17 mc_223 dX11_canTurn_16 rfl).trans ?_
    refine (s_if_ne 23 20 mc_223 dX11_canTurn_17 rfl rfl).trans ?_
    refine ite_c ?_ ?_
    · skip
      refine (s_iload_n 24 mc_223 dX11_canTurn_23 rfl rfl rfl).trans ?_
      refine (s_aload_n 25 mc_223 dX11_canTurn_24 rfl rfl rfl).trans ?_
      refine (s_getfR 28 mc_223 dX11_canTurn_25 rfl mo_223 fs_11_177 ff_11_177 rfl).trans ?_
      refine gR_c fun g2 => ?_
      refine (s_iload_n 29 mc_223 dX11_canTurn_28 rfl rfl rfl).trans ?_
      refine (s_iaload 30 mc_223 dX11_canTurn_29 rfl).trans ?_
      refine aI_c fun g3 => ?_
      refine (s_ishr 31 mc_223 dX11_canTurn_30 rfl).trans ?_
      refine (s_iconst 32 1 mc_223 dX11_canTurn_31 rfl (by decide)).trans ?_
      refine (s_iand 33 mc_223 dX11_canTurn_32 rfl).trans ?_
      refine (s_iconst 34 1 mc_223 dX11_canTurn_33 rfl (by decide)).trans ?_
      refine (s_icmp_ne 39 37 mc_223 dX11_canTurn_34 rfl rfl).trans ?_
      refine ite_c ?_ ?_
      · skip
        refine (s_iload_n 40 mc_223 dX11_canTurn_39 rfl rfl rfl).trans ?_
        refine (s_iconst 41 1 mc_223 dX11_canTurn_40 rfl (by decide)).trans ?_
        refine (s_aload_n 42 mc_223 dX11_canTurn_41 rfl rfl rfl).trans ?_
        refine (s_getfR 45 mc_223 dX11_canTurn_42 rfl mo_223 fs_11_177 ff_11_177 rfl).trans ?_
        refine gR_c fun g4 => ?_
        refine (s_iload_n 46 mc_223 dX11_canTurn_45 rfl rfl rfl).trans ?_
        refine (s_iaload 47 mc_223 dX11_canTurn_46 rfl).trans ?_
        refine aI_c fun g5 => ?_
        refine (s_ishl 48 mc_223 dX11_canTurn_47 rfl).trans ?_
        refine (s_ior 49 mc_223 dX11_canTurn_48 rfl).trans ?_
        refine (s_istore_n 50 mc_223 dX11_canTurn_49 rfl rfl (Nat.le_of_ble_eq_true rfl) rfl).trans ?_
        refine (s_iinc 1 53 mc_223 dX11_canTurn_50 rfl rfl (Nat.le_of_ble_eq_true rfl) (by decide) rfl).trans ?_
        refine (s_goto 4 mc_223 dX11_canTurn_53 rfl).trans ?_
        rfl
      · skip
        refine (s_iconst 38 0 mc_223 dX11_canTurn_37 rfl (by decide)).trans ?_
        exact s_zret0 mc_223 dX11_canTurn_38 mt_223
    · skip
      refine (s_goto 50 mc_223 dX11_canTurn_20 rfl).trans ?_
      refine (s_iinc 1 53 mc_223 dX11_canTurn_50 rfl rfl (Nat.le_of_ble_eq_true rfl) (by decide) rfl).trans ?_
      refine (s_goto 4 mc_223 dX11_canTurn_53 rfl).trans ?_
      rfl
/-- FiveLandsModel.owesTurned(II)J -/
theorem k_224 {X : Ctx} {d : Nat} (x0 : Nat) (x1 : Int32) (x2 : Int32) (h : Hp) : K X (d + 1) 224 [.ref x0, .int x1, .int x2] h = gd (hS h x0 = (12, 0)) (bV (K X d 189 [.ref x0, .int 0] h) fun h1 => gd (hS h1 x0 = (12, 0)) (bV (K X d 187 [.ref x0, .int x2] h1) fun h2 => sem (X, K X d) 224 15 [some (.ref x0), some (.int x1), some (.int x2), some (.long 0), none, some (.int 0), none] [] h2)) := by
  show sem (X, K X d) 224 0 [some (.ref x0), some (.int x1), some (.int x2), none, none, none, none] [] h = _
  refine (s_aload_n 1 mc_224 dX11_owesTurned_0 rfl rfl rfl).trans ?_
  refine (s_iconst 2 0 mc_224 dX11_owesTurned_1 rfl (by decide)).trans ?_
  refine (s_iviV 5 mc_224 dX11_owesTurned_2 rfl mo_224 mm_11_463 (by decide) ms_189 mi_189 mr_189 ma_189 mo_189 (by decide) (Nat.le_of_ble_eq_true rfl) rfl rfl (Nat.le_of_ble_eq_true rfl)).trans ?_
  refine gd_c ?_
  refine bV_c fun h1 => ?_
  refine (s_aload_n 6 mc_224 dX11_owesTurned_5 rfl rfl rfl).trans ?_
  refine (s_iload_n 7 mc_224 dX11_owesTurned_6 rfl rfl rfl).trans ?_
  refine (s_iviV 10 mc_224 dX11_owesTurned_7 rfl mo_224 mm_11_427 (by decide) ms_187 mi_187 mr_187 ma_187 mo_187 (by decide) (Nat.le_of_ble_eq_true rfl) rfl rfl (Nat.le_of_ble_eq_true rfl)).trans ?_
  refine gd_c ?_
  refine bV_c fun h2 => ?_
  refine (s_lconst 11 0 mc_224 dX11_owesTurned_10 rfl (by decide)).trans ?_
  refine (s_lstore_n 12 mc_224 dX11_owesTurned_11 rfl rfl (Nat.le_of_ble_eq_true rfl) rfl).trans ?_
  refine (s_iconst 13 0 mc_224 dX11_owesTurned_12 rfl (by decide)).trans ?_
  refine (s_istore 15 mc_224 dX11_owesTurned_13 rfl (Nat.le_of_ble_eq_true rfl) rfl).trans ?_
  rfl
theorem b_224_15 {X : Ctx} {d : Nat} (x0 : Nat) (x1 : Int32) (v2 : Option Value) (x3 : Int64) (x5 : Int32) (v6 : Option Value)  (h : Hp) : sem (X, K X d) 224 15 [some (.ref x0), some (.int x1), v2, some (.long x3), none, some (.int x5), v6] [] h = gI h 11 x0 76 fun g1 => if g1 ≤ x5 then gd (hS h x0 = (12, 0)) (bJ (K X d 215 [.ref x0] h) fun r2 h1 => some (some (.long (x3 + r2)), h1)) else if ¬ ((x1 >>> (x5 &&& 31)) &&& 1) = 0 then gR h 11 x0 78 fun g3 => aI X h g3 x5 fun g4 => gR h 11 x0 47 fun g5 => wI h g5 g4 5 fun h2 => gR h2 11 x0 50 fun g6 => gR h2 11 x0 79 fun g7 => aI X h2 g7 x5 fun g8 => wI h2 g6 g4 g8 fun h3 => gR h3 11 x0 51 fun g9 => gR h3 11 x0 79 fun g10 => aI X h3 g10 x5 fun g11 => wI h3 g9 g4 g11 fun h4 => gR h4 11 x0 80 fun g12 => aI X h4 g12 x5 fun g13 => sem (X, K X d) 224 15 [some (.ref x0), some (.int x1), v2, some (.long (x3 + (100 * (g13 : Int32).toInt64))), none, some (.int (x5 + 1)), some (.int g4)] [] h4 else sem (X, K X d) 224 15 [some (.ref x0), some (.int x1), v2, some (.long x3), none, some (.int (x5 + 1)), v6] [] h := by
  refine (s_iload 17 mc_224 dX11_owesTurned_15 rfl rfl).trans ?_
  refine (s_aload_n 18 mc_224 dX11_owesTurned_17 rfl rfl rfl).trans ?_
  refine (s_getfI 21 mc_224 dX11_owesTurned_18 rfl mo_224 fs_11_536 ff_11_536 (Or.inl rfl)).trans ?_
  refine gI_c fun g1 => ?_
  refine (s_icmp_ge 102 24 mc_224 dX11_owesTurned_21 rfl rfl).trans ?_
  refine ite_c ?_ ?_
  · skip
    refine (s_lload_n 103 mc_224 dX11_owesTurned_102 rfl rfl rfl rfl).trans ?_
    refine (s_aload_n 104 mc_224 dX11_owesTurned_103 rfl rfl rfl).trans ?_
    refine (s_iviJ 107 mc_224 dX11_owesTurned_104 rfl mo_224 mm_11_524 (by decide) ms_215 mi_215 mr_215 ma_215 mo_215 (by decide) (Nat.le_of_ble_eq_true rfl) rfl rfl (Nat.le_of_ble_eq_true rfl)).trans ?_
    refine gd_c ?_
    refine bJ_c fun r2 h1 => ?_
    refine (s_ladd 108 mc_224 dX11_owesTurned_107 rfl).trans ?_
    exact s_lret mc_224 dX11_owesTurned_108 mt_224
  · skip
    refine (s_iload_n 25 mc_224 dX11_owesTurned_24 rfl rfl rfl).trans ?_
    refine (s_iload 27 mc_224 dX11_owesTurned_25 rfl rfl).trans ?_
    refine (s_ishr 28 mc_224 dX11_owesTurned_27 rfl).trans ?_
    refine (s_iconst 29 1 mc_224 dX11_owesTurned_28 rfl (by decide)).trans ?_
    refine (s_iand 30 mc_224 dX11_owesTurned_29 rfl).trans ?_
    refine (s_if_ne 36 33 mc_224 dX11_owesTurned_30 rfl rfl).trans ?_
    refine ite_c ?_ ?_
    · skip
      refine (s_aload_n 37 mc_224 dX11_owesTurned_36 rfl rfl rfl).trans ?_
      refine (s_getfR 40 mc_224 dX11_owesTurned_37 rfl mo_224 fs_11_177 ff_11_177 rfl).trans ?_
      refine gR_c fun g3 => ?_
      refine (s_iload 42 mc_224 dX11_owesTurned_40 rfl rfl).trans ?_
      refine (s_iaload 43 mc_224 dX11_owesTurned_42 rfl).trans ?_
      refine aI_c fun g4 => ?_
      refine (s_istore 45 mc_224 dX11_owesTurned_43 rfl (Nat.le_of_ble_eq_true rfl) rfl).trans ?_
      refine (s_aload_n 46 mc_224 dX11_owesTurned_45 rfl rfl rfl).trans ?_
      refine (s_getfR 49 mc_224 dX11_owesTurned_46 rfl mo_224 fs_11_125 ff_11_125 rfl).trans ?_
      refine gR_c fun g5 => ?_
      refine (s_iload 51 mc_224 dX11_owesTurned_49 rfl rfl).trans ?_
      refine (s_iconst 52 5 mc_224 dX11_owesTurned_51 rfl (by decide)).trans ?_
      refine (s_iastore 53 mc_224 dX11_owesTurned_52 rfl).trans ?_
      refine wI_c fun h2 => ?_
      refine (s_aload_n 54 mc_224 dX11_owesTurned_53 rfl rfl rfl).trans ?_
      refine (s_getfR 57 mc_224 dX11_owesTurned_54 rfl mo_224 fs_11_134 ff_11_134 rfl).trans ?_
      refine gR_c fun g6 => ?_
      refine (s_iload 59 mc_224 dX11_owesTurned_57 rfl rfl).trans ?_
      refine (s_aload_n 60 mc_224 dX11_owesTurned_59 rfl rfl rfl).trans ?_
      refine (s_getfR 63 mc_224 dX11_owesTurned_60 rfl mo_224 fs_11_180 ff_11_180 rfl).trans ?_
      refine gR_c fun g7 => ?_
      refine (s_iload 65 mc_224 dX11_owesTurned_63 rfl rfl).trans ?_
      refine (s_iaload 66 mc_224 dX11_owesTurned_65 rfl).trans ?_
      refine aI_c fun g8 => ?_
      refine (s_iastore 67 mc_224 dX11_owesTurned_66 rfl).trans ?_
      refine wI_c fun h3 => ?_
      refine (s_aload_n 68 mc_224 dX11_owesTurned_67 rfl rfl rfl).trans ?_
      refine (s_getfR 71 mc_224 dX11_owesTurned_68 rfl mo_224 fs_11_137 ff_11_137 rfl).trans ?_
      refine gR_c fun g9 => ?_
      refine (s_iload 73 mc_224 dX11_owesTurned_71 rfl rfl).trans ?_
      refine (s_aload_n 74 mc_224 dX11_owesTurned_73 rfl rfl rfl).trans ?_
      refine (s_getfR 77 mc_224 dX11_owesTurned_74 rfl mo_224 fs_11_180 ff_11_180 rfl).trans ?_
      refine gR_c fun g10 => ?_
      refine (s_iload 79 mc_224 dX11_owesTurned_77 rfl rfl).trans ?_
      refine (s_iaload 80 mc_224 dX11_owesTurned_79 rfl).trans ?_
      refine aI_c fun g11 => ?_
      refine (s_iastore 81 mc_224 dX11_owesTurned_80 rfl).trans ?_
      refine wI_c fun h4 => ?_
      refine (s_lload_n 82 mc_224 dX11_owesTurned_81 rfl rfl rfl rfl).trans ?_
      refine (s_ldc2_w 85 100 mc_224 dX11_owesTurned_82 rfl mo_224 cl_11_539 (by decide)).trans ?_
      refine (s_aload_n 86 mc_224 dX11_owesTurned_85 rfl rfl rfl).trans ?_
      refine (s_getfR 89 mc_224 dX11_owesTurned_86 rfl mo_224 fs_11_183 ff_11_183 rfl).trans ?_
      refine gR_c fun g12 => ?_
      refine (s_iload 91 mc_224 dX11_owesTurned_89 rfl rfl).trans ?_
      refine (s_iaload 92 mc_224 dX11_owesTurned_91 rfl).trans ?_
      refine aI_c fun g13 => ?_
      refine (s_i2l 93 mc_224 dX11_owesTurned_92 rfl).trans ?_
      refine (s_lmul 94 mc_224 dX11_owesTurned_93 rfl).trans ?_
      refine (s_ladd 95 mc_224 dX11_owesTurned_94 rfl).trans ?_
      refine (s_lstore_n 96 mc_224 dX11_owesTurned_95 rfl rfl (Nat.le_of_ble_eq_true rfl) rfl).trans ?_
      refine (s_iinc 1 99 mc_224 dX11_owesTurned_96 rfl rfl (Nat.le_of_ble_eq_true rfl) (by decide) rfl).trans ?_
      refine (s_goto 15 mc_224 dX11_owesTurned_99 rfl).trans ?_
      rfl
    · skip
      refine (s_goto 96 mc_224 dX11_owesTurned_33 rfl).trans ?_
      refine (s_iinc 1 99 mc_224 dX11_owesTurned_96 rfl rfl (Nat.le_of_ble_eq_true rfl) (by decide) rfl).trans ?_
      refine (s_goto 15 mc_224 dX11_owesTurned_99 rfl).trans ?_
      rfl
/-- FiveLandsModel.sly(I)J -/
theorem k_225 {X : Ctx} {d : Nat} (x0 : Nat) (x1 : Int32) (h : Hp) : K X (d + 1) 225 [.ref x0, .int x1] h = bI (K X d 142 [.int x1, .int 0, .int 1] h) fun r1 h1 => if ¬ r1 = 0 then gd (hS h1 x0 = (12, 0)) (bJ (K X d 224 [.ref x0, .int 0, .int 0] h1) fun r2 h2 => sem (X, K X d) 225 26 [some (.ref x0), some (.int x1), some (.long r2), none, some (.int 0), some (.int 1), none, none] [] h2) else some (some (.long (-1)), h1) := by
  show sem (X, K X d) 225 0 [some (.ref x0), some (.int x1), none, none, none, none, none, none] [] h = _
  refine (s_iload_n 1 mc_225 dX11_sly_0 rfl rfl rfl).trans ?_
  refine (s_iconst 2 0 mc_225 dX11_sly_1 rfl (by decide)).trans ?_
  refine (s_iconst 3 1 mc_225 dX11_sly_2 rfl (by decide)).trans ?_
  refine (s_istI 6 mc_225 dX11_sly_3 rfl mo_225 mm_11_1 (by decide) ms_142 mr_142 ma_142 (Nat.le_of_ble_eq_true rfl) rfl rfl (Nat.le_of_ble_eq_true rfl)).trans ?_
  refine bI_c fun r1 h1 => ?_
  refine (s_if_ne 13 9 mc_225 dX11_sly_6 rfl rfl).trans ?_
  refine ite_c ?_ ?_
  · skip
    refine (s_aload_n 14 mc_225 dX11_sly_13 rfl rfl rfl).trans ?_
    refine (s_iconst 15 0 mc_225 dX11_sly_14 rfl (by decide)).trans ?_
    refine (s_iconst 16 0 mc_225 dX11_sly_15 rfl (by decide)).trans ?_
    refine (s_iviJ 19 mc_225 dX11_sly_16 rfl mo_225 mm_11_541 (by decide) ms_224 mi_224 mr_224 ma_224 mo_224 (by decide) (Nat.le_of_ble_eq_true rfl) rfl rfl (Nat.le_of_ble_eq_true rfl)).trans ?_
    refine gd_c ?_
    refine bJ_c fun r2 h2 => ?_
    refine (s_lstore_n 20 mc_225 dX11_sly_19 rfl rfl (Nat.le_of_ble_eq_true rfl) rfl).trans ?_
    refine (s_iconst 21 0 mc_225 dX11_sly_20 rfl (by decide)).trans ?_
    refine (s_istore 23 mc_225 dX11_sly_21 rfl (Nat.le_of_ble_eq_true rfl) rfl).trans ?_
    refine (s_iconst 24 1 mc_225 dX11_sly_23 rfl (by decide)).trans ?_
    refine (s_istore 26 mc_225 dX11_sly_24 rfl (Nat.le_of_ble_eq_true rfl) rfl).trans ?_
    rfl
  · skip
    refine (s_ldc2_w 12 (-1) mc_225 dX11_sly_9 rfl mo_225 cl_11_474 (by decide)).trans ?_
    exact s_lret mc_225 dX11_sly_12 mt_225
theorem b_225_26 {X : Ctx} {d : Nat} (x0 : Nat) (x1 : Int32) (x2 : Int64) (x4 : Int32) (x5 : Int32) (v6 : Option Value) (v7 : Option Value)  (h : Hp) : sem (X, K X d) 225 26 [some (.ref x0), some (.int x1), some (.long x2), none, some (.int x4), some (.int x5), v6, v7] [] h = gI h 11 x0 76 fun g1 => if (1 <<< (g1 &&& 31)) ≤ x5 then if ¬ x1 = 0 then some (some (.long x2), h) else some (some (.long (x4 : Int32).toInt64), h) else gd (hS h x0 = (12, 0)) (bI (K X d 223 [.ref x0, .int x5] h) fun r2 h1 => if ¬ r2 = 0 then gd (hS h1 x0 = (12, 0)) (bJ (K X d 224 [.ref x0, .int x5, .int 0] h1) fun r3 h2 => if (lg_cmp r3 x2) < 0 then sem (X, K X d) 225 26 [some (.ref x0), some (.int x1), some (.long r3), none, some (.int x5), some (.int (x5 + 1)), some (.long r3), none] [] h2 else sem (X, K X d) 225 26 [some (.ref x0), some (.int x1), some (.long x2), none, some (.int x4), some (.int (x5 + 1)), some (.long r3), none] [] h2) else sem (X, K X d) 225 26 [some (.ref x0), some (.int x1), some (.long x2), none, some (.int x4), some (.int (x5 + 1)), v6, v7] [] h1) := by
  refine (s_iload 28 mc_225 dX11_sly_26 rfl rfl).trans ?_
  refine (s_iconst 29 1 mc_225 dX11_sly_28 rfl (by decide)).trans ?_
  refine (s_aload_n 30 mc_225 dX11_sly_29 rfl rfl rfl).trans ?_
  refine (s_getfI 33 mc_225 dX11_sly_30 rfl mo_225 fs_11_536 ff_11_536 (Or.inl rfl)).trans ?_
  refine gI_c fun g1 => ?_
  refine (s_ishl 34 mc_225 dX11_sly_33 rfl).trans ?_
  refine (s_icmp_ge 81 37 mc_225 dX11_sly_34 rfl rfl).trans ?_
  refine ite_c ?_ ?_
  · skip
    refine (s_iload_n 82 mc_225 dX11_sly_81 rfl rfl rfl).trans ?_
    refine (s_if_ne 91 85 mc_225 dX11_sly_82 rfl rfl).trans ?_
    refine ite_c ?_ ?_
    · skip
      refine (s_lload_n 92 mc_225 dX11_sly_91 rfl rfl rfl rfl).trans ?_
      exact s_lret mc_225 dX11_sly_92 mt_225
    · skip
      refine (s_iload 87 mc_225 dX11_sly_85 rfl rfl).trans ?_
      refine (s_i2l 88 mc_225 dX11_sly_87 rfl).trans ?_
      refine (s_goto 92 mc_225 dX11_sly_88 rfl).trans ?_
      exact s_lret mc_225 dX11_sly_92 mt_225
  · skip
    refine (s_aload_n 38 mc_225 dX11_sly_37 rfl rfl rfl).trans ?_
    refine (s_iload 40 mc_225 dX11_sly_38 rfl rfl).trans ?_
    refine (s_iviI 43 mc_225 dX11_sly_40 rfl mo_225 mm_11_544 (by decide) ms_223 mi_223 mr_223 ma_223 mo_223 (by decide) (Nat.le_of_ble_eq_true rfl) rfl rfl (Nat.le_of_ble_eq_true rfl)).trans ?_
    refine gd_c ?_
    refine bI_c fun r2 h1 => ?_
    refine (s_if_ne 49 46 mc_225 dX11_sly_43 rfl rfl).trans ?_
    refine ite_c ?_ ?_
    · skip
      refine (s_aload_n 50 mc_225 dX11_sly_49 rfl rfl rfl).trans ?_
      refine (s_iload 52 mc_225 dX11_sly_50 rfl rfl).trans ?_
      refine (s_iconst 53 0 mc_225 dX11_sly_52 rfl (by decide)).trans ?_
      refine (s_iviJ 56 mc_225 dX11_sly_53 rfl mo_225 mm_11_541 (by decide) ms_224 mi_224 mr_224 ma_224 mo_224 (by decide) (Nat.le_of_ble_eq_true rfl) rfl rfl (Nat.le_of_ble_eq_true rfl)).trans ?_
      refine gd_c ?_
      refine bJ_c fun r3 h2 => ?_
      refine (s_lstore 58 mc_225 dX11_sly_56 rfl (Nat.le_of_ble_eq_true rfl) rfl).trans ?_
      refine (s_lload 60 mc_225 dX11_sly_58 rfl rfl rfl).trans ?_
      refine (s_lload_n 61 mc_225 dX11_sly_60 rfl rfl rfl rfl).trans ?_
      refine (s_lcmp 62 mc_225 dX11_sly_61 rfl).trans ?_
      refine (s_if_lt 68 65 mc_225 dX11_sly_62 rfl rfl).trans ?_
      refine ite_c ?_ ?_
      · skip
        refine (s_lload 70 mc_225 dX11_sly_68 rfl rfl rfl).trans ?_
        refine (s_lstore_n 71 mc_225 dX11_sly_70 rfl rfl (Nat.le_of_ble_eq_true rfl) rfl).trans ?_
        refine (s_iload 73 mc_225 dX11_sly_71 rfl rfl).trans ?_
        refine (s_istore 75 mc_225 dX11_sly_73 rfl (Nat.le_of_ble_eq_true rfl) rfl).trans ?_
        refine (s_iinc 1 78 mc_225 dX11_sly_75 rfl rfl (Nat.le_of_ble_eq_true rfl) (by decide) rfl).trans ?_
        refine (s_goto 26 mc_225 dX11_sly_78 rfl).trans ?_
        rfl
      · skip
        refine (s_goto 75 mc_225 dX11_sly_65 rfl).trans ?_
        refine (s_iinc 1 78 mc_225 dX11_sly_75 rfl rfl (Nat.le_of_ble_eq_true rfl) (by decide) rfl).trans ?_
        refine (s_goto 26 mc_225 dX11_sly_78 rfl).trans ?_
        rfl
    · skip
      refine (s_goto 75 mc_225 dX11_sly_46 rfl).trans ?_
      refine (s_iinc 1 78 mc_225 dX11_sly_75 rfl rfl (Nat.le_of_ble_eq_true rfl) (by decide) rfl).trans ?_
      refine (s_goto 26 mc_225 dX11_sly_78 rfl).trans ?_
      rfl
/-- FiveLandsModel.word(IIII)I -/
theorem k_226 {X : Ctx} {d : Nat} (x0 : Nat) (x1 : Int32) (x2 : Int32) (x3 : Int32) (x4 : Int32) (h : Hp) : K X (d + 1) 226 [.ref x0, .int x1, .int x2, .int x3, .int x4] h = bI (K X d 144 [.int x1] h) fun r1 h1 => if r1 = 0 then some (some (.int (-1)), h1) else bI (K X d 144 [.int x2] h1) fun r2 h2 => if r2 = 0 then some (some (.int (-1)), h2) else if x1 = x2 then some (some (.int (-1)), h2) else bI (K X d 142 [.int x3, .int 0, .int 4] h2) fun r3 h3 => if r3 = 0 then some (some (.int (-1)), h3) else if x3 = 1 then bI (K X d 142 [.int x4, .int 0, .int 5] h3) fun r4 h4 => if r4 = 0 then some (some (.int (-1)), h4) else sem (X, K X d) 226 48 [some (.ref x0), some (.int x1), some (.int x2), some (.int x3), some (.int x4)] [] h4 else if ¬ x3 = 2 then sem (X, K X d) 226 48 [some (.ref x0), some (.int x1), some (.int x2), some (.int x3), some (.int x4)] [] h3 else bI (K X d 142 [.int x4, .int 0, .int 5] h3) fun r5 h5 => if r5 = 0 then some (some (.int (-1)), h5) else sem (X, K X d) 226 48 [some (.ref x0), some (.int x1), some (.int x2), some (.int x3), some (.int x4)] [] h5 := by
  show sem (X, K X d) 226 0 [some (.ref x0), some (.int x1), some (.int x2), some (.int x3), some (.int x4)] [] h = _
  refine (s_iload_n 1 mc_226 dX11_word__0 rfl rfl rfl).trans ?_
  refine (s_istI 4 mc_226 dX11_word__1 rfl mo_226 mm_11_211 (by decide) ms_144 mr_144 ma_144 (Nat.le_of_ble_eq_true rfl) rfl rfl (Nat.le_of_ble_eq_true rfl)).trans ?_
  refine bI_c fun r1 h1 => ?_
  refine (s_if_eq 57 7 mc_226 dX11_word__4 rfl rfl).trans ?_
  refine ite_c ?_ ?_
  · skip
    refine (s_iconst 58 (-1) mc_226 dX11_word__57 rfl (by decide)).trans ?_
    exact s_iret mc_226 dX11_word__58 mt_226
  · skip
    refine (s_iload_n 8 mc_226 dX11_word__7 rfl rfl rfl).trans ?_
    refine (s_istI 11 mc_226 dX11_word__8 rfl mo_226 mm_11_211 (by decide) ms_144 mr_144 ma_144 (Nat.le_of_ble_eq_true rfl) rfl rfl (Nat.le_of_ble_eq_true rfl)).trans ?_
    refine bI_c fun r2 h2 => ?_
    refine (s_if_eq 57 14 mc_226 dX11_word__11 rfl rfl).trans ?_
    refine ite_c ?_ ?_
    · skip
      refine (s_iconst 58 (-1) mc_226 dX11_word__57 rfl (by decide)).trans ?_
      exact s_iret mc_226 dX11_word__58 mt_226
    · skip
      refine (s_iload_n 15 mc_226 dX11_word__14 rfl rfl rfl).trans ?_
      refine (s_iload_n 16 mc_226 dX11_word__15 rfl rfl rfl).trans ?_
      refine (s_icmp_eq 57 19 mc_226 dX11_word__16 rfl rfl).trans ?_
      refine ite_c ?_ ?_
      · skip
        refine (s_iconst 58 (-1) mc_226 dX11_word__57 rfl (by decide)).trans ?_
        exact s_iret mc_226 dX11_word__58 mt_226
      · skip
        refine (s_iload_n 20 mc_226 dX11_word__19 rfl rfl rfl).trans ?_
        refine (s_iconst 21 0 mc_226 dX11_word__20 rfl (by decide)).trans ?_
        refine (s_iconst 22 4 mc_226 dX11_word__21 rfl (by decide)).trans ?_
        refine (s_istI 25 mc_226 dX11_word__22 rfl mo_226 mm_11_1 (by decide) ms_142 mr_142 ma_142 (Nat.le_of_ble_eq_true rfl) rfl rfl (Nat.le_of_ble_eq_true rfl)).trans ?_
        refine bI_c fun r3 h3 => ?_
        refine (s_if_eq 57 28 mc_226 dX11_word__25 rfl rfl).trans ?_
        refine ite_c ?_ ?_
        · skip
          refine (s_iconst 58 (-1) mc_226 dX11_word__57 rfl (by decide)).trans ?_
          exact s_iret mc_226 dX11_word__58 mt_226
        · skip
          refine (s_iload_n 29 mc_226 dX11_word__28 rfl rfl rfl).trans ?_
          refine (s_iconst 30 1 mc_226 dX11_word__29 rfl (by decide)).trans ?_
          refine (s_icmp_eq 38 33 mc_226 dX11_word__30 rfl rfl).trans ?_
          refine ite_c ?_ ?_
          · skip
            refine (s_iload 40 mc_226 dX11_word__38 rfl rfl).trans ?_
            refine (s_iconst 41 0 mc_226 dX11_word__40 rfl (by decide)).trans ?_
            refine (s_iconst 42 5 mc_226 dX11_word__41 rfl (by decide)).trans ?_
            refine (s_istI 45 mc_226 dX11_word__42 rfl mo_226 mm_11_1 (by decide) ms_142 mr_142 ma_142 (Nat.le_of_ble_eq_true rfl) rfl rfl (Nat.le_of_ble_eq_true rfl)).trans ?_
            refine bI_c fun r4 h4 => ?_
            refine (s_if_eq 57 48 mc_226 dX11_word__45 rfl rfl).trans ?_
            refine ite_c ?_ ?_
            · skip
              refine (s_iconst 58 (-1) mc_226 dX11_word__57 rfl (by decide)).trans ?_
              exact s_iret mc_226 dX11_word__58 mt_226
            · skip
              rfl
          · skip
            refine (s_iload_n 34 mc_226 dX11_word__33 rfl rfl rfl).trans ?_
            refine (s_iconst 35 2 mc_226 dX11_word__34 rfl (by decide)).trans ?_
            refine (s_icmp_ne 48 38 mc_226 dX11_word__35 rfl rfl).trans ?_
            refine ite_c ?_ ?_
            · skip
              rfl
            · skip
              refine (s_iload 40 mc_226 dX11_word__38 rfl rfl).trans ?_
              refine (s_iconst 41 0 mc_226 dX11_word__40 rfl (by decide)).trans ?_
              refine (s_iconst 42 5 mc_226 dX11_word__41 rfl (by decide)).trans ?_
              refine (s_istI 45 mc_226 dX11_word__42 rfl mo_226 mm_11_1 (by decide) ms_142 mr_142 ma_142 (Nat.le_of_ble_eq_true rfl) rfl rfl (Nat.le_of_ble_eq_true rfl)).trans ?_
              refine bI_c fun r5 h5 => ?_
              refine (s_if_eq 57 48 mc_226 dX11_word__45 rfl rfl).trans ?_
              refine ite_c ?_ ?_
              · skip
                refine (s_iconst 58 (-1) mc_226 dX11_word__57 rfl (by decide)).trans ?_
                exact s_iret mc_226 dX11_word__58 mt_226
              · skip
                rfl
theorem b_226_48 {X : Ctx} {d : Nat} (x0 : Nat) (x1 : Int32) (x2 : Int32) (x3 : Int32) (x4 : Int32)  (h : Hp) : sem (X, K X d) 226 48 [some (.ref x0), some (.int x1), some (.int x2), some (.int x3), some (.int x4)] [] h = gI h 11 x0 77 fun g1 => if ¬ g1 = 6 then gR h 11 x0 81 fun g2 => gI h 11 x0 77 fun g3 => bI (K X d 186 [.int x1, .int x2] h) fun r4 h1 => wI h1 g2 g3 r4 fun h2 => gR h2 11 x0 82 fun g5 => gI h2 11 x0 77 fun g6 => wI h2 g5 g6 x3 fun h3 => gR h3 11 x0 83 fun g7 => gI h3 11 x0 77 fun g8 => wI h3 g7 g8 x4 fun h4 => gI h4 11 x0 77 fun g9 => fI h4 11 x0 77 (g9 + 1) fun h5 => gI h5 11 x0 77 fun g10 => some (some (.int (g10 - 1)), h5) else some (some (.int (-1)), h) := by
  refine (s_aload_n 49 mc_226 dX11_word__48 rfl rfl rfl).trans ?_
  refine (s_getfI 52 mc_226 dX11_word__49 rfl mo_226 fs_11_405 ff_11_405 (Or.inl rfl)).trans ?_
  refine gI_c fun g1 => ?_
  refine (s_bipush 54 6 mc_226 dX11_word__52 rfl (by decide)).trans ?_
  refine (s_icmp_ne 59 57 mc_226 dX11_word__54 rfl rfl).trans ?_
  refine ite_c ?_ ?_
  · skip
    refine (s_aload_n 60 mc_226 dX11_word__59 rfl rfl rfl).trans ?_
    refine (s_getfR 63 mc_226 dX11_word__60 rfl mo_226 fs_11_186 ff_11_186 rfl).trans ?_
    refine gR_c fun g2 => ?_
    refine (s_aload_n 64 mc_226 dX11_word__63 rfl rfl rfl).trans ?_
    refine (s_getfI 67 mc_226 dX11_word__64 rfl mo_226 fs_11_405 ff_11_405 (Or.inl rfl)).trans ?_
    refine gI_c fun g3 => ?_
    refine (s_iload_n 68 mc_226 dX11_word__67 rfl rfl rfl).trans ?_
    refine (s_iload_n 69 mc_226 dX11_word__68 rfl rfl rfl).trans ?_
    refine (s_istI 72 mc_226 dX11_word__69 rfl mo_226 mm_11_438 (by decide) ms_186 mr_186 ma_186 (Nat.le_of_ble_eq_true rfl) rfl rfl (Nat.le_of_ble_eq_true rfl)).trans ?_
    refine bI_c fun r4 h1 => ?_
    refine (s_iastore 73 mc_226 dX11_word__72 rfl).trans ?_
    refine wI_c fun h2 => ?_
    refine (s_aload_n 74 mc_226 dX11_word__73 rfl rfl rfl).trans ?_
    refine (s_getfR 77 mc_226 dX11_word__74 rfl mo_226 fs_11_189 ff_11_189 rfl).trans ?_
    refine gR_c fun g5 => ?_
    refine (s_aload_n 78 mc_226 dX11_word__77 rfl rfl rfl).trans ?_
    refine (s_getfI 81 mc_226 dX11_word__78 rfl mo_226 fs_11_405 ff_11_405 (Or.inl rfl)).trans ?_
    refine gI_c fun g6 => ?_
    refine (s_iload_n 82 mc_226 dX11_word__81 rfl rfl rfl).trans ?_
    refine (s_iastore 83 mc_226 dX11_word__82 rfl).trans ?_
    refine wI_c fun h3 => ?_
    refine (s_aload_n 84 mc_226 dX11_word__83 rfl rfl rfl).trans ?_
    refine (s_getfR 87 mc_226 dX11_word__84 rfl mo_226 fs_11_192 ff_11_192 rfl).trans ?_
    refine gR_c fun g7 => ?_
    refine (s_aload_n 88 mc_226 dX11_word__87 rfl rfl rfl).trans ?_
    refine (s_getfI 91 mc_226 dX11_word__88 rfl mo_226 fs_11_405 ff_11_405 (Or.inl rfl)).trans ?_
    refine gI_c fun g8 => ?_
    refine (s_iload 93 mc_226 dX11_word__91 rfl rfl).trans ?_
    refine (s_iastore 94 mc_226 dX11_word__93 rfl).trans ?_
    refine wI_c fun h4 => ?_
    refine (s_aload_n 95 mc_226 dX11_word__94 rfl rfl rfl).trans ?_
    refine (s_dup 96 mc_226 dX11_word__95 rfl rfl).trans ?_
    refine (s_getfI 99 mc_226 dX11_word__96 rfl mo_226 fs_11_405 ff_11_405 (Or.inl rfl)).trans ?_
    refine gI_c fun g9 => ?_
    refine (s_iconst 100 1 mc_226 dX11_word__99 rfl (by decide)).trans ?_
    refine (s_iadd 101 mc_226 dX11_word__100 rfl).trans ?_
    refine (s_putfI 104 mc_226 dX11_word__101 rfl mo_226 ff_11_405 rfl (Or.inl rfl)).trans ?_
    refine fI_c fun h5 => ?_
    refine (s_aload_n 105 mc_226 dX11_word__104 rfl rfl rfl).trans ?_
    refine (s_getfI 108 mc_226 dX11_word__105 rfl mo_226 fs_11_405 ff_11_405 (Or.inl rfl)).trans ?_
    refine gI_c fun g10 => ?_
    refine (s_iconst 109 1 mc_226 dX11_word__108 rfl (by decide)).trans ?_
    refine (s_isub 110 mc_226 dX11_word__109 rfl).trans ?_
    exact s_iret mc_226 dX11_word__110 mt_226
  · skip
    refine (s_iconst 58 (-1) mc_226 dX11_word__57 rfl (by decide)).trans ?_
    exact s_iret mc_226 dX11_word__58 mt_226
/-- FiveLandsModel.closes(I)Z -/
theorem k_227 {X : Ctx} {d : Nat} (x0 : Nat) (x1 : Int32) (h : Hp) : K X (d + 1) 227 [.ref x0, .int x1] h = gd (hS h x0 = (12, 0)) (bV (K X d 189 [.ref x0, .int 1] h) fun h1 => gd (hS h1 x0 = (12, 0)) (bJ (K X d 215 [.ref x0] h1) fun r1 h2 => gd (hS h2 x0 = (12, 0)) (bV (K X d 187 [.ref x0, .int x1] h2) fun h3 => gd (hS h3 x0 = (12, 0)) (bJ (K X d 215 [.ref x0] h3) fun r2 h4 => if (lg_cmp r2 r1) ≤ 0 then gd (hS h4 x0 = (12, 0)) (bJ (K X d 224 [.ref x0, .int 0, .int x1] h4) fun r3 h5 => sem (X, K X d) 227 37 [some (.ref x0), some (.int x1), some (.long r1), none, some (.long r3), none, some (.int 1)] [] h5) else some (some (.int 0), h4))))) := by
  show sem (X, K X d) 227 0 [some (.ref x0), some (.int x1), none, none, none, none, none] [] h = _
  refine (s_aload_n 1 mc_227 dX11_closes_0 rfl rfl rfl).trans ?_
  refine (s_iconst 2 1 mc_227 dX11_closes_1 rfl (by decide)).trans ?_
  refine (s_iviV 5 mc_227 dX11_closes_2 rfl mo_227 mm_11_463 (by decide) ms_189 mi_189 mr_189 ma_189 mo_189 (by decide) (Nat.le_of_ble_eq_true rfl) rfl rfl (Nat.le_of_ble_eq_true rfl)).trans ?_
  refine gd_c ?_
  refine bV_c fun h1 => ?_
  refine (s_aload_n 6 mc_227 dX11_closes_5 rfl rfl rfl).trans ?_
  refine (s_iviJ 9 mc_227 dX11_closes_6 rfl mo_227 mm_11_524 (by decide) ms_215 mi_215 mr_215 ma_215 mo_215 (by decide) (Nat.le_of_ble_eq_true rfl) rfl rfl (Nat.le_of_ble_eq_true rfl)).trans ?_
  refine gd_c ?_
  refine bJ_c fun r1 h2 => ?_
  refine (s_lstore_n 10 mc_227 dX11_closes_9 rfl rfl (Nat.le_of_ble_eq_true rfl) rfl).trans ?_
  refine (s_aload_n 11 mc_227 dX11_closes_10 rfl rfl rfl).trans ?_
  refine (s_iload_n 12 mc_227 dX11_closes_11 rfl rfl rfl).trans ?_
  refine (s_iviV 15 mc_227 dX11_closes_12 rfl mo_227 mm_11_427 (by decide) ms_187 mi_187 mr_187 ma_187 mo_187 (by decide) (Nat.le_of_ble_eq_true rfl) rfl rfl (Nat.le_of_ble_eq_true rfl)).trans ?_
  refine gd_c ?_
  refine bV_c fun h3 => ?_
  refine (s_aload_n 16 mc_227 dX11_closes_15 rfl rfl rfl).trans ?_
  refine (s_iviJ 19 mc_227 dX11_closes_16 rfl mo_227 mm_11_524 (by decide) ms_215 mi_215 mr_215 ma_215 mo_215 (by decide) (Nat.le_of_ble_eq_true rfl) rfl rfl (Nat.le_of_ble_eq_true rfl)).trans ?_
  refine gd_c ?_
  refine bJ_c fun r2 h4 => ?_
  refine (s_lload_n 20 mc_227 dX11_closes_19 rfl rfl rfl rfl).trans ?_
  refine (s_lcmp 21 mc_227 dX11_closes_20 rfl).trans ?_
  refine (s_if_le 26 24 mc_227 dX11_closes_21 rfl rfl).trans ?_
  refine ite_c ?_ ?_
  · skip
    refine (s_aload_n 27 mc_227 dX11_closes_26 rfl rfl rfl).trans ?_
    refine (s_iconst 28 0 mc_227 dX11_closes_27 rfl (by decide)).trans ?_
    refine (s_iload_n 29 mc_227 dX11_closes_28 rfl rfl rfl).trans ?_
    refine (s_iviJ 32 mc_227 dX11_closes_29 rfl mo_227 mm_11_541 (by decide) ms_224 mi_224 mr_224 ma_224 mo_224 (by decide) (Nat.le_of_ble_eq_true rfl) rfl rfl (Nat.le_of_ble_eq_true rfl)).trans ?_
    refine gd_c ?_
    refine bJ_c fun r3 h5 => ?_
    refine (s_lstore 34 mc_227 dX11_closes_32 rfl (Nat.le_of_ble_eq_true rfl) rfl).trans ?_
    refine (s_iconst 35 1 mc_227 dX11_closes_34 rfl (by decide)).trans ?_
    refine (s_istore 37 mc_227 dX11_closes_35 rfl (Nat.le_of_ble_eq_true rfl) rfl).trans ?_
    rfl
  · skip
    refine (s_iconst 25 0 mc_227 dX11_closes_24 rfl (by decide)).trans ?_
    exact s_zret0 mc_227 dX11_closes_25 mt_227
theorem b_227_37 {X : Ctx} {d : Nat} (x0 : Nat) (x1 : Int32) (v2 : Option Value) (v3 : Option Value) (x4 : Int64) (x6 : Int32)  (h : Hp) : sem (X, K X d) 227 37 [some (.ref x0), some (.int x1), v2, v3, some (.long x4), none, some (.int x6)] [] h = gI h 11 x0 76 fun g1 => if (1 <<< (g1 &&& 31)) ≤ x6 then some (some (.int 1), h) else gd (hS h x0 = (12, 0)) (bI (K X d 223 [.ref x0, .int x6] h) fun r2 h1 => if r2 = 0 then sem (X, K X d) 227 37 [some (.ref x0), some (.int x1), v2, v3, some (.long x4), none, some (.int (x6 + 1))] [] h1 else gd (hS h1 x0 = (12, 0)) (bJ (K X d 224 [.ref x0, .int x6, .int x1] h1) fun r3 h2 => if 0 ≤ (lg_cmp r3 x4) then sem (X, K X d) 227 37 [some (.ref x0), some (.int x1), v2, v3, some (.long x4), none, some (.int (x6 + 1))] [] h2 else some (some (.int 0), h2))) := by
  refine (s_iload 39 mc_227 dX11_closes_37 rfl rfl).trans ?_
  refine (s_iconst 40 1 mc_227 dX11_closes_39 rfl (by decide)).trans ?_
  refine (s_aload_n 41 mc_227 dX11_closes_40 rfl rfl rfl).trans ?_
  refine (s_getfI 44 mc_227 dX11_closes_41 rfl mo_227 fs_11_536 ff_11_536 (Or.inl rfl)).trans ?_
  refine gI_c fun g1 => ?_
  refine (s_ishl 45 mc_227 dX11_closes_44 rfl).trans ?_
  refine (s_icmp_ge 78 48 mc_227 dX11_closes_45 rfl rfl).trans ?_
  refine ite_c ?_ ?_
  · skip
    refine (s_iconst 79 1 mc_227 dX11_closes_78 rfl (by decide)).trans ?_
    exact s_zret1 mc_227 dX11_closes_79 mt_227
  · skip
    refine (s_aload_n 49 mc_227 dX11_closes_48 rfl rfl rfl).trans ?_
    refine (s_iload 51 mc_227 dX11_closes_49 rfl rfl).trans ?_
    refine (s_iviI 54 mc_227 dX11_closes_51 rfl mo_227 mm_11_544 (by decide) ms_223 mi_223 mr_223 ma_223 mo_223 (by decide) (Nat.le_of_ble_eq_true rfl) rfl rfl (Nat.le_of_ble_eq_true rfl)).trans ?_
    refine gd_c ?_
    refine bI_c fun r2 h1 => ?_
    refine (s_if_eq 72 57 mc_227 dX11_closes_54 rfl rfl).trans ?_
    refine ite_c ?_ ?_
    · skip
      refine (s_iinc 1 75 mc_227 dX11_closes_72 rfl rfl (Nat.le_of_ble_eq_true rfl) (by decide) rfl).trans ?_
      refine (s_goto 37 mc_227 dX11_closes_75 rfl).trans ?_
      rfl
    · skip
      refine (s_aload_n 58 mc_227 dX11_closes_57 rfl rfl rfl).trans ?_
      refine (s_iload 60 mc_227 dX11_closes_58 rfl rfl).trans ?_
      refine (s_iload_n 61 mc_227 dX11_closes_60 rfl rfl rfl).trans ?_
      refine (s_iviJ 64 mc_227 dX11_closes_61 rfl mo_227 mm_11_541 (by decide) ms_224 mi_224 mr_224 ma_224 mo_224 (by decide) (Nat.le_of_ble_eq_true rfl) rfl rfl (Nat.le_of_ble_eq_true rfl)).trans ?_
      refine gd_c ?_
      refine bJ_c fun r3 h2 => ?_
      refine (s_lload 66 mc_227 dX11_closes_64 rfl rfl rfl).trans ?_
      refine (s_lcmp 67 mc_227 dX11_closes_66 rfl).trans ?_
      refine (s_if_ge 72 70 mc_227 dX11_closes_67 rfl rfl).trans ?_
      refine ite_c ?_ ?_
      · skip
        refine (s_iinc 1 75 mc_227 dX11_closes_72 rfl rfl (Nat.le_of_ble_eq_true rfl) (by decide) rfl).trans ?_
        refine (s_goto 37 mc_227 dX11_closes_75 rfl).trans ?_
        rfl
      · skip
        refine (s_iconst 71 0 mc_227 dX11_closes_70 rfl (by decide)).trans ?_
        exact s_zret0 mc_227 dX11_closes_71 mt_227
/-- FiveLandsModel.mend()I -/
theorem k_228 {X : Ctx} {d : Nat} (x0 : Nat) (h : Hp) : K X (d + 1) 228 [.ref x0] h = sem (X, K X d) 228 4 [some (.ref x0), some (.int (-1)), some (.int 0)] [] h := by
  show sem (X, K X d) 228 0 [some (.ref x0), none, none] [] h = _
  refine (s_iconst 1 (-1) mc_228 dX11_mend_0 rfl (by decide)).trans ?_
  refine (s_istore_n 2 mc_228 dX11_mend_1 rfl rfl (Nat.le_of_ble_eq_true rfl) rfl).trans ?_
  refine (s_iconst 3 0 mc_228 dX11_mend_2 rfl (by decide)).trans ?_
  refine (s_istore_n 4 mc_228 dX11_mend_3 rfl rfl (Nat.le_of_ble_eq_true rfl) rfl).trans ?_
  rfl
theorem b_228_4 {X : Ctx} {d : Nat} (x0 : Nat) (x1 : Int32) (x2 : Int32)  (h : Hp) : sem (X, K X d) 228 4 [some (.ref x0), some (.int x1), some (.int x2)] [] h = gI h 11 x0 77 fun g1 => if (1 <<< (g1 &&& 31)) ≤ x2 then some (some (.int x1), h) else if x1 = (-1) then gd (hS h x0 = (12, 0)) (bI (K X d 227 [.ref x0, .int x2] h) fun r2 h1 => if r2 = 0 then sem (X, K X d) 228 4 [some (.ref x0), some (.int x1), some (.int (x2 + 1))] [] h1 else sem (X, K X d) 228 4 [some (.ref x0), some (.int x2), some (.int (x2 + 1))] [] h1) else bI (K X d 145 [.int x2] h) fun r3 h2 => bI (K X d 145 [.int x1] h2) fun r4 h3 => if r4 ≤ r3 then sem (X, K X d) 228 4 [some (.ref x0), some (.int x1), some (.int (x2 + 1))] [] h3 else gd (hS h3 x0 = (12, 0)) (bI (K X d 227 [.ref x0, .int x2] h3) fun r5 h4 => if r5 = 0 then sem (X, K X d) 228 4 [some (.ref x0), some (.int x1), some (.int (x2 + 1))] [] h4 else sem (X, K X d) 228 4 [some (.ref x0), some (.int x2), some (.int (x2 + 1))] [] h4) := by
  refine (s_iload_n 5 mc_228 dX11_mend_4 rfl rfl rfl).trans ?_
  refine (s_iconst 6 1 mc_228 dX11_mend_5 rfl (by decide)).trans ?_
  refine (s_aload_n 7 mc_228 dX11_mend_6 rfl rfl rfl).trans ?_
  refine (s_getfI 10 mc_228 dX11_mend_7 rfl mo_228 fs_11_405 ff_11_405 (Or.inl rfl)).trans ?_
  refine gI_c fun g1 => ?_
  refine (s_ishl 11 mc_228 dX11_mend_10 rfl).trans ?_
  refine (s_icmp_ge 46 14 mc_228 dX11_mend_11 rfl rfl).trans ?_
  refine ite_c ?_ ?_
  · skip
    refine (s_iload_n 47 mc_228 dX11_mend_46 rfl rfl rfl).trans ?_
    exact s_iret mc_228 dX11_mend_47 mt_228
  · skip
    refine (s_iload_n 15 mc_228 dX11_mend_14 rfl rfl rfl).trans ?_
    refine (s_iconst 16 (-1) mc_228 dX11_mend_15 rfl (by decide)).trans ?_
    refine (s_icmp_eq 30 19 mc_228 dX11_mend_16 rfl rfl).trans ?_
    refine ite_c ?_ ?_
    · skip
      refine (s_aload_n 31 mc_228 dX11_mend_30 rfl rfl rfl).trans ?_
      refine (s_iload_n 32 mc_228 dX11_mend_31 rfl rfl rfl).trans ?_
      refine (s_iviI 35 mc_228 dX11_mend_32 rfl mo_228 mm_11_550 (by decide) ms_227 mi_227 mr_227 ma_227 mo_227 (by decide) (Nat.le_of_ble_eq_true rfl) rfl rfl (Nat.le_of_ble_eq_true rfl)).trans ?_
      refine gd_c ?_
      refine bI_c fun r2 h1 => ?_
      refine (s_if_eq 40 38 mc_228 dX11_mend_35 rfl rfl).trans ?_
      refine ite_c ?_ ?_
      · skip
        refine (s_iinc 1 43 mc_228 dX11_mend_40 rfl rfl (Nat.le_of_ble_eq_true rfl) (by decide) rfl).trans ?_
        refine (s_goto 4 mc_228 dX11_mend_43 rfl).trans ?_
        rfl
      · skip
        refine (s_iload_n 39 mc_228 dX11_mend_38 rfl rfl rfl).trans ?_
        refine (s_istore_n 40 mc_228 dX11_mend_39 rfl rfl (Nat.le_of_ble_eq_true rfl) rfl).trans ?_
        refine (s_iinc 1 43 mc_228 dX11_mend_40 rfl rfl (Nat.le_of_ble_eq_true rfl) (by decide) rfl).trans ?_
        refine (s_goto 4 mc_228 dX11_mend_43 rfl).trans ?_
        rfl
    · skip
      refine (s_iload_n 20 mc_228 dX11_mend_19 rfl rfl rfl).trans ?_
      refine (s_istI 23 mc_228 dX11_mend_20 rfl mo_228 mm_11_547 (by decide) ms_145 mr_145 ma_145 (Nat.le_of_ble_eq_true rfl) rfl rfl (Nat.le_of_ble_eq_true rfl)).trans ?_
      refine bI_c fun r3 h2 => ?_
      refine (s_iload_n 24 mc_228 dX11_mend_23 rfl rfl rfl).trans ?_
      refine (s_istI 27 mc_228 dX11_mend_24 rfl mo_228 mm_11_547 (by decide) ms_145 mr_145 ma_145 (Nat.le_of_ble_eq_true rfl) rfl rfl (Nat.le_of_ble_eq_true rfl)).trans ?_
      refine bI_c fun r4 h3 => ?_
      refine (s_icmp_ge 40 30 mc_228 dX11_mend_27 rfl rfl).trans ?_
      refine ite_c ?_ ?_
      · skip
        refine (s_iinc 1 43 mc_228 dX11_mend_40 rfl rfl (Nat.le_of_ble_eq_true rfl) (by decide) rfl).trans ?_
        refine (s_goto 4 mc_228 dX11_mend_43 rfl).trans ?_
        rfl
      · skip
        refine (s_aload_n 31 mc_228 dX11_mend_30 rfl rfl rfl).trans ?_
        refine (s_iload_n 32 mc_228 dX11_mend_31 rfl rfl rfl).trans ?_
        refine (s_iviI 35 mc_228 dX11_mend_32 rfl mo_228 mm_11_550 (by decide) ms_227 mi_227 mr_227 ma_227 mo_227 (by decide) (Nat.le_of_ble_eq_true rfl) rfl rfl (Nat.le_of_ble_eq_true rfl)).trans ?_
        refine gd_c ?_
        refine bI_c fun r5 h4 => ?_
        refine (s_if_eq 40 38 mc_228 dX11_mend_35 rfl rfl).trans ?_
        refine ite_c ?_ ?_
        · skip
          refine (s_iinc 1 43 mc_228 dX11_mend_40 rfl rfl (Nat.le_of_ble_eq_true rfl) (by decide) rfl).trans ?_
          refine (s_goto 4 mc_228 dX11_mend_43 rfl).trans ?_
          rfl
        · skip
          refine (s_iload_n 39 mc_228 dX11_mend_38 rfl rfl rfl).trans ?_
          refine (s_istore_n 40 mc_228 dX11_mend_39 rfl rfl (Nat.le_of_ble_eq_true rfl) rfl).trans ?_
          refine (s_iinc 1 43 mc_228 dX11_mend_40 rfl rfl (Nat.le_of_ble_eq_true rfl) (by decide) rfl).trans ?_
          refine (s_goto 4 mc_228 dX11_mend_43 rfl).trans ?_
          rfl
/-- FiveLandsModel.legTakes(III)I -/
theorem k_229 {X : Ctx} {d : Nat} (x0 : Nat) (x1 : Int32) (x2 : Int32) (x3 : Int32) (h : Hp) : K X (d + 1) 229 [.ref x0, .int x1, .int x2, .int x3] h = sem (X, K X d) 229 3 [some (.ref x0), some (.int x1), some (.int x2), some (.int x3), some (.int 0)] [] h := by
  show sem (X, K X d) 229 0 [some (.ref x0), some (.int x1), some (.int x2), some (.int x3), none] [] h = _
  refine (s_iconst 1 0 mc_229 dX11_legTakes_0 rfl (by decide)).trans ?_
  refine (s_istore 3 mc_229 dX11_legTakes_1 rfl (Nat.le_of_ble_eq_true rfl) rfl).trans ?_
  rfl
theorem b_229_3 {X : Ctx} {d : Nat} (x0 : Nat) (x1 : Int32) (x2 : Int32) (x3 : Int32) (x4 : Int32)  (h : Hp) : sem (X, K X d) 229 3 [some (.ref x0), some (.int x1), some (.int x2), some (.int x3), some (.int x4)] [] h = if 9 ≤ x4 then gR h 11 x0 32 fun g1 => wI h g1 6 1 fun h1 => gR h1 11 x0 32 fun g2 => wI h1 g2 7 1 fun h2 => gR h2 11 x0 32 fun g3 => wI h2 g3 8 100 fun h3 => gd (hS h3 x0 = (12, 0)) (bI (K X d 205 [.ref x0, .int x2, .int x1] h3) fun r4 h4 => bI (K X d 186 [.int x2, .int x3] h4) fun r5 h5 => gd (hS h5 x0 = (12, 0)) (bI (K X d 206 [.ref x0, .int r4, .int r5, .int x1] h5) fun r6 h6 => some (some (.int r6), h6))) else gR h 11 x0 32 fun g7 => wI h g7 x4 0 fun h7 => sem (X, K X d) 229 3 [some (.ref x0), some (.int x1), some (.int x2), some (.int x3), some (.int (x4 + 1))] [] h7 := by
  refine (s_iload 5 mc_229 dX11_legTakes_3 rfl rfl).trans ?_
  refine (s_bipush 7 9 mc_229 dX11_legTakes_5 rfl (by decide)).trans ?_
  refine (s_icmp_ge 24 10 mc_229 dX11_legTakes_7 rfl rfl).trans ?_
  refine ite_c ?_ ?_
  · skip
    refine (s_aload_n 25 mc_229 dX11_legTakes_24 rfl rfl rfl).trans ?_
    refine (s_getfR 28 mc_229 dX11_legTakes_25 rfl mo_229 fs_11_111 ff_11_111 rfl).trans ?_
    refine gR_c fun g1 => ?_
    refine (s_bipush 30 6 mc_229 dX11_legTakes_28 rfl (by decide)).trans ?_
    refine (s_iconst 31 1 mc_229 dX11_legTakes_30 rfl (by decide)).trans ?_
    refine (s_iastore 32 mc_229 dX11_legTakes_31 rfl).trans ?_
    refine wI_c fun h1 => ?_
    refine (s_aload_n 33 mc_229 dX11_legTakes_32 rfl rfl rfl).trans ?_
    refine (s_getfR 36 mc_229 dX11_legTakes_33 rfl mo_229 fs_11_111 ff_11_111 rfl).trans ?_
    refine gR_c fun g2 => ?_
    refine (s_bipush 38 7 mc_229 dX11_legTakes_36 rfl (by decide)).trans ?_
    refine (s_iconst 39 1 mc_229 dX11_legTakes_38 rfl (by decide)).trans ?_
    refine (s_iastore 40 mc_229 dX11_legTakes_39 rfl).trans ?_
    refine wI_c fun h2 => ?_
    refine (s_aload_n 41 mc_229 dX11_legTakes_40 rfl rfl rfl).trans ?_
    refine (s_getfR 44 mc_229 dX11_legTakes_41 rfl mo_229 fs_11_111 ff_11_111 rfl).trans ?_
    refine gR_c fun g3 => ?_
    refine (s_bipush 46 8 mc_229 dX11_legTakes_44 rfl (by decide)).trans ?_
    refine (s_bipush 48 100 mc_229 dX11_legTakes_46 rfl (by decide)).trans ?_
    refine (s_iastore 49 mc_229 dX11_legTakes_48 rfl).trans ?_
    refine wI_c fun h3 => ?_
    refine (s_aload_n 50 mc_229 dX11_legTakes_49 rfl rfl rfl).trans ?_
    refine (s_aload_n 51 mc_229 dX11_legTakes_50 rfl rfl rfl).trans ?_
    refine (s_iload_n 52 mc_229 dX11_legTakes_51 rfl rfl rfl).trans ?_
    refine (s_iload_n 53 mc_229 dX11_legTakes_52 rfl rfl rfl).trans ?_
    refine (s_iviI 56 mc_229 dX11_legTakes_53 rfl mo_229 mm_11_485 (by decide) ms_205 mi_205 mr_205 ma_205 mo_205 (by decide) (Nat.le_of_ble_eq_true rfl) rfl rfl (Nat.le_of_ble_eq_true rfl)).trans ?_
    refine gd_c ?_
    refine bI_c fun r4 h4 => ?_
    refine (s_iload_n 57 mc_229 dX11_legTakes_56 rfl rfl rfl).trans ?_
    refine (s_iload_n 58 mc_229 dX11_legTakes_57 rfl rfl rfl).trans ?_
    refine (s_istI 61 mc_229 dX11_legTakes_58 rfl mo_229 mm_11_438 (by decide) ms_186 mr_186 ma_186 (Nat.le_of_ble_eq_true rfl) rfl rfl (Nat.le_of_ble_eq_true rfl)).trans ?_
    refine bI_c fun r5 h5 => ?_
    refine (s_iload_n 62 mc_229 dX11_legTakes_61 rfl rfl rfl).trans ?_
    refine (s_iviI 65 mc_229 dX11_legTakes_62 rfl mo_229 mm_11_488 (by decide) ms_206 mi_206 mr_206 ma_206 mo_206 (by decide) (Nat.le_of_ble_eq_true rfl) rfl rfl (Nat.le_of_ble_eq_true rfl)).trans ?_
    refine gd_c ?_
    refine bI_c fun r6 h6 => ?_
    exact s_iret mc_229 dX11_legTakes_65 mt_229
  · skip
    refine (s_aload_n 11 mc_229 dX11_legTakes_10 rfl rfl rfl).trans ?_
    refine (s_getfR 14 mc_229 dX11_legTakes_11 rfl mo_229 fs_11_111 ff_11_111 rfl).trans ?_
    refine gR_c fun g7 => ?_
    refine (s_iload 16 mc_229 dX11_legTakes_14 rfl rfl).trans ?_
    refine (s_iconst 17 0 mc_229 dX11_legTakes_16 rfl (by decide)).trans ?_
    refine (s_iastore 18 mc_229 dX11_legTakes_17 rfl).trans ?_
    refine wI_c fun h7 => ?_
    refine (s_iinc 1 21 mc_229 dX11_legTakes_18 rfl rfl (Nat.le_of_ble_eq_true rfl) (by decide) rfl).trans ?_
    refine (s_goto 3 mc_229 dX11_legTakes_21 rfl).trans ?_
    rfl
/-- FiveLandsModel.round(IIII)I -/
theorem k_230 {X : Ctx} {d : Nat} (x0 : Nat) (x1 : Int32) (x2 : Int32) (x3 : Int32) (x4 : Int32) (h : Hp) : K X (d + 1) 230 [.ref x0, .int x1, .int x2, .int x3, .int x4] h = bI (K X d 142 [.int x1, .int 0, .int 4] h) fun r1 h1 => if r1 = 0 then some (some (.int (-1)), h1) else bI (K X d 144 [.int x2] h1) fun r2 h2 => if r2 = 0 then some (some (.int (-1)), h2) else bI (K X d 144 [.int x3] h2) fun r3 h3 => if r3 = 0 then some (some (.int (-1)), h3) else if x2 = x3 then some (some (.int (-1)), h3) else bI (K X d 142 [.int x4, .int 0, .int 2] h3) fun r4 h4 => if ¬ r4 = 0 then gd (hS h4 x0 = (12, 0)) (bV (K X d 187 [.ref x0, .int 0] h4) fun h5 => gd (hS h5 x0 = (12, 0)) (bI (K X d 229 [.ref x0, .int x1, .int x2, .int x3] h5) fun r5 h6 => sem (X, K X d) 230 64 [some (.ref x0), some (.int x1), some (.int x2), some (.int x3), some (.int x4), some (.int r5), some (.int r5), some (.int (-1)), some (.int 0), none] [] h6)) else some (some (.int (-1)), h4) := by
  show sem (X, K X d) 230 0 [some (.ref x0), some (.int x1), some (.int x2), some (.int x3), some (.int x4), none, none, none, none, none] [] h = _
  refine (s_iload_n 1 mc_230 dX11_round_0 rfl rfl rfl).trans ?_
  refine (s_iconst 2 0 mc_230 dX11_round_1 rfl (by decide)).trans ?_
  refine (s_iconst 3 4 mc_230 dX11_round_2 rfl (by decide)).trans ?_
  refine (s_istI 6 mc_230 dX11_round_3 rfl mo_230 mm_11_1 (by decide) ms_142 mr_142 ma_142 (Nat.le_of_ble_eq_true rfl) rfl rfl (Nat.le_of_ble_eq_true rfl)).trans ?_
  refine bI_c fun r1 h1 => ?_
  refine (s_if_eq 38 9 mc_230 dX11_round_6 rfl rfl).trans ?_
  refine ite_c ?_ ?_
  · skip
    refine (s_iconst 39 (-1) mc_230 dX11_round_38 rfl (by decide)).trans ?_
    exact s_iret mc_230 dX11_round_39 mt_230
  · skip
    refine (s_iload_n 10 mc_230 dX11_round_9 rfl rfl rfl).trans ?_
    refine (s_istI 13 mc_230 dX11_round_10 rfl mo_230 mm_11_211 (by decide) ms_144 mr_144 ma_144 (Nat.le_of_ble_eq_true rfl) rfl rfl (Nat.le_of_ble_eq_true rfl)).trans ?_
    refine bI_c fun r2 h2 => ?_
    refine (s_if_eq 38 16 mc_230 dX11_round_13 rfl rfl).trans ?_
    refine ite_c ?_ ?_
    · skip
      refine (s_iconst 39 (-1) mc_230 dX11_round_38 rfl (by decide)).trans ?_
      exact s_iret mc_230 dX11_round_39 mt_230
    · skip
      refine (s_iload_n 17 mc_230 dX11_round_16 rfl rfl rfl).trans ?_
      refine (s_istI 20 mc_230 dX11_round_17 rfl mo_230 mm_11_211 (by decide) ms_144 mr_144 ma_144 (Nat.le_of_ble_eq_true rfl) rfl rfl (Nat.le_of_ble_eq_true rfl)).trans ?_
      refine bI_c fun r3 h3 => ?_
      refine (s_if_eq 38 23 mc_230 dX11_round_20 rfl rfl).trans ?_
      refine ite_c ?_ ?_
      · skip
        refine (s_iconst 39 (-1) mc_230 dX11_round_38 rfl (by decide)).trans ?_
        exact s_iret mc_230 dX11_round_39 mt_230
      · skip
        refine (s_iload_n 24 mc_230 dX11_round_23 rfl rfl rfl).trans ?_
        refine (s_iload_n 25 mc_230 dX11_round_24 rfl rfl rfl).trans ?_
        refine (s_icmp_eq 38 28 mc_230 dX11_round_25 rfl rfl).trans ?_
        refine ite_c ?_ ?_
        · skip
          refine (s_iconst 39 (-1) mc_230 dX11_round_38 rfl (by decide)).trans ?_
          exact s_iret mc_230 dX11_round_39 mt_230
        · skip
          refine (s_iload 30 mc_230 dX11_round_28 rfl rfl).trans ?_
          refine (s_iconst 31 0 mc_230 dX11_round_30 rfl (by decide)).trans ?_
          refine (s_iconst 32 2 mc_230 dX11_round_31 rfl (by decide)).trans ?_
          refine (s_istI 35 mc_230 dX11_round_32 rfl mo_230 mm_11_1 (by decide) ms_142 mr_142 ma_142 (Nat.le_of_ble_eq_true rfl) rfl rfl (Nat.le_of_ble_eq_true rfl)).trans ?_
          refine bI_c fun r4 h4 => ?_
          refine (s_if_ne 40 38 mc_230 dX11_round_35 rfl rfl).trans ?_
          refine ite_c ?_ ?_
          · skip
            refine (s_aload_n 41 mc_230 dX11_round_40 rfl rfl rfl).trans ?_
            refine (s_iconst 42 0 mc_230 dX11_round_41 rfl (by decide)).trans ?_
            refine (s_iviV 45 mc_230 dX11_round_42 rfl mo_230 mm_11_427 (by decide) ms_187 mi_187 mr_187 ma_187 mo_187 (by decide) (Nat.le_of_ble_eq_true rfl) rfl rfl (Nat.le_of_ble_eq_true rfl)).trans ?_
            refine gd_c ?_
            refine bV_c fun h5 => ?_
            refine (s_aload_n 46 mc_230 dX11_round_45 rfl rfl rfl).trans ?_
            refine (s_iload_n 47 mc_230 dX11_round_46 rfl rfl rfl).trans ?_
            refine (s_iload_n 48 mc_230 dX11_round_47 rfl rfl rfl).trans ?_
            refine (s_iload_n 49 mc_230 dX11_round_48 rfl rfl rfl).trans ?_
            refine (s_iviI 52 mc_230 dX11_round_49 rfl mo_230 mm_11_553 (by decide) ms_229 mi_229 mr_229 ma_229 mo_229 (by decide) (Nat.le_of_ble_eq_true rfl) rfl rfl (Nat.le_of_ble_eq_true rfl)).trans ?_
            refine gd_c ?_
            refine bI_c fun r5 h6 => ?_
            refine (s_istore 54 mc_230 dX11_round_52 rfl (Nat.le_of_ble_eq_true rfl) rfl).trans ?_
            refine (s_iload 56 mc_230 dX11_round_54 rfl rfl).trans ?_
            refine (s_istore 58 mc_230 dX11_round_56 rfl (Nat.le_of_ble_eq_true rfl) rfl).trans ?_
            refine (s_iconst 59 (-1) mc_230 dX11_round_58 rfl (by decide)).trans ?_
            refine (s_istore 61 mc_230 dX11_round_59 rfl (Nat.le_of_ble_eq_true rfl) rfl).trans ?_
            refine (s_iconst 62 0 mc_230 dX11_round_61 rfl (by decide)).trans ?_
            refine (s_istore 64 mc_230 dX11_round_62 rfl (Nat.le_of_ble_eq_true rfl) rfl).trans ?_
            rfl
          · skip
            refine (s_iconst 39 (-1) mc_230 dX11_round_38 rfl (by decide)).trans ?_
            exact s_iret mc_230 dX11_round_39 mt_230
theorem b_230_64 {X : Ctx} {d : Nat} (x0 : Nat) (x1 : Int32) (x2 : Int32) (x3 : Int32) (x4 : Int32) (x5 : Int32) (x6 : Int32) (x7 : Int32) (x8 : Int32) (v9 : Option Value)  (h : Hp) : sem (X, K X d) 230 64 [some (.ref x0), some (.int x1), some (.int x2), some (.int x3), some (.int x4), some (.int x5), some (.int x6), some (.int x7), some (.int x8), v9] [] h = if 6 ≤ x8 then if ¬ x4 = 0 then if ¬ x4 = 1 then some (some (.int x6), h) else some (some (.int x7), h) else some (some (.int x5), h) else if x8 = x2 then sem (X, K X d) 230 64 [some (.ref x0), some (.int x1), some (.int x2), some (.int x3), some (.int x4), some (.int x5), some (.int x6), some (.int x7), some (.int (x8 + 1)), v9] [] h else if ¬ x8 = x3 then gd (hS h x0 = (12, 0)) (bI (K X d 229 [.ref x0, .int x1, .int x2, .int x8] h) fun r1 h1 => gd (hS h1 x0 = (12, 0)) (bI (K X d 229 [.ref x0, .int x1, .int x8, .int x3] h1) fun r2 h2 => if (r1 + r2) < x6 then sem (X, K X d) 230 64 [some (.ref x0), some (.int x1), some (.int x2), some (.int x3), some (.int x4), some (.int x5), some (.int (r1 + r2)), some (.int x8), some (.int (x8 + 1)), some (.int (r1 + r2))] [] h2 else sem (X, K X d) 230 64 [some (.ref x0), some (.int x1), some (.int x2), some (.int x3), some (.int x4), some (.int x5), some (.int x6), some (.int x7), some (.int (x8 + 1)), some (.int (r1 + r2))] [] h2)) else sem (X, K X d) 230 64 [some (.ref x0), some (.int x1), some (.int x2), some (.int x3), some (.int x4), some (.int x5), some (.int x6), some (.int x7), some (.int (x8 + 1)), v9] [] h := by
  refine (s_iload 66 mc_230 dX11_round_64 rfl rfl).trans ?_
  refine (s_bipush 68 6 mc_230 dX11_round_66 rfl (by decide)).trans ?_
  refine (s_icmp_ge 129 71 mc_230 dX11_round_68 rfl rfl).trans ?_
  refine ite_c ?_ ?_
  · skip
    refine (s_iload 131 mc_230 dX11_round_129 rfl rfl).trans ?_
    refine (s_if_ne 139 134 mc_230 dX11_round_131 rfl rfl).trans ?_
    refine ite_c ?_ ?_
    · skip
      refine (s_iload 141 mc_230 dX11_round_139 rfl rfl).trans ?_
      refine (s_iconst 142 1 mc_230 dX11_round_141 rfl (by decide)).trans ?_
      refine (s_icmp_ne 150 145 mc_230 dX11_round_142 rfl rfl).trans ?_
      refine ite_c ?_ ?_
      · skip
        refine (s_iload 152 mc_230 dX11_round_150 rfl rfl).trans ?_
        exact s_iret mc_230 dX11_round_152 mt_230
      · skip
        refine (s_iload 147 mc_230 dX11_round_145 rfl rfl).trans ?_
        refine (s_goto 152 mc_230 dX11_round_147 rfl).trans ?_
        exact s_iret mc_230 dX11_round_152 mt_230
    · skip
      refine (s_iload 136 mc_230 dX11_round_134 rfl rfl).trans ?_
      refine (s_goto 152 mc_230 dX11_round_136 rfl).trans ?_
      exact s_iret mc_230 dX11_round_152 mt_230
  · skip
    refine (s_iload 73 mc_230 dX11_round_71 rfl rfl).trans ?_
    refine (s_iload_n 74 mc_230 dX11_round_73 rfl rfl rfl).trans ?_
    refine (s_icmp_eq 123 77 mc_230 dX11_round_74 rfl rfl).trans ?_
    refine ite_c ?_ ?_
    · skip
      refine (s_iinc 1 126 mc_230 dX11_round_123 rfl rfl (Nat.le_of_ble_eq_true rfl) (by decide) rfl).trans ?_
      refine (s_goto 64 mc_230 dX11_round_126 rfl).trans ?_
      rfl
    · skip
      refine (s_iload 79 mc_230 dX11_round_77 rfl rfl).trans ?_
      refine (s_iload_n 80 mc_230 dX11_round_79 rfl rfl rfl).trans ?_
      refine (s_icmp_ne 86 83 mc_230 dX11_round_80 rfl rfl).trans ?_
      refine ite_c ?_ ?_
      · skip
        refine (s_aload_n 87 mc_230 dX11_round_86 rfl rfl rfl).trans ?_
        refine (s_iload_n 88 mc_230 dX11_round_87 rfl rfl rfl).trans ?_
        refine (s_iload_n 89 mc_230 dX11_round_88 rfl rfl rfl).trans ?_
        refine (s_iload 91 mc_230 dX11_round_89 rfl rfl).trans ?_
        refine (s_iviI 94 mc_230 dX11_round_91 rfl mo_230 mm_11_553 (by decide) ms_229 mi_229 mr_229 ma_229 mo_229 (by decide) (Nat.le_of_ble_eq_true rfl) rfl rfl (Nat.le_of_ble_eq_true rfl)).trans ?_
        refine gd_c ?_
        refine bI_c fun r1 h1 => ?_
        refine (s_aload_n 95 mc_230 dX11_round_94 rfl rfl rfl).trans ?_
        refine (s_iload_n 96 mc_230 dX11_round_95 rfl rfl rfl).trans ?_
        refine (s_iload 98 mc_230 dX11_round_96 rfl rfl).trans ?_
        refine (s_iload_n 99 mc_230 dX11_round_98 rfl rfl rfl).trans ?_
        refine (s_iviI 102 mc_230 dX11_round_99 rfl mo_230 mm_11_553 (by decide) ms_229 mi_229 mr_229 ma_229 mo_229 (by decide) (Nat.le_of_ble_eq_true rfl) rfl rfl (Nat.le_of_ble_eq_true rfl)).trans ?_
        refine gd_c ?_
        refine bI_c fun r2 h2 => ?_
        refine (s_iadd 103 mc_230 dX11_round_102 rfl).trans ?_
        refine (s_istore 105 mc_230 dX11_round_103 rfl (Nat.le_of_ble_eq_true rfl) rfl).trans ?_
        refine (s_iload 107 mc_230 dX11_round_105 rfl rfl).trans ?_
        refine (s_iload 109 mc_230 dX11_round_107 rfl rfl).trans ?_
        refine (s_icmp_lt 115 112 mc_230 dX11_round_109 rfl rfl).trans ?_
        refine ite_c ?_ ?_
        · skip
          refine (s_iload 117 mc_230 dX11_round_115 rfl rfl).trans ?_
          refine (s_istore 119 mc_230 dX11_round_117 rfl (Nat.le_of_ble_eq_true rfl) rfl).trans ?_
          refine (s_iload 121 mc_230 dX11_round_119 rfl rfl).trans ?_
          refine (s_istore 123 mc_230 dX11_round_121 rfl (Nat.le_of_ble_eq_true rfl) rfl).trans ?_
          refine (s_iinc 1 126 mc_230 dX11_round_123 rfl rfl (Nat.le_of_ble_eq_true rfl) (by decide) rfl).trans ?_
          refine (s_goto 64 mc_230 dX11_round_126 rfl).trans ?_
          rfl
        · skip
          refine (s_goto 123 mc_230 dX11_round_112 rfl).trans ?_
          refine (s_iinc 1 126 mc_230 dX11_round_123 rfl rfl (Nat.le_of_ble_eq_true rfl) (by decide) rfl).trans ?_
          refine (s_goto 64 mc_230 dX11_round_126 rfl).trans ?_
          rfl
      · skip
        refine (s_goto 123 mc_230 dX11_round_83 rfl).trans ?_
        refine (s_iinc 1 126 mc_230 dX11_round_123 rfl rfl (Nat.le_of_ble_eq_true rfl) (by decide) rfl).trans ?_
        refine (s_goto 64 mc_230 dX11_round_126 rfl).trans ?_
        rfl
/-- FiveLandsModel.answer(IIIJ)I -/
theorem k_231 {X : Ctx} {d : Nat} (x0 : Nat) (x1 : Int32) (x2 : Int32) (x3 : Int32) (x4 : Int64) (h : Hp) : K X (d + 1) 231 [.ref x0, .int x1, .int x2, .int x3, .long x4] h = bI (K X d 142 [.int x1, .int 0, .int 2] h) fun r1 h1 => if r1 = 0 then some (some (.int (-1)), h1) else if 2 ≤ x1 then sem (X, K X d) 231 21 [some (.ref x0), some (.int x1), some (.int x2), some (.int x3), some (.long x4), none] [] h1 else bI (K X d 144 [.int x2] h1) fun r2 h2 => if r2 = 0 then some (some (.int (-1)), h2) else sem (X, K X d) 231 21 [some (.ref x0), some (.int x1), some (.int x2), some (.int x3), some (.long x4), none] [] h2 := by
  show sem (X, K X d) 231 0 [some (.ref x0), some (.int x1), some (.int x2), some (.int x3), some (.long x4), none] [] h = _
  refine (s_iload_n 1 mc_231 dX11_answer_0 rfl rfl rfl).trans ?_
  refine (s_iconst 2 0 mc_231 dX11_answer_1 rfl (by decide)).trans ?_
  refine (s_iconst 3 2 mc_231 dX11_answer_2 rfl (by decide)).trans ?_
  refine (s_istI 6 mc_231 dX11_answer_3 rfl mo_231 mm_11_1 (by decide) ms_142 mr_142 ma_142 (Nat.le_of_ble_eq_true rfl) rfl rfl (Nat.le_of_ble_eq_true rfl)).trans ?_
  refine bI_c fun r1 h1 => ?_
  refine (s_if_eq 69 9 mc_231 dX11_answer_6 rfl rfl).trans ?_
  refine ite_c ?_ ?_
  · skip
    refine (s_iconst 70 (-1) mc_231 dX11_answer_69 rfl (by decide)).trans ?_
    exact s_iret mc_231 dX11_answer_70 mt_231
  · skip
    refine (s_iload_n 10 mc_231 dX11_answer_9 rfl rfl rfl).trans ?_
    refine (s_iconst 11 2 mc_231 dX11_answer_10 rfl (by decide)).trans ?_
    refine (s_icmp_ge 21 14 mc_231 dX11_answer_11 rfl rfl).trans ?_
    refine ite_c ?_ ?_
    · skip
      rfl
    · skip
      refine (s_iload_n 15 mc_231 dX11_answer_14 rfl rfl rfl).trans ?_
      refine (s_istI 18 mc_231 dX11_answer_15 rfl mo_231 mm_11_211 (by decide) ms_144 mr_144 ma_144 (Nat.le_of_ble_eq_true rfl) rfl rfl (Nat.le_of_ble_eq_true rfl)).trans ?_
      refine bI_c fun r2 h2 => ?_
      refine (s_if_eq 69 21 mc_231 dX11_answer_18 rfl rfl).trans ?_
      refine ite_c ?_ ?_
      · skip
        refine (s_iconst 70 (-1) mc_231 dX11_answer_69 rfl (by decide)).trans ?_
        exact s_iret mc_231 dX11_answer_70 mt_231
      · skip
        rfl
theorem b_231_21 {X : Ctx} {d : Nat} (x0 : Nat) (x1 : Int32) (v2 : Option Value) (x3 : Int32) (v4 : Option Value) (v5 : Option Value)  (h : Hp) : sem (X, K X d) 231 21 [some (.ref x0), some (.int x1), v2, some (.int x3), v4, v5] [] h = if ¬ x1 = 1 then sem (X, K X d) 231 42 [some (.ref x0), some (.int x1), v2, some (.int x3), v4, v5] [] h else gR h 11 x0 3 fun g1 => aI X h g1 0 fun g2 => bI (K X d 142 [.int x3, .int 0, .int (g2 - 1)] h) fun r3 h1 => if r3 = 0 then some (some (.int (-1)), h1) else sem (X, K X d) 231 42 [some (.ref x0), some (.int x1), v2, some (.int x3), v4, v5] [] h1 := by
  refine (s_iload_n 22 mc_231 dX11_answer_21 rfl rfl rfl).trans ?_
  refine (s_iconst 23 1 mc_231 dX11_answer_22 rfl (by decide)).trans ?_
  refine (s_icmp_ne 42 26 mc_231 dX11_answer_23 rfl rfl).trans ?_
  refine ite_c ?_ ?_
  · skip
    rfl
  · skip
    refine (s_iload_n 27 mc_231 dX11_answer_26 rfl rfl rfl).trans ?_
    refine (s_iconst 28 0 mc_231 dX11_answer_27 rfl (by decide)).trans ?_
    refine (s_aload_n 29 mc_231 dX11_answer_28 rfl rfl rfl).trans ?_
    refine (s_getfR 32 mc_231 dX11_answer_29 rfl mo_231 fs_11_23 ff_11_23 rfl).trans ?_
    refine gR_c fun g1 => ?_
    refine (s_iconst 33 0 mc_231 dX11_answer_32 rfl (by decide)).trans ?_
    refine (s_iaload 34 mc_231 dX11_answer_33 rfl).trans ?_
    refine aI_c fun g2 => ?_
    refine (s_iconst 35 1 mc_231 dX11_answer_34 rfl (by decide)).trans ?_
    refine (s_isub 36 mc_231 dX11_answer_35 rfl).trans ?_
    refine (s_istI 39 mc_231 dX11_answer_36 rfl mo_231 mm_11_1 (by decide) ms_142 mr_142 ma_142 (Nat.le_of_ble_eq_true rfl) rfl rfl (Nat.le_of_ble_eq_true rfl)).trans ?_
    refine bI_c fun r3 h1 => ?_
    refine (s_if_eq 69 42 mc_231 dX11_answer_39 rfl rfl).trans ?_
    refine ite_c ?_ ?_
    · skip
      refine (s_iconst 70 (-1) mc_231 dX11_answer_69 rfl (by decide)).trans ?_
      exact s_iret mc_231 dX11_answer_70 mt_231
    · skip
      rfl
theorem b_231_42 {X : Ctx} {d : Nat} (v0 : Option Value) (x1 : Int32) (v2 : Option Value) (v3 : Option Value) (x4 : Int64)  (h : Hp) : sem (X, K X d) 231 42 [v0, some (.int x1), v2, v3, some (.long x4), none] [] h = if ¬ x1 = 0 then sem (X, K X d) 231 60 [v0, some (.int x1), v2, v3, some (.long x4), none] [] h else if (lg_cmp x4 0) = 0 then sem (X, K X d) 231 60 [v0, some (.int x1), v2, v3, some (.long x4), none] [] h else if ¬ (lg_cmp x4 1) = 0 then some (some (.int (-1)), h) else sem (X, K X d) 231 60 [v0, some (.int x1), v2, v3, some (.long x4), none] [] h := by
  refine (s_iload_n 43 mc_231 dX11_answer_42 rfl rfl rfl).trans ?_
  refine (s_if_ne 60 46 mc_231 dX11_answer_43 rfl rfl).trans ?_
  refine ite_c ?_ ?_
  · skip
    rfl
  · skip
    refine (s_lload 48 mc_231 dX11_answer_46 rfl rfl rfl).trans ?_
    refine (s_lconst 49 0 mc_231 dX11_answer_48 rfl (by decide)).trans ?_
    refine (s_lcmp 50 mc_231 dX11_answer_49 rfl).trans ?_
    refine (s_if_eq 60 53 mc_231 dX11_answer_50 rfl rfl).trans ?_
    refine ite_c ?_ ?_
    · skip
      rfl
    · skip
      refine (s_lload 55 mc_231 dX11_answer_53 rfl rfl rfl).trans ?_
      refine (s_lconst 56 1 mc_231 dX11_answer_55 rfl (by decide)).trans ?_
      refine (s_lcmp 57 mc_231 dX11_answer_56 rfl).trans ?_
      refine (s_if_ne 69 60 mc_231 dX11_answer_57 rfl rfl).trans ?_
      refine ite_c ?_ ?_
      · skip
        refine (s_iconst 70 (-1) mc_231 dX11_answer_69 rfl (by decide)).trans ?_
        exact s_iret mc_231 dX11_answer_70 mt_231
      · skip
        rfl
theorem b_231_60 {X : Ctx} {d : Nat} (x0 : Nat) (x1 : Int32) (x2 : Int32) (x3 : Int32) (x4 : Int64)  (h : Hp) : sem (X, K X d) 231 60 [some (.ref x0), some (.int x1), some (.int x2), some (.int x3), some (.long x4), none] [] h = gI h 11 x0 84 fun g1 => if ¬ g1 = 10 then gR h 11 x0 85 fun g2 => gI h 11 x0 84 fun g3 => wI h g2 g3 x1 fun h1 => gR h1 11 x0 86 fun g4 => gI h1 11 x0 84 fun g5 => wI h1 g4 g5 x2 fun h2 => gR h2 11 x0 87 fun g6 => gI h2 11 x0 84 fun g7 => wI h2 g6 g7 x3 fun h3 => gR h3 11 x0 88 fun g8 => gI h3 11 x0 84 fun g9 => wJ h3 g8 g9 x4 fun h4 => gI h4 11 x0 84 fun g10 => fI h4 11 x0 84 (g10 + 1) fun h5 => gI h5 11 x0 84 fun g11 => some (some (.int (g11 - 1)), h5) else some (some (.int (-1)), h) := by
  refine (s_aload_n 61 mc_231 dX11_answer_60 rfl rfl rfl).trans ?_
  refine (s_getfI 64 mc_231 dX11_answer_61 rfl mo_231 fs_11_556 ff_11_556 (Or.inl rfl)).trans ?_
  refine gI_c fun g1 => ?_
  refine (s_bipush 66 10 mc_231 dX11_answer_64 rfl (by decide)).trans ?_
  refine (s_icmp_ne 71 69 mc_231 dX11_answer_66 rfl rfl).trans ?_
  refine ite_c ?_ ?_
  · skip
    refine (s_aload_n 72 mc_231 dX11_answer_71 rfl rfl rfl).trans ?_
    refine (s_getfR 75 mc_231 dX11_answer_72 rfl mo_231 fs_11_195 ff_11_195 rfl).trans ?_
    refine gR_c fun g2 => ?_
    refine (s_aload_n 76 mc_231 dX11_answer_75 rfl rfl rfl).trans ?_
    refine (s_getfI 79 mc_231 dX11_answer_76 rfl mo_231 fs_11_556 ff_11_556 (Or.inl rfl)).trans ?_
    refine gI_c fun g3 => ?_
    refine (s_iload_n 80 mc_231 dX11_answer_79 rfl rfl rfl).trans ?_
    refine (s_iastore 81 mc_231 dX11_answer_80 rfl).trans ?_
    refine wI_c fun h1 => ?_
    refine (s_aload_n 82 mc_231 dX11_answer_81 rfl rfl rfl).trans ?_
    refine (s_getfR 85 mc_231 dX11_answer_82 rfl mo_231 fs_11_198 ff_11_198 rfl).trans ?_
    refine gR_c fun g4 => ?_
    refine (s_aload_n 86 mc_231 dX11_answer_85 rfl rfl rfl).trans ?_
    refine (s_getfI 89 mc_231 dX11_answer_86 rfl mo_231 fs_11_556 ff_11_556 (Or.inl rfl)).trans ?_
    refine gI_c fun g5 => ?_
    refine (s_iload_n 90 mc_231 dX11_answer_89 rfl rfl rfl).trans ?_
    refine (s_iastore 91 mc_231 dX11_answer_90 rfl).trans ?_
    refine wI_c fun h2 => ?_
    refine (s_aload_n 92 mc_231 dX11_answer_91 rfl rfl rfl).trans ?_
    refine (s_getfR 95 mc_231 dX11_answer_92 rfl mo_231 fs_11_201 ff_11_201 rfl).trans ?_
    refine gR_c fun g6 => ?_
    refine (s_aload_n 96 mc_231 dX11_answer_95 rfl rfl rfl).trans ?_
    refine (s_getfI 99 mc_231 dX11_answer_96 rfl mo_231 fs_11_556 ff_11_556 (Or.inl rfl)).trans ?_
    refine gI_c fun g7 => ?_
    refine (s_iload_n 100 mc_231 dX11_answer_99 rfl rfl rfl).trans ?_
    refine (s_iastore 101 mc_231 dX11_answer_100 rfl).trans ?_
    refine wI_c fun h3 => ?_
    refine (s_aload_n 102 mc_231 dX11_answer_101 rfl rfl rfl).trans ?_
    refine (s_getfR 105 mc_231 dX11_answer_102 rfl mo_231 fs_11_204 ff_11_204 rfl).trans ?_
    refine gR_c fun g8 => ?_
    refine (s_aload_n 106 mc_231 dX11_answer_105 rfl rfl rfl).trans ?_
    refine (s_getfI 109 mc_231 dX11_answer_106 rfl mo_231 fs_11_556 ff_11_556 (Or.inl rfl)).trans ?_
    refine gI_c fun g9 => ?_
    refine (s_lload 111 mc_231 dX11_answer_109 rfl rfl rfl).trans ?_
    refine (s_lastore 112 mc_231 dX11_answer_111 rfl).trans ?_
    refine wJ_c fun h4 => ?_
    refine (s_aload_n 113 mc_231 dX11_answer_112 rfl rfl rfl).trans ?_
    refine (s_dup 114 mc_231 dX11_answer_113 rfl rfl).trans ?_
    refine (s_getfI 117 mc_231 dX11_answer_114 rfl mo_231 fs_11_556 ff_11_556 (Or.inl rfl)).trans ?_
    refine gI_c fun g10 => ?_
    refine (s_iconst 118 1 mc_231 dX11_answer_117 rfl (by decide)).trans ?_
    refine (s_iadd 119 mc_231 dX11_answer_118 rfl).trans ?_
    refine (s_putfI 122 mc_231 dX11_answer_119 rfl mo_231 ff_11_556 rfl (Or.inl rfl)).trans ?_
    refine fI_c fun h5 => ?_
    refine (s_aload_n 123 mc_231 dX11_answer_122 rfl rfl rfl).trans ?_
    refine (s_getfI 126 mc_231 dX11_answer_123 rfl mo_231 fs_11_556 ff_11_556 (Or.inl rfl)).trans ?_
    refine gI_c fun g11 => ?_
    refine (s_iconst 127 1 mc_231 dX11_answer_126 rfl (by decide)).trans ?_
    refine (s_isub 128 mc_231 dX11_answer_127 rfl).trans ?_
    exact s_iret mc_231 dX11_answer_128 mt_231
  · skip
    refine (s_iconst 70 (-1) mc_231 dX11_answer_69 rfl (by decide)).trans ?_
    exact s_iret mc_231 dX11_answer_70 mt_231
/-- FiveLandsModel.judged()I -/
theorem k_232 {X : Ctx} {d : Nat} (x0 : Nat) (h : Hp) : K X (d + 1) 232 [.ref x0] h = sem (X, K X d) 232 2 [some (.ref x0), some (.int 0), none, none] [] h := by
  show sem (X, K X d) 232 0 [some (.ref x0), none, none, none] [] h = _
  refine (s_iconst 1 0 mc_232 dX11_judged_0 rfl (by decide)).trans ?_
  refine (s_istore_n 2 mc_232 dX11_judged_1 rfl rfl (Nat.le_of_ble_eq_true rfl) rfl).trans ?_
  rfl
theorem b_232_2 {X : Ctx} {d : Nat} (x0 : Nat) (x1 : Int32) (v2 : Option Value) (v3 : Option Value)  (h : Hp) : sem (X, K X d) 232 2 [some (.ref x0), some (.int x1), v2, v3] [] h = gI h 11 x0 84 fun g1 => if g1 ≤ x1 then some (some (.int (-1)), h) else gR h 11 x0 85 fun g2 => aI X h g2 x1 fun g3 => if ¬ g3 = 0 then gR h 11 x0 85 fun g4 => aI X h g4 x1 fun g5 => if ¬ g5 = 1 then gd (hS h x0 = (12, 0)) (bJ (K X d 216 [.ref x0, .int 0, .int 0] h) fun r6 h1 => sem (X, K X d) 232 73 [some (.ref x0), some (.int x1), v2, v3] [.long r6] h1) else gR h 11 x0 87 fun g7 => aI X h g7 x1 fun g8 => gR h 11 x0 86 fun g9 => aI X h g9 x1 fun g10 => gd (hS h x0 = (12, 0)) (bJ (K X d 214 [.ref x0, .int 0, .int g8, .int g10, .int 2] h) fun r11 h2 => sem (X, K X d) 232 73 [some (.ref x0), some (.int x1), v2, v3] [.long r11] h2) else gR h 11 x0 86 fun g12 => aI X h g12 x1 fun g13 => gd (hS h x0 = (12, 0)) (bI (K X d 198 [.ref x0, .int 0, .int g13, .int 6] h) fun r14 h3 => sem (X, K X d) 232 73 [some (.ref x0), some (.int x1), v2, v3] [.long (r14 : Int32).toInt64] h3) := by
  refine (s_iload_n 3 mc_232 dX11_judged_2 rfl rfl rfl).trans ?_
  refine (s_aload_n 4 mc_232 dX11_judged_3 rfl rfl rfl).trans ?_
  refine (s_getfI 7 mc_232 dX11_judged_4 rfl mo_232 fs_11_556 ff_11_556 (Or.inl rfl)).trans ?_
  refine gI_c fun g1 => ?_
  refine (s_icmp_ge 93 10 mc_232 dX11_judged_7 rfl rfl).trans ?_
  refine ite_c ?_ ?_
  · skip
    refine (s_iconst 94 (-1) mc_232 dX11_judged_93 rfl (by decide)).trans ?_
    exact s_iret mc_232 dX11_judged_94 mt_232
  · skip
    refine (s_aload_n 11 mc_232 dX11_judged_10 rfl rfl rfl).trans ?_
    refine (s_getfR 14 mc_232 dX11_judged_11 rfl mo_232 fs_11_195 ff_11_195 rfl).trans ?_
    refine gR_c fun g2 => ?_
    refine (s_iload_n 15 mc_232 dX11_judged_14 rfl rfl rfl).trans ?_
    refine (s_iaload 16 mc_232 dX11_judged_15 rfl).trans ?_
    refine aI_c fun g3 => ?_
    refine (s_if_ne 36 19 mc_232 dX11_judged_16 rfl rfl).trans ?_
    refine ite_c ?_ ?_
    · skip
      refine (s_aload_n 37 mc_232 dX11_judged_36 rfl rfl rfl).trans ?_
      refine (s_getfR 40 mc_232 dX11_judged_37 rfl mo_232 fs_11_195 ff_11_195 rfl).trans ?_
      refine gR_c fun g4 => ?_
      refine (s_iload_n 41 mc_232 dX11_judged_40 rfl rfl rfl).trans ?_
      refine (s_iaload 42 mc_232 dX11_judged_41 rfl).trans ?_
      refine aI_c fun g5 => ?_
      refine (s_iconst 43 1 mc_232 dX11_judged_42 rfl (by decide)).trans ?_
      refine (s_icmp_ne 67 46 mc_232 dX11_judged_43 rfl rfl).trans ?_
      refine ite_c ?_ ?_
      · skip
        refine (s_aload_n 68 mc_232 dX11_judged_67 rfl rfl rfl).trans ?_
        refine (s_iconst 69 0 mc_232 dX11_judged_68 rfl (by decide)).trans ?_
        refine (s_iconst 70 0 mc_232 dX11_judged_69 rfl (by decide)).trans ?_
        refine (s_iviJ 73 mc_232 dX11_judged_70 rfl mo_232 mm_11_566 (by decide) ms_216 mi_216 mr_216 ma_216 mo_216 (by decide) (Nat.le_of_ble_eq_true rfl) rfl rfl (Nat.le_of_ble_eq_true rfl)).trans ?_
        refine gd_c ?_
        refine bJ_c fun r6 h1 => ?_
        rfl
      · skip
        refine (s_aload_n 47 mc_232 dX11_judged_46 rfl rfl rfl).trans ?_
        refine (s_iconst 48 0 mc_232 dX11_judged_47 rfl (by decide)).trans ?_
        refine (s_aload_n 49 mc_232 dX11_judged_48 rfl rfl rfl).trans ?_
        refine (s_getfR 52 mc_232 dX11_judged_49 rfl mo_232 fs_11_201 ff_11_201 rfl).trans ?_
        refine gR_c fun g7 => ?_
        refine (s_iload_n 53 mc_232 dX11_judged_52 rfl rfl rfl).trans ?_
        refine (s_iaload 54 mc_232 dX11_judged_53 rfl).trans ?_
        refine aI_c fun g8 => ?_
        refine (s_aload_n 55 mc_232 dX11_judged_54 rfl rfl rfl).trans ?_
        refine (s_getfR 58 mc_232 dX11_judged_55 rfl mo_232 fs_11_198 ff_11_198 rfl).trans ?_
        refine gR_c fun g9 => ?_
        refine (s_iload_n 59 mc_232 dX11_judged_58 rfl rfl rfl).trans ?_
        refine (s_iaload 60 mc_232 dX11_judged_59 rfl).trans ?_
        refine aI_c fun g10 => ?_
        refine (s_iconst 61 2 mc_232 dX11_judged_60 rfl (by decide)).trans ?_
        refine (s_iviJ 64 mc_232 dX11_judged_61 rfl mo_232 mm_11_562 (by decide) ms_214 mi_214 mr_214 ma_214 mo_214 (by decide) (Nat.le_of_ble_eq_true rfl) rfl rfl (Nat.le_of_ble_eq_true rfl)).trans ?_
        refine gd_c ?_
        refine bJ_c fun r11 h2 => ?_
        refine (s_goto 73 mc_232 dX11_judged_64 rfl).trans ?_
        rfl
    · skip
      refine (s_aload_n 20 mc_232 dX11_judged_19 rfl rfl rfl).trans ?_
      refine (s_iconst 21 0 mc_232 dX11_judged_20 rfl (by decide)).trans ?_
      refine (s_aload_n 22 mc_232 dX11_judged_21 rfl rfl rfl).trans ?_
      refine (s_getfR 25 mc_232 dX11_judged_22 rfl mo_232 fs_11_198 ff_11_198 rfl).trans ?_
      refine gR_c fun g12 => ?_
      refine (s_iload_n 26 mc_232 dX11_judged_25 rfl rfl rfl).trans ?_
      refine (s_iaload 27 mc_232 dX11_judged_26 rfl).trans ?_
      refine aI_c fun g13 => ?_
      refine (s_bipush 29 6 mc_232 dX11_judged_27 rfl (by decide)).trans ?_
      refine (s_iviI 32 mc_232 dX11_judged_29 rfl mo_232 mm_11_559 (by decide) ms_198 mi_198 mr_198 ma_198 mo_198 (by decide) (Nat.le_of_ble_eq_true rfl) rfl rfl (Nat.le_of_ble_eq_true rfl)).trans ?_
      refine gd_c ?_
      refine bI_c fun r14 h3 => ?_
      refine (s_i2l 33 mc_232 dX11_judged_32 rfl).trans ?_
      refine (s_goto 73 mc_232 dX11_judged_33 rfl).trans ?_
      rfl
theorem b_232_73 {X : Ctx} {d : Nat} (x0 : Nat) (x1 : Int32) (v2 : Option Value) (v3 : Option Value) (s0 : Int64) (h : Hp) : sem (X, K X d) 232 73 [some (.ref x0), some (.int x1), v2, v3] [.long s0] h = gR h 11 x0 88 fun g1 => aJ h g1 x1 fun g2 => if (lg_cmp s0 g2) = 0 then sem (X, K X d) 232 2 [some (.ref x0), some (.int (x1 + 1)), some (.long s0), none] [] h else some (some (.int x1), h) := by
  refine (s_lstore_n 74 mc_232 dX11_judged_73 rfl rfl (Nat.le_of_ble_eq_true rfl) rfl).trans ?_
  refine (s_lload_n 75 mc_232 dX11_judged_74 rfl rfl rfl rfl).trans ?_
  refine (s_aload_n 76 mc_232 dX11_judged_75 rfl rfl rfl).trans ?_
  refine (s_getfR 79 mc_232 dX11_judged_76 rfl mo_232 fs_11_204 ff_11_204 rfl).trans ?_
  refine gR_c fun g1 => ?_
  refine (s_iload_n 80 mc_232 dX11_judged_79 rfl rfl rfl).trans ?_
  refine (s_laload 81 mc_232 dX11_judged_80 rfl).trans ?_
  refine aJ_c fun g2 => ?_
  refine (s_lcmp 82 mc_232 dX11_judged_81 rfl).trans ?_
  refine (s_if_eq 87 85 mc_232 dX11_judged_82 rfl rfl).trans ?_
  refine ite_c ?_ ?_
  · skip
    refine (s_iinc 1 90 mc_232 dX11_judged_87 rfl rfl (Nat.le_of_ble_eq_true rfl) (by decide) rfl).trans ?_
    refine (s_goto 2 mc_232 dX11_judged_90 rfl).trans ?_
    rfl
  · skip
    refine (s_iload_n 86 mc_232 dX11_judged_85 rfl rfl rfl).trans ?_
    exact s_iret mc_232 dX11_judged_86 mt_232
/-- FiveLandsModel.look(I)I -/
theorem k_233 {X : Ctx} {d : Nat} (x0 : Nat) (x1 : Int32) (h : Hp) : K X (d + 1) 233 [.ref x0, .int x1] h = sem (X, K X d) 233 (tsw 0 [40, 47, 54, 59, 64, 69] 74 x1) [some (.ref x0), some (.int x1)] [] h := by
  show sem (X, K X d) 233 0 [some (.ref x0), some (.int x1)] [] h = _
  refine (s_iload_n 1 mc_233 dX11_look_0 rfl rfl rfl).trans ?_
  refine (s_tsw [40, 47, 54, 59, 64, 69] 74 mc_233 dX11_look_1 rfl rfl rfl).trans ?_
  rfl
theorem b_233_40 {X : Ctx} {d : Nat} (x0 : Nat) (v1 : Option Value)  (h : Hp) : sem (X, K X d) 233 40 [some (.ref x0), v1] [] h = gR h 11 x0 3 fun g1 => aI X h g1 0 fun g2 => some (some (.int g2), h) := by
  refine (s_aload_n 41 mc_233 dX11_look_40 rfl rfl rfl).trans ?_
  refine (s_getfR 44 mc_233 dX11_look_41 rfl mo_233 fs_11_23 ff_11_23 rfl).trans ?_
  refine gR_c fun g1 => ?_
  refine (s_iconst 45 0 mc_233 dX11_look_44 rfl (by decide)).trans ?_
  refine (s_iaload 46 mc_233 dX11_look_45 rfl).trans ?_
  refine aI_c fun g2 => ?_
  exact s_iret mc_233 dX11_look_46 mt_233
theorem b_233_47 {X : Ctx} {d : Nat} (x0 : Nat) (v1 : Option Value)  (h : Hp) : sem (X, K X d) 233 47 [some (.ref x0), v1] [] h = gR h 11 x0 3 fun g1 => aI X h g1 1 fun g2 => some (some (.int g2), h) := by
  refine (s_aload_n 48 mc_233 dX11_look_47 rfl rfl rfl).trans ?_
  refine (s_getfR 51 mc_233 dX11_look_48 rfl mo_233 fs_11_23 ff_11_23 rfl).trans ?_
  refine gR_c fun g1 => ?_
  refine (s_iconst 52 1 mc_233 dX11_look_51 rfl (by decide)).trans ?_
  refine (s_iaload 53 mc_233 dX11_look_52 rfl).trans ?_
  refine aI_c fun g2 => ?_
  exact s_iret mc_233 dX11_look_53 mt_233
theorem b_233_54 {X : Ctx} {d : Nat} (x0 : Nat) (v1 : Option Value)  (h : Hp) : sem (X, K X d) 233 54 [some (.ref x0), v1] [] h = gI h 11 x0 73 fun g1 => some (some (.int g1), h) := by
  refine (s_aload_n 55 mc_233 dX11_look_54 rfl rfl rfl).trans ?_
  refine (s_getfI 58 mc_233 dX11_look_55 rfl mo_233 fs_11_530 ff_11_530 (Or.inl rfl)).trans ?_
  refine gI_c fun g1 => ?_
  exact s_iret mc_233 dX11_look_58 mt_233
theorem b_233_59 {X : Ctx} {d : Nat} (x0 : Nat) (v1 : Option Value)  (h : Hp) : sem (X, K X d) 233 59 [some (.ref x0), v1] [] h = gI h 11 x0 76 fun g1 => some (some (.int g1), h) := by
  refine (s_aload_n 60 mc_233 dX11_look_59 rfl rfl rfl).trans ?_
  refine (s_getfI 63 mc_233 dX11_look_60 rfl mo_233 fs_11_536 ff_11_536 (Or.inl rfl)).trans ?_
  refine gI_c fun g1 => ?_
  exact s_iret mc_233 dX11_look_63 mt_233
theorem b_233_64 {X : Ctx} {d : Nat} (x0 : Nat) (v1 : Option Value)  (h : Hp) : sem (X, K X d) 233 64 [some (.ref x0), v1] [] h = gI h 11 x0 77 fun g1 => some (some (.int g1), h) := by
  refine (s_aload_n 65 mc_233 dX11_look_64 rfl rfl rfl).trans ?_
  refine (s_getfI 68 mc_233 dX11_look_65 rfl mo_233 fs_11_405 ff_11_405 (Or.inl rfl)).trans ?_
  refine gI_c fun g1 => ?_
  exact s_iret mc_233 dX11_look_68 mt_233
theorem b_233_69 {X : Ctx} {d : Nat} (x0 : Nat) (v1 : Option Value)  (h : Hp) : sem (X, K X d) 233 69 [some (.ref x0), v1] [] h = gI h 11 x0 84 fun g1 => some (some (.int g1), h) := by
  refine (s_aload_n 70 mc_233 dX11_look_69 rfl rfl rfl).trans ?_
  refine (s_getfI 73 mc_233 dX11_look_70 rfl mo_233 fs_11_556 ff_11_556 (Or.inl rfl)).trans ?_
  refine gI_c fun g1 => ?_
  exact s_iret mc_233 dX11_look_73 mt_233
theorem b_233_74 {X : Ctx} {d : Nat} (v0 : Option Value) (v1 : Option Value)  (h : Hp) : sem (X, K X d) 233 74 [v0, v1] [] h = some (some (.int (-1)), h) := by
  refine (s_iconst 75 (-1) mc_233 dX11_look_74 rfl (by decide)).trans ?_
  exact s_iret mc_233 dX11_look_75 mt_233
