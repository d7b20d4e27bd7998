/-- FiveLands$Levy.<init>()V -/
theorem k_11 {X : Ctx} {d : Nat} (x0 : Nat) (h : Hp) : K X (d + 1) 11 [.ref x0] h = letH (hN h) (alc h (61, 6) 6) fun a1 h1 => fR h1 2 x0 0 a1 fun h2 => letH (hN h2) (lnk (alcs (50, 8) 8 6 (alc h2 (80, 6) 6)) (hN h2) (hN h2 + 1)) fun a3 h3 => fR h3 2 x0 1 a3 fun h4 => letH (hN h4) (alc h4 (50, 8) 8) fun a5 h5 => fR h5 2 x0 2 a5 fun h6 => letH (hN h6) (alc h6 (50, 64) 64) fun a7 h7 => fR h7 2 x0 3 a7 fun h8 => letH (hN h8) (alc h8 (50, 6) 6) fun a9 h9 => fR h9 2 x0 4 a9 fun h10 => letH (hN h10) (alc h10 (50, 6) 6) fun a11 h11 => fR h11 2 x0 5 a11 fun h12 => letH (hN h12) (alc h12 (50, 6) 6) fun a13 h13 => fR h13 2 x0 6 a13 fun h14 => letH (hN h14) (alc h14 (51, 6) 6) fun a15 h15 => fR h15 2 x0 7 a15 fun h16 => letH (hN h16) (alc h16 (51, 6) 6) fun a17 h17 => fR h17 2 x0 8 a17 fun h18 => letH (hN h18) (alc h18 (51, 6) 6) fun a19 h19 => fR h19 2 x0 9 a19 fun h20 => letH (hN h20) (alc h20 (51, 6) 6) fun a21 h21 => fR h21 2 x0 10 a21 fun h22 => letH (hN h22) (alc h22 (7, 0) 4) fun a23 h23 => gd (hS h23 a23 = (7, 0)) (bV (K X d 77 [.ref a23] h23) fun h24 => fR h24 2 x0 11 a23 fun h25 => sem (X, K X d) 11 110 [some (.ref x0), some (.int 0)] [] h25) := by
  show sem (X, K X d) 11 0 [some (.ref x0), none] [] h = _
  refine (s_aload_n 1 mc_11 dX2_init_0 rfl rfl rfl).trans ?_
  refine (s_obj 4 mc_11 dX2_init_1 rfl mo_11 mm_2_3 mq_11 (Nat.le_of_ble_eq_true rfl)).trans ?_
  refine (s_aload_n 5 mc_11 dX2_init_4 rfl rfl rfl).trans ?_
  refine (s_bipush 7 6 mc_11 dX2_init_5 rfl (by decide)).trans ?_
  refine (s_newR 10 mc_11 dX2_init_7 rfl mq_11 mo_11 ck_2_9 (by decide) (by decide) rfl (by decide)).trans ?_
  refine letH_i (F := fun a1 h1 => sem (X, K X d) 11 10 [some (.ref x0), none] [.ref a1, .ref x0] h1) (hN h) (alc h (61, 6) 6) ?_
  intro a1 h1
  refine (s_putfR 13 mc_11 dX2_init_10 rfl mo_11 ff_2_11 rfl (Or.inr ⟨mo_11, mn_11⟩)).trans ?_
  refine fR_c fun h2 => ?_
  refine (s_aload_n 14 mc_11 dX2_init_13 rfl rfl rfl).trans ?_
  refine (s_bipush 16 6 mc_11 dX2_init_14 rfl (by decide)).trans ?_
  refine (s_bipush 18 8 mc_11 dX2_init_16 rfl (by decide)).trans ?_
  refine (s_multI 22 mc_11 dX2_init_18 rfl mq_11 mo_11 ck_2_17 (by decide) (by decide) rfl rfl (by decide) (by decide)).trans ?_
  refine letH_i (F := fun a3 h3 => sem (X, K X d) 11 22 [some (.ref x0), none] [.ref a3, .ref x0] h3) (hN h2) (lnk (alcs (50, 8) 8 6 (alc h2 (80, 6) 6)) (hN h2) (hN h2 + 1)) ?_
  intro a3 h3
  refine (s_putfR 25 mc_11 dX2_init_22 rfl mo_11 ff_2_19 rfl (Or.inr ⟨mo_11, mn_11⟩)).trans ?_
  refine fR_c fun h4 => ?_
  refine (s_aload_n 26 mc_11 dX2_init_25 rfl rfl rfl).trans ?_
  refine (s_bipush 28 8 mc_11 dX2_init_26 rfl (by decide)).trans ?_
  refine (s_newI 30 mc_11 dX2_init_28 rfl mq_11 (by decide) rfl (by decide)).trans ?_
  refine letH_i (F := fun a5 h5 => sem (X, K X d) 11 30 [some (.ref x0), none] [.ref a5, .ref x0] h5) (hN h4) (alc h4 (50, 8) 8) ?_
  intro a5 h5
  refine (s_putfR 33 mc_11 dX2_init_30 rfl mo_11 ff_2_22 rfl (Or.inr ⟨mo_11, mn_11⟩)).trans ?_
  refine fR_c fun h6 => ?_
  refine (s_aload_n 34 mc_11 dX2_init_33 rfl rfl rfl).trans ?_
  refine (s_bipush 36 64 mc_11 dX2_init_34 rfl (by decide)).trans ?_
  refine (s_newI 38 mc_11 dX2_init_36 rfl mq_11 (by decide) rfl (by decide)).trans ?_
  refine letH_i (F := fun a7 h7 => sem (X, K X d) 11 38 [some (.ref x0), none] [.ref a7, .ref x0] h7) (hN h6) (alc h6 (50, 64) 64) ?_
  intro a7 h7
  refine (s_putfR 41 mc_11 dX2_init_38 rfl mo_11 ff_2_26 rfl (Or.inr ⟨mo_11, mn_11⟩)).trans ?_
  refine fR_c fun h8 => ?_
  refine (s_aload_n 42 mc_11 dX2_init_41 rfl rfl rfl).trans ?_
  refine (s_bipush 44 6 mc_11 dX2_init_42 rfl (by decide)).trans ?_
  refine (s_newI 46 mc_11 dX2_init_44 rfl mq_11 (by decide) rfl (by decide)).trans ?_
  refine letH_i (F := fun a9 h9 => sem (X, K X d) 11 46 [some (.ref x0), none] [.ref a9, .ref x0] h9) (hN h8) (alc h8 (50, 6) 6) ?_
  intro a9 h9
  refine (s_putfR 49 mc_11 dX2_init_46 rfl mo_11 ff_2_29 rfl (Or.inr ⟨mo_11, mn_11⟩)).trans ?_
  refine fR_c fun h10 => ?_
  refine (s_aload_n 50 mc_11 dX2_init_49 rfl rfl rfl).trans ?_
  refine (s_bipush 52 6 mc_11 dX2_init_50 rfl (by decide)).trans ?_
  refine (s_newI 54 mc_11 dX2_init_52 rfl mq_11 (by decide) rfl (by decide)).trans ?_
  refine letH_i (F := fun a11 h11 => sem (X, K X d) 11 54 [some (.ref x0), none] [.ref a11, .ref x0] h11) (hN h10) (alc h10 (50, 6) 6) ?_
  intro a11 h11
  refine (s_putfR 57 mc_11 dX2_init_54 rfl mo_11 ff_2_32 rfl (Or.inr ⟨mo_11, mn_11⟩)).trans ?_
  refine fR_c fun h12 => ?_
  refine (s_aload_n 58 mc_11 dX2_init_57 rfl rfl rfl).trans ?_
  refine (s_bipush 60 6 mc_11 dX2_init_58 rfl (by decide)).trans ?_
  refine (s_newI 62 mc_11 dX2_init_60 rfl mq_11 (by decide) rfl (by decide)).trans ?_
  refine letH_i (F := fun a13 h13 => sem (X, K X d) 11 62 [some (.ref x0), none] [.ref a13, .ref x0] h13) (hN h12) (alc h12 (50, 6) 6) ?_
  intro a13 h13
  refine (s_putfR 65 mc_11 dX2_init_62 rfl mo_11 ff_2_35 rfl (Or.inr ⟨mo_11, mn_11⟩)).trans ?_
  refine fR_c fun h14 => ?_
  refine (s_aload_n 66 mc_11 dX2_init_65 rfl rfl rfl).trans ?_
  refine (s_bipush 68 6 mc_11 dX2_init_66 rfl (by decide)).trans ?_
  refine (s_newJ 70 mc_11 dX2_init_68 rfl mq_11 (by decide) rfl (by decide)).trans ?_
  refine letH_i (F := fun a15 h15 => sem (X, K X d) 11 70 [some (.ref x0), none] [.ref a15, .ref x0] h15) (hN h14) (alc h14 (51, 6) 6) ?_
  intro a15 h15
  refine (s_putfR 73 mc_11 dX2_init_70 rfl mo_11 ff_2_38 rfl (Or.inr ⟨mo_11, mn_11⟩)).trans ?_
  refine fR_c fun h16 => ?_
  refine (s_aload_n 74 mc_11 dX2_init_73 rfl rfl rfl).trans ?_
  refine (s_bipush 76 6 mc_11 dX2_init_74 rfl (by decide)).trans ?_
  refine (s_newJ 78 mc_11 dX2_init_76 rfl mq_11 (by decide) rfl (by decide)).trans ?_
  refine letH_i (F := fun a17 h17 => sem (X, K X d) 11 78 [some (.ref x0), none] [.ref a17, .ref x0] h17) (hN h16) (alc h16 (51, 6) 6) ?_
  intro a17 h17
  refine (s_putfR 81 mc_11 dX2_init_78 rfl mo_11 ff_2_42 rfl (Or.inr ⟨mo_11, mn_11⟩)).trans ?_
  refine fR_c fun h18 => ?_
  refine (s_aload_n 82 mc_11 dX2_init_81 rfl rfl rfl).trans ?_
  refine (s_bipush 84 6 mc_11 dX2_init_82 rfl (by decide)).trans ?_
  refine (s_newJ 86 mc_11 dX2_init_84 rfl mq_11 (by decide) rfl (by decide)).trans ?_
  refine letH_i (F := fun a19 h19 => sem (X, K X d) 11 86 [some (.ref x0), none] [.ref a19, .ref x0] h19) (hN h18) (alc h18 (51, 6) 6) ?_
  intro a19 h19
  refine (s_putfR 89 mc_11 dX2_init_86 rfl mo_11 ff_2_45 rfl (Or.inr ⟨mo_11, mn_11⟩)).trans ?_
  refine fR_c fun h20 => ?_
  refine (s_aload_n 90 mc_11 dX2_init_89 rfl rfl rfl).trans ?_
  refine (s_bipush 92 6 mc_11 dX2_init_90 rfl (by decide)).trans ?_
  refine (s_newJ 94 mc_11 dX2_init_92 rfl mq_11 (by decide) rfl (by decide)).trans ?_
  refine letH_i (F := fun a21 h21 => sem (X, K X d) 11 94 [some (.ref x0), none] [.ref a21, .ref x0] h21) (hN h20) (alc h20 (51, 6) 6) ?_
  intro a21 h21
  refine (s_putfR 97 mc_11 dX2_init_94 rfl mo_11 ff_2_48 rfl (Or.inr ⟨mo_11, mn_11⟩)).trans ?_
  refine fR_c fun h22 => ?_
  refine (s_aload_n 98 mc_11 dX2_init_97 rfl rfl rfl).trans ?_
  refine (s_new 101 mc_11 dX2_init_98 rfl mq_11 mo_11 ck_2_51 (by decide)).trans ?_
  refine letH_i (F := fun a23 h23 => sem (X, K X d) 11 101 [some (.ref x0), none] [.ref a23, .ref x0] h23) (hN h22) (alc h22 (7, 0) 4) ?_
  intro a23 h23
  refine (s_dup 102 mc_11 dX2_init_101 rfl rfl).trans ?_
  refine (s_ispV 105 mc_11 dX2_init_102 rfl mo_11 mm_2_53 (by decide) mq_11 ms_77 mi_77 mr_77 ma_77 mo_77 (by decide) (Nat.le_of_ble_eq_true rfl) rfl rfl (Nat.le_of_ble_eq_true rfl)).trans ?_
  refine gd_c ?_
  refine bV_c fun h24 => ?_
  refine (s_putfR 108 mc_11 dX2_init_105 rfl mo_11 ff_2_54 rfl (Or.inr ⟨mo_11, mn_11⟩)).trans ?_
  refine fR_c fun h25 => ?_
  refine (s_iconst 109 0 mc_11 dX2_init_108 rfl (by decide)).trans ?_
  refine (s_istore_n 110 mc_11 dX2_init_109 rfl rfl (Nat.le_of_ble_eq_true rfl) rfl).trans ?_
  rfl
theorem b_11_110 {X : Ctx} {d : Nat} (x0 : Nat) (x1 : Int32)  (h : Hp) : sem (X, K X d) 11 110 [some (.ref x0), some (.int x1)] [] h = if 6 ≤ x1 then gR h 2 x0 2 fun g1 => wI h g1 5 1 fun h1 => gR h1 2 x0 2 fun g2 => wI h1 g2 6 1 fun h2 => gR h2 2 x0 2 fun g3 => wI h2 g3 7 100 fun h3 => some (none, h3) else gR h 2 x0 0 fun g4 => letH (hN h) (alc h (2, 0) 12) fun a4 h4 => gd (hS h4 a4 = (2, 0)) (bV (K X d 1 [.ref a4] h4) fun h5 => wR h5 g4 x1 a4 fun h6 => sem (X, K X d) 11 110 [some (.ref x0), some (.int (x1 + 1))] [] h6) := by
  refine (s_iload_n 111 mc_11 dX2_init_110 rfl rfl rfl).trans ?_
  refine (s_bipush 113 6 mc_11 dX2_init_111 rfl (by decide)).trans ?_
  refine (s_icmp_ge 135 116 mc_11 dX2_init_113 rfl rfl).trans ?_
  refine ite_c ?_ ?_
  · skip
    refine (s_aload_n 136 mc_11 dX2_init_135 rfl rfl rfl).trans ?_
    refine (s_getfR 139 mc_11 dX2_init_136 rfl mo_11 fs_2_22 ff_2_22 rfl).trans ?_
    refine gR_c fun g1 => ?_
    refine (s_iconst 140 5 mc_11 dX2_init_139 rfl (by decide)).trans ?_
    refine (s_iconst 141 1 mc_11 dX2_init_140 rfl (by decide)).trans ?_
    refine (s_iastore 142 mc_11 dX2_init_141 rfl).trans ?_
    refine wI_c fun h1 => ?_
    refine (s_aload_n 143 mc_11 dX2_init_142 rfl rfl rfl).trans ?_
    refine (s_getfR 146 mc_11 dX2_init_143 rfl mo_11 fs_2_22 ff_2_22 rfl).trans ?_
    refine gR_c fun g2 => ?_
    refine (s_bipush 148 6 mc_11 dX2_init_146 rfl (by decide)).trans ?_
    refine (s_iconst 149 1 mc_11 dX2_init_148 rfl (by decide)).trans ?_
    refine (s_iastore 150 mc_11 dX2_init_149 rfl).trans ?_
    refine wI_c fun h2 => ?_
    refine (s_aload_n 151 mc_11 dX2_init_150 rfl rfl rfl).trans ?_
    refine (s_getfR 154 mc_11 dX2_init_151 rfl mo_11 fs_2_22 ff_2_22 rfl).trans ?_
    refine gR_c fun g3 => ?_
    refine (s_bipush 156 7 mc_11 dX2_init_154 rfl (by decide)).trans ?_
    refine (s_bipush 158 100 mc_11 dX2_init_156 rfl (by decide)).trans ?_
    refine (s_iastore 159 mc_11 dX2_init_158 rfl).trans ?_
    refine wI_c fun h3 => ?_
    exact s_vret mc_11 dX2_init_159 mt_11
  · skip
    refine (s_aload_n 117 mc_11 dX2_init_116 rfl rfl rfl).trans ?_
    refine (s_getfR 120 mc_11 dX2_init_117 rfl mo_11 fs_2_11 ff_2_11 rfl).trans ?_
    refine gR_c fun g4 => ?_
    refine (s_iload_n 121 mc_11 dX2_init_120 rfl rfl rfl).trans ?_
    refine (s_new 124 mc_11 dX2_init_121 rfl mq_11 mo_11 ck_2_9 (by decide)).trans ?_
    refine letH_i (F := fun a4 h4 => sem (X, K X d) 11 124 [some (.ref x0), some (.int x1)] [.ref a4, .int x1, .ref g4] h4) (hN h) (alc h (2, 0) 12) ?_
    intro a4 h4
    refine (s_dup 125 mc_11 dX2_init_124 rfl rfl).trans ?_
    refine (s_ispV 128 mc_11 dX2_init_125 rfl mo_11 mm_2_58 (by decide) mq_11 ms_1 mi_1 mr_1 ma_1 mo_1 (by decide) (Nat.le_of_ble_eq_true rfl) rfl rfl (Nat.le_of_ble_eq_true rfl)).trans ?_
    refine gd_c ?_
    refine bV_c fun h5 => ?_
    refine (s_aastore 129 mc_11 dX2_init_128 rfl mq_11).trans ?_
    refine wR_c fun h6 => ?_
    refine (s_iinc 1 132 mc_11 dX2_init_129 rfl rfl (Nat.le_of_ble_eq_true rfl) (by decide) rfl).trans ?_
    refine (s_goto 110 mc_11 dX2_init_132 rfl).trans ?_
    rfl
/-- FiveLands$Levy.saysSo(LFiveLands$Stay;I)Z -/
theorem k_12 {X : Ctx} {d : Nat} (x0 : Nat) (x1 : Nat) (x2 : Int32) (h : Hp) : K X (d + 1) 12 [.ref x0, .ref x1, .int x2] h = gR h 2 x0 1 fun g1 => aR h g1 x2 fun g2 => gd (hS h x1 = (8, 0)) (bV (K X d 88 [.ref x1, .int x2, .ref g2] h) fun h1 => gR h1 2 x0 0 fun g3 => aR h1 g3 x2 fun g4 => gR h1 2 x0 1 fun g5 => aR h1 g5 x2 fun g6 => gR h1 2 x0 3 fun g7 => gd (hS h1 g4 = (2, 0)) (bI (K X d 6 [.ref g4, .ref g6, .ref g7] h1) fun r8 h2 => gd (okN .boolean r8) (some (some (.int r8), h2)))) := by
  show sem (X, K X d) 12 0 [some (.ref x0), some (.ref x1), some (.int x2)] [] h = _
  refine (s_aload_n 1 mc_12 dX2_saysSo_0 rfl rfl rfl).trans ?_
  refine (s_iload_n 2 mc_12 dX2_saysSo_1 rfl rfl rfl).trans ?_
  refine (s_aload_n 3 mc_12 dX2_saysSo_2 rfl rfl rfl).trans ?_
  refine (s_getfR 6 mc_12 dX2_saysSo_3 rfl mo_12 fs_2_19 ff_2_19 rfl).trans ?_
  refine gR_c fun g1 => ?_
  refine (s_iload_n 7 mc_12 dX2_saysSo_6 rfl rfl rfl).trans ?_
  refine (s_aaload 8 mc_12 dX2_saysSo_7 rfl).trans ?_
  refine aR_c fun g2 => ?_
  refine (s_iviV 11 mc_12 dX2_saysSo_8 rfl mo_12 mm_2_59 (by decide) ms_88 mi_88 mr_88 ma_88 mo_88 (by decide) (Nat.le_of_ble_eq_true rfl) rfl rfl (Nat.le_of_ble_eq_true rfl)).trans ?_
  refine gd_c ?_
  refine bV_c fun h1 => ?_
  refine (s_aload_n 12 mc_12 dX2_saysSo_11 rfl rfl rfl).trans ?_
  refine (s_getfR 15 mc_12 dX2_saysSo_12 rfl mo_12 fs_2_11 ff_2_11 rfl).trans ?_
  refine gR_c fun g3 => ?_
  refine (s_iload_n 16 mc_12 dX2_saysSo_15 rfl rfl rfl).trans ?_
  refine (s_aaload 17 mc_12 dX2_saysSo_16 rfl).trans ?_
  refine aR_c fun g4 => ?_
  refine (s_aload_n 18 mc_12 dX2_saysSo_17 rfl rfl rfl).trans ?_
  refine (s_getfR 21 mc_12 dX2_saysSo_18 rfl mo_12 fs_2_19 ff_2_19 rfl).trans ?_
  refine gR_c fun g5 => ?_
  refine (s_iload_n 22 mc_12 dX2_saysSo_21 rfl rfl rfl).trans ?_
  refine (s_aaload 23 mc_12 dX2_saysSo_22 rfl).trans ?_
  refine aR_c fun g6 => ?_
  refine (s_aload_n 24 mc_12 dX2_saysSo_23 rfl rfl rfl).trans ?_
  refine (s_getfR 27 mc_12 dX2_saysSo_24 rfl mo_12 fs_2_26 ff_2_26 rfl).trans ?_
  refine gR_c fun g7 => ?_
  refine (s_iviI 30 mc_12 dX2_saysSo_27 rfl mo_12 mm_2_65 (by decide) ms_6 mi_6 mr_6 ma_6 mo_6 (by decide) (Nat.le_of_ble_eq_true rfl) rfl rfl (Nat.le_of_ble_eq_true rfl)).trans ?_
  refine gd_c ?_
  refine bI_c fun r8 h2 => ?_
  exact s_zret mc_12 dX2_saysSo_30 mt_12
/-- FiveLands$Levy.hear(LFiveLands$Stay;[LFiveLands$Pact;J)V -/
theorem k_13 {X : Ctx} {d : Nat} (x0 : Nat) (x1 : Nat) (x2 : Nat) (x3 : Int64) (h : Hp) : K X (d + 1) 13 [.ref x0, .ref x1, .ref x2, .long x3] h = fJ h 2 x0 13 x3 fun h1 => fI h1 2 x0 14 0 fun h2 => sem (X, K X d) 13 13 [some (.ref x0), some (.ref x1), some (.ref x2), some (.long x3), none, some (.int 0), none] [] h2 := by
  show sem (X, K X d) 13 0 [some (.ref x0), some (.ref x1), some (.ref x2), some (.long x3), none, none, none] [] h = _
  refine (s_aload_n 1 mc_13 dX2_hear_0 rfl rfl rfl).trans ?_
  refine (s_lload_n 2 mc_13 dX2_hear_1 rfl rfl rfl rfl).trans ?_
  refine (s_putfJ 5 mc_13 dX2_hear_2 rfl mo_13 ff_2_69 rfl (Or.inl rfl)).trans ?_
  refine fJ_c fun h1 => ?_
  refine (s_aload_n 6 mc_13 dX2_hear_5 rfl rfl rfl).trans ?_
  refine (s_iconst 7 0 mc_13 dX2_hear_6 rfl (by decide)).trans ?_
  refine (s_putfI 10 mc_13 dX2_hear_7 rfl mo_13 ff_2_73 rfl (Or.inl rfl)).trans ?_
  refine fI_c fun h2 => ?_
  refine (s_iconst 11 0 mc_13 dX2_hear_10 rfl (by decide)).trans ?_
  refine (s_istore 13 mc_13 dX2_hear_11 rfl (Nat.le_of_ble_eq_true rfl) rfl).trans ?_
  rfl
theorem b_13_13 {X : Ctx} {d : Nat} (x0 : Nat) (x1 : Nat) (v2 : Option Value) (v3 : Option Value) (v4 : Option Value) (x5 : Int32) (v6 : Option Value)  (h : Hp) : sem (X, K X d) 13 13 [some (.ref x0), some (.ref x1), v2, v3, v4, some (.int x5), v6] [] h = if 6 ≤ x5 then sem (X, K X d) 13 67 [some (.ref x0), some (.ref x1), v2, v3, v4, some (.int 0), v6] [] h else gd (hS h x0 = (3, 0)) (bI (K X d 12 [.ref x0, .ref x1, .int x5] h) fun r1 h1 => if r1 = 0 then gI h1 2 x0 14 fun g2 => fI h1 2 x0 14 g2 fun h2 => gR h2 2 x0 4 fun g3 => wI h2 g3 x5 0 fun h3 => sem (X, K X d) 13 13 [some (.ref x0), some (.ref x1), v2, v3, v4, some (.int (x5 + 1)), v6] [] h3 else gI h1 2 x0 14 fun g4 => fI h1 2 x0 14 (g4 ||| (1 <<< (x5 &&& 31))) fun h4 => gR h4 2 x0 4 fun g5 => wI h4 g5 x5 0 fun h5 => sem (X, K X d) 13 13 [some (.ref x0), some (.ref x1), v2, v3, v4, some (.int (x5 + 1)), v6] [] h5) := by
  refine (s_iload 15 mc_13 dX2_hear_13 rfl rfl).trans ?_
  refine (s_bipush 17 6 mc_13 dX2_hear_15 rfl (by decide)).trans ?_
  refine (s_icmp_ge 64 20 mc_13 dX2_hear_17 rfl rfl).trans ?_
  refine ite_c ?_ ?_
  · skip
    refine (s_iconst 65 0 mc_13 dX2_hear_64 rfl (by decide)).trans ?_
    refine (s_istore 67 mc_13 dX2_hear_65 rfl (Nat.le_of_ble_eq_true rfl) rfl).trans ?_
    rfl
  · skip
    refine (s_aload_n 21 mc_13 dX2_hear_20 rfl rfl rfl).trans ?_
    refine (s_aload_n 22 mc_13 dX2_hear_21 rfl rfl rfl).trans ?_
    refine (s_aload_n 23 mc_13 dX2_hear_22 rfl rfl rfl).trans ?_
    refine (s_iload 25 mc_13 dX2_hear_23 rfl rfl).trans ?_
    refine (s_iviI 28 mc_13 dX2_hear_25 rfl mo_13 mm_2_77 (by decide) ms_12 mi_12 mr_12 ma_12 mo_12 (by decide) (Nat.le_of_ble_eq_true rfl) rfl rfl (Nat.le_of_ble_eq_true rfl)).trans ?_
    refine gd_c ?_
    refine bI_c fun r1 h1 => ?_
    refine (s_if_eq 43 31 mc_13 dX2_hear_28 rfl rfl).trans ?_
    refine ite_c ?_ ?_
    · skip
      refine (s_aload_n 44 mc_13 dX2_hear_43 rfl rfl rfl).trans ?_
      refine (s_getfI 47 mc_13 dX2_hear_44 rfl mo_13 fs_2_73 ff_2_73 (Or.inl rfl)).trans ?_
      refine gI_c fun g2 => ?_
      refine (s_putfI 50 mc_13 dX2_hear_47 rfl mo_13 ff_2_73 rfl (Or.inl rfl)).trans ?_
      refine fI_c fun h2 => ?_
      refine (s_aload_n 51 mc_13 dX2_hear_50 rfl rfl rfl).trans ?_
      refine (s_getfR 54 mc_13 dX2_hear_51 rfl mo_13 fs_2_29 ff_2_29 rfl).trans ?_
      refine gR_c fun g3 => ?_
      refine (s_iload 56 mc_13 dX2_hear_54 rfl rfl).trans ?_
      refine (s_iconst 57 0 mc_13 dX2_hear_56 rfl (by decide)).trans ?_
      refine (s_iastore 58 mc_13 dX2_hear_57 rfl).trans ?_
      refine wI_c fun h3 => ?_
      refine (s_iinc 1 61 mc_13 dX2_hear_58 rfl rfl (Nat.le_of_ble_eq_true rfl) (by decide) rfl).trans ?_
      refine (s_goto 13 mc_13 dX2_hear_61 rfl).trans ?_
      rfl
    · skip
      refine (s_aload_n 32 mc_13 dX2_hear_31 rfl rfl rfl).trans ?_
      refine (s_getfI 35 mc_13 dX2_hear_32 rfl mo_13 fs_2_73 ff_2_73 (Or.inl rfl)).trans ?_
      refine gI_c fun g4 => ?_
      refine (s_iconst 36 1 mc_13 dX2_hear_35 rfl (by decide)).trans ?_
      refine (s_iload 38 mc_13 dX2_hear_36 rfl rfl).trans ?_
      refine (s_ishl 39 mc_13 dX2_hear_38 rfl).trans ?_
      refine (s_ior 40 mc_13 dX2_hear_39 rfl).trans ?_
      refine (s_goto 47 mc_13 dX2_hear_40 rfl).trans ?_
      refine (s_putfI 50 mc_13 dX2_hear_47 rfl mo_13 ff_2_73 rfl (Or.inl rfl)).trans ?_
      refine fI_c fun h4 => ?_
      refine (s_aload_n 51 mc_13 dX2_hear_50 rfl rfl rfl).trans ?_
      refine (s_getfR 54 mc_13 dX2_hear_51 rfl mo_13 fs_2_29 ff_2_29 rfl).trans ?_
      refine gR_c fun g5 => ?_
      refine (s_iload 56 mc_13 dX2_hear_54 rfl rfl).trans ?_
      refine (s_iconst 57 0 mc_13 dX2_hear_56 rfl (by decide)).trans ?_
      refine (s_iastore 58 mc_13 dX2_hear_57 rfl).trans ?_
      refine wI_c fun h5 => ?_
      refine (s_iinc 1 61 mc_13 dX2_hear_58 rfl rfl (Nat.le_of_ble_eq_true rfl) (by decide) rfl).trans ?_
      refine (s_goto 13 mc_13 dX2_hear_61 rfl).trans ?_
      rfl
theorem b_13_67 {X : Ctx} {d : Nat} (x0 : Nat) (v1 : Option Value) (v2 : Option Value) (v3 : Option Value) (v4 : Option Value) (x5 : Int32) (v6 : Option Value)  (h : Hp) : sem (X, K X d) 13 67 [some (.ref x0), v1, v2, v3, v4, some (.int x5), v6] [] h = if 6 ≤ x5 then fI h 2 x0 15 0 fun h1 => sem (X, K X d) 13 124 [some (.ref x0), v1, v2, v3, v4, some (.int 0), v6] [] h1 else sem (X, K X d) 13 80 [some (.ref x0), v1, v2, v3, v4, some (.int x5), some (.int (x5 + 1))] [] h := by
  refine (s_iload 69 mc_13 dX2_hear_67 rfl rfl).trans ?_
  refine (s_bipush 71 6 mc_13 dX2_hear_69 rfl (by decide)).trans ?_
  refine (s_icmp_ge 116 74 mc_13 dX2_hear_71 rfl rfl).trans ?_
  refine ite_c ?_ ?_
  · skip
    refine (s_aload_n 117 mc_13 dX2_hear_116 rfl rfl rfl).trans ?_
    refine (s_iconst 118 0 mc_13 dX2_hear_117 rfl (by decide)).trans ?_
    refine (s_putfI 121 mc_13 dX2_hear_118 rfl mo_13 ff_2_89 rfl (Or.inl rfl)).trans ?_
    refine fI_c fun h1 => ?_
    refine (s_iconst 122 0 mc_13 dX2_hear_121 rfl (by decide)).trans ?_
    refine (s_istore 124 mc_13 dX2_hear_122 rfl (Nat.le_of_ble_eq_true rfl) rfl).trans ?_
    rfl
  · skip
    refine (s_iload 76 mc_13 dX2_hear_74 rfl rfl).trans ?_
    refine (s_iconst 77 1 mc_13 dX2_hear_76 rfl (by decide)).trans ?_
    refine (s_iadd 78 mc_13 dX2_hear_77 rfl).trans ?_
    refine (s_istore 80 mc_13 dX2_hear_78 rfl (Nat.le_of_ble_eq_true rfl) rfl).trans ?_
    rfl
theorem b_13_80 {X : Ctx} {d : Nat} (x0 : Nat) (v1 : Option Value) (x2 : Nat) (v3 : Option Value) (v4 : Option Value) (x5 : Int32) (x6 : Int32)  (h : Hp) : sem (X, K X d) 13 80 [some (.ref x0), v1, some (.ref x2), v3, v4, some (.int x5), some (.int x6)] [] h = if 6 ≤ x6 then sem (X, K X d) 13 67 [some (.ref x0), v1, some (.ref x2), v3, v4, some (.int (x5 + 1)), some (.int x6)] [] h else bI (K X d 141 [.int x5, .int x6] h) fun r1 h1 => aR h1 x2 r1 fun g2 => gd (hS h1 x0 = (3, 0)) (bV (K X d 14 [.ref x0, .ref g2, .int x5, .int x6] h1) fun h2 => sem (X, K X d) 13 80 [some (.ref x0), v1, some (.ref x2), v3, v4, some (.int x5), some (.int (x6 + 1))] [] h2) := by
  refine (s_iload 82 mc_13 dX2_hear_80 rfl rfl).trans ?_
  refine (s_bipush 84 6 mc_13 dX2_hear_82 rfl (by decide)).trans ?_
  refine (s_icmp_ge 110 87 mc_13 dX2_hear_84 rfl rfl).trans ?_
  refine ite_c ?_ ?_
  · skip
    refine (s_iinc 1 113 mc_13 dX2_hear_110 rfl rfl (Nat.le_of_ble_eq_true rfl) (by decide) rfl).trans ?_
    refine (s_goto 67 mc_13 dX2_hear_113 rfl).trans ?_
    rfl
  · skip
    refine (s_aload_n 88 mc_13 dX2_hear_87 rfl rfl rfl).trans ?_
    refine (s_aload_n 89 mc_13 dX2_hear_88 rfl rfl rfl).trans ?_
    refine (s_iload 91 mc_13 dX2_hear_89 rfl rfl).trans ?_
    refine (s_iload 93 mc_13 dX2_hear_91 rfl rfl).trans ?_
    refine (s_istI 96 mc_13 dX2_hear_93 rfl mo_13 mm_2_81 (by decide) ms_141 mr_141 ma_141 (Nat.le_of_ble_eq_true rfl) rfl rfl (Nat.le_of_ble_eq_true rfl)).trans ?_
    refine bI_c fun r1 h1 => ?_
    refine (s_aaload 97 mc_13 dX2_hear_96 rfl).trans ?_
    refine aR_c fun g2 => ?_
    refine (s_iload 99 mc_13 dX2_hear_97 rfl rfl).trans ?_
    refine (s_iload 101 mc_13 dX2_hear_99 rfl rfl).trans ?_
    refine (s_iviV 104 mc_13 dX2_hear_101 rfl mo_13 mm_2_85 (by decide) ms_14 mi_14 mr_14 ma_14 mo_14 (by decide) (Nat.le_of_ble_eq_true rfl) rfl rfl (Nat.le_of_ble_eq_true rfl)).trans ?_
    refine gd_c ?_
    refine bV_c fun h2 => ?_
    refine (s_iinc 1 107 mc_13 dX2_hear_104 rfl rfl (Nat.le_of_ble_eq_true rfl) (by decide) rfl).trans ?_
    refine (s_goto 80 mc_13 dX2_hear_107 rfl).trans ?_
    rfl
theorem b_13_124 {X : Ctx} {d : Nat} (x0 : Nat) (v1 : Option Value) (x2 : Nat) (v3 : Option Value) (v4 : Option Value) (x5 : Int32) (v6 : Option Value)  (h : Hp) : sem (X, K X d) 13 124 [some (.ref x0), v1, some (.ref x2), v3, v4, some (.int x5), v6] [] h = if 6 ≤ x5 then gd (hS h x0 = (3, 0)) (bV (K X d 16 [.ref x0, .ref x2] h) fun h1 => some (none, h1)) else gI h 2 x0 14 fun g1 => bI (K X d 140 [.long (g1 : Int32).toInt64, .int x5] h) fun r2 h2 => if r2 = 0 then gI h2 2 x0 15 fun g3 => sem (X, K X d) 13 171 [some (.ref x0), v1, some (.ref x2), v3, v4, some (.int x5), v6] [.int g3, .ref x0] h2 else gR h2 2 x0 4 fun g4 => aI X h2 g4 x5 fun g5 => if ¬ g5 = 0 then gI h2 2 x0 15 fun g6 => sem (X, K X d) 13 171 [some (.ref x0), v1, some (.ref x2), v3, v4, some (.int x5), v6] [.int g6, .ref x0] h2 else gI h2 2 x0 15 fun g7 => sem (X, K X d) 13 171 [some (.ref x0), v1, some (.ref x2), v3, v4, some (.int x5), v6] [.int (g7 ||| (1 <<< (x5 &&& 31))), .ref x0] h2 := by
  refine (s_iload 126 mc_13 dX2_hear_124 rfl rfl).trans ?_
  refine (s_bipush 128 6 mc_13 dX2_hear_126 rfl (by decide)).trans ?_
  refine (s_icmp_ge 218 131 mc_13 dX2_hear_128 rfl rfl).trans ?_
  refine ite_c ?_ ?_
  · skip
    refine (s_aload_n 219 mc_13 dX2_hear_218 rfl rfl rfl).trans ?_
    refine (s_aload_n 220 mc_13 dX2_hear_219 rfl rfl rfl).trans ?_
    refine (s_iviV 223 mc_13 dX2_hear_220 rfl mo_13 mm_2_100 (by decide) ms_16 mi_16 mr_16 ma_16 mo_16 (by decide) (Nat.le_of_ble_eq_true rfl) rfl rfl (Nat.le_of_ble_eq_true rfl)).trans ?_
    refine gd_c ?_
    refine bV_c fun h1 => ?_
    exact s_vret mc_13 dX2_hear_223 mt_13
  · skip
    refine (s_aload_n 132 mc_13 dX2_hear_131 rfl rfl rfl).trans ?_
    refine (s_aload_n 133 mc_13 dX2_hear_132 rfl rfl rfl).trans ?_
    refine (s_getfI 136 mc_13 dX2_hear_133 rfl mo_13 fs_2_73 ff_2_73 (Or.inl rfl)).trans ?_
    refine gI_c fun g1 => ?_
    refine (s_i2l 137 mc_13 dX2_hear_136 rfl).trans ?_
    refine (s_iload 139 mc_13 dX2_hear_137 rfl rfl).trans ?_
    refine (s_istI 142 mc_13 dX2_hear_139 rfl mo_13 mm_2_92 (by decide) ms_140 mr_140 ma_140 (Nat.le_of_ble_eq_true rfl) rfl rfl (Nat.le_of_ble_eq_true rfl)).trans ?_
    refine bI_c fun r2 h2 => ?_
    refine (s_if_eq 167 145 mc_13 dX2_hear_142 rfl rfl).trans ?_
    refine ite_c ?_ ?_
    · skip
      refine (s_aload_n 168 mc_13 dX2_hear_167 rfl rfl rfl).trans ?_
      refine (s_getfI 171 mc_13 dX2_hear_168 rfl mo_13 fs_2_89 ff_2_89 (Or.inl rfl)).trans ?_
      refine gI_c fun g3 => ?_
      rfl
    · skip
      refine (s_aload_n 146 mc_13 dX2_hear_145 rfl rfl rfl).trans ?_
      refine (s_getfR 149 mc_13 dX2_hear_146 rfl mo_13 fs_2_29 ff_2_29 rfl).trans ?_
      refine gR_c fun g4 => ?_
      refine (s_iload 151 mc_13 dX2_hear_149 rfl rfl).trans ?_
      refine (s_iaload 152 mc_13 dX2_hear_151 rfl).trans ?_
      refine aI_c fun g5 => ?_
      refine (s_if_ne 167 155 mc_13 dX2_hear_152 rfl rfl).trans ?_
      refine ite_c ?_ ?_
      · skip
        refine (s_aload_n 168 mc_13 dX2_hear_167 rfl rfl rfl).trans ?_
        refine (s_getfI 171 mc_13 dX2_hear_168 rfl mo_13 fs_2_89 ff_2_89 (Or.inl rfl)).trans ?_
        refine gI_c fun g6 => ?_
        rfl
      · skip
        refine (s_aload_n 156 mc_13 dX2_hear_155 rfl rfl rfl).trans ?_
        refine (s_getfI 159 mc_13 dX2_hear_156 rfl mo_13 fs_2_89 ff_2_89 (Or.inl rfl)).trans ?_
        refine gI_c fun g7 => ?_
        refine (s_iconst 160 1 mc_13 dX2_hear_159 rfl (by decide)).trans ?_
        refine (s_iload 162 mc_13 dX2_hear_160 rfl rfl).trans ?_
        refine (s_ishl 163 mc_13 dX2_hear_162 rfl).trans ?_
        refine (s_ior 164 mc_13 dX2_hear_163 rfl).trans ?_
        refine (s_goto 171 mc_13 dX2_hear_164 rfl).trans ?_
        rfl
theorem b_13_171 {X : Ctx} {d : Nat} (x0 : Nat) (v1 : Option Value) (v2 : Option Value) (v3 : Option Value) (v4 : Option Value) (x5 : Int32) (v6 : Option Value) (s0 : Nat) (s1 : Int32) (h : Hp) : sem (X, K X d) 13 171 [some (.ref x0), v1, v2, v3, v4, some (.int x5), v6] [.int s1, .ref s0] h = fI h 2 s0 15 s1 fun h1 => gR h1 2 x0 7 fun g1 => gI h1 2 x0 15 fun g2 => bI (K X d 140 [.long (g2 : Int32).toInt64, .int x5] h1) fun r3 h2 => if r3 = 0 then wJ h2 g1 x5 0 fun h3 => sem (X, K X d) 13 124 [some (.ref x0), v1, v2, v3, v4, some (.int (x5 + 1)), v6] [] h3 else gR h2 2 x0 0 fun g4 => aR h2 g4 x5 fun g5 => gJ h2 2 x0 13 fun g6 => gd (hS h2 g5 = (2, 0)) (bJ (K X d 8 [.ref g5, .long g6] h2) fun r7 h4 => wJ h4 g1 x5 r7 fun h5 => sem (X, K X d) 13 124 [some (.ref x0), v1, v2, v3, v4, some (.int (x5 + 1)), v6] [] h5) := by
  refine (s_putfI 174 mc_13 dX2_hear_171 rfl mo_13 ff_2_89 rfl (Or.inl rfl)).trans ?_
  refine fI_c fun h1 => ?_
  refine (s_aload_n 175 mc_13 dX2_hear_174 rfl rfl rfl).trans ?_
  refine (s_getfR 178 mc_13 dX2_hear_175 rfl mo_13 fs_2_38 ff_2_38 rfl).trans ?_
  refine gR_c fun g1 => ?_
  refine (s_iload 180 mc_13 dX2_hear_178 rfl rfl).trans ?_
  refine (s_aload_n 181 mc_13 dX2_hear_180 rfl rfl rfl).trans ?_
  refine (s_getfI 184 mc_13 dX2_hear_181 rfl mo_13 fs_2_89 ff_2_89 (Or.inl rfl)).trans ?_
  refine gI_c fun g2 => ?_
  refine (s_i2l 185 mc_13 dX2_hear_184 rfl).trans ?_
  refine (s_iload 187 mc_13 dX2_hear_185 rfl rfl).trans ?_
  refine (s_istI 190 mc_13 dX2_hear_187 rfl mo_13 mm_2_92 (by decide) ms_140 mr_140 ma_140 (Nat.le_of_ble_eq_true rfl) rfl rfl (Nat.le_of_ble_eq_true rfl)).trans ?_
  refine bI_c fun r3 h2 => ?_
  refine (s_if_eq 210 193 mc_13 dX2_hear_190 rfl rfl).trans ?_
  refine ite_c ?_ ?_
  · skip
    refine (s_lconst 211 0 mc_13 dX2_hear_210 rfl (by decide)).trans ?_
    refine (s_lastore 212 mc_13 dX2_hear_211 rfl).trans ?_
    refine wJ_c fun h3 => ?_
    refine (s_iinc 1 215 mc_13 dX2_hear_212 rfl rfl (Nat.le_of_ble_eq_true rfl) (by decide) rfl).trans ?_
    refine (s_goto 124 mc_13 dX2_hear_215 rfl).trans ?_
    rfl
  · skip
    refine (s_aload_n 194 mc_13 dX2_hear_193 rfl rfl rfl).trans ?_
    refine (s_getfR 197 mc_13 dX2_hear_194 rfl mo_13 fs_2_11 ff_2_11 rfl).trans ?_
    refine gR_c fun g4 => ?_
    refine (s_iload 199 mc_13 dX2_hear_197 rfl rfl).trans ?_
    refine (s_aaload 200 mc_13 dX2_hear_199 rfl).trans ?_
    refine aR_c fun g5 => ?_
    refine (s_aload_n 201 mc_13 dX2_hear_200 rfl rfl rfl).trans ?_
    refine (s_getfJ 204 mc_13 dX2_hear_201 rfl mo_13 fs_2_69 ff_2_69 rfl).trans ?_
    refine gJ_c fun g6 => ?_
    refine (s_iviJ 207 mc_13 dX2_hear_204 rfl mo_13 mm_2_96 (by decide) ms_8 mi_8 mr_8 ma_8 mo_8 (by decide) (Nat.le_of_ble_eq_true rfl) rfl rfl (Nat.le_of_ble_eq_true rfl)).trans ?_
    refine gd_c ?_
    refine bJ_c fun r7 h4 => ?_
    refine (s_goto 211 mc_13 dX2_hear_207 rfl).trans ?_
    refine (s_lastore 212 mc_13 dX2_hear_211 rfl).trans ?_
    refine wJ_c fun h5 => ?_
    refine (s_iinc 1 215 mc_13 dX2_hear_212 rfl rfl (Nat.le_of_ble_eq_true rfl) (by decide) rfl).trans ?_
    refine (s_goto 124 mc_13 dX2_hear_215 rfl).trans ?_
    rfl
/-- FiveLands$Levy.giveWay(LFiveLands$Pact;II)V -/
theorem k_14 {X : Ctx} {d : Nat} (x0 : Nat) (x1 : Nat) (x2 : Int32) (x3 : Int32) (h : Hp) : K X (d + 1) 14 [.ref x0, .ref x1, .int x2, .int x3] h = gI h 2 x0 14 fun g1 => bI (K X d 140 [.long (g1 : Int32).toInt64, .int x2] h) fun r2 h1 => if r2 = 0 then some (none, h1) else gI h1 2 x0 14 fun g3 => bI (K X d 140 [.long (g3 : Int32).toInt64, .int x3] h1) fun r4 h2 => if ¬ r4 = 0 then gd (hS h2 x0 = (3, 0)) (bI (K X d 15 [.ref x0, .ref x1, .int x2, .int x3] h2) fun r5 h3 => if r5 = (-1) then some (none, h3) else gR h3 3 x1 0 fun g6 => aI X h3 g6 r5 fun g7 => gR h3 2 x0 1 fun g8 => aR h3 g8 x2 fun g9 => aI X h3 g9 g7 fun g10 => gR h3 2 x0 1 fun g11 => aR h3 g11 x3 fun g12 => aI X h3 g12 g7 fun g13 => if g10 ≤ g13 then gR h3 2 x0 4 fun g14 => if (0 : Int32) = 0 then sem (X, K X d) 14 91 [some (.ref x0), some (.ref x1), some (.int x2), some (.int x3), some (.int r5), some (.int g7), some (.int 0)] [.int x2, .ref g14] h3 else sem (X, K X d) 14 91 [some (.ref x0), some (.ref x1), some (.int x2), some (.int x3), some (.int r5), some (.int g7), some (.int 0)] [.int x3, .ref g14] h3 else gR h3 2 x0 4 fun g15 => if (1 : Int32) = 0 then sem (X, K X d) 14 91 [some (.ref x0), some (.ref x1), some (.int x2), some (.int x3), some (.int r5), some (.int g7), some (.int 1)] [.int x2, .ref g15] h3 else sem (X, K X d) 14 91 [some (.ref x0), some (.ref x1), some (.int x2), some (.int x3), some (.int r5), some (.int g7), some (.int 1)] [.int x3, .ref g15] h3) else some (none, h2) := by
  show sem (X, K X d) 14 0 [some (.ref x0), some (.ref x1), some (.int x2), some (.int x3), none, none, none] [] h = _
  refine (s_aload_n 1 mc_14 dX2_giveWay_0 rfl rfl rfl).trans ?_
  refine (s_getfI 4 mc_14 dX2_giveWay_1 rfl mo_14 fs_2_73 ff_2_73 (Or.inl rfl)).trans ?_
  refine gI_c fun g1 => ?_
  refine (s_i2l 5 mc_14 dX2_giveWay_4 rfl).trans ?_
  refine (s_iload_n 6 mc_14 dX2_giveWay_5 rfl rfl rfl).trans ?_
  refine (s_istI 9 mc_14 dX2_giveWay_6 rfl mo_14 mm_2_92 (by decide) ms_140 mr_140 ma_140 (Nat.le_of_ble_eq_true rfl) rfl rfl (Nat.le_of_ble_eq_true rfl)).trans ?_
  refine bI_c fun r2 h1 => ?_
  refine (s_if_eq 24 12 mc_14 dX2_giveWay_9 rfl rfl).trans ?_
  refine ite_c ?_ ?_
  · skip
    exact s_vret mc_14 dX2_giveWay_24 mt_14
  · skip
    refine (s_aload_n 13 mc_14 dX2_giveWay_12 rfl rfl rfl).trans ?_
    refine (s_getfI 16 mc_14 dX2_giveWay_13 rfl mo_14 fs_2_73 ff_2_73 (Or.inl rfl)).trans ?_
    refine gI_c fun g3 => ?_
    refine (s_i2l 17 mc_14 dX2_giveWay_16 rfl).trans ?_
    refine (s_iload_n 18 mc_14 dX2_giveWay_17 rfl rfl rfl).trans ?_
    refine (s_istI 21 mc_14 dX2_giveWay_18 rfl mo_14 mm_2_92 (by decide) ms_140 mr_140 ma_140 (Nat.le_of_ble_eq_true rfl) rfl rfl (Nat.le_of_ble_eq_true rfl)).trans ?_
    refine bI_c fun r4 h2 => ?_
    refine (s_if_ne 25 24 mc_14 dX2_giveWay_21 rfl rfl).trans ?_
    refine ite_c ?_ ?_
    · skip
      refine (s_aload_n 26 mc_14 dX2_giveWay_25 rfl rfl rfl).trans ?_
      refine (s_aload_n 27 mc_14 dX2_giveWay_26 rfl rfl rfl).trans ?_
      refine (s_iload_n 28 mc_14 dX2_giveWay_27 rfl rfl rfl).trans ?_
      refine (s_iload_n 29 mc_14 dX2_giveWay_28 rfl rfl rfl).trans ?_
      refine (s_iviI 32 mc_14 dX2_giveWay_29 rfl mo_14 mm_2_104 (by decide) ms_15 mi_15 mr_15 ma_15 mo_15 (by decide) (Nat.le_of_ble_eq_true rfl) rfl rfl (Nat.le_of_ble_eq_true rfl)).trans ?_
      refine gd_c ?_
      refine bI_c fun r5 h3 => ?_
      refine (s_istore 34 mc_14 dX2_giveWay_32 rfl (Nat.le_of_ble_eq_true rfl) rfl).trans ?_
      refine (s_iload 36 mc_14 dX2_giveWay_34 rfl rfl).trans ?_
      refine (s_iconst 37 (-1) mc_14 dX2_giveWay_36 rfl (by decide)).trans ?_
      refine (s_icmp_eq 107 40 mc_14 dX2_giveWay_37 rfl rfl).trans ?_
      refine ite_c ?_ ?_
      · skip
        exact s_vret mc_14 dX2_giveWay_107 mt_14
      · skip
        refine (s_aload_n 41 mc_14 dX2_giveWay_40 rfl rfl rfl).trans ?_
        refine (s_getfR 44 mc_14 dX2_giveWay_41 rfl mo_14 fs_2_108 ff_2_108 rfl).trans ?_
        refine gR_c fun g6 => ?_
        refine (s_iload 46 mc_14 dX2_giveWay_44 rfl rfl).trans ?_
        refine (s_iaload 47 mc_14 dX2_giveWay_46 rfl).trans ?_
        refine aI_c fun g7 => ?_
        refine (s_istore 49 mc_14 dX2_giveWay_47 rfl (Nat.le_of_ble_eq_true rfl) rfl).trans ?_
        refine (s_aload_n 50 mc_14 dX2_giveWay_49 rfl rfl rfl).trans ?_
        refine (s_getfR 53 mc_14 dX2_giveWay_50 rfl mo_14 fs_2_19 ff_2_19 rfl).trans ?_
        refine gR_c fun g8 => ?_
        refine (s_iload_n 54 mc_14 dX2_giveWay_53 rfl rfl rfl).trans ?_
        refine (s_aaload 55 mc_14 dX2_giveWay_54 rfl).trans ?_
        refine aR_c fun g9 => ?_
        refine (s_iload 57 mc_14 dX2_giveWay_55 rfl rfl).trans ?_
        refine (s_iaload 58 mc_14 dX2_giveWay_57 rfl).trans ?_
        refine aI_c fun g10 => ?_
        refine (s_aload_n 59 mc_14 dX2_giveWay_58 rfl rfl rfl).trans ?_
        refine (s_getfR 62 mc_14 dX2_giveWay_59 rfl mo_14 fs_2_19 ff_2_19 rfl).trans ?_
        refine gR_c fun g11 => ?_
        refine (s_iload_n 63 mc_14 dX2_giveWay_62 rfl rfl rfl).trans ?_
        refine (s_aaload 64 mc_14 dX2_giveWay_63 rfl).trans ?_
        refine aR_c fun g12 => ?_
        refine (s_iload 66 mc_14 dX2_giveWay_64 rfl rfl).trans ?_
        refine (s_iaload 67 mc_14 dX2_giveWay_66 rfl).trans ?_
        refine aI_c fun g13 => ?_
        refine (s_icmp_le 74 70 mc_14 dX2_giveWay_67 rfl rfl).trans ?_
        refine ite_c ?_ ?_
        · skip
          refine (s_iconst 75 0 mc_14 dX2_giveWay_74 rfl (by decide)).trans ?_
          refine (s_istore 77 mc_14 dX2_giveWay_75 rfl (Nat.le_of_ble_eq_true rfl) rfl).trans ?_
          refine (s_aload_n 78 mc_14 dX2_giveWay_77 rfl rfl rfl).trans ?_
          refine (s_getfR 81 mc_14 dX2_giveWay_78 rfl mo_14 fs_2_29 ff_2_29 rfl).trans ?_
          refine gR_c fun g14 => ?_
          refine (s_iload 83 mc_14 dX2_giveWay_81 rfl rfl).trans ?_
          refine (s_if_eq 90 86 mc_14 dX2_giveWay_83 rfl rfl).trans ?_
          refine ite_c ?_ ?_
          · skip
            refine (s_iload_n 91 mc_14 dX2_giveWay_90 rfl rfl rfl).trans ?_
            rfl
          · skip
            refine (s_iload_n 87 mc_14 dX2_giveWay_86 rfl rfl rfl).trans ?_
            refine (s_goto 91 mc_14 dX2_giveWay_87 rfl).trans ?_
            rfl
        · skip
          refine (s_iconst 71 1 mc_14 dX2_giveWay_70 rfl (by decide)).trans ?_
          refine (s_goto 75 mc_14 dX2_giveWay_71 rfl).trans ?_
          refine (s_istore 77 mc_14 dX2_giveWay_75 rfl (Nat.le_of_ble_eq_true rfl) rfl).trans ?_
          refine (s_aload_n 78 mc_14 dX2_giveWay_77 rfl rfl rfl).trans ?_
          refine (s_getfR 81 mc_14 dX2_giveWay_78 rfl mo_14 fs_2_29 ff_2_29 rfl).trans ?_
          refine gR_c fun g15 => ?_
          refine (s_iload 83 mc_14 dX2_giveWay_81 rfl rfl).trans ?_
          refine (s_if_eq 90 86 mc_14 dX2_giveWay_83 rfl rfl).trans ?_
          refine ite_c ?_ ?_
          · skip
            refine (s_iload_n 91 mc_14 dX2_giveWay_90 rfl rfl rfl).trans ?_
            rfl
          · skip
            refine (s_iload_n 87 mc_14 dX2_giveWay_86 rfl rfl rfl).trans ?_
            refine (s_goto 91 mc_14 dX2_giveWay_87 rfl).trans ?_
            rfl
    · skip
      exact s_vret mc_14 dX2_giveWay_24 mt_14
theorem b_14_91 {X : Ctx} {d : Nat} (v0 : Option Value) (v1 : Option Value) (x2 : Int32) (x3 : Int32) (v4 : Option Value) (v5 : Option Value) (x6 : Int32) (s0 : Nat) (s1 : Int32) (h : Hp) : sem (X, K X d) 14 91 [v0, v1, some (.int x2), some (.int x3), v4, v5, some (.int x6)] [.int s1, .ref s0] h = aI X h s0 s1 fun g1 => if x6 = 0 then wI h s0 s1 (g1 ||| (1 <<< (x3 &&& 31))) fun h1 => some (none, h1) else wI h s0 s1 (g1 ||| (1 <<< (x2 &&& 31))) fun h2 => some (none, h2) := by
  refine (s_dup2 92 mc_14 dX2_giveWay_91 rfl rfl rfl).trans ?_
  refine (s_iaload 93 mc_14 dX2_giveWay_92 rfl).trans ?_
  refine aI_c fun g1 => ?_
  refine (s_iconst 94 1 mc_14 dX2_giveWay_93 rfl (by decide)).trans ?_
  refine (s_iload 96 mc_14 dX2_giveWay_94 rfl rfl).trans ?_
  refine (s_if_eq 103 99 mc_14 dX2_giveWay_96 rfl rfl).trans ?_
  refine ite_c ?_ ?_
  · skip
    refine (s_iload_n 104 mc_14 dX2_giveWay_103 rfl rfl rfl).trans ?_
    refine (s_ishl 105 mc_14 dX2_giveWay_104 rfl).trans ?_
    refine (s_ior 106 mc_14 dX2_giveWay_105 rfl).trans ?_
    refine (s_iastore 107 mc_14 dX2_giveWay_106 rfl).trans ?_
    refine wI_c fun h1 => ?_
    exact s_vret mc_14 dX2_giveWay_107 mt_14
  · skip
    refine (s_iload_n 100 mc_14 dX2_giveWay_99 rfl rfl rfl).trans ?_
    refine (s_goto 104 mc_14 dX2_giveWay_100 rfl).trans ?_
    refine (s_ishl 105 mc_14 dX2_giveWay_104 rfl).trans ?_
    refine (s_ior 106 mc_14 dX2_giveWay_105 rfl).trans ?_
    refine (s_iastore 107 mc_14 dX2_giveWay_106 rfl).trans ?_
    refine wI_c fun h2 => ?_
    exact s_vret mc_14 dX2_giveWay_107 mt_14
/-- FiveLands$Levy.deciding(LFiveLands$Pact;II)I -/
theorem k_15 {X : Ctx} {d : Nat} (x0 : Nat) (x1 : Nat) (x2 : Int32) (x3 : Int32) (h : Hp) : K X (d + 1) 15 [.ref x0, .ref x1, .int x2, .int x3] h = sem (X, K X d) 15 3 [some (.ref x0), some (.ref x1), some (.int x2), some (.int x3), some (.int 0), none] [] h := by
  show sem (X, K X d) 15 0 [some (.ref x0), some (.ref x1), some (.int x2), some (.int x3), none, none] [] h = _
  refine (s_iconst 1 0 mc_15 dX2_deciding_0 rfl (by decide)).trans ?_
  refine (s_istore 3 mc_15 dX2_deciding_1 rfl (Nat.le_of_ble_eq_true rfl) rfl).trans ?_
  rfl
theorem b_15_3 {X : Ctx} {d : Nat} (x0 : Nat) (x1 : Nat) (x2 : Int32) (x3 : Int32) (x4 : Int32) (v5 : Option Value)  (h : Hp) : sem (X, K X d) 15 3 [some (.ref x0), some (.ref x1), some (.int x2), some (.int x3), some (.int x4), v5] [] h = gI h 3 x1 2 fun g1 => if g1 ≤ x4 then some (some (.int (-1)), h) else gR h 3 x1 0 fun g2 => aI X h g2 x4 fun g3 => gR h 2 x0 1 fun g4 => aR h g4 x2 fun g5 => aI X h g5 g3 fun g6 => gR h 2 x0 1 fun g7 => aR h g7 x3 fun g8 => aI X h g8 g3 fun g9 => if g6 = g9 then sem (X, K X d) 15 3 [some (.ref x0), some (.ref x1), some (.int x2), some (.int x3), some (.int (x4 + 1)), some (.int g3)] [] h else some (some (.int x4), h) := by
  refine (s_iload 5 mc_15 dX2_deciding_3 rfl rfl).trans ?_
  refine (s_aload_n 6 mc_15 dX2_deciding_5 rfl rfl rfl).trans ?_
  refine (s_getfI 9 mc_15 dX2_deciding_6 rfl mo_15 fs_2_113 ff_2_113 (Or.inl rfl)).trans ?_
  refine gI_c fun g1 => ?_
  refine (s_icmp_ge 51 12 mc_15 dX2_deciding_9 rfl rfl).trans ?_
  refine ite_c ?_ ?_
  · skip
    refine (s_iconst 52 (-1) mc_15 dX2_deciding_51 rfl (by decide)).trans ?_
    exact s_iret mc_15 dX2_deciding_52 mt_15
  · skip
    refine (s_aload_n 13 mc_15 dX2_deciding_12 rfl rfl rfl).trans ?_
    refine (s_getfR 16 mc_15 dX2_deciding_13 rfl mo_15 fs_2_108 ff_2_108 rfl).trans ?_
    refine gR_c fun g2 => ?_
    refine (s_iload 18 mc_15 dX2_deciding_16 rfl rfl).trans ?_
    refine (s_iaload 19 mc_15 dX2_deciding_18 rfl).trans ?_
    refine aI_c fun g3 => ?_
    refine (s_istore 21 mc_15 dX2_deciding_19 rfl (Nat.le_of_ble_eq_true rfl) rfl).trans ?_
    refine (s_aload_n 22 mc_15 dX2_deciding_21 rfl rfl rfl).trans ?_
    refine (s_getfR 25 mc_15 dX2_deciding_22 rfl mo_15 fs_2_19 ff_2_19 rfl).trans ?_
    refine gR_c fun g4 => ?_
    refine (s_iload_n 26 mc_15 dX2_deciding_25 rfl rfl rfl).trans ?_
    refine (s_aaload 27 mc_15 dX2_deciding_26 rfl).trans ?_
    refine aR_c fun g5 => ?_
    refine (s_iload 29 mc_15 dX2_deciding_27 rfl rfl).trans ?_
    refine (s_iaload 30 mc_15 dX2_deciding_29 rfl).trans ?_
    refine aI_c fun g6 => ?_
    refine (s_aload_n 31 mc_15 dX2_deciding_30 rfl rfl rfl).trans ?_
    refine (s_getfR 34 mc_15 dX2_deciding_31 rfl mo_15 fs_2_19 ff_2_19 rfl).trans ?_
    refine gR_c fun g7 => ?_
    refine (s_iload_n 35 mc_15 dX2_deciding_34 rfl rfl rfl).trans ?_
    refine (s_aaload 36 mc_15 dX2_deciding_35 rfl).trans ?_
    refine aR_c fun g8 => ?_
    refine (s_iload 38 mc_15 dX2_deciding_36 rfl rfl).trans ?_
    refine (s_iaload 39 mc_15 dX2_deciding_38 rfl).trans ?_
    refine aI_c fun g9 => ?_
    refine (s_icmp_eq 45 42 mc_15 dX2_deciding_39 rfl rfl).trans ?_
    refine ite_c ?_ ?_
    · skip
      refine (s_iinc 1 48 mc_15 dX2_deciding_45 rfl rfl (Nat.le_of_ble_eq_true rfl) (by decide) rfl).trans ?_
      refine (s_goto 3 mc_15 dX2_deciding_48 rfl).trans ?_
      rfl
    · skip
      refine (s_iload 44 mc_15 dX2_deciding_42 rfl rfl).trans ?_
      exact s_iret mc_15 dX2_deciding_44 mt_15
/-- FiveLands$Levy.under([LFiveLands$Pact;)V -/
theorem k_16 {X : Ctx} {d : Nat} (x0 : Nat) (x1 : Nat) (h : Hp) : K X (d + 1) 16 [.ref x0, .ref x1] h = fR h 2 x0 12 x1 fun h1 => fI h1 2 x0 16 0 fun h2 => sem (X, K X d) 16 12 [some (.ref x0), some (.ref x1), some (.int 0), none] [] h2 := by
  show sem (X, K X d) 16 0 [some (.ref x0), some (.ref x1), none, none] [] h = _
  refine (s_aload_n 1 mc_16 dX2_under_0 rfl rfl rfl).trans ?_
  refine (s_aload_n 2 mc_16 dX2_under_1 rfl rfl rfl).trans ?_
  refine (s_putfR 5 mc_16 dX2_under_2 rfl mo_16 ff_2_116 rfl (Or.inl rfl)).trans ?_
  refine fR_c fun h1 => ?_
  refine (s_aload_n 6 mc_16 dX2_under_5 rfl rfl rfl).trans ?_
  refine (s_iconst 7 0 mc_16 dX2_under_6 rfl (by decide)).trans ?_
  refine (s_putfI 10 mc_16 dX2_under_7 rfl mo_16 ff_2_120 rfl (Or.inl rfl)).trans ?_
  refine fI_c fun h2 => ?_
  refine (s_iconst 11 0 mc_16 dX2_under_10 rfl (by decide)).trans ?_
  refine (s_istore_n 12 mc_16 dX2_under_11 rfl rfl (Nat.le_of_ble_eq_true rfl) rfl).trans ?_
  rfl
theorem b_16_12 {X : Ctx} {d : Nat} (x0 : Nat) (v1 : Option Value) (x2 : Int32) (v3 : Option Value)  (h : Hp) : sem (X, K X d) 16 12 [some (.ref x0), v1, some (.int x2), v3] [] h = if 6 ≤ x2 then some (none, h) else gR h 2 x0 5 fun g1 => wI h g1 x2 0 fun h1 => gR h1 2 x0 6 fun g2 => wI h1 g2 x2 0 fun h2 => sem (X, K X d) 16 34 [some (.ref x0), v1, some (.int x2), some (.int 0)] [] h2 := by
  refine (s_iload_n 13 mc_16 dX2_under_12 rfl rfl rfl).trans ?_
  refine (s_bipush 15 6 mc_16 dX2_under_13 rfl (by decide)).trans ?_
  refine (s_icmp_ge 70 18 mc_16 dX2_under_15 rfl rfl).trans ?_
  refine ite_c ?_ ?_
  · skip
    exact s_vret mc_16 dX2_under_70 mt_16
  · skip
    refine (s_aload_n 19 mc_16 dX2_under_18 rfl rfl rfl).trans ?_
    refine (s_getfR 22 mc_16 dX2_under_19 rfl mo_16 fs_2_32 ff_2_32 rfl).trans ?_
    refine gR_c fun g1 => ?_
    refine (s_iload_n 23 mc_16 dX2_under_22 rfl rfl rfl).trans ?_
    refine (s_iconst 24 0 mc_16 dX2_under_23 rfl (by decide)).trans ?_
    refine (s_iastore 25 mc_16 dX2_under_24 rfl).trans ?_
    refine wI_c fun h1 => ?_
    refine (s_aload_n 26 mc_16 dX2_under_25 rfl rfl rfl).trans ?_
    refine (s_getfR 29 mc_16 dX2_under_26 rfl mo_16 fs_2_35 ff_2_35 rfl).trans ?_
    refine gR_c fun g2 => ?_
    refine (s_iload_n 30 mc_16 dX2_under_29 rfl rfl rfl).trans ?_
    refine (s_iconst 31 0 mc_16 dX2_under_30 rfl (by decide)).trans ?_
    refine (s_iastore 32 mc_16 dX2_under_31 rfl).trans ?_
    refine wI_c fun h2 => ?_
    refine (s_iconst 33 0 mc_16 dX2_under_32 rfl (by decide)).trans ?_
    refine (s_istore_n 34 mc_16 dX2_under_33 rfl rfl (Nat.le_of_ble_eq_true rfl) rfl).trans ?_
    rfl
theorem b_16_34 {X : Ctx} {d : Nat} (x0 : Nat) (x1 : Nat) (x2 : Int32) (x3 : Int32)  (h : Hp) : sem (X, K X d) 16 34 [some (.ref x0), some (.ref x1), some (.int x2), some (.int x3)] [] h = if 6 ≤ x3 then sem (X, K X d) 16 12 [some (.ref x0), some (.ref x1), some (.int (x2 + 1)), some (.int x3)] [] h else if x3 = x2 then sem (X, K X d) 16 34 [some (.ref x0), some (.ref x1), some (.int x2), some (.int (x3 + 1))] [] h else bI (K X d 141 [.int x2, .int x3] h) fun r1 h1 => aR h1 x1 r1 fun g2 => gd (hS h1 x0 = (3, 0)) (bV (K X d 17 [.ref x0, .int x2, .int x3, .ref g2] h1) fun h2 => sem (X, K X d) 16 34 [some (.ref x0), some (.ref x1), some (.int x2), some (.int (x3 + 1))] [] h2) := by
  refine (s_iload_n 35 mc_16 dX2_under_34 rfl rfl rfl).trans ?_
  refine (s_bipush 37 6 mc_16 dX2_under_35 rfl (by decide)).trans ?_
  refine (s_icmp_ge 64 40 mc_16 dX2_under_37 rfl rfl).trans ?_
  refine ite_c ?_ ?_
  · skip
    refine (s_iinc 1 67 mc_16 dX2_under_64 rfl rfl (Nat.le_of_ble_eq_true rfl) (by decide) rfl).trans ?_
    refine (s_goto 12 mc_16 dX2_under_67 rfl).trans ?_
    rfl
  · skip
    refine (s_iload_n 41 mc_16 dX2_under_40 rfl rfl rfl).trans ?_
    refine (s_iload_n 42 mc_16 dX2_under_41 rfl rfl rfl).trans ?_
    refine (s_icmp_eq 58 45 mc_16 dX2_under_42 rfl rfl).trans ?_
    refine ite_c ?_ ?_
    · skip
      refine (s_iinc 1 61 mc_16 dX2_under_58 rfl rfl (Nat.le_of_ble_eq_true rfl) (by decide) rfl).trans ?_
      refine (s_goto 34 mc_16 dX2_under_61 rfl).trans ?_
      rfl
    · skip
      refine (s_aload_n 46 mc_16 dX2_under_45 rfl rfl rfl).trans ?_
      refine (s_iload_n 47 mc_16 dX2_under_46 rfl rfl rfl).trans ?_
      refine (s_iload_n 48 mc_16 dX2_under_47 rfl rfl rfl).trans ?_
      refine (s_aload_n 49 mc_16 dX2_under_48 rfl rfl rfl).trans ?_
      refine (s_iload_n 50 mc_16 dX2_under_49 rfl rfl rfl).trans ?_
      refine (s_iload_n 51 mc_16 dX2_under_50 rfl rfl rfl).trans ?_
      refine (s_istI 54 mc_16 dX2_under_51 rfl mo_16 mm_2_81 (by decide) ms_141 mr_141 ma_141 (Nat.le_of_ble_eq_true rfl) rfl rfl (Nat.le_of_ble_eq_true rfl)).trans ?_
      refine bI_c fun r1 h1 => ?_
      refine (s_aaload 55 mc_16 dX2_under_54 rfl).trans ?_
      refine aR_c fun g2 => ?_
      refine (s_iviV 58 mc_16 dX2_under_55 rfl mo_16 mm_2_123 (by decide) ms_17 mi_17 mr_17 ma_17 mo_17 (by decide) (Nat.le_of_ble_eq_true rfl) rfl rfl (Nat.le_of_ble_eq_true rfl)).trans ?_
      refine gd_c ?_
      refine bV_c fun h2 => ?_
      refine (s_iinc 1 61 mc_16 dX2_under_58 rfl rfl (Nat.le_of_ble_eq_true rfl) (by decide) rfl).trans ?_
      refine (s_goto 34 mc_16 dX2_under_61 rfl).trans ?_
      rfl
/-- FiveLands$Levy.meet(IILFiveLands$Pact;)V -/
theorem k_17 {X : Ctx} {d : Nat} (x0 : Nat) (x1 : Int32) (x2 : Int32) (x3 : Nat) (h : Hp) : K X (d + 1) 17 [.ref x0, .int x1, .int x2, .ref x3] h = gI h 2 x0 15 fun g1 => bI (K X d 140 [.long (g1 : Int32).toInt64, .int x1] h) fun r2 h1 => gI h1 3 x3 6 fun g3 => if g3 = 0 then sem (X, K X d) 17 47 [some (.ref x0), some (.int x1), some (.int x2), some (.ref x3), some (.int r2), none] [] h1 else if ¬ r2 = 0 then gI h1 2 x0 16 fun g4 => fI h1 2 x0 16 (g4 ||| (1 <<< (x1 &&& 31))) fun h2 => sem (X, K X d) 17 47 [some (.ref x0), some (.int x1), some (.int x2), some (.ref x3), some (.int r2), none] [] h2 else gI h1 2 x0 15 fun g5 => bI (K X d 140 [.long (g5 : Int32).toInt64, .int x2] h1) fun r6 h3 => if r6 = 0 then sem (X, K X d) 17 47 [some (.ref x0), some (.int x1), some (.int x2), some (.ref x3), some (.int r2), none] [] h3 else gI h3 2 x0 16 fun g7 => fI h3 2 x0 16 (g7 ||| (1 <<< (x1 &&& 31))) fun h4 => sem (X, K X d) 17 47 [some (.ref x0), some (.int x1), some (.int x2), some (.ref x3), some (.int r2), none] [] h4 := by
  show sem (X, K X d) 17 0 [some (.ref x0), some (.int x1), some (.int x2), some (.ref x3), none, none] [] h = _
  refine (s_aload_n 1 mc_17 dX2_meet_0 rfl rfl rfl).trans ?_
  refine (s_getfI 4 mc_17 dX2_meet_1 rfl mo_17 fs_2_89 ff_2_89 (Or.inl rfl)).trans ?_
  refine gI_c fun g1 => ?_
  refine (s_i2l 5 mc_17 dX2_meet_4 rfl).trans ?_
  refine (s_iload_n 6 mc_17 dX2_meet_5 rfl rfl rfl).trans ?_
  refine (s_istI 9 mc_17 dX2_meet_6 rfl mo_17 mm_2_92 (by decide) ms_140 mr_140 ma_140 (Nat.le_of_ble_eq_true rfl) rfl rfl (Nat.le_of_ble_eq_true rfl)).trans ?_
  refine bI_c fun r2 h1 => ?_
  refine (s_istore 11 mc_17 dX2_meet_9 rfl (Nat.le_of_ble_eq_true rfl) rfl).trans ?_
  refine (s_aload_n 12 mc_17 dX2_meet_11 rfl rfl rfl).trans ?_
  refine (s_getfI 15 mc_17 dX2_meet_12 rfl mo_17 fs_2_127 ff_2_127 (Or.inr rfl)).trans ?_
  refine gI_c fun g3 => ?_
  refine (s_if_eq 47 18 mc_17 dX2_meet_15 rfl rfl).trans ?_
  refine ite_c ?_ ?_
  · skip
    rfl
  · skip
    refine (s_iload 20 mc_17 dX2_meet_18 rfl rfl).trans ?_
    refine (s_if_ne 35 23 mc_17 dX2_meet_20 rfl rfl).trans ?_
    refine ite_c ?_ ?_
    · skip
      refine (s_aload_n 36 mc_17 dX2_meet_35 rfl rfl rfl).trans ?_
      refine (s_dup 37 mc_17 dX2_meet_36 rfl rfl).trans ?_
      refine (s_getfI 40 mc_17 dX2_meet_37 rfl mo_17 fs_2_120 ff_2_120 (Or.inl rfl)).trans ?_
      refine gI_c fun g4 => ?_
      refine (s_iconst 41 1 mc_17 dX2_meet_40 rfl (by decide)).trans ?_
      refine (s_iload_n 42 mc_17 dX2_meet_41 rfl rfl rfl).trans ?_
      refine (s_ishl 43 mc_17 dX2_meet_42 rfl).trans ?_
      refine (s_ior 44 mc_17 dX2_meet_43 rfl).trans ?_
      refine (s_putfI 47 mc_17 dX2_meet_44 rfl mo_17 ff_2_120 rfl (Or.inl rfl)).trans ?_
      refine fI_c fun h2 => ?_
      rfl
    · skip
      refine (s_aload_n 24 mc_17 dX2_meet_23 rfl rfl rfl).trans ?_
      refine (s_getfI 27 mc_17 dX2_meet_24 rfl mo_17 fs_2_89 ff_2_89 (Or.inl rfl)).trans ?_
      refine gI_c fun g5 => ?_
      refine (s_i2l 28 mc_17 dX2_meet_27 rfl).trans ?_
      refine (s_iload_n 29 mc_17 dX2_meet_28 rfl rfl rfl).trans ?_
      refine (s_istI 32 mc_17 dX2_meet_29 rfl mo_17 mm_2_92 (by decide) ms_140 mr_140 ma_140 (Nat.le_of_ble_eq_true rfl) rfl rfl (Nat.le_of_ble_eq_true rfl)).trans ?_
      refine bI_c fun r6 h3 => ?_
      refine (s_if_eq 47 35 mc_17 dX2_meet_32 rfl rfl).trans ?_
      refine ite_c ?_ ?_
      · skip
        rfl
      · skip
        refine (s_aload_n 36 mc_17 dX2_meet_35 rfl rfl rfl).trans ?_
        refine (s_dup 37 mc_17 dX2_meet_36 rfl rfl).trans ?_
        refine (s_getfI 40 mc_17 dX2_meet_37 rfl mo_17 fs_2_120 ff_2_120 (Or.inl rfl)).trans ?_
        refine gI_c fun g7 => ?_
        refine (s_iconst 41 1 mc_17 dX2_meet_40 rfl (by decide)).trans ?_
        refine (s_iload_n 42 mc_17 dX2_meet_41 rfl rfl rfl).trans ?_
        refine (s_ishl 43 mc_17 dX2_meet_42 rfl).trans ?_
        refine (s_ior 44 mc_17 dX2_meet_43 rfl).trans ?_
        refine (s_putfI 47 mc_17 dX2_meet_44 rfl mo_17 ff_2_120 rfl (Or.inl rfl)).trans ?_
        refine fI_c fun h4 => ?_
        rfl
theorem b_17_47 {X : Ctx} {d : Nat} (x0 : Nat) (x1 : Int32) (v2 : Option Value) (x3 : Nat) (v4 : Option Value) (v5 : Option Value)  (h : Hp) : sem (X, K X d) 17 47 [some (.ref x0), some (.int x1), v2, some (.ref x3), v4, v5] [] h = gI h 3 x3 5 fun g1 => if g1 = 0 then gR h 2 x0 0 fun g2 => aR h g2 x1 fun g3 => gI h 1 g3 11 fun g4 => sem (X, K X d) 17 70 [some (.ref x0), some (.int x1), v2, some (.ref x3), v4, v5] [.int g4] h else gI h 3 x3 5 fun g5 => sem (X, K X d) 17 70 [some (.ref x0), some (.int x1), v2, some (.ref x3), v4, v5] [.int g5] h := by
  refine (s_aload_n 48 mc_17 dX2_meet_47 rfl rfl rfl).trans ?_
  refine (s_getfI 51 mc_17 dX2_meet_48 rfl mo_17 fs_2_131 ff_2_131 (Or.inl rfl)).trans ?_
  refine gI_c fun g1 => ?_
  refine (s_if_eq 61 54 mc_17 dX2_meet_51 rfl rfl).trans ?_
  refine ite_c ?_ ?_
  · skip
    refine (s_aload_n 62 mc_17 dX2_meet_61 rfl rfl rfl).trans ?_
    refine (s_getfR 65 mc_17 dX2_meet_62 rfl mo_17 fs_2_11 ff_2_11 rfl).trans ?_
    refine gR_c fun g2 => ?_
    refine (s_iload_n 66 mc_17 dX2_meet_65 rfl rfl rfl).trans ?_
    refine (s_aaload 67 mc_17 dX2_meet_66 rfl).trans ?_
    refine aR_c fun g3 => ?_
    refine (s_getfI 70 mc_17 dX2_meet_67 rfl mo_17 fs_2_134 ff_2_134 (Or.inl rfl)).trans ?_
    refine gI_c fun g4 => ?_
    rfl
  · skip
    refine (s_aload_n 55 mc_17 dX2_meet_54 rfl rfl rfl).trans ?_
    refine (s_getfI 58 mc_17 dX2_meet_55 rfl mo_17 fs_2_131 ff_2_131 (Or.inl rfl)).trans ?_
    refine gI_c fun g5 => ?_
    refine (s_goto 70 mc_17 dX2_meet_58 rfl).trans ?_
    rfl
theorem b_17_70 {X : Ctx} {d : Nat} (x0 : Nat) (x1 : Int32) (x2 : Int32) (v3 : Option Value) (x4 : Int32) (v5 : Option Value) (s0 : Int32) (h : Hp) : sem (X, K X d) 17 70 [some (.ref x0), some (.int x1), some (.int x2), v3, some (.int x4), v5] [.int s0] h = if x4 = 0 then sem (X, K X d) 17 95 [some (.ref x0), some (.int x1), some (.int x2), v3, some (.int x4), some (.int s0)] [] h else if ¬ s0 = 1 then sem (X, K X d) 17 95 [some (.ref x0), some (.int x1), some (.int x2), v3, some (.int x4), some (.int s0)] [] h else gR h 2 x0 5 fun g1 => aI X h g1 x1 fun g2 => wI h g1 x1 (g2 ||| (1 <<< (x2 &&& 31))) fun h1 => sem (X, K X d) 17 95 [some (.ref x0), some (.int x1), some (.int x2), v3, some (.int x4), some (.int s0)] [] h1 := by
  refine (s_istore 72 mc_17 dX2_meet_70 rfl (Nat.le_of_ble_eq_true rfl) rfl).trans ?_
  refine (s_iload 74 mc_17 dX2_meet_72 rfl rfl).trans ?_
  refine (s_if_eq 95 77 mc_17 dX2_meet_74 rfl rfl).trans ?_
  refine ite_c ?_ ?_
  · skip
    rfl
  · skip
    refine (s_iload 79 mc_17 dX2_meet_77 rfl rfl).trans ?_
    refine (s_iconst 80 1 mc_17 dX2_meet_79 rfl (by decide)).trans ?_
    refine (s_icmp_ne 95 83 mc_17 dX2_meet_80 rfl rfl).trans ?_
    refine ite_c ?_ ?_
    · skip
      rfl
    · skip
      refine (s_aload_n 84 mc_17 dX2_meet_83 rfl rfl rfl).trans ?_
      refine (s_getfR 87 mc_17 dX2_meet_84 rfl mo_17 fs_2_32 ff_2_32 rfl).trans ?_
      refine gR_c fun g1 => ?_
      refine (s_iload_n 88 mc_17 dX2_meet_87 rfl rfl rfl).trans ?_
      refine (s_dup2 89 mc_17 dX2_meet_88 rfl rfl rfl).trans ?_
      refine (s_iaload 90 mc_17 dX2_meet_89 rfl).trans ?_
      refine aI_c fun g2 => ?_
      refine (s_iconst 91 1 mc_17 dX2_meet_90 rfl (by decide)).trans ?_
      refine (s_iload_n 92 mc_17 dX2_meet_91 rfl rfl rfl).trans ?_
      refine (s_ishl 93 mc_17 dX2_meet_92 rfl).trans ?_
      refine (s_ior 94 mc_17 dX2_meet_93 rfl).trans ?_
      refine (s_iastore 95 mc_17 dX2_meet_94 rfl).trans ?_
      refine wI_c fun h1 => ?_
      rfl
theorem b_17_95 {X : Ctx} {d : Nat} (x0 : Nat) (x1 : Int32) (x2 : Int32) (v3 : Option Value) (x4 : Int32) (x5 : Int32)  (h : Hp) : sem (X, K X d) 17 95 [some (.ref x0), some (.int x1), some (.int x2), v3, some (.int x4), some (.int x5)] [] h = if x4 = 0 then some (none, h) else if ¬ x5 = 2 then some (none, h) else gR h 2 x0 6 fun g1 => aI X h g1 x1 fun g2 => wI h g1 x1 (g2 ||| (1 <<< (x2 &&& 31))) fun h1 => some (none, h1) := by
  refine (s_iload 97 mc_17 dX2_meet_95 rfl rfl).trans ?_
  refine (s_if_eq 118 100 mc_17 dX2_meet_97 rfl rfl).trans ?_
  refine ite_c ?_ ?_
  · skip
    exact s_vret mc_17 dX2_meet_118 mt_17
  · skip
    refine (s_iload 102 mc_17 dX2_meet_100 rfl rfl).trans ?_
    refine (s_iconst 103 2 mc_17 dX2_meet_102 rfl (by decide)).trans ?_
    refine (s_icmp_ne 118 106 mc_17 dX2_meet_103 rfl rfl).trans ?_
    refine ite_c ?_ ?_
    · skip
      exact s_vret mc_17 dX2_meet_118 mt_17
    · skip
      refine (s_aload_n 107 mc_17 dX2_meet_106 rfl rfl rfl).trans ?_
      refine (s_getfR 110 mc_17 dX2_meet_107 rfl mo_17 fs_2_35 ff_2_35 rfl).trans ?_
      refine gR_c fun g1 => ?_
      refine (s_iload_n 111 mc_17 dX2_meet_110 rfl rfl rfl).trans ?_
      refine (s_dup2 112 mc_17 dX2_meet_111 rfl rfl rfl).trans ?_
      refine (s_iaload 113 mc_17 dX2_meet_112 rfl).trans ?_
      refine aI_c fun g2 => ?_
      refine (s_iconst 114 1 mc_17 dX2_meet_113 rfl (by decide)).trans ?_
      refine (s_iload_n 115 mc_17 dX2_meet_114 rfl rfl rfl).trans ?_
      refine (s_ishl 116 mc_17 dX2_meet_115 rfl).trans ?_
      refine (s_ior 117 mc_17 dX2_meet_116 rfl).trans ?_
      refine (s_iastore 118 mc_17 dX2_meet_117 rfl).trans ?_
      refine wI_c fun h1 => ?_
      exact s_vret mc_17 dX2_meet_118 mt_17
/-- FiveLands$Levy.seen(LFiveLands$Sum;I)I -/
theorem k_18 {X : Ctx} {d : Nat} (x0 : Nat) (x1 : Nat) (x2 : Int32) (h : Hp) : K X (d + 1) 18 [.ref x0, .ref x1, .int x2] h = gI h 2 x0 16 fun g1 => bI (K X d 140 [.long (g1 : Int32).toInt64, .int x2] h) fun r2 h1 => if r2 = 0 then gI h1 8 x1 0 fun g3 => some (some (.int g3), h1) else gI h1 8 x1 1 fun g4 => some (some (.int g4), h1) := by
  show sem (X, K X d) 18 0 [some (.ref x0), some (.ref x1), some (.int x2)] [] h = _
  refine (s_aload_n 1 mc_18 dX2_seen_0 rfl rfl rfl).trans ?_
  refine (s_getfI 4 mc_18 dX2_seen_1 rfl mo_18 fs_2_120 ff_2_120 (Or.inl rfl)).trans ?_
  refine gI_c fun g1 => ?_
  refine (s_i2l 5 mc_18 dX2_seen_4 rfl).trans ?_
  refine (s_iload_n 6 mc_18 dX2_seen_5 rfl rfl rfl).trans ?_
  refine (s_istI 9 mc_18 dX2_seen_6 rfl mo_18 mm_2_92 (by decide) ms_140 mr_140 ma_140 (Nat.le_of_ble_eq_true rfl) rfl rfl (Nat.le_of_ble_eq_true rfl)).trans ?_
  refine bI_c fun r2 h1 => ?_
  refine (s_if_eq 19 12 mc_18 dX2_seen_9 rfl rfl).trans ?_
  refine ite_c ?_ ?_
  · skip
    refine (s_aload_n 20 mc_18 dX2_seen_19 rfl rfl rfl).trans ?_
    refine (s_getfI 23 mc_18 dX2_seen_20 rfl mo_18 fs_2_140 ff_2_140 (Or.inl rfl)).trans ?_
    refine gI_c fun g3 => ?_
    exact s_iret mc_18 dX2_seen_23 mt_18
  · skip
    refine (s_aload_n 13 mc_18 dX2_seen_12 rfl rfl rfl).trans ?_
    refine (s_getfI 16 mc_18 dX2_seen_13 rfl mo_18 fs_2_135 ff_2_135 (Or.inl rfl)).trans ?_
    refine gI_c fun g4 => ?_
    refine (s_goto 23 mc_18 dX2_seen_16 rfl).trans ?_
    exact s_iret mc_18 dX2_seen_23 mt_18
/-- FiveLands$Levy.freed(LFiveLands$Sum;I)Z -/
theorem k_19 {X : Ctx} {d : Nat} (x0 : Nat) (x1 : Nat) (x2 : Int32) (h : Hp) : K X (d + 1) 19 [.ref x0, .ref x1, .int x2] h = gR h 2 x0 6 fun g1 => aI X h g1 x2 fun g2 => gI h 8 x1 3 fun g3 => bI (K X d 140 [.long (g2 : Int32).toInt64, .int g3] h) fun r4 h1 => gd (okN .boolean r4) (some (some (.int r4), h1)) := by
  show sem (X, K X d) 19 0 [some (.ref x0), some (.ref x1), some (.int x2)] [] h = _
  refine (s_aload_n 1 mc_19 dX2_freed_0 rfl rfl rfl).trans ?_
  refine (s_getfR 4 mc_19 dX2_freed_1 rfl mo_19 fs_2_35 ff_2_35 rfl).trans ?_
  refine gR_c fun g1 => ?_
  refine (s_iload_n 5 mc_19 dX2_freed_4 rfl rfl rfl).trans ?_
  refine (s_iaload 6 mc_19 dX2_freed_5 rfl).trans ?_
  refine aI_c fun g2 => ?_
  refine (s_i2l 7 mc_19 dX2_freed_6 rfl).trans ?_
  refine (s_aload_n 8 mc_19 dX2_freed_7 rfl rfl rfl).trans ?_
  refine (s_getfI 11 mc_19 dX2_freed_8 rfl mo_19 fs_2_143 ff_2_143 (Or.inl rfl)).trans ?_
  refine gI_c fun g3 => ?_
  refine (s_istI 14 mc_19 dX2_freed_11 rfl mo_19 mm_2_92 (by decide) ms_140 mr_140 ma_140 (Nat.le_of_ble_eq_true rfl) rfl rfl (Nat.le_of_ble_eq_true rfl)).trans ?_
  refine bI_c fun r4 h1 => ?_
  exact s_zret mc_19 dX2_freed_14 mt_19
/-- FiveLands$Levy.settleAll(LFiveLands$Year;)J -/
theorem k_20 {X : Ctx} {d : Nat} (x0 : Nat) (x1 : Nat) (h : Hp) : K X (d + 1) 20 [.ref x0, .ref x1] h = sem (X, K X d) 20 5 [some (.ref x0), some (.ref x1), some (.long 0), none, some (.int 0)] [] h := by
  show sem (X, K X d) 20 0 [some (.ref x0), some (.ref x1), none, none, none] [] h = _
  refine (s_lconst 1 0 mc_20 dX2_settleAll_0 rfl (by decide)).trans ?_
  refine (s_lstore_n 2 mc_20 dX2_settleAll_1 rfl rfl (Nat.le_of_ble_eq_true rfl) rfl).trans ?_
  refine (s_iconst 3 0 mc_20 dX2_settleAll_2 rfl (by decide)).trans ?_
  refine (s_istore 5 mc_20 dX2_settleAll_3 rfl (Nat.le_of_ble_eq_true rfl) rfl).trans ?_
  rfl
theorem b_20_5 {X : Ctx} {d : Nat} (x0 : Nat) (x1 : Nat) (x2 : Int64) (x4 : Int32)  (h : Hp) : sem (X, K X d) 20 5 [some (.ref x0), some (.ref x1), some (.long x2), none, some (.int x4)] [] h = gI h 9 x1 3 fun g1 => if g1 ≤ x4 then some (some (.long x2), h) else gR h 9 x1 2 fun g2 => aR h g2 x4 fun g3 => gd (hS h x0 = (3, 0)) (bJ (K X d 21 [.ref x0, .ref g3] h) fun r4 h1 => sem (X, K X d) 20 5 [some (.ref x0), some (.ref x1), some (.long (x2 + r4)), none, some (.int (x4 + 1))] [] h1) := by
  refine (s_iload 7 mc_20 dX2_settleAll_5 rfl rfl).trans ?_
  refine (s_aload_n 8 mc_20 dX2_settleAll_7 rfl rfl rfl).trans ?_
  refine (s_getfI 11 mc_20 dX2_settleAll_8 rfl mo_20 fs_2_146 ff_2_146 (Or.inl rfl)).trans ?_
  refine gI_c fun g1 => ?_
  refine (s_icmp_ge 34 14 mc_20 dX2_settleAll_11 rfl rfl).trans ?_
  refine ite_c ?_ ?_
  · skip
    refine (s_lload_n 35 mc_20 dX2_settleAll_34 rfl rfl rfl rfl).trans ?_
    exact s_lret mc_20 dX2_settleAll_35 mt_20
  · skip
    refine (s_lload_n 15 mc_20 dX2_settleAll_14 rfl rfl rfl rfl).trans ?_
    refine (s_aload_n 16 mc_20 dX2_settleAll_15 rfl rfl rfl).trans ?_
    refine (s_aload_n 17 mc_20 dX2_settleAll_16 rfl rfl rfl).trans ?_
    refine (s_getfR 20 mc_20 dX2_settleAll_17 rfl mo_20 fs_2_151 ff_2_151 rfl).trans ?_
    refine gR_c fun g2 => ?_
    refine (s_iload 22 mc_20 dX2_settleAll_20 rfl rfl).trans ?_
    refine (s_aaload 23 mc_20 dX2_settleAll_22 rfl).trans ?_
    refine aR_c fun g3 => ?_
    refine (s_iviJ 26 mc_20 dX2_settleAll_23 rfl mo_20 mm_2_155 (by decide) ms_21 mi_21 mr_21 ma_21 mo_21 (by decide) (Nat.le_of_ble_eq_true rfl) rfl rfl (Nat.le_of_ble_eq_true rfl)).trans ?_
    refine gd_c ?_
    refine bJ_c fun r4 h1 => ?_
    refine (s_ladd 27 mc_20 dX2_settleAll_26 rfl).trans ?_
    refine (s_lstore_n 28 mc_20 dX2_settleAll_27 rfl rfl (Nat.le_of_ble_eq_true rfl) rfl).trans ?_
    refine (s_iinc 1 31 mc_20 dX2_settleAll_28 rfl rfl (Nat.le_of_ble_eq_true rfl) (by decide) rfl).trans ?_
    refine (s_goto 5 mc_20 dX2_settleAll_31 rfl).trans ?_
    rfl
/-- FiveLands$Levy.settle(LFiveLands$Sum;)J -/
theorem k_21 {X : Ctx} {d : Nat} (x0 : Nat) (x1 : Nat) (h : Hp) : K X (d + 1) 21 [.ref x0, .ref x1] h = sem (X, K X d) 21 2 [some (.ref x0), some (.ref x1), some (.int 0), none, none, none] [] h := by
  show sem (X, K X d) 21 0 [some (.ref x0), some (.ref x1), none, none, none, none] [] h = _
  refine (s_iconst 1 0 mc_21 dX2_settle_0 rfl (by decide)).trans ?_
  refine (s_istore_n 2 mc_21 dX2_settle_1 rfl rfl (Nat.le_of_ble_eq_true rfl) rfl).trans ?_
  rfl
theorem b_21_2 {X : Ctx} {d : Nat} (x0 : Nat) (x1 : Nat) (x2 : Int32) (v3 : Option Value) (v4 : Option Value) (v5 : Option Value)  (h : Hp) : sem (X, K X d) 21 2 [some (.ref x0), some (.ref x1), some (.int x2), v3, v4, v5] [] h = if 6 ≤ x2 then sem (X, K X d) 21 58 [some (.ref x0), some (.ref x1), some (.int 0), some (.int 0), v4, v5] [] h else gR h 2 x0 8 fun g1 => gI h 2 x0 15 fun g2 => bI (K X d 140 [.long (g2 : Int32).toInt64, .int x2] h) fun r3 h1 => if r3 = 0 then gI h1 8 x1 2 fun g4 => gd (hS h1 x0 = (3, 0)) (bI (K X d 23 [.ref x0, .ref x1, .int x2] h1) fun r5 h2 => wJ h2 g1 x2 ((g4 : Int32).toInt64 * (r5 : Int32).toInt64) fun h3 => sem (X, K X d) 21 2 [some (.ref x0), some (.ref x1), some (.int (x2 + 1)), v3, v4, v5] [] h3) else gd (hS h1 x0 = (3, 0)) (bJ (K X d 22 [.ref x0, .ref x1, .int x2] h1) fun r6 h4 => wJ h4 g1 x2 r6 fun h5 => sem (X, K X d) 21 2 [some (.ref x0), some (.ref x1), some (.int (x2 + 1)), v3, v4, v5] [] h5) := by
  refine (s_iload_n 3 mc_21 dX2_settle_2 rfl rfl rfl).trans ?_
  refine (s_bipush 5 6 mc_21 dX2_settle_3 rfl (by decide)).trans ?_
  refine (s_icmp_ge 54 8 mc_21 dX2_settle_5 rfl rfl).trans ?_
  refine ite_c ?_ ?_
  · skip
    refine (s_iconst 55 0 mc_21 dX2_settle_54 rfl (by decide)).trans ?_
    refine (s_istore_n 56 mc_21 dX2_settle_55 rfl rfl (Nat.le_of_ble_eq_true rfl) rfl).trans ?_
    refine (s_iconst 57 0 mc_21 dX2_settle_56 rfl (by decide)).trans ?_
    refine (s_istore_n 58 mc_21 dX2_settle_57 rfl rfl (Nat.le_of_ble_eq_true rfl) rfl).trans ?_
    rfl
  · skip
    refine (s_aload_n 9 mc_21 dX2_settle_8 rfl rfl rfl).trans ?_
    refine (s_getfR 12 mc_21 dX2_settle_9 rfl mo_21 fs_2_42 ff_2_42 rfl).trans ?_
    refine gR_c fun g1 => ?_
    refine (s_iload_n 13 mc_21 dX2_settle_12 rfl rfl rfl).trans ?_
    refine (s_aload_n 14 mc_21 dX2_settle_13 rfl rfl rfl).trans ?_
    refine (s_getfI 17 mc_21 dX2_settle_14 rfl mo_21 fs_2_89 ff_2_89 (Or.inl rfl)).trans ?_
    refine gI_c fun g2 => ?_
    refine (s_i2l 18 mc_21 dX2_settle_17 rfl).trans ?_
    refine (s_iload_n 19 mc_21 dX2_settle_18 rfl rfl rfl).trans ?_
    refine (s_istI 22 mc_21 dX2_settle_19 rfl mo_21 mm_2_92 (by decide) ms_140 mr_140 ma_140 (Nat.le_of_ble_eq_true rfl) rfl rfl (Nat.le_of_ble_eq_true rfl)).trans ?_
    refine bI_c fun r3 h1 => ?_
    refine (s_if_eq 34 25 mc_21 dX2_settle_22 rfl rfl).trans ?_
    refine ite_c ?_ ?_
    · skip
      refine (s_aload_n 35 mc_21 dX2_settle_34 rfl rfl rfl).trans ?_
      refine (s_getfI 38 mc_21 dX2_settle_35 rfl mo_21 fs_2_163 ff_2_163 (Or.inl rfl)).trans ?_
      refine gI_c fun g4 => ?_
      refine (s_i2l 39 mc_21 dX2_settle_38 rfl).trans ?_
      refine (s_aload_n 40 mc_21 dX2_settle_39 rfl rfl rfl).trans ?_
      refine (s_aload_n 41 mc_21 dX2_settle_40 rfl rfl rfl).trans ?_
      refine (s_iload_n 42 mc_21 dX2_settle_41 rfl rfl rfl).trans ?_
      refine (s_iviI 45 mc_21 dX2_settle_42 rfl mo_21 mm_2_166 (by decide) ms_23 mi_23 mr_23 ma_23 mo_23 (by decide) (Nat.le_of_ble_eq_true rfl) rfl rfl (Nat.le_of_ble_eq_true rfl)).trans ?_
      refine gd_c ?_
      refine bI_c fun r5 h2 => ?_
      refine (s_i2l 46 mc_21 dX2_settle_45 rfl).trans ?_
      refine (s_lmul 47 mc_21 dX2_settle_46 rfl).trans ?_
      refine (s_lastore 48 mc_21 dX2_settle_47 rfl).trans ?_
      refine wJ_c fun h3 => ?_
      refine (s_iinc 1 51 mc_21 dX2_settle_48 rfl rfl (Nat.le_of_ble_eq_true rfl) (by decide) rfl).trans ?_
      refine (s_goto 2 mc_21 dX2_settle_51 rfl).trans ?_
      rfl
    · skip
      refine (s_aload_n 26 mc_21 dX2_settle_25 rfl rfl rfl).trans ?_
      refine (s_aload_n 27 mc_21 dX2_settle_26 rfl rfl rfl).trans ?_
      refine (s_iload_n 28 mc_21 dX2_settle_27 rfl rfl rfl).trans ?_
      refine (s_iviJ 31 mc_21 dX2_settle_28 rfl mo_21 mm_2_159 (by decide) ms_22 mi_22 mr_22 ma_22 mo_22 (by decide) (Nat.le_of_ble_eq_true rfl) rfl rfl (Nat.le_of_ble_eq_true rfl)).trans ?_
      refine gd_c ?_
      refine bJ_c fun r6 h4 => ?_
      refine (s_goto 47 mc_21 dX2_settle_31 rfl).trans ?_
      refine (s_lastore 48 mc_21 dX2_settle_47 rfl).trans ?_
      refine wJ_c fun h5 => ?_
      refine (s_iinc 1 51 mc_21 dX2_settle_48 rfl rfl (Nat.le_of_ble_eq_true rfl) (by decide) rfl).trans ?_
      refine (s_goto 2 mc_21 dX2_settle_51 rfl).trans ?_
      rfl
theorem b_21_58 {X : Ctx} {d : Nat} (x0 : Nat) (v1 : Option Value) (x2 : Int32) (x3 : Int32) (v4 : Option Value) (v5 : Option Value)  (h : Hp) : sem (X, K X d) 21 58 [some (.ref x0), v1, some (.int x2), some (.int x3), v4, v5] [] h = if 6 ≤ x3 then gd (hS h x0 = (3, 0)) (bV (K X d 25 [.ref x0, .int x2] h) fun h1 => sem (X, K X d) 21 143 [some (.ref x0), v1, some (.int x2), some (.long 0), none, some (.int 0)] [] h1) else gR h 2 x0 10 fun g1 => gR h 2 x0 8 fun g2 => aJ h g2 x3 fun g3 => gR h 2 x0 5 fun g4 => aI X h g4 x3 fun g5 => gI h 2 x0 15 fun g6 => gd (hS h x0 = (3, 0)) (bJ (K X d 24 [.ref x0, .int (g5 &&& (g6 ^^^ (-1)))] h) fun r7 h2 => wJ h2 g1 x3 (g3 - r7) fun h3 => gI h3 2 x0 15 fun g8 => bI (K X d 140 [.long (g8 : Int32).toInt64, .int x3] h3) fun r9 h4 => if r9 = 0 then sem (X, K X d) 21 58 [some (.ref x0), v1, some (.int x2), some (.int (x3 + 1)), v4, v5] [] h4 else gR h4 2 x0 10 fun g10 => aJ h4 g10 x3 fun g11 => if (lg_cmp g11 0) ≤ 0 then sem (X, K X d) 21 58 [some (.ref x0), v1, some (.int x2), some (.int (x3 + 1)), v4, v5] [] h4 else sem (X, K X d) 21 58 [some (.ref x0), v1, some (.int (x2 ||| (1 <<< (x3 &&& 31)))), some (.int (x3 + 1)), v4, v5] [] h4) := by
  refine (s_iload_n 59 mc_21 dX2_settle_58 rfl rfl rfl).trans ?_
  refine (s_bipush 61 6 mc_21 dX2_settle_59 rfl (by decide)).trans ?_
  refine (s_icmp_ge 133 64 mc_21 dX2_settle_61 rfl rfl).trans ?_
  refine ite_c ?_ ?_
  · skip
    refine (s_aload_n 134 mc_21 dX2_settle_133 rfl rfl rfl).trans ?_
    refine (s_iload_n 135 mc_21 dX2_settle_134 rfl rfl rfl).trans ?_
    refine (s_iviV 138 mc_21 dX2_settle_135 rfl mo_21 mm_2_174 (by decide) ms_25 mi_25 mr_25 ma_25 mo_25 (by decide) (Nat.le_of_ble_eq_true rfl) rfl rfl (Nat.le_of_ble_eq_true rfl)).trans ?_
    refine gd_c ?_
    refine bV_c fun h1 => ?_
    refine (s_lconst 139 0 mc_21 dX2_settle_138 rfl (by decide)).trans ?_
    refine (s_lstore_n 140 mc_21 dX2_settle_139 rfl rfl (Nat.le_of_ble_eq_true rfl) rfl).trans ?_
    refine (s_iconst 141 0 mc_21 dX2_settle_140 rfl (by decide)).trans ?_
    refine (s_istore 143 mc_21 dX2_settle_141 rfl (Nat.le_of_ble_eq_true rfl) rfl).trans ?_
    rfl
  · skip
    refine (s_aload_n 65 mc_21 dX2_settle_64 rfl rfl rfl).trans ?_
    refine (s_getfR 68 mc_21 dX2_settle_65 rfl mo_21 fs_2_48 ff_2_48 rfl).trans ?_
    refine gR_c fun g1 => ?_
    refine (s_iload_n 69 mc_21 dX2_settle_68 rfl rfl rfl).trans ?_
    refine (s_aload_n 70 mc_21 dX2_settle_69 rfl rfl rfl).trans ?_
    refine (s_getfR 73 mc_21 dX2_settle_70 rfl mo_21 fs_2_42 ff_2_42 rfl).trans ?_
    refine gR_c fun g2 => ?_
    refine (s_iload_n 74 mc_21 dX2_settle_73 rfl rfl rfl).trans ?_
    refine (s_laload 75 mc_21 dX2_settle_74 rfl).trans ?_
    refine aJ_c fun g3 => ?_
    refine (s_aload_n 76 mc_21 dX2_settle_75 rfl rfl rfl).trans ?_
    refine (s_aload_n 77 mc_21 dX2_settle_76 rfl rfl rfl).trans ?_
    refine (s_getfR 80 mc_21 dX2_settle_77 rfl mo_21 fs_2_32 ff_2_32 rfl).trans ?_
    refine gR_c fun g4 => ?_
    refine (s_iload_n 81 mc_21 dX2_settle_80 rfl rfl rfl).trans ?_
    refine (s_iaload 82 mc_21 dX2_settle_81 rfl).trans ?_
    refine aI_c fun g5 => ?_
    refine (s_aload_n 83 mc_21 dX2_settle_82 rfl rfl rfl).trans ?_
    refine (s_getfI 86 mc_21 dX2_settle_83 rfl mo_21 fs_2_89 ff_2_89 (Or.inl rfl)).trans ?_
    refine gI_c fun g6 => ?_
    refine (s_iconst 87 (-1) mc_21 dX2_settle_86 rfl (by decide)).trans ?_
    refine (s_ixor 88 mc_21 dX2_settle_87 rfl).trans ?_
    refine (s_iand 89 mc_21 dX2_settle_88 rfl).trans ?_
    refine (s_iviJ 92 mc_21 dX2_settle_89 rfl mo_21 mm_2_170 (by decide) ms_24 mi_24 mr_24 ma_24 mo_24 (by decide) (Nat.le_of_ble_eq_true rfl) rfl rfl (Nat.le_of_ble_eq_true rfl)).trans ?_
    refine gd_c ?_
    refine bJ_c fun r7 h2 => ?_
    refine (s_lsub 93 mc_21 dX2_settle_92 rfl).trans ?_
    refine (s_lastore 94 mc_21 dX2_settle_93 rfl).trans ?_
    refine wJ_c fun h3 => ?_
    refine (s_aload_n 95 mc_21 dX2_settle_94 rfl rfl rfl).trans ?_
    refine (s_getfI 98 mc_21 dX2_settle_95 rfl mo_21 fs_2_89 ff_2_89 (Or.inl rfl)).trans ?_
    refine gI_c fun g8 => ?_
    refine (s_i2l 99 mc_21 dX2_settle_98 rfl).trans ?_
    refine (s_iload_n 100 mc_21 dX2_settle_99 rfl rfl rfl).trans ?_
    refine (s_istI 103 mc_21 dX2_settle_100 rfl mo_21 mm_2_92 (by decide) ms_140 mr_140 ma_140 (Nat.le_of_ble_eq_true rfl) rfl rfl (Nat.le_of_ble_eq_true rfl)).trans ?_
    refine bI_c fun r9 h4 => ?_
    refine (s_if_eq 125 106 mc_21 dX2_settle_103 rfl rfl).trans ?_
    refine ite_c ?_ ?_
    · skip
      refine (s_iload_n 126 mc_21 dX2_settle_125 rfl rfl rfl).trans ?_
      refine (s_istore_n 127 mc_21 dX2_settle_126 rfl rfl (Nat.le_of_ble_eq_true rfl) rfl).trans ?_
      refine (s_iinc 1 130 mc_21 dX2_settle_127 rfl rfl (Nat.le_of_ble_eq_true rfl) (by decide) rfl).trans ?_
      refine (s_goto 58 mc_21 dX2_settle_130 rfl).trans ?_
      rfl
    · skip
      refine (s_aload_n 107 mc_21 dX2_settle_106 rfl rfl rfl).trans ?_
      refine (s_getfR 110 mc_21 dX2_settle_107 rfl mo_21 fs_2_48 ff_2_48 rfl).trans ?_
      refine gR_c fun g10 => ?_
      refine (s_iload_n 111 mc_21 dX2_settle_110 rfl rfl rfl).trans ?_
      refine (s_laload 112 mc_21 dX2_settle_111 rfl).trans ?_
      refine aJ_c fun g11 => ?_
      refine (s_lconst 113 0 mc_21 dX2_settle_112 rfl (by decide)).trans ?_
      refine (s_lcmp 114 mc_21 dX2_settle_113 rfl).trans ?_
      refine (s_if_le 125 117 mc_21 dX2_settle_114 rfl rfl).trans ?_
      refine ite_c ?_ ?_
      · skip
        refine (s_iload_n 126 mc_21 dX2_settle_125 rfl rfl rfl).trans ?_
        refine (s_istore_n 127 mc_21 dX2_settle_126 rfl rfl (Nat.le_of_ble_eq_true rfl) rfl).trans ?_
        refine (s_iinc 1 130 mc_21 dX2_settle_127 rfl rfl (Nat.le_of_ble_eq_true rfl) (by decide) rfl).trans ?_
        refine (s_goto 58 mc_21 dX2_settle_130 rfl).trans ?_
        rfl
      · skip
        refine (s_iload_n 118 mc_21 dX2_settle_117 rfl rfl rfl).trans ?_
        refine (s_iconst 119 1 mc_21 dX2_settle_118 rfl (by decide)).trans ?_
        refine (s_iload_n 120 mc_21 dX2_settle_119 rfl rfl rfl).trans ?_
        refine (s_ishl 121 mc_21 dX2_settle_120 rfl).trans ?_
        refine (s_ior 122 mc_21 dX2_settle_121 rfl).trans ?_
        refine (s_goto 126 mc_21 dX2_settle_122 rfl).trans ?_
        refine (s_istore_n 127 mc_21 dX2_settle_126 rfl rfl (Nat.le_of_ble_eq_true rfl) rfl).trans ?_
        refine (s_iinc 1 130 mc_21 dX2_settle_127 rfl rfl (Nat.le_of_ble_eq_true rfl) (by decide) rfl).trans ?_
        refine (s_goto 58 mc_21 dX2_settle_130 rfl).trans ?_
        rfl
theorem b_21_143 {X : Ctx} {d : Nat} (x0 : Nat) (v1 : Option Value) (v2 : Option Value) (x3 : Int64) (x5 : Int32)  (h : Hp) : sem (X, K X d) 21 143 [some (.ref x0), v1, v2, some (.long x3), none, some (.int x5)] [] h = if 6 ≤ x5 then some (some (.long x3), h) else gR h 2 x0 9 fun g1 => aJ h g1 x5 fun g2 => sem (X, K X d) 21 143 [some (.ref x0), v1, v2, some (.long (x3 + g2)), none, some (.int (x5 + 1))] [] h := by
  refine (s_iload 145 mc_21 dX2_settle_143 rfl rfl).trans ?_
  refine (s_bipush 147 6 mc_21 dX2_settle_145 rfl (by decide)).trans ?_
  refine (s_icmp_ge 166 150 mc_21 dX2_settle_147 rfl rfl).trans ?_
  refine ite_c ?_ ?_
  · skip
    refine (s_lload_n 167 mc_21 dX2_settle_166 rfl rfl rfl rfl).trans ?_
    exact s_lret mc_21 dX2_settle_167 mt_21
  · skip
    refine (s_lload_n 151 mc_21 dX2_settle_150 rfl rfl rfl rfl).trans ?_
    refine (s_aload_n 152 mc_21 dX2_settle_151 rfl rfl rfl).trans ?_
    refine (s_getfR 155 mc_21 dX2_settle_152 rfl mo_21 fs_2_45 ff_2_45 rfl).trans ?_
    refine gR_c fun g1 => ?_
    refine (s_iload 157 mc_21 dX2_settle_155 rfl rfl).trans ?_
    refine (s_laload 158 mc_21 dX2_settle_157 rfl).trans ?_
    refine aJ_c fun g2 => ?_
    refine (s_ladd 159 mc_21 dX2_settle_158 rfl).trans ?_
    refine (s_lstore_n 160 mc_21 dX2_settle_159 rfl rfl (Nat.le_of_ble_eq_true rfl) rfl).trans ?_
    refine (s_iinc 1 163 mc_21 dX2_settle_160 rfl rfl (Nat.le_of_ble_eq_true rfl) (by decide) rfl).trans ?_
    refine (s_goto 143 mc_21 dX2_settle_163 rfl).trans ?_
    rfl
/-- FiveLands$Levy.ownAhead(LFiveLands$Sum;I)J -/
theorem k_22 {X : Ctx} {d : Nat} (x0 : Nat) (x1 : Nat) (x2 : Int32) (h : Hp) : K X (d + 1) 22 [.ref x0, .ref x1, .int x2] h = gJ h 2 x0 13 fun g1 => if (lg_cmp g1 0) ≤ 0 then some (some (.long 0), h) else gd (hS h x0 = (3, 0)) (bI (K X d 19 [.ref x0, .ref x1, .int x2] h) fun r2 h1 => if r2 = 0 then gR h1 2 x0 7 fun g3 => aJ h1 g3 x2 fun g4 => gI h1 8 x1 2 fun g5 => gJ h1 2 x0 13 fun g6 => gd (¬ g6 = 0) (some (some (.long ((g4 * (g5 : Int32).toInt64) / g6)), h1)) else some (some (.long 0), h1)) := by
  show sem (X, K X d) 22 0 [some (.ref x0), some (.ref x1), some (.int x2)] [] h = _
  refine (s_aload_n 1 mc_22 dX2_ownAhead_0 rfl rfl rfl).trans ?_
  refine (s_getfJ 4 mc_22 dX2_ownAhead_1 rfl mo_22 fs_2_69 ff_2_69 rfl).trans ?_
  refine gJ_c fun g1 => ?_
  refine (s_lconst 5 0 mc_22 dX2_ownAhead_4 rfl (by decide)).trans ?_
  refine (s_lcmp 6 mc_22 dX2_ownAhead_5 rfl).trans ?_
  refine (s_if_le 18 9 mc_22 dX2_ownAhead_6 rfl rfl).trans ?_
  refine ite_c ?_ ?_
  · skip
    refine (s_lconst 19 0 mc_22 dX2_ownAhead_18 rfl (by decide)).trans ?_
    refine (s_goto 39 mc_22 dX2_ownAhead_19 rfl).trans ?_
    exact s_lret mc_22 dX2_ownAhead_39 mt_22
  · skip
    refine (s_aload_n 10 mc_22 dX2_ownAhead_9 rfl rfl rfl).trans ?_
    refine (s_aload_n 11 mc_22 dX2_ownAhead_10 rfl rfl rfl).trans ?_
    refine (s_iload_n 12 mc_22 dX2_ownAhead_11 rfl rfl rfl).trans ?_
    refine (s_iviI 15 mc_22 dX2_ownAhead_12 rfl mo_22 mm_2_178 (by decide) ms_19 mi_19 mr_19 ma_19 mo_19 (by decide) (Nat.le_of_ble_eq_true rfl) rfl rfl (Nat.le_of_ble_eq_true rfl)).trans ?_
    refine gd_c ?_
    refine bI_c fun r2 h1 => ?_
    refine (s_if_eq 22 18 mc_22 dX2_ownAhead_15 rfl rfl).trans ?_
    refine ite_c ?_ ?_
    · skip
      refine (s_aload_n 23 mc_22 dX2_ownAhead_22 rfl rfl rfl).trans ?_
      refine (s_getfR 26 mc_22 dX2_ownAhead_23 rfl mo_22 fs_2_38 ff_2_38 rfl).trans ?_
      refine gR_c fun g3 => ?_
      refine (s_iload_n 27 mc_22 dX2_ownAhead_26 rfl rfl rfl).trans ?_
      refine (s_laload 28 mc_22 dX2_ownAhead_27 rfl).trans ?_
      refine aJ_c fun g4 => ?_
      refine (s_aload_n 29 mc_22 dX2_ownAhead_28 rfl rfl rfl).trans ?_
      refine (s_getfI 32 mc_22 dX2_ownAhead_29 rfl mo_22 fs_2_163 ff_2_163 (Or.inl rfl)).trans ?_
      refine gI_c fun g5 => ?_
      refine (s_i2l 33 mc_22 dX2_ownAhead_32 rfl).trans ?_
      refine (s_lmul 34 mc_22 dX2_ownAhead_33 rfl).trans ?_
      refine (s_aload_n 35 mc_22 dX2_ownAhead_34 rfl rfl rfl).trans ?_
      refine (s_getfJ 38 mc_22 dX2_ownAhead_35 rfl mo_22 fs_2_69 ff_2_69 rfl).trans ?_
      refine gJ_c fun g6 => ?_
      refine (s_ldiv 39 mc_22 dX2_ownAhead_38 rfl).trans ?_
      refine gd_c ?_
      exact s_lret mc_22 dX2_ownAhead_39 mt_22
    · skip
      refine (s_lconst 19 0 mc_22 dX2_ownAhead_18 rfl (by decide)).trans ?_
      refine (s_goto 39 mc_22 dX2_ownAhead_19 rfl).trans ?_
      exact s_lret mc_22 dX2_ownAhead_39 mt_22
/-- FiveLands$Levy.atSource(LFiveLands$Sum;I)I -/
theorem k_23 {X : Ctx} {d : Nat} (x0 : Nat) (x1 : Nat) (x2 : Int32) (h : Hp) : K X (d + 1) 23 [.ref x0, .ref x1, .int x2] h = gd (hS h x0 = (3, 0)) (bI (K X d 18 [.ref x0, .ref x1, .int x2] h) fun r1 h1 => gR h1 2 x0 1 fun g2 => aR h1 g2 x2 fun g3 => gI h1 8 x1 3 fun g4 => if ¬ g4 = x2 then wI h1 g3 5 0 fun h2 => gI h2 8 x1 4 fun g5 => if ¬ g5 = x2 then sem (X, K X d) 23 49 [some (.ref x0), some (.ref x1), some (.int x2), some (.int r1), some (.ref g3), none, none] [.int 0, .int 6, .ref g3] h2 else sem (X, K X d) 23 49 [some (.ref x0), some (.ref x1), some (.int x2), some (.int r1), some (.ref g3), none, none] [.int 1, .int 6, .ref g3] h2 else wI h1 g3 5 1 fun h3 => gI h3 8 x1 4 fun g6 => if ¬ g6 = x2 then sem (X, K X d) 23 49 [some (.ref x0), some (.ref x1), some (.int x2), some (.int r1), some (.ref g3), none, none] [.int 0, .int 6, .ref g3] h3 else sem (X, K X d) 23 49 [some (.ref x0), some (.ref x1), some (.int x2), some (.int r1), some (.ref g3), none, none] [.int 1, .int 6, .ref g3] h3) := by
  show sem (X, K X d) 23 0 [some (.ref x0), some (.ref x1), some (.int x2), none, none, none, none] [] h = _
  refine (s_aload_n 1 mc_23 dX2_atSource_0 rfl rfl rfl).trans ?_
  refine (s_aload_n 2 mc_23 dX2_atSource_1 rfl rfl rfl).trans ?_
  refine (s_iload_n 3 mc_23 dX2_atSource_2 rfl rfl rfl).trans ?_
  refine (s_iviI 6 mc_23 dX2_atSource_3 rfl mo_23 mm_2_182 (by decide) ms_18 mi_18 mr_18 ma_18 mo_18 (by decide) (Nat.le_of_ble_eq_true rfl) rfl rfl (Nat.le_of_ble_eq_true rfl)).trans ?_
  refine gd_c ?_
  refine bI_c fun r1 h1 => ?_
  refine (s_istore_n 7 mc_23 dX2_atSource_6 rfl rfl (Nat.le_of_ble_eq_true rfl) rfl).trans ?_
  refine (s_aload_n 8 mc_23 dX2_atSource_7 rfl rfl rfl).trans ?_
  refine (s_getfR 11 mc_23 dX2_atSource_8 rfl mo_23 fs_2_19 ff_2_19 rfl).trans ?_
  refine gR_c fun g2 => ?_
  refine (s_iload_n 12 mc_23 dX2_atSource_11 rfl rfl rfl).trans ?_
  refine (s_aaload 13 mc_23 dX2_atSource_12 rfl).trans ?_
  refine aR_c fun g3 => ?_
  refine (s_astore 15 mc_23 dX2_atSource_13 rfl (Nat.le_of_ble_eq_true rfl) rfl).trans ?_
  refine (s_aload 17 mc_23 dX2_atSource_15 rfl rfl).trans ?_
  refine (s_iconst 18 5 mc_23 dX2_atSource_17 rfl (by decide)).trans ?_
  refine (s_aload_n 19 mc_23 dX2_atSource_18 rfl rfl rfl).trans ?_
  refine (s_getfI 22 mc_23 dX2_atSource_19 rfl mo_23 fs_2_143 ff_2_143 (Or.inl rfl)).trans ?_
  refine gI_c fun g4 => ?_
  refine (s_iload_n 23 mc_23 dX2_atSource_22 rfl rfl rfl).trans ?_
  refine (s_icmp_ne 30 26 mc_23 dX2_atSource_23 rfl rfl).trans ?_
  refine ite_c ?_ ?_
  · skip
    refine (s_iconst 31 0 mc_23 dX2_atSource_30 rfl (by decide)).trans ?_
    refine (s_iastore 32 mc_23 dX2_atSource_31 rfl).trans ?_
    refine wI_c fun h2 => ?_
    refine (s_aload 34 mc_23 dX2_atSource_32 rfl rfl).trans ?_
    refine (s_bipush 36 6 mc_23 dX2_atSource_34 rfl (by decide)).trans ?_
    refine (s_aload_n 37 mc_23 dX2_atSource_36 rfl rfl rfl).trans ?_
    refine (s_getfI 40 mc_23 dX2_atSource_37 rfl mo_23 fs_2_185 ff_2_185 (Or.inl rfl)).trans ?_
    refine gI_c fun g5 => ?_
    refine (s_iload_n 41 mc_23 dX2_atSource_40 rfl rfl rfl).trans ?_
    refine (s_icmp_ne 48 44 mc_23 dX2_atSource_41 rfl rfl).trans ?_
    refine ite_c ?_ ?_
    · skip
      refine (s_iconst 49 0 mc_23 dX2_atSource_48 rfl (by decide)).trans ?_
      rfl
    · skip
      refine (s_iconst 45 1 mc_23 dX2_atSource_44 rfl (by decide)).trans ?_
      refine (s_goto 49 mc_23 dX2_atSource_45 rfl).trans ?_
      rfl
  · skip
    refine (s_iconst 27 1 mc_23 dX2_atSource_26 rfl (by decide)).trans ?_
    refine (s_goto 31 mc_23 dX2_atSource_27 rfl).trans ?_
    refine (s_iastore 32 mc_23 dX2_atSource_31 rfl).trans ?_
    refine wI_c fun h3 => ?_
    refine (s_aload 34 mc_23 dX2_atSource_32 rfl rfl).trans ?_
    refine (s_bipush 36 6 mc_23 dX2_atSource_34 rfl (by decide)).trans ?_
    refine (s_aload_n 37 mc_23 dX2_atSource_36 rfl rfl rfl).trans ?_
    refine (s_getfI 40 mc_23 dX2_atSource_37 rfl mo_23 fs_2_185 ff_2_185 (Or.inl rfl)).trans ?_
    refine gI_c fun g6 => ?_
    refine (s_iload_n 41 mc_23 dX2_atSource_40 rfl rfl rfl).trans ?_
    refine (s_icmp_ne 48 44 mc_23 dX2_atSource_41 rfl rfl).trans ?_
    refine ite_c ?_ ?_
    · skip
      refine (s_iconst 49 0 mc_23 dX2_atSource_48 rfl (by decide)).trans ?_
      rfl
    · skip
      refine (s_iconst 45 1 mc_23 dX2_atSource_44 rfl (by decide)).trans ?_
      refine (s_goto 49 mc_23 dX2_atSource_45 rfl).trans ?_
      rfl
theorem b_23_49 {X : Ctx} {d : Nat} (x0 : Nat) (x1 : Nat) (x2 : Int32) (x3 : Int32) (x4 : Nat) (v5 : Option Value) (v6 : Option Value) (s0 : Nat) (s1 : Int32) (s2 : Int32) (h : Hp) : sem (X, K X d) 23 49 [some (.ref x0), some (.ref x1), some (.int x2), some (.int x3), some (.ref x4), v5, v6] [.int s2, .int s1, .ref s0] h = wI h s0 s1 s2 fun h1 => gI h1 8 x1 2 fun g1 => wI h1 x4 7 g1 fun h2 => gR h2 2 x0 0 fun g2 => aR h2 g2 x2 fun g3 => gR h2 2 x0 3 fun g4 => gd (hS h2 g3 = (2, 0)) (bI (K X d 7 [.ref g3, .int x3, .ref x4, .ref g4] h2) fun r5 h3 => sem (X, K X d) 23 80 [some (.ref x0), some (.ref x1), some (.int x2), some (.int x3), some (.ref x4), some (.int r5), some (.int 0)] [] h3) := by
  refine (s_iastore 50 mc_23 dX2_atSource_49 rfl).trans ?_
  refine wI_c fun h1 => ?_
  refine (s_aload 52 mc_23 dX2_atSource_50 rfl rfl).trans ?_
  refine (s_bipush 54 7 mc_23 dX2_atSource_52 rfl (by decide)).trans ?_
  refine (s_aload_n 55 mc_23 dX2_atSource_54 rfl rfl rfl).trans ?_
  refine (s_getfI 58 mc_23 dX2_atSource_55 rfl mo_23 fs_2_163 ff_2_163 (Or.inl rfl)).trans ?_
  refine gI_c fun g1 => ?_
  refine (s_iastore 59 mc_23 dX2_atSource_58 rfl).trans ?_
  refine wI_c fun h2 => ?_
  refine (s_aload_n 60 mc_23 dX2_atSource_59 rfl rfl rfl).trans ?_
  refine (s_getfR 63 mc_23 dX2_atSource_60 rfl mo_23 fs_2_11 ff_2_11 rfl).trans ?_
  refine gR_c fun g2 => ?_
  refine (s_iload_n 64 mc_23 dX2_atSource_63 rfl rfl rfl).trans ?_
  refine (s_aaload 65 mc_23 dX2_atSource_64 rfl).trans ?_
  refine aR_c fun g3 => ?_
  refine (s_iload_n 66 mc_23 dX2_atSource_65 rfl rfl rfl).trans ?_
  refine (s_aload 68 mc_23 dX2_atSource_66 rfl rfl).trans ?_
  refine (s_aload_n 69 mc_23 dX2_atSource_68 rfl rfl rfl).trans ?_
  refine (s_getfR 72 mc_23 dX2_atSource_69 rfl mo_23 fs_2_26 ff_2_26 rfl).trans ?_
  refine gR_c fun g4 => ?_
  refine (s_iviI 75 mc_23 dX2_atSource_72 rfl mo_23 mm_2_188 (by decide) ms_7 mi_7 mr_7 ma_7 mo_7 (by decide) (Nat.le_of_ble_eq_true rfl) rfl rfl (Nat.le_of_ble_eq_true rfl)).trans ?_
  refine gd_c ?_
  refine bI_c fun r5 h3 => ?_
  refine (s_istore 77 mc_23 dX2_atSource_75 rfl (Nat.le_of_ble_eq_true rfl) rfl).trans ?_
  refine (s_iconst 78 0 mc_23 dX2_atSource_77 rfl (by decide)).trans ?_
  refine (s_istore 80 mc_23 dX2_atSource_78 rfl (Nat.le_of_ble_eq_true rfl) rfl).trans ?_
  rfl
theorem b_23_80 {X : Ctx} {d : Nat} (x0 : Nat) (v1 : Option Value) (x2 : Int32) (x3 : Int32) (v4 : Option Value) (x5 : Int32) (x6 : Int32)  (h : Hp) : sem (X, K X d) 23 80 [some (.ref x0), v1, some (.int x2), some (.int x3), v4, some (.int x5), some (.int x6)] [] h = if 6 ≤ x6 then some (some (.int x5), h) else gI h 2 x0 15 fun g1 => bI (K X d 140 [.long (g1 : Int32).toInt64, .int x6] h) fun r2 h1 => if r2 = 0 then sem (X, K X d) 23 80 [some (.ref x0), v1, some (.int x2), some (.int x3), v4, some (.int x5), some (.int (x6 + 1))] [] h1 else if x6 = x2 then sem (X, K X d) 23 80 [some (.ref x0), v1, some (.int x2), some (.int x3), v4, some (.int x5), some (.int (x6 + 1))] [] h1 else gR h1 2 x0 12 fun g3 => bI (K X d 141 [.int x6, .int x2] h1) fun r4 h2 => aR h2 g3 r4 fun g5 => gd (hS h2 g5 = (4, 0)) (bI (K X d 34 [.ref g5, .int x3] h2) fun r6 h3 => sem (X, K X d) 23 80 [some (.ref x0), v1, some (.int x2), some (.int x3), v4, some (.int (if r6 < x5 then r6 else x5)), some (.int (x6 + 1))] [] h3) := by
  refine (s_iload 82 mc_23 dX2_atSource_80 rfl rfl).trans ?_
  refine (s_bipush 84 6 mc_23 dX2_atSource_82 rfl (by decide)).trans ?_
  refine (s_icmp_ge 134 87 mc_23 dX2_atSource_84 rfl rfl).trans ?_
  refine ite_c ?_ ?_
  · skip
    refine (s_iload 136 mc_23 dX2_atSource_134 rfl rfl).trans ?_
    exact s_iret mc_23 dX2_atSource_136 mt_23
  · skip
    refine (s_aload_n 88 mc_23 dX2_atSource_87 rfl rfl rfl).trans ?_
    refine (s_getfI 91 mc_23 dX2_atSource_88 rfl mo_23 fs_2_89 ff_2_89 (Or.inl rfl)).trans ?_
    refine gI_c fun g1 => ?_
    refine (s_i2l 92 mc_23 dX2_atSource_91 rfl).trans ?_
    refine (s_iload 94 mc_23 dX2_atSource_92 rfl rfl).trans ?_
    refine (s_istI 97 mc_23 dX2_atSource_94 rfl mo_23 mm_2_92 (by decide) ms_140 mr_140 ma_140 (Nat.le_of_ble_eq_true rfl) rfl rfl (Nat.le_of_ble_eq_true rfl)).trans ?_
    refine bI_c fun r2 h1 => ?_
    refine (s_if_eq 128 100 mc_23 dX2_atSource_97 rfl rfl).trans ?_
    refine ite_c ?_ ?_
    · skip
      refine (s_iinc 1 131 mc_23 dX2_atSource_128 rfl rfl (Nat.le_of_ble_eq_true rfl) (by decide) rfl).trans ?_
      refine (s_goto 80 mc_23 dX2_atSource_131 rfl).trans ?_
      rfl
    · skip
      refine (s_iload 102 mc_23 dX2_atSource_100 rfl rfl).trans ?_
      refine (s_iload_n 103 mc_23 dX2_atSource_102 rfl rfl rfl).trans ?_
      refine (s_icmp_eq 128 106 mc_23 dX2_atSource_103 rfl rfl).trans ?_
      refine ite_c ?_ ?_
      · skip
        refine (s_iinc 1 131 mc_23 dX2_atSource_128 rfl rfl (Nat.le_of_ble_eq_true rfl) (by decide) rfl).trans ?_
        refine (s_goto 80 mc_23 dX2_atSource_131 rfl).trans ?_
        rfl
      · skip
        refine (s_iload 108 mc_23 dX2_atSource_106 rfl rfl).trans ?_
        refine (s_aload_n 109 mc_23 dX2_atSource_108 rfl rfl rfl).trans ?_
        refine (s_getfR 112 mc_23 dX2_atSource_109 rfl mo_23 fs_2_116 ff_2_116 rfl).trans ?_
        refine gR_c fun g3 => ?_
        refine (s_iload 114 mc_23 dX2_atSource_112 rfl rfl).trans ?_
        refine (s_iload_n 115 mc_23 dX2_atSource_114 rfl rfl rfl).trans ?_
        refine (s_istI 118 mc_23 dX2_atSource_115 rfl mo_23 mm_2_81 (by decide) ms_141 mr_141 ma_141 (Nat.le_of_ble_eq_true rfl) rfl rfl (Nat.le_of_ble_eq_true rfl)).trans ?_
        refine bI_c fun r4 h2 => ?_
        refine (s_aaload 119 mc_23 dX2_atSource_118 rfl).trans ?_
        refine aR_c fun g5 => ?_
        refine (s_iload_n 120 mc_23 dX2_atSource_119 rfl rfl rfl).trans ?_
        refine (s_iviI 123 mc_23 dX2_atSource_120 rfl mo_23 mm_2_192 (by decide) ms_34 mi_34 mr_34 ma_34 mo_34 (by decide) (Nat.le_of_ble_eq_true rfl) rfl rfl (Nat.le_of_ble_eq_true rfl)).trans ?_
        refine gd_c ?_
        refine bI_c fun r6 h3 => ?_
        refine (s_mmin 126 mc_23 dX2_atSource_123 rfl mo_23 mm_2_196 (Nat.le_of_ble_eq_true rfl)).trans ?_
        refine (s_istore 128 mc_23 dX2_atSource_126 rfl (Nat.le_of_ble_eq_true rfl) rfl).trans ?_
        refine (s_iinc 1 131 mc_23 dX2_atSource_128 rfl rfl (Nat.le_of_ble_eq_true rfl) (by decide) rfl).trans ?_
        refine (s_goto 80 mc_23 dX2_atSource_131 rfl).trans ?_
        rfl
/-- FiveLands$Levy.takenOf(I)J -/
theorem k_24 {X : Ctx} {d : Nat} (x0 : Nat) (x1 : Int32) (h : Hp) : K X (d + 1) 24 [.ref x0, .int x1] h = sem (X, K X d) 24 5 [some (.ref x0), some (.int x1), some (.long 0), none, some (.int 0)] [] h := by
  show sem (X, K X d) 24 0 [some (.ref x0), some (.int x1), none, none, none] [] h = _
  refine (s_lconst 1 0 mc_24 dX2_takenOf_0 rfl (by decide)).trans ?_
  refine (s_lstore_n 2 mc_24 dX2_takenOf_1 rfl rfl (Nat.le_of_ble_eq_true rfl) rfl).trans ?_
  refine (s_iconst 3 0 mc_24 dX2_takenOf_2 rfl (by decide)).trans ?_
  refine (s_istore 5 mc_24 dX2_takenOf_3 rfl (Nat.le_of_ble_eq_true rfl) rfl).trans ?_
  rfl
theorem b_24_5 {X : Ctx} {d : Nat} (x0 : Nat) (x1 : Int32) (x2 : Int64) (x4 : Int32)  (h : Hp) : sem (X, K X d) 24 5 [some (.ref x0), some (.int x1), some (.long x2), none, some (.int x4)] [] h = if 6 ≤ x4 then some (some (.long x2), h) else bI (K X d 140 [.long (x1 : Int32).toInt64, .int x4] h) fun r1 h1 => if r1 = 0 then sem (X, K X d) 24 5 [some (.ref x0), some (.int x1), some (.long (x2 + 0)), none, some (.int (x4 + 1))] [] h1 else gR h1 2 x0 8 fun g2 => aJ h1 g2 x4 fun g3 => sem (X, K X d) 24 5 [some (.ref x0), some (.int x1), some (.long (x2 + g3)), none, some (.int (x4 + 1))] [] h1 := by
  refine (s_iload 7 mc_24 dX2_takenOf_5 rfl rfl).trans ?_
  refine (s_bipush 9 6 mc_24 dX2_takenOf_7 rfl (by decide)).trans ?_
  refine (s_icmp_ge 42 12 mc_24 dX2_takenOf_9 rfl rfl).trans ?_
  refine ite_c ?_ ?_
  · skip
    refine (s_lload_n 43 mc_24 dX2_takenOf_42 rfl rfl rfl rfl).trans ?_
    exact s_lret mc_24 dX2_takenOf_43 mt_24
  · skip
    refine (s_lload_n 13 mc_24 dX2_takenOf_12 rfl rfl rfl rfl).trans ?_
    refine (s_iload_n 14 mc_24 dX2_takenOf_13 rfl rfl rfl).trans ?_
    refine (s_i2l 15 mc_24 dX2_takenOf_14 rfl).trans ?_
    refine (s_iload 17 mc_24 dX2_takenOf_15 rfl rfl).trans ?_
    refine (s_istI 20 mc_24 dX2_takenOf_17 rfl mo_24 mm_2_92 (by decide) ms_140 mr_140 ma_140 (Nat.le_of_ble_eq_true rfl) rfl rfl (Nat.le_of_ble_eq_true rfl)).trans ?_
    refine bI_c fun r1 h1 => ?_
    refine (s_if_eq 33 23 mc_24 dX2_takenOf_20 rfl rfl).trans ?_
    refine ite_c ?_ ?_
    · skip
      refine (s_lconst 34 0 mc_24 dX2_takenOf_33 rfl (by decide)).trans ?_
      refine (s_ladd 35 mc_24 dX2_takenOf_34 rfl).trans ?_
      refine (s_lstore_n 36 mc_24 dX2_takenOf_35 rfl rfl (Nat.le_of_ble_eq_true rfl) rfl).trans ?_
      refine (s_iinc 1 39 mc_24 dX2_takenOf_36 rfl rfl (Nat.le_of_ble_eq_true rfl) (by decide) rfl).trans ?_
      refine (s_goto 5 mc_24 dX2_takenOf_39 rfl).trans ?_
      rfl
    · skip
      refine (s_aload_n 24 mc_24 dX2_takenOf_23 rfl rfl rfl).trans ?_
      refine (s_getfR 27 mc_24 dX2_takenOf_24 rfl mo_24 fs_2_42 ff_2_42 rfl).trans ?_
      refine gR_c fun g2 => ?_
      refine (s_iload 29 mc_24 dX2_takenOf_27 rfl rfl).trans ?_
      refine (s_laload 30 mc_24 dX2_takenOf_29 rfl).trans ?_
      refine aJ_c fun g3 => ?_
      refine (s_goto 34 mc_24 dX2_takenOf_30 rfl).trans ?_
      refine (s_ladd 35 mc_24 dX2_takenOf_34 rfl).trans ?_
      refine (s_lstore_n 36 mc_24 dX2_takenOf_35 rfl rfl (Nat.le_of_ble_eq_true rfl) rfl).trans ?_
      refine (s_iinc 1 39 mc_24 dX2_takenOf_36 rfl rfl (Nat.le_of_ble_eq_true rfl) (by decide) rfl).trans ?_
      refine (s_goto 5 mc_24 dX2_takenOf_39 rfl).trans ?_
      rfl
/-- FiveLands$Levy.chooseAnswer(I)V -/
theorem k_25 {X : Ctx} {d : Nat} (x0 : Nat) (x1 : Int32) (h : Hp) : K X (d + 1) 25 [.ref x0, .int x1] h = fI h 2 x0 17 0 fun h1 => gR h1 2 x0 8 fun g1 => gR h1 2 x0 9 fun g2 => acp h1 g1 0 g2 0 6 (Nat.le_of_ble_eq_true rfl : (([] : List Value).map Value.category).sum ≤ 8) fun h2 => sem (X, K X d) 25 22 [some (.ref x0), some (.int x1), some (.int 0)] [] h2 := by
  show sem (X, K X d) 25 0 [some (.ref x0), some (.int x1), none] [] h = _
  refine (s_aload_n 1 mc_25 dX2_chooseAnswer_0 rfl rfl rfl).trans ?_
  refine (s_iconst 2 0 mc_25 dX2_chooseAnswer_1 rfl (by decide)).trans ?_
  refine (s_putfI 5 mc_25 dX2_chooseAnswer_2 rfl mo_25 ff_2_201 rfl (Or.inl rfl)).trans ?_
  refine fI_c fun h1 => ?_
  refine (s_aload_n 6 mc_25 dX2_chooseAnswer_5 rfl rfl rfl).trans ?_
  refine (s_getfR 9 mc_25 dX2_chooseAnswer_6 rfl mo_25 fs_2_42 ff_2_42 rfl).trans ?_
  refine gR_c fun g1 => ?_
  refine (s_iconst 10 0 mc_25 dX2_chooseAnswer_9 rfl (by decide)).trans ?_
  refine (s_aload_n 11 mc_25 dX2_chooseAnswer_10 rfl rfl rfl).trans ?_
  refine (s_getfR 14 mc_25 dX2_chooseAnswer_11 rfl mo_25 fs_2_45 ff_2_45 rfl).trans ?_
  refine gR_c fun g2 => ?_
  refine (s_iconst 15 0 mc_25 dX2_chooseAnswer_14 rfl (by decide)).trans ?_
  refine (s_bipush 17 6 mc_25 dX2_chooseAnswer_15 rfl (by decide)).trans ?_
  refine (s_cpyI 20 mc_25 dX2_chooseAnswer_17 rfl mo_25 mm_2_204).trans ?_
  refine acp_i (F := fun h2 => sem (X, K X d) 25 20 [some (.ref x0), some (.int x1), none] [] h2) ?_
  intro h2
  refine (s_iconst 21 0 mc_25 dX2_chooseAnswer_20 rfl (by decide)).trans ?_
  refine (s_istore_n 22 mc_25 dX2_chooseAnswer_21 rfl rfl (Nat.le_of_ble_eq_true rfl) rfl).trans ?_
  rfl
theorem b_25_22 {X : Ctx} {d : Nat} (x0 : Nat) (x1 : Int32) (x2 : Int32)  (h : Hp) : sem (X, K X d) 25 22 [some (.ref x0), some (.int x1), some (.int x2)] [] h = if x1 < x2 then some (none, h) else if ¬ (x2 &&& (x1 ^^^ (-1))) = 0 then sem (X, K X d) 25 22 [some (.ref x0), some (.int x1), some (.int (x2 + 1))] [] h else gR h 2 x0 11 fun g1 => gR h 2 x0 5 fun g2 => gR h 2 x0 10 fun g3 => gd (hS h g1 = (7, 0)) (bI (K X d 78 [.ref g1, .int x2, .int x1, .ref g2, .ref g3] h) fun r4 h1 => if r4 = 0 then sem (X, K X d) 25 22 [some (.ref x0), some (.int x1), some (.int (x2 + 1))] [] h1 else gI h1 2 x0 17 fun g5 => fI h1 2 x0 17 (g5 + 1) fun h2 => gI h2 2 x0 17 fun g6 => if ¬ g6 = 1 then sem (X, K X d) 25 22 [some (.ref x0), some (.int x1), some (.int (x2 + 1))] [] h2 else gd (hS h2 x0 = (3, 0)) (bV (K X d 26 [.ref x0, .int x2] h2) fun h3 => sem (X, K X d) 25 22 [some (.ref x0), some (.int x1), some (.int (x2 + 1))] [] h3)) := by
  refine (s_iload_n 23 mc_25 dX2_chooseAnswer_22 rfl rfl rfl).trans ?_
  refine (s_iload_n 24 mc_25 dX2_chooseAnswer_23 rfl rfl rfl).trans ?_
  refine (s_icmp_gt 84 27 mc_25 dX2_chooseAnswer_24 rfl rfl).trans ?_
  refine ite_c ?_ ?_
  · skip
    exact s_vret mc_25 dX2_chooseAnswer_84 mt_25
  · skip
    refine (s_iload_n 28 mc_25 dX2_chooseAnswer_27 rfl rfl rfl).trans ?_
    refine (s_iload_n 29 mc_25 dX2_chooseAnswer_28 rfl rfl rfl).trans ?_
    refine (s_iconst 30 (-1) mc_25 dX2_chooseAnswer_29 rfl (by decide)).trans ?_
    refine (s_ixor 31 mc_25 dX2_chooseAnswer_30 rfl).trans ?_
    refine (s_iand 32 mc_25 dX2_chooseAnswer_31 rfl).trans ?_
    refine (s_if_ne 78 35 mc_25 dX2_chooseAnswer_32 rfl rfl).trans ?_
    refine ite_c ?_ ?_
    · skip
      refine (s_iinc 1 81 mc_25 dX2_chooseAnswer_78 rfl rfl (Nat.le_of_ble_eq_true rfl) (by decide) rfl).trans ?_
      refine (s_goto 22 mc_25 dX2_chooseAnswer_81 rfl).trans ?_
      rfl
    · skip
      refine (s_aload_n 36 mc_25 dX2_chooseAnswer_35 rfl rfl rfl).trans ?_
      refine (s_getfR 39 mc_25 dX2_chooseAnswer_36 rfl mo_25 fs_2_54 ff_2_54 rfl).trans ?_
      refine gR_c fun g1 => ?_
      refine (s_iload_n 40 mc_25 dX2_chooseAnswer_39 rfl rfl rfl).trans ?_
      refine (s_iload_n 41 mc_25 dX2_chooseAnswer_40 rfl rfl rfl).trans ?_
      refine (s_aload_n 42 mc_25 dX2_chooseAnswer_41 rfl rfl rfl).trans ?_
      refine (s_getfR 45 mc_25 dX2_chooseAnswer_42 rfl mo_25 fs_2_32 ff_2_32 rfl).trans ?_
      refine gR_c fun g2 => ?_
      refine (s_aload_n 46 mc_25 dX2_chooseAnswer_45 rfl rfl rfl).trans ?_
      refine (s_getfR 49 mc_25 dX2_chooseAnswer_46 rfl mo_25 fs_2_48 ff_2_48 rfl).trans ?_
      refine gR_c fun g3 => ?_
      refine (s_iviI 52 mc_25 dX2_chooseAnswer_49 rfl mo_25 mm_2_210 (by decide) ms_78 mi_78 mr_78 ma_78 mo_78 (by decide) (Nat.le_of_ble_eq_true rfl) rfl rfl (Nat.le_of_ble_eq_true rfl)).trans ?_
      refine gd_c ?_
      refine bI_c fun r4 h1 => ?_
      refine (s_if_eq 78 55 mc_25 dX2_chooseAnswer_52 rfl rfl).trans ?_
      refine ite_c ?_ ?_
      · skip
        refine (s_iinc 1 81 mc_25 dX2_chooseAnswer_78 rfl rfl (Nat.le_of_ble_eq_true rfl) (by decide) rfl).trans ?_
        refine (s_goto 22 mc_25 dX2_chooseAnswer_81 rfl).trans ?_
        rfl
      · skip
        refine (s_aload_n 56 mc_25 dX2_chooseAnswer_55 rfl rfl rfl).trans ?_
        refine (s_dup 57 mc_25 dX2_chooseAnswer_56 rfl rfl).trans ?_
        refine (s_getfI 60 mc_25 dX2_chooseAnswer_57 rfl mo_25 fs_2_201 ff_2_201 (Or.inl rfl)).trans ?_
        refine gI_c fun g5 => ?_
        refine (s_iconst 61 1 mc_25 dX2_chooseAnswer_60 rfl (by decide)).trans ?_
        refine (s_iadd 62 mc_25 dX2_chooseAnswer_61 rfl).trans ?_
        refine (s_putfI 65 mc_25 dX2_chooseAnswer_62 rfl mo_25 ff_2_201 rfl (Or.inl rfl)).trans ?_
        refine fI_c fun h2 => ?_
        refine (s_aload_n 66 mc_25 dX2_chooseAnswer_65 rfl rfl rfl).trans ?_
        refine (s_getfI 69 mc_25 dX2_chooseAnswer_66 rfl mo_25 fs_2_201 ff_2_201 (Or.inl rfl)).trans ?_
        refine gI_c fun g6 => ?_
        refine (s_iconst 70 1 mc_25 dX2_chooseAnswer_69 rfl (by decide)).trans ?_
        refine (s_icmp_ne 78 73 mc_25 dX2_chooseAnswer_70 rfl rfl).trans ?_
        refine ite_c ?_ ?_
        · skip
          refine (s_iinc 1 81 mc_25 dX2_chooseAnswer_78 rfl rfl (Nat.le_of_ble_eq_true rfl) (by decide) rfl).trans ?_
          refine (s_goto 22 mc_25 dX2_chooseAnswer_81 rfl).trans ?_
          rfl
        · skip
          refine (s_aload_n 74 mc_25 dX2_chooseAnswer_73 rfl rfl rfl).trans ?_
          refine (s_iload_n 75 mc_25 dX2_chooseAnswer_74 rfl rfl rfl).trans ?_
          refine (s_iviV 78 mc_25 dX2_chooseAnswer_75 rfl mo_25 mm_2_213 (by decide) ms_26 mi_26 mr_26 ma_26 mo_26 (by decide) (Nat.le_of_ble_eq_true rfl) rfl rfl (Nat.le_of_ble_eq_true rfl)).trans ?_
          refine gd_c ?_
          refine bV_c fun h3 => ?_
          refine (s_iinc 1 81 mc_25 dX2_chooseAnswer_78 rfl rfl (Nat.le_of_ble_eq_true rfl) (by decide) rfl).trans ?_
          refine (s_goto 22 mc_25 dX2_chooseAnswer_81 rfl).trans ?_
          rfl
/-- FiveLands$Levy.takeAnswer(I)V -/
theorem k_26 {X : Ctx} {d : Nat} (x0 : Nat) (x1 : Int32) (h : Hp) : K X (d + 1) 26 [.ref x0, .int x1] h = sem (X, K X d) 26 2 [some (.ref x0), some (.int x1), some (.int 0)] [] h := by
  show sem (X, K X d) 26 0 [some (.ref x0), some (.int x1), none] [] h = _
  refine (s_iconst 1 0 mc_26 dX2_takeAnswer_0 rfl (by decide)).trans ?_
  refine (s_istore_n 2 mc_26 dX2_takeAnswer_1 rfl rfl (Nat.le_of_ble_eq_true rfl) rfl).trans ?_
  rfl
theorem b_26_2 {X : Ctx} {d : Nat} (x0 : Nat) (x1 : Int32) (x2 : Int32)  (h : Hp) : sem (X, K X d) 26 2 [some (.ref x0), some (.int x1), some (.int x2)] [] h = if 6 ≤ x2 then some (none, h) else gI h 2 x0 15 fun g1 => bI (K X d 140 [.long (g1 : Int32).toInt64, .int x2] h) fun r2 h1 => if r2 = 0 then sem (X, K X d) 26 2 [some (.ref x0), some (.int x1), some (.int (x2 + 1))] [] h1 else gR h1 2 x0 9 fun g3 => bI (K X d 140 [.long (x1 : Int32).toInt64, .int x2] h1) fun r4 h2 => if r4 = 0 then wJ h2 g3 x2 0 fun h3 => sem (X, K X d) 26 2 [some (.ref x0), some (.int x1), some (.int (x2 + 1))] [] h3 else gR h2 2 x0 11 fun g5 => gd (hS h2 g5 = (7, 0)) (bJ (K X d 83 [.ref g5, .int x2] h2) fun r6 h4 => wJ h4 g3 x2 r6 fun h5 => sem (X, K X d) 26 2 [some (.ref x0), some (.int x1), some (.int (x2 + 1))] [] h5) := by
  refine (s_iload_n 3 mc_26 dX2_takeAnswer_2 rfl rfl rfl).trans ?_
  refine (s_bipush 5 6 mc_26 dX2_takeAnswer_3 rfl (by decide)).trans ?_
  refine (s_icmp_ge 53 8 mc_26 dX2_takeAnswer_5 rfl rfl).trans ?_
  refine ite_c ?_ ?_
  · skip
    exact s_vret mc_26 dX2_takeAnswer_53 mt_26
  · skip
    refine (s_aload_n 9 mc_26 dX2_takeAnswer_8 rfl rfl rfl).trans ?_
    refine (s_getfI 12 mc_26 dX2_takeAnswer_9 rfl mo_26 fs_2_89 ff_2_89 (Or.inl rfl)).trans ?_
    refine gI_c fun g1 => ?_
    refine (s_i2l 13 mc_26 dX2_takeAnswer_12 rfl).trans ?_
    refine (s_iload_n 14 mc_26 dX2_takeAnswer_13 rfl rfl rfl).trans ?_
    refine (s_istI 17 mc_26 dX2_takeAnswer_14 rfl mo_26 mm_2_92 (by decide) ms_140 mr_140 ma_140 (Nat.le_of_ble_eq_true rfl) rfl rfl (Nat.le_of_ble_eq_true rfl)).trans ?_
    refine bI_c fun r2 h1 => ?_
    refine (s_if_eq 47 20 mc_26 dX2_takeAnswer_17 rfl rfl).trans ?_
    refine ite_c ?_ ?_
    · skip
      refine (s_iinc 1 50 mc_26 dX2_takeAnswer_47 rfl rfl (Nat.le_of_ble_eq_true rfl) (by decide) rfl).trans ?_
      refine (s_goto 2 mc_26 dX2_takeAnswer_50 rfl).trans ?_
      rfl
    · skip
      refine (s_aload_n 21 mc_26 dX2_takeAnswer_20 rfl rfl rfl).trans ?_
      refine (s_getfR 24 mc_26 dX2_takeAnswer_21 rfl mo_26 fs_2_45 ff_2_45 rfl).trans ?_
      refine gR_c fun g3 => ?_
      refine (s_iload_n 25 mc_26 dX2_takeAnswer_24 rfl rfl rfl).trans ?_
      refine (s_iload_n 26 mc_26 dX2_takeAnswer_25 rfl rfl rfl).trans ?_
      refine (s_i2l 27 mc_26 dX2_takeAnswer_26 rfl).trans ?_
      refine (s_iload_n 28 mc_26 dX2_takeAnswer_27 rfl rfl rfl).trans ?_
      refine (s_istI 31 mc_26 dX2_takeAnswer_28 rfl mo_26 mm_2_92 (by decide) ms_140 mr_140 ma_140 (Nat.le_of_ble_eq_true rfl) rfl rfl (Nat.le_of_ble_eq_true rfl)).trans ?_
      refine bI_c fun r4 h2 => ?_
      refine (s_if_eq 45 34 mc_26 dX2_takeAnswer_31 rfl rfl).trans ?_
      refine ite_c ?_ ?_
      · skip
        refine (s_lconst 46 0 mc_26 dX2_takeAnswer_45 rfl (by decide)).trans ?_
        refine (s_lastore 47 mc_26 dX2_takeAnswer_46 rfl).trans ?_
        refine wJ_c fun h3 => ?_
        refine (s_iinc 1 50 mc_26 dX2_takeAnswer_47 rfl rfl (Nat.le_of_ble_eq_true rfl) (by decide) rfl).trans ?_
        refine (s_goto 2 mc_26 dX2_takeAnswer_50 rfl).trans ?_
        rfl
      · skip
        refine (s_aload_n 35 mc_26 dX2_takeAnswer_34 rfl rfl rfl).trans ?_
        refine (s_getfR 38 mc_26 dX2_takeAnswer_35 rfl mo_26 fs_2_54 ff_2_54 rfl).trans ?_
        refine gR_c fun g5 => ?_
        refine (s_iload_n 39 mc_26 dX2_takeAnswer_38 rfl rfl rfl).trans ?_
        refine (s_iviJ 42 mc_26 dX2_takeAnswer_39 rfl mo_26 mm_2_216 (by decide) ms_83 mi_83 mr_83 ma_83 mo_83 (by decide) (Nat.le_of_ble_eq_true rfl) rfl rfl (Nat.le_of_ble_eq_true rfl)).trans ?_
        refine gd_c ?_
        refine bJ_c fun r6 h4 => ?_
        refine (s_goto 46 mc_26 dX2_takeAnswer_42 rfl).trans ?_
        refine (s_lastore 47 mc_26 dX2_takeAnswer_46 rfl).trans ?_
        refine wJ_c fun h5 => ?_
        refine (s_iinc 1 50 mc_26 dX2_takeAnswer_47 rfl rfl (Nat.le_of_ble_eq_true rfl) (by decide) rfl).trans ?_
        refine (s_goto 2 mc_26 dX2_takeAnswer_50 rfl).trans ?_
        rfl
/-- FiveLands$Levy.takers()I -/
theorem k_27 {X : Ctx} {d : Nat} (x0 : Nat) (h : Hp) : K X (d + 1) 27 [.ref x0] h = sem (X, K X d) 27 4 [some (.ref x0), some (.int 0), some (.int 0)] [] h := by
  show sem (X, K X d) 27 0 [some (.ref x0), none, none] [] h = _
  refine (s_iconst 1 0 mc_27 dX2_takers_0 rfl (by decide)).trans ?_
  refine (s_istore_n 2 mc_27 dX2_takers_1 rfl rfl (Nat.le_of_ble_eq_true rfl) rfl).trans ?_
  refine (s_iconst 3 0 mc_27 dX2_takers_2 rfl (by decide)).trans ?_
  refine (s_istore_n 4 mc_27 dX2_takers_3 rfl rfl (Nat.le_of_ble_eq_true rfl) rfl).trans ?_
  rfl
theorem b_27_4 {X : Ctx} {d : Nat} (x0 : Nat) (x1 : Int32) (x2 : Int32)  (h : Hp) : sem (X, K X d) 27 4 [some (.ref x0), some (.int x1), some (.int x2)] [] h = if 6 ≤ x2 then some (some (.int x1), h) else gR h 2 x0 9 fun g1 => aJ h g1 x2 fun g2 => if (lg_cmp g2 0) ≤ 0 then sem (X, K X d) 27 4 [some (.ref x0), some (.int (x1 + 0)), some (.int (x2 + 1))] [] h else sem (X, K X d) 27 4 [some (.ref x0), some (.int (x1 + 1)), some (.int (x2 + 1))] [] h := by
  refine (s_iload_n 5 mc_27 dX2_takers_4 rfl rfl rfl).trans ?_
  refine (s_bipush 7 6 mc_27 dX2_takers_5 rfl (by decide)).trans ?_
  refine (s_icmp_ge 35 10 mc_27 dX2_takers_7 rfl rfl).trans ?_
  refine ite_c ?_ ?_
  · skip
    refine (s_iload_n 36 mc_27 dX2_takers_35 rfl rfl rfl).trans ?_
    exact s_iret mc_27 dX2_takers_36 mt_27
  · skip
    refine (s_iload_n 11 mc_27 dX2_takers_10 rfl rfl rfl).trans ?_
    refine (s_aload_n 12 mc_27 dX2_takers_11 rfl rfl rfl).trans ?_
    refine (s_getfR 15 mc_27 dX2_takers_12 rfl mo_27 fs_2_45 ff_2_45 rfl).trans ?_
    refine gR_c fun g1 => ?_
    refine (s_iload_n 16 mc_27 dX2_takers_15 rfl rfl rfl).trans ?_
    refine (s_laload 17 mc_27 dX2_takers_16 rfl).trans ?_
    refine aJ_c fun g2 => ?_
    refine (s_lconst 18 0 mc_27 dX2_takers_17 rfl (by decide)).trans ?_
    refine (s_lcmp 19 mc_27 dX2_takers_18 rfl).trans ?_
    refine (s_if_le 26 22 mc_27 dX2_takers_19 rfl rfl).trans ?_
    refine ite_c ?_ ?_
    · skip
      refine (s_iconst 27 0 mc_27 dX2_takers_26 rfl (by decide)).trans ?_
      refine (s_iadd 28 mc_27 dX2_takers_27 rfl).trans ?_
      refine (s_istore_n 29 mc_27 dX2_takers_28 rfl rfl (Nat.le_of_ble_eq_true rfl) rfl).trans ?_
      refine (s_iinc 1 32 mc_27 dX2_takers_29 rfl rfl (Nat.le_of_ble_eq_true rfl) (by decide) rfl).trans ?_
      refine (s_goto 4 mc_27 dX2_takers_32 rfl).trans ?_
      rfl
    · skip
      refine (s_iconst 23 1 mc_27 dX2_takers_22 rfl (by decide)).trans ?_
      refine (s_goto 27 mc_27 dX2_takers_23 rfl).trans ?_
      refine (s_iadd 28 mc_27 dX2_takers_27 rfl).trans ?_
      refine (s_istore_n 29 mc_27 dX2_takers_28 rfl rfl (Nat.le_of_ble_eq_true rfl) rfl).trans ?_
      refine (s_iinc 1 32 mc_27 dX2_takers_29 rfl rfl (Nat.le_of_ble_eq_true rfl) (by decide) rfl).trans ?_
      refine (s_goto 4 mc_27 dX2_takers_32 rfl).trans ?_
      rfl
/-- FiveLands$Levy.share(II)I -/
theorem k_28 {X : Ctx} {d : Nat} (x0 : Nat) (x1 : Int32) (x2 : Int32) (h : Hp) : K X (d + 1) 28 [.ref x0, .int x1, .int x2] h = gR h 2 x0 0 fun g1 => aR h g1 x1 fun g2 => gR h 2 x0 2 fun g3 => gR h 2 x0 3 fun g4 => gd (hS h g2 = (2, 0)) (bI (K X d 7 [.ref g2, .int x2, .ref g3, .ref g4] h) fun r5 h1 => some (some (.int r5), h1)) := by
  show sem (X, K X d) 28 0 [some (.ref x0), some (.int x1), some (.int x2)] [] h = _
  refine (s_aload_n 1 mc_28 dX2_share_0 rfl rfl rfl).trans ?_
  refine (s_getfR 4 mc_28 dX2_share_1 rfl mo_28 fs_2_11 ff_2_11 rfl).trans ?_
  refine gR_c fun g1 => ?_
  refine (s_iload_n 5 mc_28 dX2_share_4 rfl rfl rfl).trans ?_
  refine (s_aaload 6 mc_28 dX2_share_5 rfl).trans ?_
  refine aR_c fun g2 => ?_
  refine (s_iload_n 7 mc_28 dX2_share_6 rfl rfl rfl).trans ?_
  refine (s_aload_n 8 mc_28 dX2_share_7 rfl rfl rfl).trans ?_
  refine (s_getfR 11 mc_28 dX2_share_8 rfl mo_28 fs_2_22 ff_2_22 rfl).trans ?_
  refine gR_c fun g3 => ?_
  refine (s_aload_n 12 mc_28 dX2_share_11 rfl rfl rfl).trans ?_
  refine (s_getfR 15 mc_28 dX2_share_12 rfl mo_28 fs_2_26 ff_2_26 rfl).trans ?_
  refine gR_c fun g4 => ?_
  refine (s_iviI 18 mc_28 dX2_share_15 rfl mo_28 mm_2_188 (by decide) ms_7 mi_7 mr_7 ma_7 mo_7 (by decide) (Nat.le_of_ble_eq_true rfl) rfl rfl (Nat.le_of_ble_eq_true rfl)).trans ?_
  refine gd_c ?_
  refine bI_c fun r5 h1 => ?_
  exact s_iret mc_28 dX2_share_18 mt_28
