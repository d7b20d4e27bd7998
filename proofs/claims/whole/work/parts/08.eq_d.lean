/-- FiveLands.<init>()V -/
theorem k_96 {X : Ctx} {d : Nat} (x0 : Nat) (h : Hp) : K X (d + 1) 96 [.ref x0] h = letH (hN h) (alc h (69, 2) 2) fun a1 h1 => fR h1 10 x0 0 a1 fun h2 => letH (hN h2) (alc h2 (3, 0) 18) fun a3 h3 => gd (hS h3 a3 = (3, 0)) (bV (K X d 11 [.ref a3] h3) fun h4 => fR h4 10 x0 8 a3 fun h5 => gR h5 10 x0 8 fun g1 => gR h5 2 g1 0 fun g2 => fR h5 10 x0 1 g2 fun h6 => letH (hN h6) (alc h6 (63, 15) 15) fun a7 h7 => fR h7 10 x0 2 a7 fun h8 => letH (hN h8) (alc h8 (63, 15) 15) fun a9 h9 => fR h9 10 x0 3 a9 fun h10 => letH (hN h10) (alc h10 (5, 0) 11) fun a11 h11 => gd (hS h11 a11 = (5, 0)) (bV (K X d 35 [.ref a11] h11) fun h12 => fR h12 10 x0 4 a11 fun h13 => letH (hN h13) (alc h13 (1, 0) 5) fun a14 h14 => gd (hS h14 a14 = (1, 0)) (bV (K X d 0 [.ref a14] h14) fun h15 => fR h15 10 x0 5 a14 fun h16 => letH (hN h16) (alc h16 (50, 600) 600) fun a17 h17 => fR h17 10 x0 6 a17 fun h18 => letH (hN h18) (alc h18 (6, 0) 15) fun a19 h19 => gd (hS h19 a19 = (6, 0)) (bV (K X d 37 [.ref a19] h19) fun h20 => fR h20 10 x0 7 a19 fun h21 => letH (hN h21) (alc h21 (8, 0) 5) fun a22 h22 => gd (hS h22 a22 = (8, 0)) (bV (K X d 84 [.ref a22] h22) fun h23 => fR h23 10 x0 9 a22 fun h24 => letH (hN h24) (alc h24 (9, 0) 5) fun a25 h25 => gd (hS h25 a25 = (9, 0)) (bV (K X d 90 [.ref a25] h25) fun h26 => fR h26 10 x0 10 a25 fun h27 => letH (hN h27) (alc h27 (2, 0) 12) fun a28 h28 => gd (hS h28 a28 = (2, 0)) (bV (K X d 1 [.ref a28] h28) fun h29 => fR h29 10 x0 11 a28 fun h30 => letH (hN h30) (alc h30 (4, 0) 7) fun a31 h31 => gd (hS h31 a31 = (4, 0)) (bV (K X d 29 [.ref a31] h31) fun h32 => fR h32 10 x0 12 a31 fun h33 => sem (X, K X d) 96 140 [some (.ref x0), some (.int 0)] [] h33)))))))) := by
  show sem (X, K X d) 96 0 [some (.ref x0), none] [] h = _
  refine (s_aload_n 1 mc_96 dX10_init_0 rfl rfl rfl).trans ?_
  refine (s_obj 4 mc_96 dX10_init_1 rfl mo_96 mm_10_3 mq_96 (Nat.le_of_ble_eq_true rfl)).trans ?_
  refine (s_aload_n 5 mc_96 dX10_init_4 rfl rfl rfl).trans ?_
  refine (s_iconst 6 2 mc_96 dX10_init_5 rfl (by decide)).trans ?_
  refine (s_newR 9 mc_96 dX10_init_6 rfl mq_96 mo_96 ck_10_9 (by decide) (by decide) rfl (by decide)).trans ?_
  refine letH_i (F := fun a1 h1 => sem (X, K X d) 96 9 [some (.ref x0), none] [.ref a1, .ref x0] h1) (hN h) (alc h (69, 2) 2) ?_
  intro a1 h1
  refine (s_putfR 12 mc_96 dX10_init_9 rfl mo_96 ff_10_11 rfl (Or.inr ⟨mo_96, mn_96⟩)).trans ?_
  refine fR_c fun h2 => ?_
  refine (s_aload_n 13 mc_96 dX10_init_12 rfl rfl rfl).trans ?_
  refine (s_new 16 mc_96 dX10_init_13 rfl mq_96 mo_96 ck_10_15 (by decide)).trans ?_
  refine letH_i (F := fun a3 h3 => sem (X, K X d) 96 16 [some (.ref x0), none] [.ref a3, .ref x0] h3) (hN h2) (alc h2 (3, 0) 18) ?_
  intro a3 h3
  refine (s_dup 17 mc_96 dX10_init_16 rfl rfl).trans ?_
  refine (s_ispV 20 mc_96 dX10_init_17 rfl mo_96 mm_10_17 (by decide) mq_96 ms_11 mi_11 mr_11 ma_11 mo_11 (by decide) (Nat.le_of_ble_eq_true rfl) rfl rfl (Nat.le_of_ble_eq_true rfl)).trans ?_
  refine gd_c ?_
  refine bV_c fun h4 => ?_
  refine (s_putfR 23 mc_96 dX10_init_20 rfl mo_96 ff_10_18 rfl (Or.inr ⟨mo_96, mn_96⟩)).trans ?_
  refine fR_c fun h5 => ?_
  refine (s_aload_n 24 mc_96 dX10_init_23 rfl rfl rfl).trans ?_
  refine (s_aload_n 25 mc_96 dX10_init_24 rfl rfl rfl).trans ?_
  refine (s_getfR 28 mc_96 dX10_init_25 rfl mo_96 fs_10_18 ff_10_18 rfl).trans ?_
  refine gR_c fun g1 => ?_
  refine (s_getfR 31 mc_96 dX10_init_28 rfl mo_96 fs_10_22 ff_10_22 rfl).trans ?_
  refine gR_c fun g2 => ?_
  refine (s_putfR 34 mc_96 dX10_init_31 rfl mo_96 ff_10_26 rfl (Or.inr ⟨mo_96, mn_96⟩)).trans ?_
  refine fR_c fun h6 => ?_
  refine (s_aload_n 35 mc_96 dX10_init_34 rfl rfl rfl).trans ?_
  refine (s_bipush 37 15 mc_96 dX10_init_35 rfl (by decide)).trans ?_
  refine (s_newR 40 mc_96 dX10_init_37 rfl mq_96 mo_96 ck_10_27 (by decide) (by decide) rfl (by decide)).trans ?_
  refine letH_i (F := fun a7 h7 => sem (X, K X d) 96 40 [some (.ref x0), none] [.ref a7, .ref x0] h7) (hN h6) (alc h6 (63, 15) 15) ?_
  intro a7 h7
  refine (s_putfR 43 mc_96 dX10_init_40 rfl mo_96 ff_10_29 rfl (Or.inr ⟨mo_96, mn_96⟩)).trans ?_
  refine fR_c fun h8 => ?_
  refine (s_aload_n 44 mc_96 dX10_init_43 rfl rfl rfl).trans ?_
  refine (s_bipush 46 15 mc_96 dX10_init_44 rfl (by decide)).trans ?_
  refine (s_newR 49 mc_96 dX10_init_46 rfl mq_96 mo_96 ck_10_27 (by decide) (by decide) rfl (by decide)).trans ?_
  refine letH_i (F := fun a9 h9 => sem (X, K X d) 96 49 [some (.ref x0), none] [.ref a9, .ref x0] h9) (hN h8) (alc h8 (63, 15) 15) ?_
  intro a9 h9
  refine (s_putfR 52 mc_96 dX10_init_49 rfl mo_96 ff_10_33 rfl (Or.inr ⟨mo_96, mn_96⟩)).trans ?_
  refine fR_c fun h10 => ?_
  refine (s_aload_n 53 mc_96 dX10_init_52 rfl rfl rfl).trans ?_
  refine (s_new 56 mc_96 dX10_init_53 rfl mq_96 mo_96 ck_10_36 (by decide)).trans ?_
  refine letH_i (F := fun a11 h11 => sem (X, K X d) 96 56 [some (.ref x0), none] [.ref a11, .ref x0] h11) (hN h10) (alc h10 (5, 0) 11) ?_
  intro a11 h11
  refine (s_dup 57 mc_96 dX10_init_56 rfl rfl).trans ?_
  refine (s_ispV 60 mc_96 dX10_init_57 rfl mo_96 mm_10_38 (by decide) mq_96 ms_35 mi_35 mr_35 ma_35 mo_35 (by decide) (Nat.le_of_ble_eq_true rfl) rfl rfl (Nat.le_of_ble_eq_true rfl)).trans ?_
  refine gd_c ?_
  refine bV_c fun h12 => ?_
  refine (s_putfR 63 mc_96 dX10_init_60 rfl mo_96 ff_10_39 rfl (Or.inr ⟨mo_96, mn_96⟩)).trans ?_
  refine fR_c fun h13 => ?_
  refine (s_aload_n 64 mc_96 dX10_init_63 rfl rfl rfl).trans ?_
  refine (s_new 67 mc_96 dX10_init_64 rfl mq_96 mo_96 ck_10_43 (by decide)).trans ?_
  refine letH_i (F := fun a14 h14 => sem (X, K X d) 96 67 [some (.ref x0), none] [.ref a14, .ref x0] h14) (hN h13) (alc h13 (1, 0) 5) ?_
  intro a14 h14
  refine (s_dup 68 mc_96 dX10_init_67 rfl rfl).trans ?_
  refine (s_ispV 71 mc_96 dX10_init_68 rfl mo_96 mm_10_45 (by decide) mq_96 ms_0 mi_0 mr_0 ma_0 mo_0 (by decide) (Nat.le_of_ble_eq_true rfl) rfl rfl (Nat.le_of_ble_eq_true rfl)).trans ?_
  refine gd_c ?_
  refine bV_c fun h15 => ?_
  refine (s_putfR 74 mc_96 dX10_init_71 rfl mo_96 ff_10_46 rfl (Or.inr ⟨mo_96, mn_96⟩)).trans ?_
  refine fR_c fun h16 => ?_
  refine (s_aload_n 75 mc_96 dX10_init_74 rfl rfl rfl).trans ?_
  refine (s_sipush 78 600 mc_96 dX10_init_75 rfl (by decide)).trans ?_
  refine (s_newI 80 mc_96 dX10_init_78 rfl mq_96 (by decide) rfl (by decide)).trans ?_
  refine letH_i (F := fun a17 h17 => sem (X, K X d) 96 80 [some (.ref x0), none] [.ref a17, .ref x0] h17) (hN h16) (alc h16 (50, 600) 600) ?_
  intro a17 h17
  refine (s_putfR 83 mc_96 dX10_init_80 rfl mo_96 ff_10_50 rfl (Or.inr ⟨mo_96, mn_96⟩)).trans ?_
  refine fR_c fun h18 => ?_
  refine (s_aload_n 84 mc_96 dX10_init_83 rfl rfl rfl).trans ?_
  refine (s_new 87 mc_96 dX10_init_84 rfl mq_96 mo_96 ck_10_54 (by decide)).trans ?_
  refine letH_i (F := fun a19 h19 => sem (X, K X d) 96 87 [some (.ref x0), none] [.ref a19, .ref x0] h19) (hN h18) (alc h18 (6, 0) 15) ?_
  intro a19 h19
  refine (s_dup 88 mc_96 dX10_init_87 rfl rfl).trans ?_
  refine (s_ispV 91 mc_96 dX10_init_88 rfl mo_96 mm_10_56 (by decide) mq_96 ms_37 mi_37 mr_37 ma_37 mo_37 (by decide) (Nat.le_of_ble_eq_true rfl) rfl rfl (Nat.le_of_ble_eq_true rfl)).trans ?_
  refine gd_c ?_
  refine bV_c fun h20 => ?_
  refine (s_putfR 94 mc_96 dX10_init_91 rfl mo_96 ff_10_57 rfl (Or.inr ⟨mo_96, mn_96⟩)).trans ?_
  refine fR_c fun h21 => ?_
  refine (s_aload_n 95 mc_96 dX10_init_94 rfl rfl rfl).trans ?_
  refine (s_new 98 mc_96 dX10_init_95 rfl mq_96 mo_96 ck_10_61 (by decide)).trans ?_
  refine letH_i (F := fun a22 h22 => sem (X, K X d) 96 98 [some (.ref x0), none] [.ref a22, .ref x0] h22) (hN h21) (alc h21 (8, 0) 5) ?_
  intro a22 h22
  refine (s_dup 99 mc_96 dX10_init_98 rfl rfl).trans ?_
  refine (s_ispV 102 mc_96 dX10_init_99 rfl mo_96 mm_10_63 (by decide) mq_96 ms_84 mi_84 mr_84 ma_84 mo_84 (by decide) (Nat.le_of_ble_eq_true rfl) rfl rfl (Nat.le_of_ble_eq_true rfl)).trans ?_
  refine gd_c ?_
  refine bV_c fun h23 => ?_
  refine (s_putfR 105 mc_96 dX10_init_102 rfl mo_96 ff_10_64 rfl (Or.inr ⟨mo_96, mn_96⟩)).trans ?_
  refine fR_c fun h24 => ?_
  refine (s_aload_n 106 mc_96 dX10_init_105 rfl rfl rfl).trans ?_
  refine (s_new 109 mc_96 dX10_init_106 rfl mq_96 mo_96 ck_10_68 (by decide)).trans ?_
  refine letH_i (F := fun a25 h25 => sem (X, K X d) 96 109 [some (.ref x0), none] [.ref a25, .ref x0] h25) (hN h24) (alc h24 (9, 0) 5) ?_
  intro a25 h25
  refine (s_dup 110 mc_96 dX10_init_109 rfl rfl).trans ?_
  refine (s_ispV 113 mc_96 dX10_init_110 rfl mo_96 mm_10_70 (by decide) mq_96 ms_90 mi_90 mr_90 ma_90 mo_90 (by decide) (Nat.le_of_ble_eq_true rfl) rfl rfl (Nat.le_of_ble_eq_true rfl)).trans ?_
  refine gd_c ?_
  refine bV_c fun h26 => ?_
  refine (s_putfR 116 mc_96 dX10_init_113 rfl mo_96 ff_10_71 rfl (Or.inr ⟨mo_96, mn_96⟩)).trans ?_
  refine fR_c fun h27 => ?_
  refine (s_aload_n 117 mc_96 dX10_init_116 rfl rfl rfl).trans ?_
  refine (s_new 120 mc_96 dX10_init_117 rfl mq_96 mo_96 ck_10_75 (by decide)).trans ?_
  refine letH_i (F := fun a28 h28 => sem (X, K X d) 96 120 [some (.ref x0), none] [.ref a28, .ref x0] h28) (hN h27) (alc h27 (2, 0) 12) ?_
  intro a28 h28
  refine (s_dup 121 mc_96 dX10_init_120 rfl rfl).trans ?_
  refine (s_ispV 124 mc_96 dX10_init_121 rfl mo_96 mm_10_77 (by decide) mq_96 ms_1 mi_1 mr_1 ma_1 mo_1 (by decide) (Nat.le_of_ble_eq_true rfl) rfl rfl (Nat.le_of_ble_eq_true rfl)).trans ?_
  refine gd_c ?_
  refine bV_c fun h29 => ?_
  refine (s_putfR 127 mc_96 dX10_init_124 rfl mo_96 ff_10_78 rfl (Or.inl rfl)).trans ?_
  refine fR_c fun h30 => ?_
  refine (s_aload_n 128 mc_96 dX10_init_127 rfl rfl rfl).trans ?_
  refine (s_new 131 mc_96 dX10_init_128 rfl mq_96 mo_96 ck_10_27 (by decide)).trans ?_
  refine letH_i (F := fun a31 h31 => sem (X, K X d) 96 131 [some (.ref x0), none] [.ref a31, .ref x0] h31) (hN h30) (alc h30 (4, 0) 7) ?_
  intro a31 h31
  refine (s_dup 132 mc_96 dX10_init_131 rfl rfl).trans ?_
  refine (s_ispV 135 mc_96 dX10_init_132 rfl mo_96 mm_10_82 (by decide) mq_96 ms_29 mi_29 mr_29 ma_29 mo_29 (by decide) (Nat.le_of_ble_eq_true rfl) rfl rfl (Nat.le_of_ble_eq_true rfl)).trans ?_
  refine gd_c ?_
  refine bV_c fun h32 => ?_
  refine (s_putfR 138 mc_96 dX10_init_135 rfl mo_96 ff_10_83 rfl (Or.inl rfl)).trans ?_
  refine fR_c fun h33 => ?_
  refine (s_iconst 139 0 mc_96 dX10_init_138 rfl (by decide)).trans ?_
  refine (s_istore_n 140 mc_96 dX10_init_139 rfl rfl (Nat.le_of_ble_eq_true rfl) rfl).trans ?_
  rfl
theorem b_96_140 {X : Ctx} {d : Nat} (x0 : Nat) (x1 : Int32)  (h : Hp) : sem (X, K X d) 96 140 [some (.ref x0), some (.int x1)] [] h = if 2 ≤ x1 then sem (X, K X d) 96 166 [some (.ref x0), some (.int 0)] [] h else gR h 10 x0 0 fun g1 => letH (hN h) (alc h (10, 0) 4) fun a1 h1 => gd (hS h1 a1 = (10, 0)) (bV (K X d 91 [.ref a1] h1) fun h2 => wR h2 g1 x1 a1 fun h3 => sem (X, K X d) 96 140 [some (.ref x0), some (.int (x1 + 1))] [] h3) := by
  refine (s_iload_n 141 mc_96 dX10_init_140 rfl rfl rfl).trans ?_
  refine (s_iconst 142 2 mc_96 dX10_init_141 rfl (by decide)).trans ?_
  refine (s_icmp_ge 164 145 mc_96 dX10_init_142 rfl rfl).trans ?_
  refine ite_c ?_ ?_
  · skip
    refine (s_iconst 165 0 mc_96 dX10_init_164 rfl (by decide)).trans ?_
    refine (s_istore_n 166 mc_96 dX10_init_165 rfl rfl (Nat.le_of_ble_eq_true rfl) rfl).trans ?_
    rfl
  · skip
    refine (s_aload_n 146 mc_96 dX10_init_145 rfl rfl rfl).trans ?_
    refine (s_getfR 149 mc_96 dX10_init_146 rfl mo_96 fs_10_11 ff_10_11 rfl).trans ?_
    refine gR_c fun g1 => ?_
    refine (s_iload_n 150 mc_96 dX10_init_149 rfl rfl rfl).trans ?_
    refine (s_new 153 mc_96 dX10_init_150 rfl mq_96 mo_96 ck_10_9 (by decide)).trans ?_
    refine letH_i (F := fun a1 h1 => sem (X, K X d) 96 153 [some (.ref x0), some (.int x1)] [.ref a1, .int x1, .ref g1] h1) (hN h) (alc h (10, 0) 4) ?_
    intro a1 h1
    refine (s_dup 154 mc_96 dX10_init_153 rfl rfl).trans ?_
    refine (s_ispV 157 mc_96 dX10_init_154 rfl mo_96 mm_10_87 (by decide) mq_96 ms_91 mi_91 mr_91 ma_91 mo_91 (by decide) (Nat.le_of_ble_eq_true rfl) rfl rfl (Nat.le_of_ble_eq_true rfl)).trans ?_
    refine gd_c ?_
    refine bV_c fun h2 => ?_
    refine (s_aastore 158 mc_96 dX10_init_157 rfl mq_96).trans ?_
    refine wR_c fun h3 => ?_
    refine (s_iinc 1 161 mc_96 dX10_init_158 rfl rfl (Nat.le_of_ble_eq_true rfl) (by decide) rfl).trans ?_
    refine (s_goto 140 mc_96 dX10_init_161 rfl).trans ?_
    rfl
theorem b_96_166 {X : Ctx} {d : Nat} (x0 : Nat) (x1 : Int32)  (h : Hp) : sem (X, K X d) 96 166 [some (.ref x0), some (.int x1)] [] h = if 15 ≤ x1 then some (none, h) else gR h 10 x0 2 fun g1 => letH (hN h) (alc h (4, 0) 7) fun a1 h1 => gd (hS h1 a1 = (4, 0)) (bV (K X d 29 [.ref a1] h1) fun h2 => wR h2 g1 x1 a1 fun h3 => gR h3 10 x0 3 fun g2 => letH (hN h3) (alc h3 (4, 0) 7) fun a4 h4 => gd (hS h4 a4 = (4, 0)) (bV (K X d 29 [.ref a4] h4) fun h5 => wR h5 g2 x1 a4 fun h6 => sem (X, K X d) 96 166 [some (.ref x0), some (.int (x1 + 1))] [] h6)) := by
  refine (s_iload_n 167 mc_96 dX10_init_166 rfl rfl rfl).trans ?_
  refine (s_bipush 169 15 mc_96 dX10_init_167 rfl (by decide)).trans ?_
  refine (s_icmp_ge 204 172 mc_96 dX10_init_169 rfl rfl).trans ?_
  refine ite_c ?_ ?_
  · skip
    exact s_vret mc_96 dX10_init_204 mt_96
  · skip
    refine (s_aload_n 173 mc_96 dX10_init_172 rfl rfl rfl).trans ?_
    refine (s_getfR 176 mc_96 dX10_init_173 rfl mo_96 fs_10_29 ff_10_29 rfl).trans ?_
    refine gR_c fun g1 => ?_
    refine (s_iload_n 177 mc_96 dX10_init_176 rfl rfl rfl).trans ?_
    refine (s_new 180 mc_96 dX10_init_177 rfl mq_96 mo_96 ck_10_27 (by decide)).trans ?_
    refine letH_i (F := fun a1 h1 => sem (X, K X d) 96 180 [some (.ref x0), some (.int x1)] [.ref a1, .int x1, .ref g1] h1) (hN h) (alc h (4, 0) 7) ?_
    intro a1 h1
    refine (s_dup 181 mc_96 dX10_init_180 rfl rfl).trans ?_
    refine (s_ispV 184 mc_96 dX10_init_181 rfl mo_96 mm_10_82 (by decide) mq_96 ms_29 mi_29 mr_29 ma_29 mo_29 (by decide) (Nat.le_of_ble_eq_true rfl) rfl rfl (Nat.le_of_ble_eq_true rfl)).trans ?_
    refine gd_c ?_
    refine bV_c fun h2 => ?_
    refine (s_aastore 185 mc_96 dX10_init_184 rfl mq_96).trans ?_
    refine wR_c fun h3 => ?_
    refine (s_aload_n 186 mc_96 dX10_init_185 rfl rfl rfl).trans ?_
    refine (s_getfR 189 mc_96 dX10_init_186 rfl mo_96 fs_10_33 ff_10_33 rfl).trans ?_
    refine gR_c fun g2 => ?_
    refine (s_iload_n 190 mc_96 dX10_init_189 rfl rfl rfl).trans ?_
    refine (s_new 193 mc_96 dX10_init_190 rfl mq_96 mo_96 ck_10_27 (by decide)).trans ?_
    refine letH_i (F := fun a4 h4 => sem (X, K X d) 96 193 [some (.ref x0), some (.int x1)] [.ref a4, .int x1, .ref g2] h4) (hN h3) (alc h3 (4, 0) 7) ?_
    intro a4 h4
    refine (s_dup 194 mc_96 dX10_init_193 rfl rfl).trans ?_
    refine (s_ispV 197 mc_96 dX10_init_194 rfl mo_96 mm_10_82 (by decide) mq_96 ms_29 mi_29 mr_29 ma_29 mo_29 (by decide) (Nat.le_of_ble_eq_true rfl) rfl rfl (Nat.le_of_ble_eq_true rfl)).trans ?_
    refine gd_c ?_
    refine bV_c fun h5 => ?_
    refine (s_aastore 198 mc_96 dX10_init_197 rfl mq_96).trans ?_
    refine wR_c fun h6 => ?_
    refine (s_iinc 1 201 mc_96 dX10_init_198 rfl rfl (Nat.le_of_ble_eq_true rfl) (by decide) rfl).trans ?_
    refine (s_goto 166 mc_96 dX10_init_201 rfl).trans ?_
    rfl
/-- FiveLands.night(IIII)Z -/
theorem k_97 {X : Ctx} {d : Nat} (x0 : Nat) (x1 : Int32) (x2 : Int32) (x3 : Int32) (x4 : Int32) (h : Hp) : K X (d + 1) 97 [.ref x0, .int x1, .int x2, .int x3, .int x4] h = bI (K X d 137 [.int x1] h) fun r1 h1 => if r1 = 0 then some (some (.int 0), h1) else if x2 < 0 then some (some (.int 0), h1) else if x3 < x2 then some (some (.int 0), h1) else if 360 ≤ x3 then some (some (.int 0), h1) else bI (K X d 139 [.int x4] h1) fun r2 h2 => if ¬ r2 = 0 then gR h2 10 x0 0 fun g3 => aR h2 g3 x1 fun g4 => gd (hS h2 g4 = (10, 0)) (bV (K X d 93 [.ref g4, .int x2, .int x3, .int x4] h2) fun h3 => some (some (.int 1), h3)) else some (some (.int 0), h2) := by
  show sem (X, K X d) 97 0 [some (.ref x0), some (.int x1), some (.int x2), some (.int x3), some (.int x4)] [] h = _
  refine (s_iload_n 1 mc_97 dX10_night_0 rfl rfl rfl).trans ?_
  refine (s_istI 4 mc_97 dX10_night_1 rfl mo_97 mm_10_88 (by decide) ms_137 mr_137 ma_137 (Nat.le_of_ble_eq_true rfl) rfl rfl (Nat.le_of_ble_eq_true rfl)).trans ?_
  refine bI_c fun r1 h1 => ?_
  refine (s_if_eq 31 7 mc_97 dX10_night_4 rfl rfl).trans ?_
  refine ite_c ?_ ?_
  · skip
    refine (s_iconst 32 0 mc_97 dX10_night_31 rfl (by decide)).trans ?_
    exact s_zret0 mc_97 dX10_night_32 mt_97
  · skip
    refine (s_iload_n 8 mc_97 dX10_night_7 rfl rfl rfl).trans ?_
    refine (s_if_lt 31 11 mc_97 dX10_night_8 rfl rfl).trans ?_
    refine ite_c ?_ ?_
    · skip
      refine (s_iconst 32 0 mc_97 dX10_night_31 rfl (by decide)).trans ?_
      exact s_zret0 mc_97 dX10_night_32 mt_97
    · skip
      refine (s_iload_n 12 mc_97 dX10_night_11 rfl rfl rfl).trans ?_
      refine (s_iload_n 13 mc_97 dX10_night_12 rfl rfl rfl).trans ?_
      refine (s_icmp_lt 31 16 mc_97 dX10_night_13 rfl rfl).trans ?_
      refine ite_c ?_ ?_
      · skip
        refine (s_iconst 32 0 mc_97 dX10_night_31 rfl (by decide)).trans ?_
        exact s_zret0 mc_97 dX10_night_32 mt_97
      · skip
        refine (s_iload_n 17 mc_97 dX10_night_16 rfl rfl rfl).trans ?_
        refine (s_sipush 20 360 mc_97 dX10_night_17 rfl (by decide)).trans ?_
        refine (s_icmp_ge 31 23 mc_97 dX10_night_20 rfl rfl).trans ?_
        refine ite_c ?_ ?_
        · skip
          refine (s_iconst 32 0 mc_97 dX10_night_31 rfl (by decide)).trans ?_
          exact s_zret0 mc_97 dX10_night_32 mt_97
        · skip
          refine (s_iload 25 mc_97 dX10_night_23 rfl rfl).trans ?_
          refine (s_istI 28 mc_97 dX10_night_25 rfl mo_97 mm_10_92 (by decide) ms_139 mr_139 ma_139 (Nat.le_of_ble_eq_true rfl) rfl rfl (Nat.le_of_ble_eq_true rfl)).trans ?_
          refine bI_c fun r2 h2 => ?_
          refine (s_if_ne 33 31 mc_97 dX10_night_28 rfl rfl).trans ?_
          refine ite_c ?_ ?_
          · skip
            refine (s_aload_n 34 mc_97 dX10_night_33 rfl rfl rfl).trans ?_
            refine (s_getfR 37 mc_97 dX10_night_34 rfl mo_97 fs_10_11 ff_10_11 rfl).trans ?_
            refine gR_c fun g3 => ?_
            refine (s_iload_n 38 mc_97 dX10_night_37 rfl rfl rfl).trans ?_
            refine (s_aaload 39 mc_97 dX10_night_38 rfl).trans ?_
            refine aR_c fun g4 => ?_
            refine (s_iload_n 40 mc_97 dX10_night_39 rfl rfl rfl).trans ?_
            refine (s_iload_n 41 mc_97 dX10_night_40 rfl rfl rfl).trans ?_
            refine (s_iload 43 mc_97 dX10_night_41 rfl rfl).trans ?_
            refine (s_iviV 46 mc_97 dX10_night_43 rfl mo_97 mm_10_95 (by decide) ms_93 mi_93 mr_93 ma_93 mo_93 (by decide) (Nat.le_of_ble_eq_true rfl) rfl rfl (Nat.le_of_ble_eq_true rfl)).trans ?_
            refine gd_c ?_
            refine bV_c fun h3 => ?_
            refine (s_iconst 47 1 mc_97 dX10_night_46 rfl (by decide)).trans ?_
            exact s_zret1 mc_97 dX10_night_47 mt_97
          · skip
            refine (s_iconst 32 0 mc_97 dX10_night_31 rfl (by decide)).trans ?_
            exact s_zret0 mc_97 dX10_night_32 mt_97
/-- FiveLands.home(IIZ)Z -/
theorem k_98 {X : Ctx} {d : Nat} (x0 : Nat) (x1 : Int32) (x2 : Int32) (x3 : Int32) (h : Hp) : K X (d + 1) 98 [.ref x0, .int x1, .int x2, .int x3] h = bI (K X d 137 [.int x1] h) fun r1 h1 => if r1 = 0 then some (some (.int 0), h1) else bI (K X d 138 [.int x2] h1) fun r2 h2 => if ¬ r2 = 0 then gR h2 10 x0 0 fun g3 => aR h2 g3 x1 fun g4 => gR h2 9 g4 1 fun g5 => if x3 = 0 then gI h2 7 g5 2 fun g6 => fI h2 7 g5 2 (g6 &&& ((1 <<< (x2 &&& 31)) ^^^ (-1))) fun h3 => some (some (.int 1), h3) else gI h2 7 g5 2 fun g7 => fI h2 7 g5 2 (g7 ||| (1 <<< (x2 &&& 31))) fun h4 => some (some (.int 1), h4) else some (some (.int 0), h2) := by
  show sem (X, K X d) 98 0 [some (.ref x0), some (.int x1), some (.int x2), some (.int x3), none] [] h = _
  refine (s_iload_n 1 mc_98 dX10_home_0 rfl rfl rfl).trans ?_
  refine (s_istI 4 mc_98 dX10_home_1 rfl mo_98 mm_10_88 (by decide) ms_137 mr_137 ma_137 (Nat.le_of_ble_eq_true rfl) rfl rfl (Nat.le_of_ble_eq_true rfl)).trans ?_
  refine bI_c fun r1 h1 => ?_
  refine (s_if_eq 14 7 mc_98 dX10_home_4 rfl rfl).trans ?_
  refine ite_c ?_ ?_
  · skip
    refine (s_iconst 15 0 mc_98 dX10_home_14 rfl (by decide)).trans ?_
    exact s_zret0 mc_98 dX10_home_15 mt_98
  · skip
    refine (s_iload_n 8 mc_98 dX10_home_7 rfl rfl rfl).trans ?_
    refine (s_istI 11 mc_98 dX10_home_8 rfl mo_98 mm_10_99 (by decide) ms_138 mr_138 ma_138 (Nat.le_of_ble_eq_true rfl) rfl rfl (Nat.le_of_ble_eq_true rfl)).trans ?_
    refine bI_c fun r2 h2 => ?_
    refine (s_if_ne 16 14 mc_98 dX10_home_11 rfl rfl).trans ?_
    refine ite_c ?_ ?_
    · skip
      refine (s_aload_n 17 mc_98 dX10_home_16 rfl rfl rfl).trans ?_
      refine (s_getfR 20 mc_98 dX10_home_17 rfl mo_98 fs_10_11 ff_10_11 rfl).trans ?_
      refine gR_c fun g3 => ?_
      refine (s_iload_n 21 mc_98 dX10_home_20 rfl rfl rfl).trans ?_
      refine (s_aaload 22 mc_98 dX10_home_21 rfl).trans ?_
      refine aR_c fun g4 => ?_
      refine (s_getfR 25 mc_98 dX10_home_22 rfl mo_98 fs_10_102 ff_10_102 rfl).trans ?_
      refine gR_c fun g5 => ?_
      refine (s_astore 27 mc_98 dX10_home_25 rfl (Nat.le_of_ble_eq_true rfl) rfl).trans ?_
      refine (s_aload 29 mc_98 dX10_home_27 rfl rfl).trans ?_
      refine (s_iload_n 30 mc_98 dX10_home_29 rfl rfl rfl).trans ?_
      refine (s_if_eq 45 33 mc_98 dX10_home_30 rfl rfl).trans ?_
      refine ite_c ?_ ?_
      · skip
        refine (s_aload 47 mc_98 dX10_home_45 rfl rfl).trans ?_
        refine (s_getfI 50 mc_98 dX10_home_47 rfl mo_98 fs_10_105 ff_10_105 (Or.inl rfl)).trans ?_
        refine gI_c fun g6 => ?_
        refine (s_iconst 51 1 mc_98 dX10_home_50 rfl (by decide)).trans ?_
        refine (s_iload_n 52 mc_98 dX10_home_51 rfl rfl rfl).trans ?_
        refine (s_ishl 53 mc_98 dX10_home_52 rfl).trans ?_
        refine (s_iconst 54 (-1) mc_98 dX10_home_53 rfl (by decide)).trans ?_
        refine (s_ixor 55 mc_98 dX10_home_54 rfl).trans ?_
        refine (s_iand 56 mc_98 dX10_home_55 rfl).trans ?_
        refine (s_putfI 59 mc_98 dX10_home_56 rfl mo_98 ff_10_105 rfl (Or.inl rfl)).trans ?_
        refine fI_c fun h3 => ?_
        refine (s_iconst 60 1 mc_98 dX10_home_59 rfl (by decide)).trans ?_
        exact s_zret1 mc_98 dX10_home_60 mt_98
      · skip
        refine (s_aload 35 mc_98 dX10_home_33 rfl rfl).trans ?_
        refine (s_getfI 38 mc_98 dX10_home_35 rfl mo_98 fs_10_105 ff_10_105 (Or.inl rfl)).trans ?_
        refine gI_c fun g7 => ?_
        refine (s_iconst 39 1 mc_98 dX10_home_38 rfl (by decide)).trans ?_
        refine (s_iload_n 40 mc_98 dX10_home_39 rfl rfl rfl).trans ?_
        refine (s_ishl 41 mc_98 dX10_home_40 rfl).trans ?_
        refine (s_ior 42 mc_98 dX10_home_41 rfl).trans ?_
        refine (s_goto 56 mc_98 dX10_home_42 rfl).trans ?_
        refine (s_putfI 59 mc_98 dX10_home_56 rfl mo_98 ff_10_105 rfl (Or.inl rfl)).trans ?_
        refine fI_c fun h4 => ?_
        refine (s_iconst 60 1 mc_98 dX10_home_59 rfl (by decide)).trans ?_
        exact s_zret1 mc_98 dX10_home_60 mt_98
    · skip
      refine (s_iconst 15 0 mc_98 dX10_home_14 rfl (by decide)).trans ?_
      exact s_zret0 mc_98 dX10_home_15 mt_98
/-- FiveLands.tie(III)Z -/
theorem k_99 {X : Ctx} {d : Nat} (x0 : Nat) (x1 : Int32) (x2 : Int32) (x3 : Int32) (h : Hp) : K X (d + 1) 99 [.ref x0, .int x1, .int x2, .int x3] h = bI (K X d 137 [.int x1] h) fun r1 h1 => if r1 = 0 then some (some (.int 0), h1) else bI (K X d 139 [.int x3] h1) fun r2 h2 => if r2 = 0 then some (some (.int 0), h2) else if x2 < 0 then some (some (.int 0), h2) else if x2 ≤ 1 then if ¬ x2 = 0 then gR h2 10 x0 0 fun g3 => aR h2 g3 x1 fun g4 => gR h2 9 g4 1 fun g5 => fI h2 7 g5 4 x3 fun h3 => some (some (.int 1), h3) else gR h2 10 x0 0 fun g6 => aR h2 g6 x1 fun g7 => gR h2 9 g7 1 fun g8 => fI h2 7 g8 3 x3 fun h4 => some (some (.int 1), h4) else some (some (.int 0), h2) := by
  show sem (X, K X d) 99 0 [some (.ref x0), some (.int x1), some (.int x2), some (.int x3)] [] h = _
  refine (s_iload_n 1 mc_99 dX10_tie_0 rfl rfl rfl).trans ?_
  refine (s_istI 4 mc_99 dX10_tie_1 rfl mo_99 mm_10_88 (by decide) ms_137 mr_137 ma_137 (Nat.le_of_ble_eq_true rfl) rfl rfl (Nat.le_of_ble_eq_true rfl)).trans ?_
  refine bI_c fun r1 h1 => ?_
  refine (s_if_eq 23 7 mc_99 dX10_tie_4 rfl rfl).trans ?_
  refine ite_c ?_ ?_
  · skip
    refine (s_iconst 24 0 mc_99 dX10_tie_23 rfl (by decide)).trans ?_
    exact s_zret0 mc_99 dX10_tie_24 mt_99
  · skip
    refine (s_iload_n 8 mc_99 dX10_tie_7 rfl rfl rfl).trans ?_
    refine (s_istI 11 mc_99 dX10_tie_8 rfl mo_99 mm_10_92 (by decide) ms_139 mr_139 ma_139 (Nat.le_of_ble_eq_true rfl) rfl rfl (Nat.le_of_ble_eq_true rfl)).trans ?_
    refine bI_c fun r2 h2 => ?_
    refine (s_if_eq 23 14 mc_99 dX10_tie_11 rfl rfl).trans ?_
    refine ite_c ?_ ?_
    · skip
      refine (s_iconst 24 0 mc_99 dX10_tie_23 rfl (by decide)).trans ?_
      exact s_zret0 mc_99 dX10_tie_24 mt_99
    · skip
      refine (s_iload_n 15 mc_99 dX10_tie_14 rfl rfl rfl).trans ?_
      refine (s_if_lt 23 18 mc_99 dX10_tie_15 rfl rfl).trans ?_
      refine ite_c ?_ ?_
      · skip
        refine (s_iconst 24 0 mc_99 dX10_tie_23 rfl (by decide)).trans ?_
        exact s_zret0 mc_99 dX10_tie_24 mt_99
      · skip
        refine (s_iload_n 19 mc_99 dX10_tie_18 rfl rfl rfl).trans ?_
        refine (s_iconst 20 1 mc_99 dX10_tie_19 rfl (by decide)).trans ?_
        refine (s_icmp_le 25 23 mc_99 dX10_tie_20 rfl rfl).trans ?_
        refine ite_c ?_ ?_
        · skip
          refine (s_iload_n 26 mc_99 dX10_tie_25 rfl rfl rfl).trans ?_
          refine (s_if_ne 45 29 mc_99 dX10_tie_26 rfl rfl).trans ?_
          refine ite_c ?_ ?_
          · skip
            refine (s_aload_n 46 mc_99 dX10_tie_45 rfl rfl rfl).trans ?_
            refine (s_getfR 49 mc_99 dX10_tie_46 rfl mo_99 fs_10_11 ff_10_11 rfl).trans ?_
            refine gR_c fun g3 => ?_
            refine (s_iload_n 50 mc_99 dX10_tie_49 rfl rfl rfl).trans ?_
            refine (s_aaload 51 mc_99 dX10_tie_50 rfl).trans ?_
            refine aR_c fun g4 => ?_
            refine (s_getfR 54 mc_99 dX10_tie_51 rfl mo_99 fs_10_102 ff_10_102 rfl).trans ?_
            refine gR_c fun g5 => ?_
            refine (s_iload_n 55 mc_99 dX10_tie_54 rfl rfl rfl).trans ?_
            refine (s_putfI 58 mc_99 dX10_tie_55 rfl mo_99 ff_10_112 rfl (Or.inl rfl)).trans ?_
            refine fI_c fun h3 => ?_
            refine (s_iconst 59 1 mc_99 dX10_tie_58 rfl (by decide)).trans ?_
            exact s_zret1 mc_99 dX10_tie_59 mt_99
          · skip
            refine (s_aload_n 30 mc_99 dX10_tie_29 rfl rfl rfl).trans ?_
            refine (s_getfR 33 mc_99 dX10_tie_30 rfl mo_99 fs_10_11 ff_10_11 rfl).trans ?_
            refine gR_c fun g6 => ?_
            refine (s_iload_n 34 mc_99 dX10_tie_33 rfl rfl rfl).trans ?_
            refine (s_aaload 35 mc_99 dX10_tie_34 rfl).trans ?_
            refine aR_c fun g7 => ?_
            refine (s_getfR 38 mc_99 dX10_tie_35 rfl mo_99 fs_10_102 ff_10_102 rfl).trans ?_
            refine gR_c fun g8 => ?_
            refine (s_iload_n 39 mc_99 dX10_tie_38 rfl rfl rfl).trans ?_
            refine (s_putfI 42 mc_99 dX10_tie_39 rfl mo_99 ff_10_109 rfl (Or.inl rfl)).trans ?_
            refine fI_c fun h4 => ?_
            refine (s_goto 58 mc_99 dX10_tie_42 rfl).trans ?_
            refine (s_iconst 59 1 mc_99 dX10_tie_58 rfl (by decide)).trans ?_
            exact s_zret1 mc_99 dX10_tie_59 mt_99
        · skip
          refine (s_iconst 24 0 mc_99 dX10_tie_23 rfl (by decide)).trans ?_
          exact s_zret0 mc_99 dX10_tie_24 mt_99
/-- FiveLands.sum(IIIIII)I -/
theorem k_100 {X : Ctx} {d : Nat} (x0 : Nat) (x1 : Int32) (x2 : Int32) (x3 : Int32) (x4 : Int32) (x5 : Int32) (x6 : Int32) (h : Hp) : K X (d + 1) 100 [.ref x0, .int x1, .int x2, .int x3, .int x4, .int x5, .int x6] h = bI (K X d 137 [.int x1] h) fun r1 h1 => if r1 = 0 then some (some (.int (-1)), h1) else if x2 < 0 then some (some (.int (-1)), h1) else if 6 ≤ x2 then some (some (.int (-1)), h1) else if ¬ x2 = 5 then sem (X, K X d) 100 33 [some (.ref x0), some (.int x1), some (.int x2), some (.int x3), some (.int x4), some (.int x5), some (.int x6), none, none] [] h1 else if x3 < 0 then some (some (.int (-1)), h1) else if x3 < 5 then sem (X, K X d) 100 33 [some (.ref x0), some (.int x1), some (.int x2), some (.int x3), some (.int x4), some (.int x5), some (.int x6), none, none] [] h1 else some (some (.int (-1)), h1) := by
  show sem (X, K X d) 100 0 [some (.ref x0), some (.int x1), some (.int x2), some (.int x3), some (.int x4), some (.int x5), some (.int x6), none, none] [] h = _
  refine (s_iload_n 1 mc_100 dX10_sum_0 rfl rfl rfl).trans ?_
  refine (s_istI 4 mc_100 dX10_sum_1 rfl mo_100 mm_10_88 (by decide) ms_137 mr_137 ma_137 (Nat.le_of_ble_eq_true rfl) rfl rfl (Nat.le_of_ble_eq_true rfl)).trans ?_
  refine bI_c fun r1 h1 => ?_
  refine (s_if_eq 31 7 mc_100 dX10_sum_4 rfl rfl).trans ?_
  refine ite_c ?_ ?_
  · skip
    refine (s_iconst 32 (-1) mc_100 dX10_sum_31 rfl (by decide)).trans ?_
    exact s_iret mc_100 dX10_sum_32 mt_100
  · skip
    refine (s_iload_n 8 mc_100 dX10_sum_7 rfl rfl rfl).trans ?_
    refine (s_if_lt 31 11 mc_100 dX10_sum_8 rfl rfl).trans ?_
    refine ite_c ?_ ?_
    · skip
      refine (s_iconst 32 (-1) mc_100 dX10_sum_31 rfl (by decide)).trans ?_
      exact s_iret mc_100 dX10_sum_32 mt_100
    · skip
      refine (s_iload_n 12 mc_100 dX10_sum_11 rfl rfl rfl).trans ?_
      refine (s_bipush 14 6 mc_100 dX10_sum_12 rfl (by decide)).trans ?_
      refine (s_icmp_ge 31 17 mc_100 dX10_sum_14 rfl rfl).trans ?_
      refine ite_c ?_ ?_
      · skip
        refine (s_iconst 32 (-1) mc_100 dX10_sum_31 rfl (by decide)).trans ?_
        exact s_iret mc_100 dX10_sum_32 mt_100
      · skip
        refine (s_iload_n 18 mc_100 dX10_sum_17 rfl rfl rfl).trans ?_
        refine (s_iconst 19 5 mc_100 dX10_sum_18 rfl (by decide)).trans ?_
        refine (s_icmp_ne 33 22 mc_100 dX10_sum_19 rfl rfl).trans ?_
        refine ite_c ?_ ?_
        · skip
          rfl
        · skip
          refine (s_iload_n 23 mc_100 dX10_sum_22 rfl rfl rfl).trans ?_
          refine (s_if_lt 31 26 mc_100 dX10_sum_23 rfl rfl).trans ?_
          refine ite_c ?_ ?_
          · skip
            refine (s_iconst 32 (-1) mc_100 dX10_sum_31 rfl (by decide)).trans ?_
            exact s_iret mc_100 dX10_sum_32 mt_100
          · skip
            refine (s_iload_n 27 mc_100 dX10_sum_26 rfl rfl rfl).trans ?_
            refine (s_iconst 28 5 mc_100 dX10_sum_27 rfl (by decide)).trans ?_
            refine (s_icmp_lt 33 31 mc_100 dX10_sum_28 rfl rfl).trans ?_
            refine ite_c ?_ ?_
            · skip
              rfl
            · skip
              refine (s_iconst 32 (-1) mc_100 dX10_sum_31 rfl (by decide)).trans ?_
              exact s_iret mc_100 dX10_sum_32 mt_100
theorem b_100_33 {X : Ctx} {d : Nat} (x0 : Nat) (x1 : Int32) (x2 : Int32) (x3 : Int32) (x4 : Int32) (x5 : Int32) (x6 : Int32) (v7 : Option Value) (v8 : Option Value)  (h : Hp) : sem (X, K X d) 100 33 [some (.ref x0), some (.int x1), some (.int x2), some (.int x3), some (.int x4), some (.int x5), some (.int x6), v7, v8] [] h = gR h 10 x0 0 fun g1 => aR h g1 x1 fun g2 => if x4 < 1 then some (some (.int (-1)), h) else if 999999 < x4 then some (some (.int (-1)), h) else bI (K X d 138 [.int x5] h) fun r3 h1 => if r3 = 0 then some (some (.int (-1)), h1) else bI (K X d 138 [.int x6] h1) fun r4 h2 => if r4 = 0 then some (some (.int (-1)), h2) else gI h2 9 g2 3 fun g5 => if g5 < 12 then gR h2 9 g2 2 fun g6 => gI h2 9 g2 3 fun g7 => aR h2 g6 g7 fun g8 => fI h2 8 g8 0 x2 fun h3 => if ¬ x2 = 5 then sem (X, K X d) 100 113 [some (.ref x0), some (.int x1), some (.int x2), some (.int x3), some (.int x4), some (.int x5), some (.int x6), some (.ref g2), some (.ref g8)] [.int x2, .ref g8] h3 else sem (X, K X d) 100 113 [some (.ref x0), some (.int x1), some (.int x2), some (.int x3), some (.int x4), some (.int x5), some (.int x6), some (.ref g2), some (.ref g8)] [.int x3, .ref g8] h3 else some (some (.int (-1)), h2) := by
  refine (s_aload_n 34 mc_100 dX10_sum_33 rfl rfl rfl).trans ?_
  refine (s_getfR 37 mc_100 dX10_sum_34 rfl mo_100 fs_10_11 ff_10_11 rfl).trans ?_
  refine gR_c fun g1 => ?_
  refine (s_iload_n 38 mc_100 dX10_sum_37 rfl rfl rfl).trans ?_
  refine (s_aaload 39 mc_100 dX10_sum_38 rfl).trans ?_
  refine aR_c fun g2 => ?_
  refine (s_astore 41 mc_100 dX10_sum_39 rfl (Nat.le_of_ble_eq_true rfl) rfl).trans ?_
  refine (s_iload 43 mc_100 dX10_sum_41 rfl rfl).trans ?_
  refine (s_iconst 44 1 mc_100 dX10_sum_43 rfl (by decide)).trans ?_
  refine (s_icmp_lt 80 47 mc_100 dX10_sum_44 rfl rfl).trans ?_
  refine ite_c ?_ ?_
  · skip
    refine (s_iconst 81 (-1) mc_100 dX10_sum_80 rfl (by decide)).trans ?_
    exact s_iret mc_100 dX10_sum_81 mt_100
  · skip
    refine (s_iload 49 mc_100 dX10_sum_47 rfl rfl).trans ?_
    refine (s_ldc 51 999999 mc_100 dX10_sum_49 rfl mo_100 cs_10_115 (by decide)).trans ?_
    refine (s_icmp_gt 80 54 mc_100 dX10_sum_51 rfl rfl).trans ?_
    refine ite_c ?_ ?_
    · skip
      refine (s_iconst 81 (-1) mc_100 dX10_sum_80 rfl (by decide)).trans ?_
      exact s_iret mc_100 dX10_sum_81 mt_100
    · skip
      refine (s_iload 56 mc_100 dX10_sum_54 rfl rfl).trans ?_
      refine (s_istI 59 mc_100 dX10_sum_56 rfl mo_100 mm_10_99 (by decide) ms_138 mr_138 ma_138 (Nat.le_of_ble_eq_true rfl) rfl rfl (Nat.le_of_ble_eq_true rfl)).trans ?_
      refine bI_c fun r3 h1 => ?_
      refine (s_if_eq 80 62 mc_100 dX10_sum_59 rfl rfl).trans ?_
      refine ite_c ?_ ?_
      · skip
        refine (s_iconst 81 (-1) mc_100 dX10_sum_80 rfl (by decide)).trans ?_
        exact s_iret mc_100 dX10_sum_81 mt_100
      · skip
        refine (s_iload 64 mc_100 dX10_sum_62 rfl rfl).trans ?_
        refine (s_istI 67 mc_100 dX10_sum_64 rfl mo_100 mm_10_99 (by decide) ms_138 mr_138 ma_138 (Nat.le_of_ble_eq_true rfl) rfl rfl (Nat.le_of_ble_eq_true rfl)).trans ?_
        refine bI_c fun r4 h2 => ?_
        refine (s_if_eq 80 70 mc_100 dX10_sum_67 rfl rfl).trans ?_
        refine ite_c ?_ ?_
        · skip
          refine (s_iconst 81 (-1) mc_100 dX10_sum_80 rfl (by decide)).trans ?_
          exact s_iret mc_100 dX10_sum_81 mt_100
        · skip
          refine (s_aload 72 mc_100 dX10_sum_70 rfl rfl).trans ?_
          refine (s_getfI 75 mc_100 dX10_sum_72 rfl mo_100 fs_10_116 ff_10_116 (Or.inl rfl)).trans ?_
          refine gI_c fun g5 => ?_
          refine (s_bipush 77 12 mc_100 dX10_sum_75 rfl (by decide)).trans ?_
          refine (s_icmp_lt 82 80 mc_100 dX10_sum_77 rfl rfl).trans ?_
          refine ite_c ?_ ?_
          · skip
            refine (s_aload 84 mc_100 dX10_sum_82 rfl rfl).trans ?_
            refine (s_getfR 87 mc_100 dX10_sum_84 rfl mo_100 fs_10_119 ff_10_119 rfl).trans ?_
            refine gR_c fun g6 => ?_
            refine (s_aload 89 mc_100 dX10_sum_87 rfl rfl).trans ?_
            refine (s_getfI 92 mc_100 dX10_sum_89 rfl mo_100 fs_10_116 ff_10_116 (Or.inl rfl)).trans ?_
            refine gI_c fun g7 => ?_
            refine (s_aaload 93 mc_100 dX10_sum_92 rfl).trans ?_
            refine aR_c fun g8 => ?_
            refine (s_astore 95 mc_100 dX10_sum_93 rfl (Nat.le_of_ble_eq_true rfl) rfl).trans ?_
            refine (s_aload 97 mc_100 dX10_sum_95 rfl rfl).trans ?_
            refine (s_iload_n 98 mc_100 dX10_sum_97 rfl rfl rfl).trans ?_
            refine (s_putfI 101 mc_100 dX10_sum_98 rfl mo_100 ff_10_123 rfl (Or.inl rfl)).trans ?_
            refine fI_c fun h3 => ?_
            refine (s_aload 103 mc_100 dX10_sum_101 rfl rfl).trans ?_
            refine (s_iload_n 104 mc_100 dX10_sum_103 rfl rfl rfl).trans ?_
            refine (s_iconst 105 5 mc_100 dX10_sum_104 rfl (by decide)).trans ?_
            refine (s_icmp_ne 112 108 mc_100 dX10_sum_105 rfl rfl).trans ?_
            refine ite_c ?_ ?_
            · skip
              refine (s_iload_n 113 mc_100 dX10_sum_112 rfl rfl rfl).trans ?_
              rfl
            · skip
              refine (s_iload_n 109 mc_100 dX10_sum_108 rfl rfl rfl).trans ?_
              refine (s_goto 113 mc_100 dX10_sum_109 rfl).trans ?_
              rfl
          · skip
            refine (s_iconst 81 (-1) mc_100 dX10_sum_80 rfl (by decide)).trans ?_
            exact s_iret mc_100 dX10_sum_81 mt_100
theorem b_100_113 {X : Ctx} {d : Nat} (v0 : Option Value) (v1 : Option Value) (v2 : Option Value) (v3 : Option Value) (x4 : Int32) (x5 : Int32) (x6 : Int32) (x7 : Nat) (x8 : Nat) (s0 : Nat) (s1 : Int32) (h : Hp) : sem (X, K X d) 100 113 [v0, v1, v2, v3, some (.int x4), some (.int x5), some (.int x6), some (.ref x7), some (.ref x8)] [.int s1, .ref s0] h = fI h 8 s0 1 s1 fun h1 => fI h1 8 x8 2 x4 fun h2 => fI h2 8 x8 3 x5 fun h3 => fI h3 8 x8 4 x6 fun h4 => gI h4 9 x7 3 fun g1 => fI h4 9 x7 3 (g1 + 1) fun h5 => gI h5 9 x7 3 fun g2 => some (some (.int (g2 - 1)), h5) := by
  refine (s_putfI 116 mc_100 dX10_sum_113 rfl mo_100 ff_10_126 rfl (Or.inl rfl)).trans ?_
  refine fI_c fun h1 => ?_
  refine (s_aload 118 mc_100 dX10_sum_116 rfl rfl).trans ?_
  refine (s_iload 120 mc_100 dX10_sum_118 rfl rfl).trans ?_
  refine (s_putfI 123 mc_100 dX10_sum_120 rfl mo_100 ff_10_129 rfl (Or.inl rfl)).trans ?_
  refine fI_c fun h2 => ?_
  refine (s_aload 125 mc_100 dX10_sum_123 rfl rfl).trans ?_
  refine (s_iload 127 mc_100 dX10_sum_125 rfl rfl).trans ?_
  refine (s_putfI 130 mc_100 dX10_sum_127 rfl mo_100 ff_10_132 rfl (Or.inl rfl)).trans ?_
  refine fI_c fun h3 => ?_
  refine (s_aload 132 mc_100 dX10_sum_130 rfl rfl).trans ?_
  refine (s_iload 134 mc_100 dX10_sum_132 rfl rfl).trans ?_
  refine (s_putfI 137 mc_100 dX10_sum_134 rfl mo_100 ff_10_135 rfl (Or.inl rfl)).trans ?_
  refine fI_c fun h4 => ?_
  refine (s_aload 139 mc_100 dX10_sum_137 rfl rfl).trans ?_
  refine (s_dup 140 mc_100 dX10_sum_139 rfl rfl).trans ?_
  refine (s_getfI 143 mc_100 dX10_sum_140 rfl mo_100 fs_10_116 ff_10_116 (Or.inl rfl)).trans ?_
  refine gI_c fun g1 => ?_
  refine (s_iconst 144 1 mc_100 dX10_sum_143 rfl (by decide)).trans ?_
  refine (s_iadd 145 mc_100 dX10_sum_144 rfl).trans ?_
  refine (s_putfI 148 mc_100 dX10_sum_145 rfl mo_100 ff_10_116 rfl (Or.inl rfl)).trans ?_
  refine fI_c fun h5 => ?_
  refine (s_aload 150 mc_100 dX10_sum_148 rfl rfl).trans ?_
  refine (s_getfI 153 mc_100 dX10_sum_150 rfl mo_100 fs_10_116 ff_10_116 (Or.inl rfl)).trans ?_
  refine gI_c fun g2 => ?_
  refine (s_iconst 154 1 mc_100 dX10_sum_153 rfl (by decide)).trans ?_
  refine (s_isub 155 mc_100 dX10_sum_154 rfl).trans ?_
  exact s_iret mc_100 dX10_sum_155 mt_100
/-- FiveLands.feed(IIIII)I -/
theorem k_101 {X : Ctx} {d : Nat} (x0 : Nat) (x1 : Int32) (x2 : Int32) (x3 : Int32) (x4 : Int32) (x5 : Int32) (h : Hp) : K X (d + 1) 101 [.ref x0, .int x1, .int x2, .int x3, .int x4, .int x5] h = gI h 10 x0 13 fun g1 => if (g1 + 20) ≤ 600 then gd (hS h x0 = (11, 0)) (bV (K X d 102 [.ref x0, .int x1] h) fun h1 => gd (hS h1 x0 = (11, 0)) (bV (K X d 102 [.ref x0, .int x2] h1) fun h2 => gd (hS h2 x0 = (11, 0)) (bV (K X d 102 [.ref x0, .int x3] h2) fun h3 => gd (hS h3 x0 = (11, 0)) (bV (K X d 102 [.ref x0, .int x4] h3) fun h4 => gd (hS h4 x0 = (11, 0)) (bV (K X d 102 [.ref x0, .int x5] h4) fun h5 => gI h5 10 x0 13 fun g2 => some (some (.int g2), h5)))))) else some (some (.int (-1)), h) := by
  show sem (X, K X d) 101 0 [some (.ref x0), some (.int x1), some (.int x2), some (.int x3), some (.int x4), some (.int x5)] [] h = _
  refine (s_aload_n 1 mc_101 dX10_feed_0 rfl rfl rfl).trans ?_
  refine (s_getfI 4 mc_101 dX10_feed_1 rfl mo_101 fs_10_138 ff_10_138 (Or.inl rfl)).trans ?_
  refine gI_c fun g1 => ?_
  refine (s_bipush 6 20 mc_101 dX10_feed_4 rfl (by decide)).trans ?_
  refine (s_iadd 7 mc_101 dX10_feed_6 rfl).trans ?_
  refine (s_sipush 10 600 mc_101 dX10_feed_7 rfl (by decide)).trans ?_
  refine (s_icmp_le 15 13 mc_101 dX10_feed_10 rfl rfl).trans ?_
  refine ite_c ?_ ?_
  · skip
    refine (s_aload_n 16 mc_101 dX10_feed_15 rfl rfl rfl).trans ?_
    refine (s_iload_n 17 mc_101 dX10_feed_16 rfl rfl rfl).trans ?_
    refine (s_iviV 20 mc_101 dX10_feed_17 rfl mo_101 mm_10_141 (by decide) ms_102 mi_102 mr_102 ma_102 mo_102 (by decide) (Nat.le_of_ble_eq_true rfl) rfl rfl (Nat.le_of_ble_eq_true rfl)).trans ?_
    refine gd_c ?_
    refine bV_c fun h1 => ?_
    refine (s_aload_n 21 mc_101 dX10_feed_20 rfl rfl rfl).trans ?_
    refine (s_iload_n 22 mc_101 dX10_feed_21 rfl rfl rfl).trans ?_
    refine (s_iviV 25 mc_101 dX10_feed_22 rfl mo_101 mm_10_141 (by decide) ms_102 mi_102 mr_102 ma_102 mo_102 (by decide) (Nat.le_of_ble_eq_true rfl) rfl rfl (Nat.le_of_ble_eq_true rfl)).trans ?_
    refine gd_c ?_
    refine bV_c fun h2 => ?_
    refine (s_aload_n 26 mc_101 dX10_feed_25 rfl rfl rfl).trans ?_
    refine (s_iload_n 27 mc_101 dX10_feed_26 rfl rfl rfl).trans ?_
    refine (s_iviV 30 mc_101 dX10_feed_27 rfl mo_101 mm_10_141 (by decide) ms_102 mi_102 mr_102 ma_102 mo_102 (by decide) (Nat.le_of_ble_eq_true rfl) rfl rfl (Nat.le_of_ble_eq_true rfl)).trans ?_
    refine gd_c ?_
    refine bV_c fun h3 => ?_
    refine (s_aload_n 31 mc_101 dX10_feed_30 rfl rfl rfl).trans ?_
    refine (s_iload 33 mc_101 dX10_feed_31 rfl rfl).trans ?_
    refine (s_iviV 36 mc_101 dX10_feed_33 rfl mo_101 mm_10_141 (by decide) ms_102 mi_102 mr_102 ma_102 mo_102 (by decide) (Nat.le_of_ble_eq_true rfl) rfl rfl (Nat.le_of_ble_eq_true rfl)).trans ?_
    refine gd_c ?_
    refine bV_c fun h4 => ?_
    refine (s_aload_n 37 mc_101 dX10_feed_36 rfl rfl rfl).trans ?_
    refine (s_iload 39 mc_101 dX10_feed_37 rfl rfl).trans ?_
    refine (s_iviV 42 mc_101 dX10_feed_39 rfl mo_101 mm_10_141 (by decide) ms_102 mi_102 mr_102 ma_102 mo_102 (by decide) (Nat.le_of_ble_eq_true rfl) rfl rfl (Nat.le_of_ble_eq_true rfl)).trans ?_
    refine gd_c ?_
    refine bV_c fun h5 => ?_
    refine (s_aload_n 43 mc_101 dX10_feed_42 rfl rfl rfl).trans ?_
    refine (s_getfI 46 mc_101 dX10_feed_43 rfl mo_101 fs_10_138 ff_10_138 (Or.inl rfl)).trans ?_
    refine gI_c fun g2 => ?_
    exact s_iret mc_101 dX10_feed_46 mt_101
  · skip
    refine (s_iconst 14 (-1) mc_101 dX10_feed_13 rfl (by decide)).trans ?_
    exact s_iret mc_101 dX10_feed_14 mt_101
/-- FiveLands.putBytes(I)V -/
theorem k_102 {X : Ctx} {d : Nat} (x0 : Nat) (x1 : Int32) (h : Hp) : K X (d + 1) 102 [.ref x0, .int x1] h = sem (X, K X d) 102 3 [some (.ref x0), some (.int x1), some (.int 24)] [] h := by
  show sem (X, K X d) 102 0 [some (.ref x0), some (.int x1), none] [] h = _
  refine (s_bipush 2 24 mc_102 dX10_putBytes_0 rfl (by decide)).trans ?_
  refine (s_istore_n 3 mc_102 dX10_putBytes_2 rfl rfl (Nat.le_of_ble_eq_true rfl) rfl).trans ?_
  rfl
theorem b_102_3 {X : Ctx} {d : Nat} (x0 : Nat) (x1 : Int32) (x2 : Int32)  (h : Hp) : sem (X, K X d) 102 3 [some (.ref x0), some (.int x1), some (.int x2)] [] h = if x2 < 0 then some (none, h) else gI h 10 x0 13 fun g1 => if 600 ≤ g1 then some (none, h) else gR h 10 x0 6 fun g2 => gI h 10 x0 13 fun g3 => wI h g2 g3 (((x1).toUInt32 >>> ((x2).toUInt32 &&& Int32.toUInt32 31)).toInt32 &&& 255) fun h1 => gI h1 10 x0 13 fun g4 => fI h1 10 x0 13 (g4 + 1) fun h2 => sem (X, K X d) 102 3 [some (.ref x0), some (.int x1), some (.int (x2 + (-8)))] [] h2 := by
  refine (s_iload_n 4 mc_102 dX10_putBytes_3 rfl rfl rfl).trans ?_
  refine (s_if_lt 49 7 mc_102 dX10_putBytes_4 rfl rfl).trans ?_
  refine ite_c ?_ ?_
  · skip
    exact s_vret mc_102 dX10_putBytes_49 mt_102
  · skip
    refine (s_aload_n 8 mc_102 dX10_putBytes_7 rfl rfl rfl).trans ?_
    refine (s_getfI 11 mc_102 dX10_putBytes_8 rfl mo_102 fs_10_138 ff_10_138 (Or.inl rfl)).trans ?_
    refine gI_c fun g1 => ?_
    refine (s_sipush 14 600 mc_102 dX10_putBytes_11 rfl (by decide)).trans ?_
    refine (s_icmp_ge 49 17 mc_102 dX10_putBytes_14 rfl rfl).trans ?_
    refine ite_c ?_ ?_
    · skip
      exact s_vret mc_102 dX10_putBytes_49 mt_102
    · skip
      refine (s_aload_n 18 mc_102 dX10_putBytes_17 rfl rfl rfl).trans ?_
      refine (s_getfR 21 mc_102 dX10_putBytes_18 rfl mo_102 fs_10_50 ff_10_50 rfl).trans ?_
      refine gR_c fun g2 => ?_
      refine (s_aload_n 22 mc_102 dX10_putBytes_21 rfl rfl rfl).trans ?_
      refine (s_getfI 25 mc_102 dX10_putBytes_22 rfl mo_102 fs_10_138 ff_10_138 (Or.inl rfl)).trans ?_
      refine gI_c fun g3 => ?_
      refine (s_iload_n 26 mc_102 dX10_putBytes_25 rfl rfl rfl).trans ?_
      refine (s_iload_n 27 mc_102 dX10_putBytes_26 rfl rfl rfl).trans ?_
      refine (s_iushr 28 mc_102 dX10_putBytes_27 rfl).trans ?_
      refine (s_sipush 31 255 mc_102 dX10_putBytes_28 rfl (by decide)).trans ?_
      refine (s_iand 32 mc_102 dX10_putBytes_31 rfl).trans ?_
      refine (s_iastore 33 mc_102 dX10_putBytes_32 rfl).trans ?_
      refine wI_c fun h1 => ?_
      refine (s_aload_n 34 mc_102 dX10_putBytes_33 rfl rfl rfl).trans ?_
      refine (s_dup 35 mc_102 dX10_putBytes_34 rfl rfl).trans ?_
      refine (s_getfI 38 mc_102 dX10_putBytes_35 rfl mo_102 fs_10_138 ff_10_138 (Or.inl rfl)).trans ?_
      refine gI_c fun g4 => ?_
      refine (s_iconst 39 1 mc_102 dX10_putBytes_38 rfl (by decide)).trans ?_
      refine (s_iadd 40 mc_102 dX10_putBytes_39 rfl).trans ?_
      refine (s_putfI 43 mc_102 dX10_putBytes_40 rfl mo_102 ff_10_138 rfl (Or.inl rfl)).trans ?_
      refine fI_c fun h2 => ?_
      refine (s_iinc (-8) 46 mc_102 dX10_putBytes_43 rfl rfl (Nat.le_of_ble_eq_true rfl) (by decide) rfl).trans ?_
      refine (s_goto 3 mc_102 dX10_putBytes_46 rfl).trans ?_
      rfl
/-- FiveLands.end(I)Z -/
theorem k_103 {X : Ctx} {d : Nat} (x0 : Nat) (x1 : Int32) (h : Hp) : K X (d + 1) 103 [.ref x0, .int x1] h = if x1 < 0 then some (some (.int 0), h) else gI h 10 x0 13 fun g1 => if x1 ≤ g1 then fI h 10 x0 13 x1 fun h1 => some (some (.int 1), h1) else some (some (.int 0), h) := by
  show sem (X, K X d) 103 0 [some (.ref x0), some (.int x1)] [] h = _
  refine (s_iload_n 1 mc_103 dX10_end_0 rfl rfl rfl).trans ?_
  refine (s_if_lt 12 4 mc_103 dX10_end_1 rfl rfl).trans ?_
  refine ite_c ?_ ?_
  · skip
    refine (s_iconst 13 0 mc_103 dX10_end_12 rfl (by decide)).trans ?_
    exact s_zret0 mc_103 dX10_end_13 mt_103
  · skip
    refine (s_iload_n 5 mc_103 dX10_end_4 rfl rfl rfl).trans ?_
    refine (s_aload_n 6 mc_103 dX10_end_5 rfl rfl rfl).trans ?_
    refine (s_getfI 9 mc_103 dX10_end_6 rfl mo_103 fs_10_138 ff_10_138 (Or.inl rfl)).trans ?_
    refine gI_c fun g1 => ?_
    refine (s_icmp_le 14 12 mc_103 dX10_end_9 rfl rfl).trans ?_
    refine ite_c ?_ ?_
    · skip
      refine (s_aload_n 15 mc_103 dX10_end_14 rfl rfl rfl).trans ?_
      refine (s_iload_n 16 mc_103 dX10_end_15 rfl rfl rfl).trans ?_
      refine (s_putfI 19 mc_103 dX10_end_16 rfl mo_103 ff_10_138 rfl (Or.inl rfl)).trans ?_
      refine fI_c fun h1 => ?_
      refine (s_iconst 20 1 mc_103 dX10_end_19 rfl (by decide)).trans ?_
      exact s_zret1 mc_103 dX10_end_20 mt_103
    · skip
      refine (s_iconst 13 0 mc_103 dX10_end_12 rfl (by decide)).trans ?_
      exact s_zret0 mc_103 dX10_end_13 mt_103
/-- FiveLands.text(II)I -/
theorem k_104 {X : Ctx} {d : Nat} (x0 : Nat) (x1 : Int32) (x2 : Int32) (h : Hp) : K X (d + 1) 104 [.ref x0, .int x1, .int x2] h = gI h 10 x0 13 fun g1 => fI h 10 x0 13 0 fun h1 => gR h1 10 x0 7 fun g2 => gd (hS h1 g2 = (6, 0)) (bV (K X d 38 [.ref g2] h1) fun h2 => bI (K X d 138 [.int x1] h2) fun r3 h3 => if r3 = 0 then sem (X, K X d) 104 83 [some (.ref x0), some (.int x1), some (.int x2), some (.int g1), some (.int (-1)), none] [] h3 else if ¬ x2 = (-1) then sem (X, K X d) 104 83 [some (.ref x0), some (.int x1), some (.int x2), some (.int g1), some (.int (-1)), none] [] h3 else gR h3 10 x0 7 fun g4 => gR h3 10 x0 6 fun g5 => gR h3 10 x0 11 fun g6 => gd (hS h3 g4 = (6, 0)) (bI (K X d 39 [.ref g4, .ref g5, .int g1, .ref g6] h3) fun r7 h4 => if r7 = (-1) then some (some (.int r7), h4) else gR h4 10 x0 1 fun g8 => aR h4 g8 x1 fun g9 => gR h4 10 x0 1 fun g10 => gR h4 10 x0 11 fun g11 => gd (GA h4 g10) (wR h4 g10 x1 g11 fun h5 => fR h5 10 x0 11 g9 fun h6 => some (some (.int r7), h6)))) := by
  show sem (X, K X d) 104 0 [some (.ref x0), some (.int x1), some (.int x2), none, none, none] [] h = _
  refine (s_aload_n 1 mc_104 dX10_text_0 rfl rfl rfl).trans ?_
  refine (s_getfI 4 mc_104 dX10_text_1 rfl mo_104 fs_10_138 ff_10_138 (Or.inl rfl)).trans ?_
  refine gI_c fun g1 => ?_
  refine (s_istore_n 5 mc_104 dX10_text_4 rfl rfl (Nat.le_of_ble_eq_true rfl) rfl).trans ?_
  refine (s_aload_n 6 mc_104 dX10_text_5 rfl rfl rfl).trans ?_
  refine (s_iconst 7 0 mc_104 dX10_text_6 rfl (by decide)).trans ?_
  refine (s_putfI 10 mc_104 dX10_text_7 rfl mo_104 ff_10_138 rfl (Or.inl rfl)).trans ?_
  refine fI_c fun h1 => ?_
  refine (s_aload_n 11 mc_104 dX10_text_10 rfl rfl rfl).trans ?_
  refine (s_getfR 14 mc_104 dX10_text_11 rfl mo_104 fs_10_57 ff_10_57 rfl).trans ?_
  refine gR_c fun g2 => ?_
  refine (s_iviV 17 mc_104 dX10_text_14 rfl mo_104 mm_10_145 (by decide) ms_38 mi_38 mr_38 ma_38 mo_38 (by decide) (Nat.le_of_ble_eq_true rfl) rfl rfl (Nat.le_of_ble_eq_true rfl)).trans ?_
  refine gd_c ?_
  refine bV_c fun h2 => ?_
  refine (s_iconst 18 (-1) mc_104 dX10_text_17 rfl (by decide)).trans ?_
  refine (s_istore 20 mc_104 dX10_text_18 rfl (Nat.le_of_ble_eq_true rfl) rfl).trans ?_
  refine (s_iload_n 21 mc_104 dX10_text_20 rfl rfl rfl).trans ?_
  refine (s_istI 24 mc_104 dX10_text_21 rfl mo_104 mm_10_99 (by decide) ms_138 mr_138 ma_138 (Nat.le_of_ble_eq_true rfl) rfl rfl (Nat.le_of_ble_eq_true rfl)).trans ?_
  refine bI_c fun r3 h3 => ?_
  refine (s_if_eq 83 27 mc_104 dX10_text_24 rfl rfl).trans ?_
  refine ite_c ?_ ?_
  · skip
    rfl
  · skip
    refine (s_iload_n 28 mc_104 dX10_text_27 rfl rfl rfl).trans ?_
    refine (s_iconst 29 (-1) mc_104 dX10_text_28 rfl (by decide)).trans ?_
    refine (s_icmp_ne 83 32 mc_104 dX10_text_29 rfl rfl).trans ?_
    refine ite_c ?_ ?_
    · skip
      rfl
    · skip
      refine (s_aload_n 33 mc_104 dX10_text_32 rfl rfl rfl).trans ?_
      refine (s_getfR 36 mc_104 dX10_text_33 rfl mo_104 fs_10_57 ff_10_57 rfl).trans ?_
      refine gR_c fun g4 => ?_
      refine (s_aload_n 37 mc_104 dX10_text_36 rfl rfl rfl).trans ?_
      refine (s_getfR 40 mc_104 dX10_text_37 rfl mo_104 fs_10_50 ff_10_50 rfl).trans ?_
      refine gR_c fun g5 => ?_
      refine (s_iload_n 41 mc_104 dX10_text_40 rfl rfl rfl).trans ?_
      refine (s_aload_n 42 mc_104 dX10_text_41 rfl rfl rfl).trans ?_
      refine (s_getfR 45 mc_104 dX10_text_42 rfl mo_104 fs_10_78 ff_10_78 rfl).trans ?_
      refine gR_c fun g6 => ?_
      refine (s_iviI 48 mc_104 dX10_text_45 rfl mo_104 mm_10_148 (by decide) ms_39 mi_39 mr_39 ma_39 mo_39 (by decide) (Nat.le_of_ble_eq_true rfl) rfl rfl (Nat.le_of_ble_eq_true rfl)).trans ?_
      refine gd_c ?_
      refine bI_c fun r7 h4 => ?_
      refine (s_istore 50 mc_104 dX10_text_48 rfl (Nat.le_of_ble_eq_true rfl) rfl).trans ?_
      refine (s_iload 52 mc_104 dX10_text_50 rfl rfl).trans ?_
      refine (s_iconst 53 (-1) mc_104 dX10_text_52 rfl (by decide)).trans ?_
      refine (s_icmp_eq 158 56 mc_104 dX10_text_53 rfl rfl).trans ?_
      refine ite_c ?_ ?_
      · skip
        refine (s_iload 160 mc_104 dX10_text_158 rfl rfl).trans ?_
        exact s_iret mc_104 dX10_text_160 mt_104
      · skip
        refine (s_aload_n 57 mc_104 dX10_text_56 rfl rfl rfl).trans ?_
        refine (s_getfR 60 mc_104 dX10_text_57 rfl mo_104 fs_10_26 ff_10_26 rfl).trans ?_
        refine gR_c fun g8 => ?_
        refine (s_iload_n 61 mc_104 dX10_text_60 rfl rfl rfl).trans ?_
        refine (s_aaload 62 mc_104 dX10_text_61 rfl).trans ?_
        refine aR_c fun g9 => ?_
        refine (s_astore 64 mc_104 dX10_text_62 rfl (Nat.le_of_ble_eq_true rfl) rfl).trans ?_
        refine (s_aload_n 65 mc_104 dX10_text_64 rfl rfl rfl).trans ?_
        refine (s_getfR 68 mc_104 dX10_text_65 rfl mo_104 fs_10_26 ff_10_26 rfl).trans ?_
        refine gR_c fun g10 => ?_
        refine (s_iload_n 69 mc_104 dX10_text_68 rfl rfl rfl).trans ?_
        refine (s_aload_n 70 mc_104 dX10_text_69 rfl rfl rfl).trans ?_
        refine (s_getfR 73 mc_104 dX10_text_70 rfl mo_104 fs_10_78 ff_10_78 rfl).trans ?_
        refine gR_c fun g11 => ?_
        refine (s_aastoreN 74 mc_104 dX10_text_73 rfl mq_104).trans ?_
        refine gd_c ?_
        refine wR_c fun h5 => ?_
        refine (s_aload_n 75 mc_104 dX10_text_74 rfl rfl rfl).trans ?_
        refine (s_aload 77 mc_104 dX10_text_75 rfl rfl).trans ?_
        refine (s_putfR 80 mc_104 dX10_text_77 rfl mo_104 ff_10_78 rfl (Or.inl rfl)).trans ?_
        refine fR_c fun h6 => ?_
        refine (s_goto 158 mc_104 dX10_text_80 rfl).trans ?_
        refine (s_iload 160 mc_104 dX10_text_158 rfl rfl).trans ?_
        exact s_iret mc_104 dX10_text_160 mt_104
theorem b_104_83 {X : Ctx} {d : Nat} (x0 : Nat) (x1 : Int32) (x2 : Int32) (x3 : Int32) (x4 : Int32) (v5 : Option Value)  (h : Hp) : sem (X, K X d) 104 83 [some (.ref x0), some (.int x1), some (.int x2), some (.int x3), some (.int x4), v5] [] h = bI (K X d 138 [.int x1] h) fun r1 h1 => if r1 = 0 then some (some (.int x4), h1) else bI (K X d 138 [.int x2] h1) fun r2 h2 => if r2 = 0 then some (some (.int x4), h2) else if x2 ≤ x1 then some (some (.int x4), h2) else gR h2 10 x0 7 fun g3 => gR h2 10 x0 6 fun g4 => gR h2 10 x0 12 fun g5 => gd (hS h2 g3 = (6, 0)) (bI (K X d 40 [.ref g3, .ref g4, .int x3, .ref g5] h2) fun r6 h3 => if r6 = (-1) then some (some (.int r6), h3) else gR h3 10 x0 2 fun g7 => bI (K X d 141 [.int x1, .int x2] h3) fun r8 h4 => aR h4 g7 r8 fun g9 => gR h4 10 x0 2 fun g10 => bI (K X d 141 [.int x1, .int x2] h4) fun r11 h5 => gR h5 10 x0 12 fun g12 => gd (GA h5 g10) (wR h5 g10 r11 g12 fun h6 => fR h6 10 x0 12 g9 fun h7 => some (some (.int r6), h7))) := by
  refine (s_iload_n 84 mc_104 dX10_text_83 rfl rfl rfl).trans ?_
  refine (s_istI 87 mc_104 dX10_text_84 rfl mo_104 mm_10_99 (by decide) ms_138 mr_138 ma_138 (Nat.le_of_ble_eq_true rfl) rfl rfl (Nat.le_of_ble_eq_true rfl)).trans ?_
  refine bI_c fun r1 h1 => ?_
  refine (s_if_eq 158 90 mc_104 dX10_text_87 rfl rfl).trans ?_
  refine ite_c ?_ ?_
  · skip
    refine (s_iload 160 mc_104 dX10_text_158 rfl rfl).trans ?_
    exact s_iret mc_104 dX10_text_160 mt_104
  · skip
    refine (s_iload_n 91 mc_104 dX10_text_90 rfl rfl rfl).trans ?_
    refine (s_istI 94 mc_104 dX10_text_91 rfl mo_104 mm_10_99 (by decide) ms_138 mr_138 ma_138 (Nat.le_of_ble_eq_true rfl) rfl rfl (Nat.le_of_ble_eq_true rfl)).trans ?_
    refine bI_c fun r2 h2 => ?_
    refine (s_if_eq 158 97 mc_104 dX10_text_94 rfl rfl).trans ?_
    refine ite_c ?_ ?_
    · skip
      refine (s_iload 160 mc_104 dX10_text_158 rfl rfl).trans ?_
      exact s_iret mc_104 dX10_text_160 mt_104
    · skip
      refine (s_iload_n 98 mc_104 dX10_text_97 rfl rfl rfl).trans ?_
      refine (s_iload_n 99 mc_104 dX10_text_98 rfl rfl rfl).trans ?_
      refine (s_icmp_ge 158 102 mc_104 dX10_text_99 rfl rfl).trans ?_
      refine ite_c ?_ ?_
      · skip
        refine (s_iload 160 mc_104 dX10_text_158 rfl rfl).trans ?_
        exact s_iret mc_104 dX10_text_160 mt_104
      · skip
        refine (s_aload_n 103 mc_104 dX10_text_102 rfl rfl rfl).trans ?_
        refine (s_getfR 106 mc_104 dX10_text_103 rfl mo_104 fs_10_57 ff_10_57 rfl).trans ?_
        refine gR_c fun g3 => ?_
        refine (s_aload_n 107 mc_104 dX10_text_106 rfl rfl rfl).trans ?_
        refine (s_getfR 110 mc_104 dX10_text_107 rfl mo_104 fs_10_50 ff_10_50 rfl).trans ?_
        refine gR_c fun g4 => ?_
        refine (s_iload_n 111 mc_104 dX10_text_110 rfl rfl rfl).trans ?_
        refine (s_aload_n 112 mc_104 dX10_text_111 rfl rfl rfl).trans ?_
        refine (s_getfR 115 mc_104 dX10_text_112 rfl mo_104 fs_10_83 ff_10_83 rfl).trans ?_
        refine gR_c fun g5 => ?_
        refine (s_iviI 118 mc_104 dX10_text_115 rfl mo_104 mm_10_152 (by decide) ms_40 mi_40 mr_40 ma_40 mo_40 (by decide) (Nat.le_of_ble_eq_true rfl) rfl rfl (Nat.le_of_ble_eq_true rfl)).trans ?_
        refine gd_c ?_
        refine bI_c fun r6 h3 => ?_
        refine (s_istore 120 mc_104 dX10_text_118 rfl (Nat.le_of_ble_eq_true rfl) rfl).trans ?_
        refine (s_iload 122 mc_104 dX10_text_120 rfl rfl).trans ?_
        refine (s_iconst 123 (-1) mc_104 dX10_text_122 rfl (by decide)).trans ?_
        refine (s_icmp_eq 158 126 mc_104 dX10_text_123 rfl rfl).trans ?_
        refine ite_c ?_ ?_
        · skip
          refine (s_iload 160 mc_104 dX10_text_158 rfl rfl).trans ?_
          exact s_iret mc_104 dX10_text_160 mt_104
        · skip
          refine (s_aload_n 127 mc_104 dX10_text_126 rfl rfl rfl).trans ?_
          refine (s_getfR 130 mc_104 dX10_text_127 rfl mo_104 fs_10_29 ff_10_29 rfl).trans ?_
          refine gR_c fun g7 => ?_
          refine (s_iload_n 131 mc_104 dX10_text_130 rfl rfl rfl).trans ?_
          refine (s_iload_n 132 mc_104 dX10_text_131 rfl rfl rfl).trans ?_
          refine (s_istI 135 mc_104 dX10_text_132 rfl mo_104 mm_10_156 (by decide) ms_141 mr_141 ma_141 (Nat.le_of_ble_eq_true rfl) rfl rfl (Nat.le_of_ble_eq_true rfl)).trans ?_
          refine bI_c fun r8 h4 => ?_
          refine (s_aaload 136 mc_104 dX10_text_135 rfl).trans ?_
          refine aR_c fun g9 => ?_
          refine (s_astore 138 mc_104 dX10_text_136 rfl (Nat.le_of_ble_eq_true rfl) rfl).trans ?_
          refine (s_aload_n 139 mc_104 dX10_text_138 rfl rfl rfl).trans ?_
          refine (s_getfR 142 mc_104 dX10_text_139 rfl mo_104 fs_10_29 ff_10_29 rfl).trans ?_
          refine gR_c fun g10 => ?_
          refine (s_iload_n 143 mc_104 dX10_text_142 rfl rfl rfl).trans ?_
          refine (s_iload_n 144 mc_104 dX10_text_143 rfl rfl rfl).trans ?_
          refine (s_istI 147 mc_104 dX10_text_144 rfl mo_104 mm_10_156 (by decide) ms_141 mr_141 ma_141 (Nat.le_of_ble_eq_true rfl) rfl rfl (Nat.le_of_ble_eq_true rfl)).trans ?_
          refine bI_c fun r11 h5 => ?_
          refine (s_aload_n 148 mc_104 dX10_text_147 rfl rfl rfl).trans ?_
          refine (s_getfR 151 mc_104 dX10_text_148 rfl mo_104 fs_10_83 ff_10_83 rfl).trans ?_
          refine gR_c fun g12 => ?_
          refine (s_aastoreN 152 mc_104 dX10_text_151 rfl mq_104).trans ?_
          refine gd_c ?_
          refine wR_c fun h6 => ?_
          refine (s_aload_n 153 mc_104 dX10_text_152 rfl rfl rfl).trans ?_
          refine (s_aload 155 mc_104 dX10_text_153 rfl rfl).trans ?_
          refine (s_putfR 158 mc_104 dX10_text_155 rfl mo_104 ff_10_83 rfl (Or.inl rfl)).trans ?_
          refine fR_c fun h7 => ?_
          refine (s_iload 160 mc_104 dX10_text_158 rfl rfl).trans ?_
          exact s_iret mc_104 dX10_text_160 mt_104
/-- FiveLands.fault(I)I -/
theorem k_105 {X : Ctx} {d : Nat} (x0 : Nat) (x1 : Int32) (h : Hp) : K X (d + 1) 105 [.ref x0, .int x1] h = if ¬ x1 = 0 then if ¬ x1 = 1 then some (some (.int (-1)), h) else gR h 10 x0 7 fun g1 => gI h 5 g1 12 fun g2 => some (some (.int g2), h) else gR h 10 x0 7 fun g3 => gI h 5 g3 11 fun g4 => some (some (.int g4), h) := by
  show sem (X, K X d) 105 0 [some (.ref x0), some (.int x1)] [] h = _
  refine (s_iload_n 1 mc_105 dX10_fault_0 rfl rfl rfl).trans ?_
  refine (s_if_ne 12 4 mc_105 dX10_fault_1 rfl rfl).trans ?_
  refine ite_c ?_ ?_
  · skip
    refine (s_iload_n 13 mc_105 dX10_fault_12 rfl rfl rfl).trans ?_
    refine (s_iconst 14 1 mc_105 dX10_fault_13 rfl (by decide)).trans ?_
    refine (s_icmp_ne 27 17 mc_105 dX10_fault_14 rfl rfl).trans ?_
    refine ite_c ?_ ?_
    · skip
      refine (s_iconst 28 (-1) mc_105 dX10_fault_27 rfl (by decide)).trans ?_
      exact s_iret mc_105 dX10_fault_28 mt_105
    · skip
      refine (s_aload_n 18 mc_105 dX10_fault_17 rfl rfl rfl).trans ?_
      refine (s_getfR 21 mc_105 dX10_fault_18 rfl mo_105 fs_10_57 ff_10_57 rfl).trans ?_
      refine gR_c fun g1 => ?_
      refine (s_getfI 24 mc_105 dX10_fault_21 rfl mo_105 fs_10_163 ff_10_163 (Or.inl rfl)).trans ?_
      refine gI_c fun g2 => ?_
      refine (s_goto 28 mc_105 dX10_fault_24 rfl).trans ?_
      exact s_iret mc_105 dX10_fault_28 mt_105
  · skip
    refine (s_aload_n 5 mc_105 dX10_fault_4 rfl rfl rfl).trans ?_
    refine (s_getfR 8 mc_105 dX10_fault_5 rfl mo_105 fs_10_57 ff_10_57 rfl).trans ?_
    refine gR_c fun g3 => ?_
    refine (s_getfI 11 mc_105 dX10_fault_8 rfl mo_105 fs_10_160 ff_10_160 (Or.inl rfl)).trans ?_
    refine gI_c fun g4 => ?_
    exact s_iret mc_105 dX10_fault_11 mt_105
/-- FiveLands.of(III)I -/
theorem k_106 {X : Ctx} {d : Nat} (x0 : Nat) (x1 : Int32) (x2 : Int32) (x3 : Int32) (h : Hp) : K X (d + 1) 106 [.ref x0, .int x1, .int x2, .int x3] h = bI (K X d 137 [.int x1] h) fun r1 h1 => if r1 = 0 then some (some (.int (-1)), h1) else bI (K X d 138 [.int x2] h1) fun r2 h2 => if r2 = 0 then some (some (.int (-1)), h2) else if x3 < 0 then some (some (.int (-1)), h2) else if x3 ≤ 7 then gd (hS h2 x0 = (11, 0)) (bV (K X d 136 [.ref x0, .int x1] h2) fun h3 => gR h3 10 x0 8 fun g3 => gR h3 2 g3 1 fun g4 => aR h3 g4 x2 fun g5 => if 4 < x3 then if ¬ x3 = 5 then if ¬ x3 = 6 then gR h3 10 x0 8 fun g6 => gR h3 2 g6 4 fun g7 => aI X h3 g7 x2 fun g8 => bI (K X d 107 [.int g8] h3) fun r9 h4 => some (some (.int r9), h4) else gR h3 10 x0 8 fun g10 => gI h3 2 g10 15 fun g11 => bI (K X d 140 [.long (g11 : Int32).toInt64, .int x2] h3) fun r12 h5 => if r12 = 0 then some (some (.int 0), h5) else some (some (.int 1), h5) else gR h3 10 x0 8 fun g13 => gI h3 2 g13 14 fun g14 => bI (K X d 140 [.long (g14 : Int32).toInt64, .int x2] h3) fun r15 h6 => if r15 = 0 then some (some (.int 0), h6) else some (some (.int 1), h6) else aI X h3 g5 x3 fun g16 => some (some (.int g16), h3)) else some (some (.int (-1)), h2) := by
  show sem (X, K X d) 106 0 [some (.ref x0), some (.int x1), some (.int x2), some (.int x3), none] [] h = _
  refine (s_iload_n 1 mc_106 dX10_of_0 rfl rfl rfl).trans ?_
  refine (s_istI 4 mc_106 dX10_of_1 rfl mo_106 mm_10_88 (by decide) ms_137 mr_137 ma_137 (Nat.le_of_ble_eq_true rfl) rfl rfl (Nat.le_of_ble_eq_true rfl)).trans ?_
  refine bI_c fun r1 h1 => ?_
  refine (s_if_eq 24 7 mc_106 dX10_of_4 rfl rfl).trans ?_
  refine ite_c ?_ ?_
  · skip
    refine (s_iconst 25 (-1) mc_106 dX10_of_24 rfl (by decide)).trans ?_
    exact s_iret mc_106 dX10_of_25 mt_106
  · skip
    refine (s_iload_n 8 mc_106 dX10_of_7 rfl rfl rfl).trans ?_
    refine (s_istI 11 mc_106 dX10_of_8 rfl mo_106 mm_10_99 (by decide) ms_138 mr_138 ma_138 (Nat.le_of_ble_eq_true rfl) rfl rfl (Nat.le_of_ble_eq_true rfl)).trans ?_
    refine bI_c fun r2 h2 => ?_
    refine (s_if_eq 24 14 mc_106 dX10_of_11 rfl rfl).trans ?_
    refine ite_c ?_ ?_
    · skip
      refine (s_iconst 25 (-1) mc_106 dX10_of_24 rfl (by decide)).trans ?_
      exact s_iret mc_106 dX10_of_25 mt_106
    · skip
      refine (s_iload_n 15 mc_106 dX10_of_14 rfl rfl rfl).trans ?_
      refine (s_if_lt 24 18 mc_106 dX10_of_15 rfl rfl).trans ?_
      refine ite_c ?_ ?_
      · skip
        refine (s_iconst 25 (-1) mc_106 dX10_of_24 rfl (by decide)).trans ?_
        exact s_iret mc_106 dX10_of_25 mt_106
      · skip
        refine (s_iload_n 19 mc_106 dX10_of_18 rfl rfl rfl).trans ?_
        refine (s_bipush 21 7 mc_106 dX10_of_19 rfl (by decide)).trans ?_
        refine (s_icmp_le 26 24 mc_106 dX10_of_21 rfl rfl).trans ?_
        refine ite_c ?_ ?_
        · skip
          refine (s_aload_n 27 mc_106 dX10_of_26 rfl rfl rfl).trans ?_
          refine (s_iload_n 28 mc_106 dX10_of_27 rfl rfl rfl).trans ?_
          refine (s_iviV 31 mc_106 dX10_of_28 rfl mo_106 mm_10_166 (by decide) ms_136 mi_136 mr_136 ma_136 mo_136 (by decide) (Nat.le_of_ble_eq_true rfl) rfl rfl (Nat.le_of_ble_eq_true rfl)).trans ?_
          refine gd_c ?_
          refine bV_c fun h3 => ?_
          refine (s_aload_n 32 mc_106 dX10_of_31 rfl rfl rfl).trans ?_
          refine (s_getfR 35 mc_106 dX10_of_32 rfl mo_106 fs_10_18 ff_10_18 rfl).trans ?_
          refine gR_c fun g3 => ?_
          refine (s_getfR 38 mc_106 dX10_of_35 rfl mo_106 fs_10_169 ff_10_169 rfl).trans ?_
          refine gR_c fun g4 => ?_
          refine (s_iload_n 39 mc_106 dX10_of_38 rfl rfl rfl).trans ?_
          refine (s_aaload 40 mc_106 dX10_of_39 rfl).trans ?_
          refine aR_c fun g5 => ?_
          refine (s_astore 42 mc_106 dX10_of_40 rfl (Nat.le_of_ble_eq_true rfl) rfl).trans ?_
          refine (s_iload_n 43 mc_106 dX10_of_42 rfl rfl rfl).trans ?_
          refine (s_iconst 44 4 mc_106 dX10_of_43 rfl (by decide)).trans ?_
          refine (s_icmp_gt 52 47 mc_106 dX10_of_44 rfl rfl).trans ?_
          refine ite_c ?_ ?_
          · skip
            refine (s_iload_n 53 mc_106 dX10_of_52 rfl rfl rfl).trans ?_
            refine (s_iconst 54 5 mc_106 dX10_of_53 rfl (by decide)).trans ?_
            refine (s_icmp_ne 78 57 mc_106 dX10_of_54 rfl rfl).trans ?_
            refine ite_c ?_ ?_
            · skip
              refine (s_iload_n 79 mc_106 dX10_of_78 rfl rfl rfl).trans ?_
              refine (s_bipush 81 6 mc_106 dX10_of_79 rfl (by decide)).trans ?_
              refine (s_icmp_ne 105 84 mc_106 dX10_of_81 rfl rfl).trans ?_
              refine ite_c ?_ ?_
              · skip
                refine (s_aload_n 106 mc_106 dX10_of_105 rfl rfl rfl).trans ?_
                refine (s_getfR 109 mc_106 dX10_of_106 rfl mo_106 fs_10_18 ff_10_18 rfl).trans ?_
                refine gR_c fun g6 => ?_
                refine (s_getfR 112 mc_106 dX10_of_109 rfl mo_106 fs_10_183 ff_10_183 rfl).trans ?_
                refine gR_c fun g7 => ?_
                refine (s_iload_n 113 mc_106 dX10_of_112 rfl rfl rfl).trans ?_
                refine (s_iaload 114 mc_106 dX10_of_113 rfl).trans ?_
                refine aI_c fun g8 => ?_
                refine (s_istI 117 mc_106 dX10_of_114 rfl mo_106 mm_10_186 (by decide) ms_107 mr_107 ma_107 (Nat.le_of_ble_eq_true rfl) rfl rfl (Nat.le_of_ble_eq_true rfl)).trans ?_
                refine bI_c fun r9 h4 => ?_
                exact s_iret mc_106 dX10_of_117 mt_106
              · skip
                refine (s_aload_n 85 mc_106 dX10_of_84 rfl rfl rfl).trans ?_
                refine (s_getfR 88 mc_106 dX10_of_85 rfl mo_106 fs_10_18 ff_10_18 rfl).trans ?_
                refine gR_c fun g10 => ?_
                refine (s_getfI 91 mc_106 dX10_of_88 rfl mo_106 fs_10_180 ff_10_180 (Or.inl rfl)).trans ?_
                refine gI_c fun g11 => ?_
                refine (s_i2l 92 mc_106 dX10_of_91 rfl).trans ?_
                refine (s_iload_n 93 mc_106 dX10_of_92 rfl rfl rfl).trans ?_
                refine (s_istI 96 mc_106 dX10_of_93 rfl mo_106 mm_10_176 (by decide) ms_140 mr_140 ma_140 (Nat.le_of_ble_eq_true rfl) rfl rfl (Nat.le_of_ble_eq_true rfl)).trans ?_
                refine bI_c fun r12 h5 => ?_
                refine (s_if_eq 103 99 mc_106 dX10_of_96 rfl rfl).trans ?_
                refine ite_c ?_ ?_
                · skip
                  refine (s_iconst 104 0 mc_106 dX10_of_103 rfl (by decide)).trans ?_
                  exact s_iret mc_106 dX10_of_104 mt_106
                · skip
                  refine (s_iconst 100 1 mc_106 dX10_of_99 rfl (by decide)).trans ?_
                  refine (s_goto 104 mc_106 dX10_of_100 rfl).trans ?_
                  exact s_iret mc_106 dX10_of_104 mt_106
            · skip
              refine (s_aload_n 58 mc_106 dX10_of_57 rfl rfl rfl).trans ?_
              refine (s_getfR 61 mc_106 dX10_of_58 rfl mo_106 fs_10_18 ff_10_18 rfl).trans ?_
              refine gR_c fun g13 => ?_
              refine (s_getfI 64 mc_106 dX10_of_61 rfl mo_106 fs_10_173 ff_10_173 (Or.inl rfl)).trans ?_
              refine gI_c fun g14 => ?_
              refine (s_i2l 65 mc_106 dX10_of_64 rfl).trans ?_
              refine (s_iload_n 66 mc_106 dX10_of_65 rfl rfl rfl).trans ?_
              refine (s_istI 69 mc_106 dX10_of_66 rfl mo_106 mm_10_176 (by decide) ms_140 mr_140 ma_140 (Nat.le_of_ble_eq_true rfl) rfl rfl (Nat.le_of_ble_eq_true rfl)).trans ?_
              refine bI_c fun r15 h6 => ?_
              refine (s_if_eq 76 72 mc_106 dX10_of_69 rfl rfl).trans ?_
              refine ite_c ?_ ?_
              · skip
                refine (s_iconst 77 0 mc_106 dX10_of_76 rfl (by decide)).trans ?_
                exact s_iret mc_106 dX10_of_77 mt_106
              · skip
                refine (s_iconst 73 1 mc_106 dX10_of_72 rfl (by decide)).trans ?_
                refine (s_goto 77 mc_106 dX10_of_73 rfl).trans ?_
                exact s_iret mc_106 dX10_of_77 mt_106
          · skip
            refine (s_aload 49 mc_106 dX10_of_47 rfl rfl).trans ?_
            refine (s_iload_n 50 mc_106 dX10_of_49 rfl rfl rfl).trans ?_
            refine (s_iaload 51 mc_106 dX10_of_50 rfl).trans ?_
            refine aI_c fun g16 => ?_
            exact s_iret mc_106 dX10_of_51 mt_106
        · skip
          refine (s_iconst 25 (-1) mc_106 dX10_of_24 rfl (by decide)).trans ?_
          exact s_iret mc_106 dX10_of_25 mt_106
/-- FiveLands.least(I)I -/
theorem k_107 {X : Ctx} {d : Nat} (x0 : Int32) (h : Hp) : K X (d + 1) 107 [.int x0] h = sem (X, K X d) 107 2 [some (.int x0), some (.int 0)] [] h := by
  show sem (X, K X d) 107 0 [some (.int x0), none] [] h = _
  refine (s_iconst 1 0 mc_107 dX10_least_0 rfl (by decide)).trans ?_
  refine (s_istore_n 2 mc_107 dX10_least_1 rfl rfl (Nat.le_of_ble_eq_true rfl) rfl).trans ?_
  rfl
theorem b_107_2 {X : Ctx} {d : Nat} (x0 : Int32) (x1 : Int32)  (h : Hp) : sem (X, K X d) 107 2 [some (.int x0), some (.int x1)] [] h = if 6 ≤ x1 then some (some (.int (-1)), h) else bI (K X d 140 [.long (x0 : Int32).toInt64, .int x1] h) fun r1 h1 => if r1 = 0 then sem (X, K X d) 107 2 [some (.int x0), some (.int (x1 + 1))] [] h1 else some (some (.int x1), h1) := by
  refine (s_iload_n 3 mc_107 dX10_least_2 rfl rfl rfl).trans ?_
  refine (s_bipush 5 6 mc_107 dX10_least_3 rfl (by decide)).trans ?_
  refine (s_icmp_ge 25 8 mc_107 dX10_least_5 rfl rfl).trans ?_
  refine ite_c ?_ ?_
  · skip
    refine (s_iconst 26 (-1) mc_107 dX10_least_25 rfl (by decide)).trans ?_
    exact s_iret mc_107 dX10_least_26 mt_107
  · skip
    refine (s_iload_n 9 mc_107 dX10_least_8 rfl rfl rfl).trans ?_
    refine (s_i2l 10 mc_107 dX10_least_9 rfl).trans ?_
    refine (s_iload_n 11 mc_107 dX10_least_10 rfl rfl rfl).trans ?_
    refine (s_istI 14 mc_107 dX10_least_11 rfl mo_107 mm_10_176 (by decide) ms_140 mr_140 ma_140 (Nat.le_of_ble_eq_true rfl) rfl rfl (Nat.le_of_ble_eq_true rfl)).trans ?_
    refine bI_c fun r1 h1 => ?_
    refine (s_if_eq 19 17 mc_107 dX10_least_14 rfl rfl).trans ?_
    refine ite_c ?_ ?_
    · skip
      refine (s_iinc 1 22 mc_107 dX10_least_19 rfl rfl (Nat.le_of_ble_eq_true rfl) (by decide) rfl).trans ?_
      refine (s_goto 2 mc_107 dX10_least_22 rfl).trans ?_
      rfl
    · skip
      refine (s_iload_n 18 mc_107 dX10_least_17 rfl rfl rfl).trans ?_
      exact s_iret mc_107 dX10_least_18 mt_107
/-- FiveLands.decides(III)I -/
theorem k_108 {X : Ctx} {d : Nat} (x0 : Nat) (x1 : Int32) (x2 : Int32) (x3 : Int32) (h : Hp) : K X (d + 1) 108 [.ref x0, .int x1, .int x2, .int x3] h = bI (K X d 137 [.int x1] h) fun r1 h1 => if r1 = 0 then some (some (.int (-1)), h1) else bI (K X d 138 [.int x2] h1) fun r2 h2 => if r2 = 0 then some (some (.int (-1)), h2) else bI (K X d 138 [.int x3] h2) fun r3 h3 => if r3 = 0 then some (some (.int (-1)), h3) else if ¬ x2 = x3 then gd (hS h3 x0 = (11, 0)) (bV (K X d 136 [.ref x0, .int x1] h3) fun h4 => gR h4 10 x0 8 fun g4 => gI h4 2 g4 14 fun g5 => bI (K X d 140 [.long (g5 : Int32).toInt64, .int x2] h4) fun r6 h5 => if r6 = 0 then some (some (.int (-1)), h5) else gR h5 10 x0 8 fun g7 => gI h5 2 g7 14 fun g8 => bI (K X d 140 [.long (g8 : Int32).toInt64, .int x3] h5) fun r9 h6 => if ¬ r9 = 0 then gR h6 10 x0 8 fun g10 => gR h6 10 x0 2 fun g11 => bI (K X d 141 [.int x2, .int x3] h6) fun r12 h7 => aR h7 g11 r12 fun g13 => gd (hS h7 g10 = (3, 0)) (bI (K X d 15 [.ref g10, .ref g13, .int x2, .int x3] h7) fun r14 h8 => some (some (.int r14), h8)) else some (some (.int (-1)), h6)) else some (some (.int (-1)), h3) := by
  show sem (X, K X d) 108 0 [some (.ref x0), some (.int x1), some (.int x2), some (.int x3)] [] h = _
  refine (s_iload_n 1 mc_108 dX10_decides_0 rfl rfl rfl).trans ?_
  refine (s_istI 4 mc_108 dX10_decides_1 rfl mo_108 mm_10_88 (by decide) ms_137 mr_137 ma_137 (Nat.le_of_ble_eq_true rfl) rfl rfl (Nat.le_of_ble_eq_true rfl)).trans ?_
  refine bI_c fun r1 h1 => ?_
  refine (s_if_eq 26 7 mc_108 dX10_decides_4 rfl rfl).trans ?_
  refine ite_c ?_ ?_
  · skip
    refine (s_iconst 27 (-1) mc_108 dX10_decides_26 rfl (by decide)).trans ?_
    exact s_iret mc_108 dX10_decides_27 mt_108
  · skip
    refine (s_iload_n 8 mc_108 dX10_decides_7 rfl rfl rfl).trans ?_
    refine (s_istI 11 mc_108 dX10_decides_8 rfl mo_108 mm_10_99 (by decide) ms_138 mr_138 ma_138 (Nat.le_of_ble_eq_true rfl) rfl rfl (Nat.le_of_ble_eq_true rfl)).trans ?_
    refine bI_c fun r2 h2 => ?_
    refine (s_if_eq 26 14 mc_108 dX10_decides_11 rfl rfl).trans ?_
    refine ite_c ?_ ?_
    · skip
      refine (s_iconst 27 (-1) mc_108 dX10_decides_26 rfl (by decide)).trans ?_
      exact s_iret mc_108 dX10_decides_27 mt_108
    · skip
      refine (s_iload_n 15 mc_108 dX10_decides_14 rfl rfl rfl).trans ?_
      refine (s_istI 18 mc_108 dX10_decides_15 rfl mo_108 mm_10_99 (by decide) ms_138 mr_138 ma_138 (Nat.le_of_ble_eq_true rfl) rfl rfl (Nat.le_of_ble_eq_true rfl)).trans ?_
      refine bI_c fun r3 h3 => ?_
      refine (s_if_eq 26 21 mc_108 dX10_decides_18 rfl rfl).trans ?_
      refine ite_c ?_ ?_
      · skip
        refine (s_iconst 27 (-1) mc_108 dX10_decides_26 rfl (by decide)).trans ?_
        exact s_iret mc_108 dX10_decides_27 mt_108
      · skip
        refine (s_iload_n 22 mc_108 dX10_decides_21 rfl rfl rfl).trans ?_
        refine (s_iload_n 23 mc_108 dX10_decides_22 rfl rfl rfl).trans ?_
        refine (s_icmp_ne 28 26 mc_108 dX10_decides_23 rfl rfl).trans ?_
        refine ite_c ?_ ?_
        · skip
          refine (s_aload_n 29 mc_108 dX10_decides_28 rfl rfl rfl).trans ?_
          refine (s_iload_n 30 mc_108 dX10_decides_29 rfl rfl rfl).trans ?_
          refine (s_iviV 33 mc_108 dX10_decides_30 rfl mo_108 mm_10_166 (by decide) ms_136 mi_136 mr_136 ma_136 mo_136 (by decide) (Nat.le_of_ble_eq_true rfl) rfl rfl (Nat.le_of_ble_eq_true rfl)).trans ?_
          refine gd_c ?_
          refine bV_c fun h4 => ?_
          refine (s_aload_n 34 mc_108 dX10_decides_33 rfl rfl rfl).trans ?_
          refine (s_getfR 37 mc_108 dX10_decides_34 rfl mo_108 fs_10_18 ff_10_18 rfl).trans ?_
          refine gR_c fun g4 => ?_
          refine (s_getfI 40 mc_108 dX10_decides_37 rfl mo_108 fs_10_173 ff_10_173 (Or.inl rfl)).trans ?_
          refine gI_c fun g5 => ?_
          refine (s_i2l 41 mc_108 dX10_decides_40 rfl).trans ?_
          refine (s_iload_n 42 mc_108 dX10_decides_41 rfl rfl rfl).trans ?_
          refine (s_istI 45 mc_108 dX10_decides_42 rfl mo_108 mm_10_176 (by decide) ms_140 mr_140 ma_140 (Nat.le_of_ble_eq_true rfl) rfl rfl (Nat.le_of_ble_eq_true rfl)).trans ?_
          refine bI_c fun r6 h5 => ?_
          refine (s_if_eq 63 48 mc_108 dX10_decides_45 rfl rfl).trans ?_
          refine ite_c ?_ ?_
          · skip
            refine (s_iconst 64 (-1) mc_108 dX10_decides_63 rfl (by decide)).trans ?_
            exact s_iret mc_108 dX10_decides_64 mt_108
          · skip
            refine (s_aload_n 49 mc_108 dX10_decides_48 rfl rfl rfl).trans ?_
            refine (s_getfR 52 mc_108 dX10_decides_49 rfl mo_108 fs_10_18 ff_10_18 rfl).trans ?_
            refine gR_c fun g7 => ?_
            refine (s_getfI 55 mc_108 dX10_decides_52 rfl mo_108 fs_10_173 ff_10_173 (Or.inl rfl)).trans ?_
            refine gI_c fun g8 => ?_
            refine (s_i2l 56 mc_108 dX10_decides_55 rfl).trans ?_
            refine (s_iload_n 57 mc_108 dX10_decides_56 rfl rfl rfl).trans ?_
            refine (s_istI 60 mc_108 dX10_decides_57 rfl mo_108 mm_10_176 (by decide) ms_140 mr_140 ma_140 (Nat.le_of_ble_eq_true rfl) rfl rfl (Nat.le_of_ble_eq_true rfl)).trans ?_
            refine bI_c fun r9 h6 => ?_
            refine (s_if_ne 65 63 mc_108 dX10_decides_60 rfl rfl).trans ?_
            refine ite_c ?_ ?_
            · skip
              refine (s_aload_n 66 mc_108 dX10_decides_65 rfl rfl rfl).trans ?_
              refine (s_getfR 69 mc_108 dX10_decides_66 rfl mo_108 fs_10_18 ff_10_18 rfl).trans ?_
              refine gR_c fun g10 => ?_
              refine (s_aload_n 70 mc_108 dX10_decides_69 rfl rfl rfl).trans ?_
              refine (s_getfR 73 mc_108 dX10_decides_70 rfl mo_108 fs_10_29 ff_10_29 rfl).trans ?_
              refine gR_c fun g11 => ?_
              refine (s_iload_n 74 mc_108 dX10_decides_73 rfl rfl rfl).trans ?_
              refine (s_iload_n 75 mc_108 dX10_decides_74 rfl rfl rfl).trans ?_
              refine (s_istI 78 mc_108 dX10_decides_75 rfl mo_108 mm_10_156 (by decide) ms_141 mr_141 ma_141 (Nat.le_of_ble_eq_true rfl) rfl rfl (Nat.le_of_ble_eq_true rfl)).trans ?_
              refine bI_c fun r12 h7 => ?_
              refine (s_aaload 79 mc_108 dX10_decides_78 rfl).trans ?_
              refine aR_c fun g13 => ?_
              refine (s_iload_n 80 mc_108 dX10_decides_79 rfl rfl rfl).trans ?_
              refine (s_iload_n 81 mc_108 dX10_decides_80 rfl rfl rfl).trans ?_
              refine (s_iviI 84 mc_108 dX10_decides_81 rfl mo_108 mm_10_190 (by decide) ms_15 mi_15 mr_15 ma_15 mo_15 (by decide) (Nat.le_of_ble_eq_true rfl) rfl rfl (Nat.le_of_ble_eq_true rfl)).trans ?_
              refine gd_c ?_
              refine bI_c fun r14 h8 => ?_
              exact s_iret mc_108 dX10_decides_84 mt_108
            · skip
              refine (s_iconst 64 (-1) mc_108 dX10_decides_63 rfl (by decide)).trans ?_
              exact s_iret mc_108 dX10_decides_64 mt_108
        · skip
          refine (s_iconst 27 (-1) mc_108 dX10_decides_26 rfl (by decide)).trans ?_
          exact s_iret mc_108 dX10_decides_27 mt_108
/-- FiveLands.tax(II)J -/
theorem k_109 {X : Ctx} {d : Nat} (x0 : Nat) (x1 : Int32) (x2 : Int32) (h : Hp) : K X (d + 1) 109 [.ref x0, .int x1, .int x2] h = bI (K X d 138 [.int x1] h) fun r1 h1 => if r1 = 0 then some (some (.long (-1)), h1) else if x2 < 0 then some (some (.long (-1)), h1) else if x2 ≤ 99999999 then gR h1 10 x0 1 fun g2 => aR h1 g2 x1 fun g3 => gd (hS h1 g3 = (2, 0)) (bJ (K X d 8 [.ref g3, .long (x2 : Int32).toInt64] h1) fun r4 h2 => some (some (.long r4), h2)) else some (some (.long (-1)), h1) := by
  show sem (X, K X d) 109 0 [some (.ref x0), some (.int x1), some (.int x2)] [] h = _
  refine (s_iload_n 1 mc_109 dX10_tax_0 rfl rfl rfl).trans ?_
  refine (s_istI 4 mc_109 dX10_tax_1 rfl mo_109 mm_10_99 (by decide) ms_138 mr_138 ma_138 (Nat.le_of_ble_eq_true rfl) rfl rfl (Nat.le_of_ble_eq_true rfl)).trans ?_
  refine bI_c fun r1 h1 => ?_
  refine (s_if_eq 17 7 mc_109 dX10_tax_4 rfl rfl).trans ?_
  refine ite_c ?_ ?_
  · skip
    refine (s_ldc2_w 20 (-1) mc_109 dX10_tax_17 rfl mo_109 cl_10_195 (by decide)).trans ?_
    exact s_lret mc_109 dX10_tax_20 mt_109
  · skip
    refine (s_iload_n 8 mc_109 dX10_tax_7 rfl rfl rfl).trans ?_
    refine (s_if_lt 17 11 mc_109 dX10_tax_8 rfl rfl).trans ?_
    refine ite_c ?_ ?_
    · skip
      refine (s_ldc2_w 20 (-1) mc_109 dX10_tax_17 rfl mo_109 cl_10_195 (by decide)).trans ?_
      exact s_lret mc_109 dX10_tax_20 mt_109
    · skip
      refine (s_iload_n 12 mc_109 dX10_tax_11 rfl rfl rfl).trans ?_
      refine (s_ldc 14 99999999 mc_109 dX10_tax_12 rfl mo_109 cs_10_194 (by decide)).trans ?_
      refine (s_icmp_le 21 17 mc_109 dX10_tax_14 rfl rfl).trans ?_
      refine ite_c ?_ ?_
      · skip
        refine (s_aload_n 22 mc_109 dX10_tax_21 rfl rfl rfl).trans ?_
        refine (s_getfR 25 mc_109 dX10_tax_22 rfl mo_109 fs_10_26 ff_10_26 rfl).trans ?_
        refine gR_c fun g2 => ?_
        refine (s_iload_n 26 mc_109 dX10_tax_25 rfl rfl rfl).trans ?_
        refine (s_aaload 27 mc_109 dX10_tax_26 rfl).trans ?_
        refine aR_c fun g3 => ?_
        refine (s_iload_n 28 mc_109 dX10_tax_27 rfl rfl rfl).trans ?_
        refine (s_i2l 29 mc_109 dX10_tax_28 rfl).trans ?_
        refine (s_iviJ 32 mc_109 dX10_tax_29 rfl mo_109 mm_10_197 (by decide) ms_8 mi_8 mr_8 ma_8 mo_8 (by decide) (Nat.le_of_ble_eq_true rfl) rfl rfl (Nat.le_of_ble_eq_true rfl)).trans ?_
        refine gd_c ?_
        refine bJ_c fun r4 h2 => ?_
        exact s_lret mc_109 dX10_tax_32 mt_109
      · skip
        refine (s_ldc2_w 20 (-1) mc_109 dX10_tax_17 rfl mo_109 cl_10_195 (by decide)).trans ?_
        exact s_lret mc_109 dX10_tax_20 mt_109
/-- FiveLands.takes(IIII)J -/
theorem k_110 {X : Ctx} {d : Nat} (x0 : Nat) (x1 : Int32) (x2 : Int32) (x3 : Int32) (x4 : Int32) (h : Hp) : K X (d + 1) 110 [.ref x0, .int x1, .int x2, .int x3, .int x4] h = bI (K X d 137 [.int x1] h) fun r1 h1 => if r1 = 0 then some (some (.long (-1)), h1) else gR h1 10 x0 0 fun g2 => aR h1 g2 x1 fun g3 => gd (hS h1 g3 = (10, 0)) (bI (K X d 92 [.ref g3, .int x2] h1) fun r4 h2 => if r4 = 0 then some (some (.long (-1)), h2) else if x4 < 0 then some (some (.long (-1)), h2) else if 4 < x4 then some (some (.long (-1)), h2) else if x4 = 3 then sem (X, K X d) 110 48 [some (.ref x0), some (.int x1), some (.int x2), some (.int x3), some (.int x4), none] [] h2 else bI (K X d 138 [.int x3] h2) fun r5 h3 => if ¬ r5 = 0 then sem (X, K X d) 110 48 [some (.ref x0), some (.int x1), some (.int x2), some (.int x3), some (.int x4), none] [] h3 else some (some (.long (-1)), h3)) := by
  show sem (X, K X d) 110 0 [some (.ref x0), some (.int x1), some (.int x2), some (.int x3), some (.int x4), none] [] h = _
  refine (s_iload_n 1 mc_110 dX10_takes_0 rfl rfl rfl).trans ?_
  refine (s_istI 4 mc_110 dX10_takes_1 rfl mo_110 mm_10_88 (by decide) ms_137 mr_137 ma_137 (Nat.le_of_ble_eq_true rfl) rfl rfl (Nat.le_of_ble_eq_true rfl)).trans ?_
  refine bI_c fun r1 h1 => ?_
  refine (s_if_eq 44 7 mc_110 dX10_takes_4 rfl rfl).trans ?_
  refine ite_c ?_ ?_
  · skip
    refine (s_ldc2_w 47 (-1) mc_110 dX10_takes_44 rfl mo_110 cl_10_195 (by decide)).trans ?_
    exact s_lret mc_110 dX10_takes_47 mt_110
  · skip
    refine (s_aload_n 8 mc_110 dX10_takes_7 rfl rfl rfl).trans ?_
    refine (s_getfR 11 mc_110 dX10_takes_8 rfl mo_110 fs_10_11 ff_10_11 rfl).trans ?_
    refine gR_c fun g2 => ?_
    refine (s_iload_n 12 mc_110 dX10_takes_11 rfl rfl rfl).trans ?_
    refine (s_aaload 13 mc_110 dX10_takes_12 rfl).trans ?_
    refine aR_c fun g3 => ?_
    refine (s_iload_n 14 mc_110 dX10_takes_13 rfl rfl rfl).trans ?_
    refine (s_iviI 17 mc_110 dX10_takes_14 rfl mo_110 mm_10_201 (by decide) ms_92 mi_92 mr_92 ma_92 mo_92 (by decide) (Nat.le_of_ble_eq_true rfl) rfl rfl (Nat.le_of_ble_eq_true rfl)).trans ?_
    refine gd_c ?_
    refine bI_c fun r4 h2 => ?_
    refine (s_if_eq 44 20 mc_110 dX10_takes_17 rfl rfl).trans ?_
    refine ite_c ?_ ?_
    · skip
      refine (s_ldc2_w 47 (-1) mc_110 dX10_takes_44 rfl mo_110 cl_10_195 (by decide)).trans ?_
      exact s_lret mc_110 dX10_takes_47 mt_110
    · skip
      refine (s_iload 22 mc_110 dX10_takes_20 rfl rfl).trans ?_
      refine (s_if_lt 44 25 mc_110 dX10_takes_22 rfl rfl).trans ?_
      refine ite_c ?_ ?_
      · skip
        refine (s_ldc2_w 47 (-1) mc_110 dX10_takes_44 rfl mo_110 cl_10_195 (by decide)).trans ?_
        exact s_lret mc_110 dX10_takes_47 mt_110
      · skip
        refine (s_iload 27 mc_110 dX10_takes_25 rfl rfl).trans ?_
        refine (s_iconst 28 4 mc_110 dX10_takes_27 rfl (by decide)).trans ?_
        refine (s_icmp_gt 44 31 mc_110 dX10_takes_28 rfl rfl).trans ?_
        refine ite_c ?_ ?_
        · skip
          refine (s_ldc2_w 47 (-1) mc_110 dX10_takes_44 rfl mo_110 cl_10_195 (by decide)).trans ?_
          exact s_lret mc_110 dX10_takes_47 mt_110
        · skip
          refine (s_iload 33 mc_110 dX10_takes_31 rfl rfl).trans ?_
          refine (s_iconst 34 3 mc_110 dX10_takes_33 rfl (by decide)).trans ?_
          refine (s_icmp_eq 48 37 mc_110 dX10_takes_34 rfl rfl).trans ?_
          refine ite_c ?_ ?_
          · skip
            rfl
          · skip
            refine (s_iload_n 38 mc_110 dX10_takes_37 rfl rfl rfl).trans ?_
            refine (s_istI 41 mc_110 dX10_takes_38 rfl mo_110 mm_10_99 (by decide) ms_138 mr_138 ma_138 (Nat.le_of_ble_eq_true rfl) rfl rfl (Nat.le_of_ble_eq_true rfl)).trans ?_
            refine bI_c fun r5 h3 => ?_
            refine (s_if_ne 48 44 mc_110 dX10_takes_41 rfl rfl).trans ?_
            refine ite_c ?_ ?_
            · skip
              rfl
            · skip
              refine (s_ldc2_w 47 (-1) mc_110 dX10_takes_44 rfl mo_110 cl_10_195 (by decide)).trans ?_
              exact s_lret mc_110 dX10_takes_47 mt_110
theorem b_110_48 {X : Ctx} {d : Nat} (x0 : Nat) (x1 : Int32) (x2 : Int32) (x3 : Int32) (x4 : Int32) (v5 : Option Value)  (h : Hp) : sem (X, K X d) 110 48 [some (.ref x0), some (.int x1), some (.int x2), some (.int x3), some (.int x4), v5] [] h = gd (hS h x0 = (11, 0)) (bV (K X d 136 [.ref x0, .int x1] h) fun h1 => gR h1 10 x0 0 fun g1 => aR h1 g1 x1 fun g2 => gR h1 9 g2 2 fun g3 => aR h1 g3 x2 fun g4 => if ¬ x4 = 0 then if ¬ x4 = 4 then gR h1 10 x0 8 fun g5 => gd (hS h1 g5 = (3, 0)) (bJ (K X d 21 [.ref g5, .ref g4] h1) fun r6 h2 => if ¬ x4 = 3 then if ¬ x4 = 1 then gR h2 10 x0 8 fun g7 => gR h2 2 g7 9 fun g8 => aJ h2 g8 x3 fun g9 => some (some (.long g9), h2) else gR h2 10 x0 8 fun g10 => gR h2 2 g10 8 fun g11 => aJ h2 g11 x3 fun g12 => some (some (.long g12), h2) else gR h2 10 x0 8 fun g13 => gI h2 2 g13 17 fun g14 => some (some (.long (g14 : Int32).toInt64), h2)) else gR h1 10 x0 8 fun g15 => gd (hS h1 g15 = (3, 0)) (bI (K X d 19 [.ref g15, .ref g4, .int x3] h1) fun r16 h3 => if r16 = 0 then some (some (.long 0), h3) else some (some (.long 1), h3)) else gR h1 10 x0 8 fun g17 => gd (hS h1 g17 = (3, 0)) (bI (K X d 18 [.ref g17, .ref g4, .int x3] h1) fun r18 h4 => some (some (.long (r18 : Int32).toInt64), h4))) := by
  refine (s_aload_n 49 mc_110 dX10_takes_48 rfl rfl rfl).trans ?_
  refine (s_iload_n 50 mc_110 dX10_takes_49 rfl rfl rfl).trans ?_
  refine (s_iviV 53 mc_110 dX10_takes_50 rfl mo_110 mm_10_166 (by decide) ms_136 mi_136 mr_136 ma_136 mo_136 (by decide) (Nat.le_of_ble_eq_true rfl) rfl rfl (Nat.le_of_ble_eq_true rfl)).trans ?_
  refine gd_c ?_
  refine bV_c fun h1 => ?_
  refine (s_aload_n 54 mc_110 dX10_takes_53 rfl rfl rfl).trans ?_
  refine (s_getfR 57 mc_110 dX10_takes_54 rfl mo_110 fs_10_11 ff_10_11 rfl).trans ?_
  refine gR_c fun g1 => ?_
  refine (s_iload_n 58 mc_110 dX10_takes_57 rfl rfl rfl).trans ?_
  refine (s_aaload 59 mc_110 dX10_takes_58 rfl).trans ?_
  refine aR_c fun g2 => ?_
  refine (s_getfR 62 mc_110 dX10_takes_59 rfl mo_110 fs_10_119 ff_10_119 rfl).trans ?_
  refine gR_c fun g3 => ?_
  refine (s_iload_n 63 mc_110 dX10_takes_62 rfl rfl rfl).trans ?_
  refine (s_aaload 64 mc_110 dX10_takes_63 rfl).trans ?_
  refine aR_c fun g4 => ?_
  refine (s_astore 66 mc_110 dX10_takes_64 rfl (Nat.le_of_ble_eq_true rfl) rfl).trans ?_
  refine (s_iload 68 mc_110 dX10_takes_66 rfl rfl).trans ?_
  refine (s_if_ne 83 71 mc_110 dX10_takes_68 rfl rfl).trans ?_
  refine ite_c ?_ ?_
  · skip
    refine (s_iload 85 mc_110 dX10_takes_83 rfl rfl).trans ?_
    refine (s_iconst 86 4 mc_110 dX10_takes_85 rfl (by decide)).trans ?_
    refine (s_icmp_ne 108 89 mc_110 dX10_takes_86 rfl rfl).trans ?_
    refine ite_c ?_ ?_
    · skip
      refine (s_aload_n 109 mc_110 dX10_takes_108 rfl rfl rfl).trans ?_
      refine (s_getfR 112 mc_110 dX10_takes_109 rfl mo_110 fs_10_18 ff_10_18 rfl).trans ?_
      refine gR_c fun g5 => ?_
      refine (s_aload 114 mc_110 dX10_takes_112 rfl rfl).trans ?_
      refine (s_iviJ 117 mc_110 dX10_takes_114 rfl mo_110 mm_10_212 (by decide) ms_21 mi_21 mr_21 ma_21 mo_21 (by decide) (Nat.le_of_ble_eq_true rfl) rfl rfl (Nat.le_of_ble_eq_true rfl)).trans ?_
      refine gd_c ?_
      refine bJ_c fun r6 h2 => ?_
      refine (s_pop2 118 mc_110 dX10_takes_117 rfl).trans ?_
      refine (s_iload 120 mc_110 dX10_takes_118 rfl rfl).trans ?_
      refine (s_iconst 121 3 mc_110 dX10_takes_120 rfl (by decide)).trans ?_
      refine (s_icmp_ne 133 124 mc_110 dX10_takes_121 rfl rfl).trans ?_
      refine ite_c ?_ ?_
      · skip
        refine (s_iload 135 mc_110 dX10_takes_133 rfl rfl).trans ?_
        refine (s_iconst 136 1 mc_110 dX10_takes_135 rfl (by decide)).trans ?_
        refine (s_icmp_ne 151 139 mc_110 dX10_takes_136 rfl rfl).trans ?_
        refine ite_c ?_ ?_
        · skip
          refine (s_aload_n 152 mc_110 dX10_takes_151 rfl rfl rfl).trans ?_
          refine (s_getfR 155 mc_110 dX10_takes_152 rfl mo_110 fs_10_18 ff_10_18 rfl).trans ?_
          refine gR_c fun g7 => ?_
          refine (s_getfR 158 mc_110 dX10_takes_155 rfl mo_110 fs_10_223 ff_10_223 rfl).trans ?_
          refine gR_c fun g8 => ?_
          refine (s_iload_n 159 mc_110 dX10_takes_158 rfl rfl rfl).trans ?_
          refine (s_laload 160 mc_110 dX10_takes_159 rfl).trans ?_
          refine aJ_c fun g9 => ?_
          exact s_lret mc_110 dX10_takes_160 mt_110
        · skip
          refine (s_aload_n 140 mc_110 dX10_takes_139 rfl rfl rfl).trans ?_
          refine (s_getfR 143 mc_110 dX10_takes_140 rfl mo_110 fs_10_18 ff_10_18 rfl).trans ?_
          refine gR_c fun g10 => ?_
          refine (s_getfR 146 mc_110 dX10_takes_143 rfl mo_110 fs_10_219 ff_10_219 rfl).trans ?_
          refine gR_c fun g11 => ?_
          refine (s_iload_n 147 mc_110 dX10_takes_146 rfl rfl rfl).trans ?_
          refine (s_laload 148 mc_110 dX10_takes_147 rfl).trans ?_
          refine aJ_c fun g12 => ?_
          refine (s_goto 160 mc_110 dX10_takes_148 rfl).trans ?_
          exact s_lret mc_110 dX10_takes_160 mt_110
      · skip
        refine (s_aload_n 125 mc_110 dX10_takes_124 rfl rfl rfl).trans ?_
        refine (s_getfR 128 mc_110 dX10_takes_125 rfl mo_110 fs_10_18 ff_10_18 rfl).trans ?_
        refine gR_c fun g13 => ?_
        refine (s_getfI 131 mc_110 dX10_takes_128 rfl mo_110 fs_10_216 ff_10_216 (Or.inl rfl)).trans ?_
        refine gI_c fun g14 => ?_
        refine (s_i2l 132 mc_110 dX10_takes_131 rfl).trans ?_
        exact s_lret mc_110 dX10_takes_132 mt_110
    · skip
      refine (s_aload_n 90 mc_110 dX10_takes_89 rfl rfl rfl).trans ?_
      refine (s_getfR 93 mc_110 dX10_takes_90 rfl mo_110 fs_10_18 ff_10_18 rfl).trans ?_
      refine gR_c fun g15 => ?_
      refine (s_aload 95 mc_110 dX10_takes_93 rfl rfl).trans ?_
      refine (s_iload_n 96 mc_110 dX10_takes_95 rfl rfl rfl).trans ?_
      refine (s_iviI 99 mc_110 dX10_takes_96 rfl mo_110 mm_10_208 (by decide) ms_19 mi_19 mr_19 ma_19 mo_19 (by decide) (Nat.le_of_ble_eq_true rfl) rfl rfl (Nat.le_of_ble_eq_true rfl)).trans ?_
      refine gd_c ?_
      refine bI_c fun r16 h3 => ?_
      refine (s_if_eq 106 102 mc_110 dX10_takes_99 rfl rfl).trans ?_
      refine ite_c ?_ ?_
      · skip
        refine (s_lconst 107 0 mc_110 dX10_takes_106 rfl (by decide)).trans ?_
        exact s_lret mc_110 dX10_takes_107 mt_110
      · skip
        refine (s_lconst 103 1 mc_110 dX10_takes_102 rfl (by decide)).trans ?_
        refine (s_goto 107 mc_110 dX10_takes_103 rfl).trans ?_
        exact s_lret mc_110 dX10_takes_107 mt_110
  · skip
    refine (s_aload_n 72 mc_110 dX10_takes_71 rfl rfl rfl).trans ?_
    refine (s_getfR 75 mc_110 dX10_takes_72 rfl mo_110 fs_10_18 ff_10_18 rfl).trans ?_
    refine gR_c fun g17 => ?_
    refine (s_aload 77 mc_110 dX10_takes_75 rfl rfl).trans ?_
    refine (s_iload_n 78 mc_110 dX10_takes_77 rfl rfl rfl).trans ?_
    refine (s_iviI 81 mc_110 dX10_takes_78 rfl mo_110 mm_10_204 (by decide) ms_18 mi_18 mr_18 ma_18 mo_18 (by decide) (Nat.le_of_ble_eq_true rfl) rfl rfl (Nat.le_of_ble_eq_true rfl)).trans ?_
    refine gd_c ?_
    refine bI_c fun r18 h4 => ?_
    refine (s_i2l 82 mc_110 dX10_takes_81 rfl).trans ?_
    exact s_lret mc_110 dX10_takes_82 mt_110
/-- FiveLands.owes(II)J -/
theorem k_111 {X : Ctx} {d : Nat} (x0 : Nat) (x1 : Int32) (x2 : Int32) (h : Hp) : K X (d + 1) 111 [.ref x0, .int x1, .int x2] h = bI (K X d 137 [.int x1] h) fun r1 h1 => if r1 = 0 then some (some (.long (-1)), h1) else if x2 < 0 then some (some (.long (-1)), h1) else if x2 ≤ 5 then gR h1 10 x0 0 fun g2 => aR h1 g2 x1 fun g3 => if ¬ x2 = 4 then if ¬ x2 = 5 then gd (hS h1 x0 = (11, 0)) (bV (K X d 136 [.ref x0, .int x1] h1) fun h2 => if ¬ x2 = 3 then if ¬ x2 = 0 then if ¬ x2 = 1 then if ¬ x2 = 1 then gd (hS h2 x0 = (11, 0)) (bI (K X d 112 [.ref x0, .ref g3, .int 2, .int 6] h2) fun r4 h3 => some (some (.long (r4 : Int32).toInt64), h3)) else gd (hS h2 x0 = (11, 0)) (bI (K X d 112 [.ref x0, .ref g3, .int 2, .int 0] h2) fun r5 h4 => some (some (.long (r5 : Int32).toInt64), h4)) else if ¬ x2 = 1 then gd (hS h2 x0 = (11, 0)) (bI (K X d 112 [.ref x0, .ref g3, .int 0, .int 6] h2) fun r6 h5 => some (some (.long (r6 : Int32).toInt64), h5)) else gd (hS h2 x0 = (11, 0)) (bI (K X d 112 [.ref x0, .ref g3, .int 0, .int 0] h2) fun r7 h6 => some (some (.long (r7 : Int32).toInt64), h6)) else gR h2 10 x0 8 fun g8 => gd (hS h2 g8 = (3, 0)) (bJ (K X d 20 [.ref g8, .ref g3] h2) fun r9 h7 => some (some (.long r9), h7)) else gR h2 10 x0 8 fun g10 => gI h2 2 g10 15 fun g11 => some (some (.long (g11 : Int32).toInt64), h2)) else gR h1 9 g3 1 fun g12 => gI h1 7 g12 1 fun g13 => some (some (.long (g13 : Int32).toInt64), h1) else gd (hS h1 g3 = (10, 0)) (bJ (K X d 95 [.ref g3] h1) fun r14 h8 => some (some (.long r14), h8)) else some (some (.long (-1)), h1) := by
  show sem (X, K X d) 111 0 [some (.ref x0), some (.int x1), some (.int x2), none] [] h = _
  refine (s_iload_n 1 mc_111 dX10_owes_0 rfl rfl rfl).trans ?_
  refine (s_istI 4 mc_111 dX10_owes_1 rfl mo_111 mm_10_88 (by decide) ms_137 mr_137 ma_137 (Nat.le_of_ble_eq_true rfl) rfl rfl (Nat.le_of_ble_eq_true rfl)).trans ?_
  refine bI_c fun r1 h1 => ?_
  refine (s_if_eq 16 7 mc_111 dX10_owes_4 rfl rfl).trans ?_
  refine ite_c ?_ ?_
  · skip
    refine (s_ldc2_w 19 (-1) mc_111 dX10_owes_16 rfl mo_111 cl_10_195 (by decide)).trans ?_
    exact s_lret mc_111 dX10_owes_19 mt_111
  · skip
    refine (s_iload_n 8 mc_111 dX10_owes_7 rfl rfl rfl).trans ?_
    refine (s_if_lt 16 11 mc_111 dX10_owes_8 rfl rfl).trans ?_
    refine ite_c ?_ ?_
    · skip
      refine (s_ldc2_w 19 (-1) mc_111 dX10_owes_16 rfl mo_111 cl_10_195 (by decide)).trans ?_
      exact s_lret mc_111 dX10_owes_19 mt_111
    · skip
      refine (s_iload_n 12 mc_111 dX10_owes_11 rfl rfl rfl).trans ?_
      refine (s_iconst 13 5 mc_111 dX10_owes_12 rfl (by decide)).trans ?_
      refine (s_icmp_le 20 16 mc_111 dX10_owes_13 rfl rfl).trans ?_
      refine ite_c ?_ ?_
      · skip
        refine (s_aload_n 21 mc_111 dX10_owes_20 rfl rfl rfl).trans ?_
        refine (s_getfR 24 mc_111 dX10_owes_21 rfl mo_111 fs_10_11 ff_10_11 rfl).trans ?_
        refine gR_c fun g2 => ?_
        refine (s_iload_n 25 mc_111 dX10_owes_24 rfl rfl rfl).trans ?_
        refine (s_aaload 26 mc_111 dX10_owes_25 rfl).trans ?_
        refine aR_c fun g3 => ?_
        refine (s_astore_n 27 mc_111 dX10_owes_26 rfl rfl (Nat.le_of_ble_eq_true rfl) rfl).trans ?_
        refine (s_iload_n 28 mc_111 dX10_owes_27 rfl rfl rfl).trans ?_
        refine (s_iconst 29 4 mc_111 dX10_owes_28 rfl (by decide)).trans ?_
        refine (s_icmp_ne 37 32 mc_111 dX10_owes_29 rfl rfl).trans ?_
        refine ite_c ?_ ?_
        · skip
          refine (s_iload_n 38 mc_111 dX10_owes_37 rfl rfl rfl).trans ?_
          refine (s_iconst 39 5 mc_111 dX10_owes_38 rfl (by decide)).trans ?_
          refine (s_icmp_ne 51 42 mc_111 dX10_owes_39 rfl rfl).trans ?_
          refine ite_c ?_ ?_
          · skip
            refine (s_aload_n 52 mc_111 dX10_owes_51 rfl rfl rfl).trans ?_
            refine (s_iload_n 53 mc_111 dX10_owes_52 rfl rfl rfl).trans ?_
            refine (s_iviV 56 mc_111 dX10_owes_53 rfl mo_111 mm_10_166 (by decide) ms_136 mi_136 mr_136 ma_136 mo_136 (by decide) (Nat.le_of_ble_eq_true rfl) rfl rfl (Nat.le_of_ble_eq_true rfl)).trans ?_
            refine gd_c ?_
            refine bV_c fun h2 => ?_
            refine (s_iload_n 57 mc_111 dX10_owes_56 rfl rfl rfl).trans ?_
            refine (s_iconst 58 3 mc_111 dX10_owes_57 rfl (by decide)).trans ?_
            refine (s_icmp_ne 70 61 mc_111 dX10_owes_58 rfl rfl).trans ?_
            refine ite_c ?_ ?_
            · skip
              refine (s_iload_n 71 mc_111 dX10_owes_70 rfl rfl rfl).trans ?_
              refine (s_if_ne 85 74 mc_111 dX10_owes_71 rfl rfl).trans ?_
              refine ite_c ?_ ?_
              · skip
                refine (s_aload_n 86 mc_111 dX10_owes_85 rfl rfl rfl).trans ?_
                refine (s_aload_n 87 mc_111 dX10_owes_86 rfl rfl rfl).trans ?_
                refine (s_iload_n 88 mc_111 dX10_owes_87 rfl rfl rfl).trans ?_
                refine (s_iconst 89 1 mc_111 dX10_owes_88 rfl (by decide)).trans ?_
                refine (s_icmp_ne 96 92 mc_111 dX10_owes_89 rfl rfl).trans ?_
                refine ite_c ?_ ?_
                · skip
                  refine (s_iconst 97 2 mc_111 dX10_owes_96 rfl (by decide)).trans ?_
                  refine (s_iload_n 98 mc_111 dX10_owes_97 rfl rfl rfl).trans ?_
                  refine (s_iconst 99 1 mc_111 dX10_owes_98 rfl (by decide)).trans ?_
                  refine (s_icmp_ne 106 102 mc_111 dX10_owes_99 rfl rfl).trans ?_
                  refine ite_c ?_ ?_
                  · skip
                    refine (s_bipush 108 6 mc_111 dX10_owes_106 rfl (by decide)).trans ?_
                    refine (s_iviI 111 mc_111 dX10_owes_108 rfl mo_111 mm_10_237 (by decide) ms_112 mi_112 mr_112 ma_112 mo_112 (by decide) (Nat.le_of_ble_eq_true rfl) rfl rfl (Nat.le_of_ble_eq_true rfl)).trans ?_
                    refine gd_c ?_
                    refine bI_c fun r4 h3 => ?_
                    refine (s_i2l 112 mc_111 dX10_owes_111 rfl).trans ?_
                    exact s_lret mc_111 dX10_owes_112 mt_111
                  · skip
                    refine (s_iconst 103 0 mc_111 dX10_owes_102 rfl (by decide)).trans ?_
                    refine (s_goto 108 mc_111 dX10_owes_103 rfl).trans ?_
                    refine (s_iviI 111 mc_111 dX10_owes_108 rfl mo_111 mm_10_237 (by decide) ms_112 mi_112 mr_112 ma_112 mo_112 (by decide) (Nat.le_of_ble_eq_true rfl) rfl rfl (Nat.le_of_ble_eq_true rfl)).trans ?_
                    refine gd_c ?_
                    refine bI_c fun r5 h4 => ?_
                    refine (s_i2l 112 mc_111 dX10_owes_111 rfl).trans ?_
                    exact s_lret mc_111 dX10_owes_112 mt_111
                · skip
                  refine (s_iconst 93 0 mc_111 dX10_owes_92 rfl (by decide)).trans ?_
                  refine (s_goto 97 mc_111 dX10_owes_93 rfl).trans ?_
                  refine (s_iload_n 98 mc_111 dX10_owes_97 rfl rfl rfl).trans ?_
                  refine (s_iconst 99 1 mc_111 dX10_owes_98 rfl (by decide)).trans ?_
                  refine (s_icmp_ne 106 102 mc_111 dX10_owes_99 rfl rfl).trans ?_
                  refine ite_c ?_ ?_
                  · skip
                    refine (s_bipush 108 6 mc_111 dX10_owes_106 rfl (by decide)).trans ?_
                    refine (s_iviI 111 mc_111 dX10_owes_108 rfl mo_111 mm_10_237 (by decide) ms_112 mi_112 mr_112 ma_112 mo_112 (by decide) (Nat.le_of_ble_eq_true rfl) rfl rfl (Nat.le_of_ble_eq_true rfl)).trans ?_
                    refine gd_c ?_
                    refine bI_c fun r6 h5 => ?_
                    refine (s_i2l 112 mc_111 dX10_owes_111 rfl).trans ?_
                    exact s_lret mc_111 dX10_owes_112 mt_111
                  · skip
                    refine (s_iconst 103 0 mc_111 dX10_owes_102 rfl (by decide)).trans ?_
                    refine (s_goto 108 mc_111 dX10_owes_103 rfl).trans ?_
                    refine (s_iviI 111 mc_111 dX10_owes_108 rfl mo_111 mm_10_237 (by decide) ms_112 mi_112 mr_112 ma_112 mo_112 (by decide) (Nat.le_of_ble_eq_true rfl) rfl rfl (Nat.le_of_ble_eq_true rfl)).trans ?_
                    refine gd_c ?_
                    refine bI_c fun r7 h6 => ?_
                    refine (s_i2l 112 mc_111 dX10_owes_111 rfl).trans ?_
                    exact s_lret mc_111 dX10_owes_112 mt_111
              · skip
                refine (s_aload_n 75 mc_111 dX10_owes_74 rfl rfl rfl).trans ?_
                refine (s_getfR 78 mc_111 dX10_owes_75 rfl mo_111 fs_10_18 ff_10_18 rfl).trans ?_
                refine gR_c fun g8 => ?_
                refine (s_aload_n 79 mc_111 dX10_owes_78 rfl rfl rfl).trans ?_
                refine (s_iviJ 82 mc_111 dX10_owes_79 rfl mo_111 mm_10_233 (by decide) ms_20 mi_20 mr_20 ma_20 mo_20 (by decide) (Nat.le_of_ble_eq_true rfl) rfl rfl (Nat.le_of_ble_eq_true rfl)).trans ?_
                refine gd_c ?_
                refine bJ_c fun r9 h7 => ?_
                refine (s_goto 112 mc_111 dX10_owes_82 rfl).trans ?_
                exact s_lret mc_111 dX10_owes_112 mt_111
            · skip
              refine (s_aload_n 62 mc_111 dX10_owes_61 rfl rfl rfl).trans ?_
              refine (s_getfR 65 mc_111 dX10_owes_62 rfl mo_111 fs_10_18 ff_10_18 rfl).trans ?_
              refine gR_c fun g10 => ?_
              refine (s_getfI 68 mc_111 dX10_owes_65 rfl mo_111 fs_10_180 ff_10_180 (Or.inl rfl)).trans ?_
              refine gI_c fun g11 => ?_
              refine (s_i2l 69 mc_111 dX10_owes_68 rfl).trans ?_
              exact s_lret mc_111 dX10_owes_69 mt_111
          · skip
            refine (s_aload_n 43 mc_111 dX10_owes_42 rfl rfl rfl).trans ?_
            refine (s_getfR 46 mc_111 dX10_owes_43 rfl mo_111 fs_10_102 ff_10_102 rfl).trans ?_
            refine gR_c fun g12 => ?_
            refine (s_getfI 49 mc_111 dX10_owes_46 rfl mo_111 fs_10_230 ff_10_230 (Or.inl rfl)).trans ?_
            refine gI_c fun g13 => ?_
            refine (s_i2l 50 mc_111 dX10_owes_49 rfl).trans ?_
            exact s_lret mc_111 dX10_owes_50 mt_111
        · skip
          refine (s_aload_n 33 mc_111 dX10_owes_32 rfl rfl rfl).trans ?_
          refine (s_iviJ 36 mc_111 dX10_owes_33 rfl mo_111 mm_10_226 (by decide) ms_95 mi_95 mr_95 ma_95 mo_95 (by decide) (Nat.le_of_ble_eq_true rfl) rfl rfl (Nat.le_of_ble_eq_true rfl)).trans ?_
          refine gd_c ?_
          refine bJ_c fun r14 h8 => ?_
          exact s_lret mc_111 dX10_owes_36 mt_111
      · skip
        refine (s_ldc2_w 19 (-1) mc_111 dX10_owes_16 rfl mo_111 cl_10_195 (by decide)).trans ?_
        exact s_lret mc_111 dX10_owes_19 mt_111
/-- FiveLands.takenBy(LFiveLands$Year;II)I -/
theorem k_112 {X : Ctx} {d : Nat} (x0 : Nat) (x1 : Nat) (x2 : Int32) (x3 : Int32) (h : Hp) : K X (d + 1) 112 [.ref x0, .ref x1, .int x2, .int x3] h = sem (X, K X d) 112 6 [some (.ref x0), some (.ref x1), some (.int x2), some (.int x3), some (.int 0), some (.int 0), none] [] h := by
  show sem (X, K X d) 112 0 [some (.ref x0), some (.ref x1), some (.int x2), some (.int x3), none, none, none] [] h = _
  refine (s_iconst 1 0 mc_112 dX10_takenBy_0 rfl (by decide)).trans ?_
  refine (s_istore 3 mc_112 dX10_takenBy_1 rfl (Nat.le_of_ble_eq_true rfl) rfl).trans ?_
  refine (s_iconst 4 0 mc_112 dX10_takenBy_3 rfl (by decide)).trans ?_
  refine (s_istore 6 mc_112 dX10_takenBy_4 rfl (Nat.le_of_ble_eq_true rfl) rfl).trans ?_
  rfl
theorem b_112_6 {X : Ctx} {d : Nat} (x0 : Nat) (x1 : Nat) (x2 : Int32) (x3 : Int32) (x4 : Int32) (x5 : Int32) (v6 : Option Value)  (h : Hp) : sem (X, K X d) 112 6 [some (.ref x0), some (.ref x1), some (.int x2), some (.int x3), some (.int x4), some (.int x5), v6] [] h = gI h 9 x1 3 fun g1 => if g1 ≤ x5 then some (some (.int x4), h) else gR h 10 x0 8 fun g2 => gR h 9 x1 2 fun g3 => aR h g3 x5 fun g4 => gd (hS h g2 = (3, 0)) (bJ (K X d 21 [.ref g2, .ref g4] h) fun r5 h1 => gR h1 10 x0 8 fun g6 => gd (hS h1 g6 = (3, 0)) (bI (K X d 27 [.ref g6] h1) fun r7 h2 => if r7 < x2 then sem (X, K X d) 112 6 [some (.ref x0), some (.ref x1), some (.int x2), some (.int x3), some (.int x4), some (.int (x5 + 1)), some (.int r7)] [] h2 else if x3 < r7 then sem (X, K X d) 112 6 [some (.ref x0), some (.ref x1), some (.int x2), some (.int x3), some (.int x4), some (.int (x5 + 1)), some (.int r7)] [] h2 else sem (X, K X d) 112 6 [some (.ref x0), some (.ref x1), some (.int x2), some (.int x3), some (.int (x4 ||| (1 <<< (x5 &&& 31)))), some (.int (x5 + 1)), some (.int r7)] [] h2)) := by
  refine (s_iload 8 mc_112 dX10_takenBy_6 rfl rfl).trans ?_
  refine (s_aload_n 9 mc_112 dX10_takenBy_8 rfl rfl rfl).trans ?_
  refine (s_getfI 12 mc_112 dX10_takenBy_9 rfl mo_112 fs_10_116 ff_10_116 (Or.inl rfl)).trans ?_
  refine gI_c fun g1 => ?_
  refine (s_icmp_ge 66 15 mc_112 dX10_takenBy_12 rfl rfl).trans ?_
  refine ite_c ?_ ?_
  · skip
    refine (s_iload 68 mc_112 dX10_takenBy_66 rfl rfl).trans ?_
    exact s_iret mc_112 dX10_takenBy_68 mt_112
  · skip
    refine (s_aload_n 16 mc_112 dX10_takenBy_15 rfl rfl rfl).trans ?_
    refine (s_getfR 19 mc_112 dX10_takenBy_16 rfl mo_112 fs_10_18 ff_10_18 rfl).trans ?_
    refine gR_c fun g2 => ?_
    refine (s_aload_n 20 mc_112 dX10_takenBy_19 rfl rfl rfl).trans ?_
    refine (s_getfR 23 mc_112 dX10_takenBy_20 rfl mo_112 fs_10_119 ff_10_119 rfl).trans ?_
    refine gR_c fun g3 => ?_
    refine (s_iload 25 mc_112 dX10_takenBy_23 rfl rfl).trans ?_
    refine (s_aaload 26 mc_112 dX10_takenBy_25 rfl).trans ?_
    refine aR_c fun g4 => ?_
    refine (s_iviJ 29 mc_112 dX10_takenBy_26 rfl mo_112 mm_10_212 (by decide) ms_21 mi_21 mr_21 ma_21 mo_21 (by decide) (Nat.le_of_ble_eq_true rfl) rfl rfl (Nat.le_of_ble_eq_true rfl)).trans ?_
    refine gd_c ?_
    refine bJ_c fun r5 h1 => ?_
    refine (s_pop2 30 mc_112 dX10_takenBy_29 rfl).trans ?_
    refine (s_aload_n 31 mc_112 dX10_takenBy_30 rfl rfl rfl).trans ?_
    refine (s_getfR 34 mc_112 dX10_takenBy_31 rfl mo_112 fs_10_18 ff_10_18 rfl).trans ?_
    refine gR_c fun g6 => ?_
    refine (s_iviI 37 mc_112 dX10_takenBy_34 rfl mo_112 mm_10_241 (by decide) ms_27 mi_27 mr_27 ma_27 mo_27 (by decide) (Nat.le_of_ble_eq_true rfl) rfl rfl (Nat.le_of_ble_eq_true rfl)).trans ?_
    refine gd_c ?_
    refine bI_c fun r7 h2 => ?_
    refine (s_istore 39 mc_112 dX10_takenBy_37 rfl (Nat.le_of_ble_eq_true rfl) rfl).trans ?_
    refine (s_iload 41 mc_112 dX10_takenBy_39 rfl rfl).trans ?_
    refine (s_iload_n 42 mc_112 dX10_takenBy_41 rfl rfl rfl).trans ?_
    refine (s_icmp_lt 60 45 mc_112 dX10_takenBy_42 rfl rfl).trans ?_
    refine ite_c ?_ ?_
    · skip
      refine (s_iinc 1 63 mc_112 dX10_takenBy_60 rfl rfl (Nat.le_of_ble_eq_true rfl) (by decide) rfl).trans ?_
      refine (s_goto 6 mc_112 dX10_takenBy_63 rfl).trans ?_
      rfl
    · skip
      refine (s_iload 47 mc_112 dX10_takenBy_45 rfl rfl).trans ?_
      refine (s_iload_n 48 mc_112 dX10_takenBy_47 rfl rfl rfl).trans ?_
      refine (s_icmp_gt 60 51 mc_112 dX10_takenBy_48 rfl rfl).trans ?_
      refine ite_c ?_ ?_
      · skip
        refine (s_iinc 1 63 mc_112 dX10_takenBy_60 rfl rfl (Nat.le_of_ble_eq_true rfl) (by decide) rfl).trans ?_
        refine (s_goto 6 mc_112 dX10_takenBy_63 rfl).trans ?_
        rfl
      · skip
        refine (s_iload 53 mc_112 dX10_takenBy_51 rfl rfl).trans ?_
        refine (s_iconst 54 1 mc_112 dX10_takenBy_53 rfl (by decide)).trans ?_
        refine (s_iload 56 mc_112 dX10_takenBy_54 rfl rfl).trans ?_
        refine (s_ishl 57 mc_112 dX10_takenBy_56 rfl).trans ?_
        refine (s_ior 58 mc_112 dX10_takenBy_57 rfl).trans ?_
        refine (s_istore 60 mc_112 dX10_takenBy_58 rfl (Nat.le_of_ble_eq_true rfl) rfl).trans ?_
        refine (s_iinc 1 63 mc_112 dX10_takenBy_60 rfl rfl (Nat.le_of_ble_eq_true rfl) (by decide) rfl).trans ?_
        refine (s_goto 6 mc_112 dX10_takenBy_63 rfl).trans ?_
        rfl
/-- FiveLands.edge(IIII)J -/
theorem k_113 {X : Ctx} {d : Nat} (x0 : Nat) (x1 : Int32) (x2 : Int32) (x3 : Int32) (x4 : Int32) (h : Hp) : K X (d + 1) 113 [.ref x0, .int x1, .int x2, .int x3, .int x4] h = if x4 < 0 then some (some (.long (-1)), h) else if x4 ≤ 1 then bI (K X d 137 [.int x1] h) fun r1 h1 => if r1 = 0 then sem (X, K X d) 113 52 [some (.ref x0), some (.int x1), some (.int x2), some (.int x3), some (.int x4), none, none, none, none] [.int 0] h1 else bI (K X d 138 [.int x2] h1) fun r2 h2 => if r2 = 0 then sem (X, K X d) 113 52 [some (.ref x0), some (.int x1), some (.int x2), some (.int x3), some (.int x4), none, none, none, none] [.int 0] h2 else bI (K X d 138 [.int x3] h2) fun r3 h3 => if r3 = 0 then sem (X, K X d) 113 52 [some (.ref x0), some (.int x1), some (.int x2), some (.int x3), some (.int x4), none, none, none, none] [.int 0] h3 else if x2 = x3 then sem (X, K X d) 113 52 [some (.ref x0), some (.int x1), some (.int x2), some (.int x3), some (.int x4), none, none, none, none] [.int 0] h3 else gd (hS h3 x0 = (11, 0)) (bI (K X d 114 [.ref x0, .int x1, .int x2, .int x3] h3) fun r4 h4 => sem (X, K X d) 113 52 [some (.ref x0), some (.int x1), some (.int x2), some (.int x3), some (.int x4), none, none, none, none] [.int r4] h4) else some (some (.long (-1)), h) := by
  show sem (X, K X d) 113 0 [some (.ref x0), some (.int x1), some (.int x2), some (.int x3), some (.int x4), none, none, none, none] [] h = _
  refine (s_iload 2 mc_113 dX10_edge_0 rfl rfl).trans ?_
  refine (s_if_lt 11 5 mc_113 dX10_edge_2 rfl rfl).trans ?_
  refine ite_c ?_ ?_
  · skip
    refine (s_ldc2_w 14 (-1) mc_113 dX10_edge_11 rfl mo_113 cl_10_195 (by decide)).trans ?_
    exact s_lret mc_113 dX10_edge_14 mt_113
  · skip
    refine (s_iload 7 mc_113 dX10_edge_5 rfl rfl).trans ?_
    refine (s_iconst 8 1 mc_113 dX10_edge_7 rfl (by decide)).trans ?_
    refine (s_icmp_le 15 11 mc_113 dX10_edge_8 rfl rfl).trans ?_
    refine ite_c ?_ ?_
    · skip
      refine (s_iload_n 16 mc_113 dX10_edge_15 rfl rfl rfl).trans ?_
      refine (s_istI 19 mc_113 dX10_edge_16 rfl mo_113 mm_10_88 (by decide) ms_137 mr_137 ma_137 (Nat.le_of_ble_eq_true rfl) rfl rfl (Nat.le_of_ble_eq_true rfl)).trans ?_
      refine bI_c fun r1 h1 => ?_
      refine (s_if_eq 51 22 mc_113 dX10_edge_19 rfl rfl).trans ?_
      refine ite_c ?_ ?_
      · skip
        refine (s_iconst 52 0 mc_113 dX10_edge_51 rfl (by decide)).trans ?_
        rfl
      · skip
        refine (s_iload_n 23 mc_113 dX10_edge_22 rfl rfl rfl).trans ?_
        refine (s_istI 26 mc_113 dX10_edge_23 rfl mo_113 mm_10_99 (by decide) ms_138 mr_138 ma_138 (Nat.le_of_ble_eq_true rfl) rfl rfl (Nat.le_of_ble_eq_true rfl)).trans ?_
        refine bI_c fun r2 h2 => ?_
        refine (s_if_eq 51 29 mc_113 dX10_edge_26 rfl rfl).trans ?_
        refine ite_c ?_ ?_
        · skip
          refine (s_iconst 52 0 mc_113 dX10_edge_51 rfl (by decide)).trans ?_
          rfl
        · skip
          refine (s_iload_n 30 mc_113 dX10_edge_29 rfl rfl rfl).trans ?_
          refine (s_istI 33 mc_113 dX10_edge_30 rfl mo_113 mm_10_99 (by decide) ms_138 mr_138 ma_138 (Nat.le_of_ble_eq_true rfl) rfl rfl (Nat.le_of_ble_eq_true rfl)).trans ?_
          refine bI_c fun r3 h3 => ?_
          refine (s_if_eq 51 36 mc_113 dX10_edge_33 rfl rfl).trans ?_
          refine ite_c ?_ ?_
          · skip
            refine (s_iconst 52 0 mc_113 dX10_edge_51 rfl (by decide)).trans ?_
            rfl
          · skip
            refine (s_iload_n 37 mc_113 dX10_edge_36 rfl rfl rfl).trans ?_
            refine (s_iload_n 38 mc_113 dX10_edge_37 rfl rfl rfl).trans ?_
            refine (s_icmp_eq 51 41 mc_113 dX10_edge_38 rfl rfl).trans ?_
            refine ite_c ?_ ?_
            · skip
              refine (s_iconst 52 0 mc_113 dX10_edge_51 rfl (by decide)).trans ?_
              rfl
            · skip
              refine (s_aload_n 42 mc_113 dX10_edge_41 rfl rfl rfl).trans ?_
              refine (s_iload_n 43 mc_113 dX10_edge_42 rfl rfl rfl).trans ?_
              refine (s_iload_n 44 mc_113 dX10_edge_43 rfl rfl rfl).trans ?_
              refine (s_iload_n 45 mc_113 dX10_edge_44 rfl rfl rfl).trans ?_
              refine (s_iviI 48 mc_113 dX10_edge_45 rfl mo_113 mm_10_245 (by decide) ms_114 mi_114 mr_114 ma_114 mo_114 (by decide) (Nat.le_of_ble_eq_true rfl) rfl rfl (Nat.le_of_ble_eq_true rfl)).trans ?_
              refine gd_c ?_
              refine bI_c fun r4 h4 => ?_
              refine (s_goto 52 mc_113 dX10_edge_48 rfl).trans ?_
              rfl
    · skip
      refine (s_ldc2_w 14 (-1) mc_113 dX10_edge_11 rfl mo_113 cl_10_195 (by decide)).trans ?_
      exact s_lret mc_113 dX10_edge_14 mt_113
theorem b_113_52 {X : Ctx} {d : Nat} (x0 : Nat) (x1 : Int32) (x2 : Int32) (x3 : Int32) (x4 : Int32) (v5 : Option Value) (v6 : Option Value) (v7 : Option Value) (v8 : Option Value) (s0 : Int32) (h : Hp) : sem (X, K X d) 113 52 [some (.ref x0), some (.int x1), some (.int x2), some (.int x3), some (.int x4), v5, v6, v7, v8] [.int s0] h = if ¬ s0 = 0 then if ¬ x4 = 0 then gR h 10 x0 0 fun g1 => aR h g1 x1 fun g2 => gd (hS h x0 = (11, 0)) (bV (K X d 136 [.ref x0, .int x1] h) fun h1 => gR h1 10 x0 8 fun g3 => gd (hS h1 g3 = (3, 0)) (bJ (K X d 20 [.ref g3, .ref g2] h1) fun r4 h2 => gR h2 10 x0 9 fun g5 => gR h2 9 g2 1 fun g6 => gd (hS h2 g5 = (8, 0)) (bV (K X d 85 [.ref g5, .ref g6] h2) fun h3 => gR h3 10 x0 9 fun g7 => gd (hS h3 g7 = (8, 0)) (bV (K X d 86 [.ref g7, .int x2, .int x3, .int s0] h3) fun h4 => gR h4 10 x0 8 fun g8 => gR h4 10 x0 9 fun g9 => gR h4 10 x0 2 fun g10 => gd (hS h4 g2 = (10, 0)) (bJ (K X d 95 [.ref g2] h4) fun r11 h5 => gd (hS h5 g8 = (3, 0)) (bV (K X d 13 [.ref g8, .ref g9, .ref g10, .long r11] h5) fun h6 => gR h6 10 x0 8 fun g12 => gd (hS h6 g12 = (3, 0)) (bJ (K X d 20 [.ref g12, .ref g2] h6) fun r13 h7 => some (some (.long (r13 - r4)), h7)))))))) else some (some (.long ((if 0 ≤ s0 then s0 else 0 - s0) : Int32).toInt64), h) else if ¬ x4 = 0 then some (some (.long (-1000000000000)), h) else some (some (.long (-1)), h) := by
  refine (s_istore 54 mc_113 dX10_edge_52 rfl (Nat.le_of_ble_eq_true rfl) rfl).trans ?_
  refine (s_iload 56 mc_113 dX10_edge_54 rfl rfl).trans ?_
  refine (s_if_ne 74 59 mc_113 dX10_edge_56 rfl rfl).trans ?_
  refine ite_c ?_ ?_
  · skip
    refine (s_iload 76 mc_113 dX10_edge_74 rfl rfl).trans ?_
    refine (s_if_ne 86 79 mc_113 dX10_edge_76 rfl rfl).trans ?_
    refine ite_c ?_ ?_
    · skip
      refine (s_aload_n 87 mc_113 dX10_edge_86 rfl rfl rfl).trans ?_
      refine (s_getfR 90 mc_113 dX10_edge_87 rfl mo_113 fs_10_11 ff_10_11 rfl).trans ?_
      refine gR_c fun g1 => ?_
      refine (s_iload_n 91 mc_113 dX10_edge_90 rfl rfl rfl).trans ?_
      refine (s_aaload 92 mc_113 dX10_edge_91 rfl).trans ?_
      refine aR_c fun g2 => ?_
      refine (s_astore 94 mc_113 dX10_edge_92 rfl (Nat.le_of_ble_eq_true rfl) rfl).trans ?_
      refine (s_aload_n 95 mc_113 dX10_edge_94 rfl rfl rfl).trans ?_
      refine (s_iload_n 96 mc_113 dX10_edge_95 rfl rfl rfl).trans ?_
      refine (s_iviV 99 mc_113 dX10_edge_96 rfl mo_113 mm_10_166 (by decide) ms_136 mi_136 mr_136 ma_136 mo_136 (by decide) (Nat.le_of_ble_eq_true rfl) rfl rfl (Nat.le_of_ble_eq_true rfl)).trans ?_
      refine gd_c ?_
      refine bV_c fun h1 => ?_
      refine (s_aload_n 100 mc_113 dX10_edge_99 rfl rfl rfl).trans ?_
      refine (s_getfR 103 mc_113 dX10_edge_100 rfl mo_113 fs_10_18 ff_10_18 rfl).trans ?_
      refine gR_c fun g3 => ?_
      refine (s_aload 105 mc_113 dX10_edge_103 rfl rfl).trans ?_
      refine (s_iviJ 108 mc_113 dX10_edge_105 rfl mo_113 mm_10_233 (by decide) ms_20 mi_20 mr_20 ma_20 mo_20 (by decide) (Nat.le_of_ble_eq_true rfl) rfl rfl (Nat.le_of_ble_eq_true rfl)).trans ?_
      refine gd_c ?_
      refine bJ_c fun r4 h2 => ?_
      refine (s_lstore 110 mc_113 dX10_edge_108 rfl (Nat.le_of_ble_eq_true rfl) rfl).trans ?_
      refine (s_aload_n 111 mc_113 dX10_edge_110 rfl rfl rfl).trans ?_
      refine (s_getfR 114 mc_113 dX10_edge_111 rfl mo_113 fs_10_64 ff_10_64 rfl).trans ?_
      refine gR_c fun g5 => ?_
      refine (s_aload 116 mc_113 dX10_edge_114 rfl rfl).trans ?_
      refine (s_getfR 119 mc_113 dX10_edge_116 rfl mo_113 fs_10_102 ff_10_102 rfl).trans ?_
      refine gR_c fun g6 => ?_
      refine (s_iviV 122 mc_113 dX10_edge_119 rfl mo_113 mm_10_256 (by decide) ms_85 mi_85 mr_85 ma_85 mo_85 (by decide) (Nat.le_of_ble_eq_true rfl) rfl rfl (Nat.le_of_ble_eq_true rfl)).trans ?_
      refine gd_c ?_
      refine bV_c fun h3 => ?_
      refine (s_aload_n 123 mc_113 dX10_edge_122 rfl rfl rfl).trans ?_
      refine (s_getfR 126 mc_113 dX10_edge_123 rfl mo_113 fs_10_64 ff_10_64 rfl).trans ?_
      refine gR_c fun g7 => ?_
      refine (s_iload_n 127 mc_113 dX10_edge_126 rfl rfl rfl).trans ?_
      refine (s_iload_n 128 mc_113 dX10_edge_127 rfl rfl rfl).trans ?_
      refine (s_iload 130 mc_113 dX10_edge_128 rfl rfl).trans ?_
      refine (s_iviV 133 mc_113 dX10_edge_130 rfl mo_113 mm_10_260 (by decide) ms_86 mi_86 mr_86 ma_86 mo_86 (by decide) (Nat.le_of_ble_eq_true rfl) rfl rfl (Nat.le_of_ble_eq_true rfl)).trans ?_
      refine gd_c ?_
      refine bV_c fun h4 => ?_
      refine (s_aload_n 134 mc_113 dX10_edge_133 rfl rfl rfl).trans ?_
      refine (s_getfR 137 mc_113 dX10_edge_134 rfl mo_113 fs_10_18 ff_10_18 rfl).trans ?_
      refine gR_c fun g8 => ?_
      refine (s_aload_n 138 mc_113 dX10_edge_137 rfl rfl rfl).trans ?_
      refine (s_getfR 141 mc_113 dX10_edge_138 rfl mo_113 fs_10_64 ff_10_64 rfl).trans ?_
      refine gR_c fun g9 => ?_
      refine (s_aload_n 142 mc_113 dX10_edge_141 rfl rfl rfl).trans ?_
      refine (s_getfR 145 mc_113 dX10_edge_142 rfl mo_113 fs_10_29 ff_10_29 rfl).trans ?_
      refine gR_c fun g10 => ?_
      refine (s_aload 147 mc_113 dX10_edge_145 rfl rfl).trans ?_
      refine (s_iviJ 150 mc_113 dX10_edge_147 rfl mo_113 mm_10_226 (by decide) ms_95 mi_95 mr_95 ma_95 mo_95 (by decide) (Nat.le_of_ble_eq_true rfl) rfl rfl (Nat.le_of_ble_eq_true rfl)).trans ?_
      refine gd_c ?_
      refine bJ_c fun r11 h5 => ?_
      refine (s_iviV 153 mc_113 dX10_edge_150 rfl mo_113 mm_10_263 (by decide) ms_13 mi_13 mr_13 ma_13 mo_13 (by decide) (Nat.le_of_ble_eq_true rfl) rfl rfl (Nat.le_of_ble_eq_true rfl)).trans ?_
      refine gd_c ?_
      refine bV_c fun h6 => ?_
      refine (s_aload_n 154 mc_113 dX10_edge_153 rfl rfl rfl).trans ?_
      refine (s_getfR 157 mc_113 dX10_edge_154 rfl mo_113 fs_10_18 ff_10_18 rfl).trans ?_
      refine gR_c fun g12 => ?_
      refine (s_aload 159 mc_113 dX10_edge_157 rfl rfl).trans ?_
      refine (s_iviJ 162 mc_113 dX10_edge_159 rfl mo_113 mm_10_233 (by decide) ms_20 mi_20 mr_20 ma_20 mo_20 (by decide) (Nat.le_of_ble_eq_true rfl) rfl rfl (Nat.le_of_ble_eq_true rfl)).trans ?_
      refine gd_c ?_
      refine bJ_c fun r13 h7 => ?_
      refine (s_lload 164 mc_113 dX10_edge_162 rfl rfl rfl).trans ?_
      refine (s_lsub 165 mc_113 dX10_edge_164 rfl).trans ?_
      exact s_lret mc_113 dX10_edge_165 mt_113
    · skip
      refine (s_iload 81 mc_113 dX10_edge_79 rfl rfl).trans ?_
      refine (s_mabs 84 mc_113 dX10_edge_81 rfl mo_113 mm_10_251 (Nat.le_of_ble_eq_true rfl)).trans ?_
      refine (s_i2l 85 mc_113 dX10_edge_84 rfl).trans ?_
      exact s_lret mc_113 dX10_edge_85 mt_113
  · skip
    refine (s_iload 61 mc_113 dX10_edge_59 rfl rfl).trans ?_
    refine (s_if_ne 70 64 mc_113 dX10_edge_61 rfl rfl).trans ?_
    refine ite_c ?_ ?_
    · skip
      refine (s_ldc2_w 73 (-1000000000000) mc_113 dX10_edge_70 rfl mo_113 cl_10_249 (by decide)).trans ?_
      exact s_lret mc_113 dX10_edge_73 mt_113
    · skip
      refine (s_ldc2_w 67 (-1) mc_113 dX10_edge_64 rfl mo_113 cl_10_195 (by decide)).trans ?_
      refine (s_goto 73 mc_113 dX10_edge_67 rfl).trans ?_
      exact s_lret mc_113 dX10_edge_73 mt_113
/-- FiveLands.edgeNights(III)I -/
theorem k_114 {X : Ctx} {d : Nat} (x0 : Nat) (x1 : Int32) (x2 : Int32) (x3 : Int32) (h : Hp) : K X (d + 1) 114 [.ref x0, .int x1, .int x2, .int x3] h = gR h 10 x0 0 fun g1 => aR h g1 x1 fun g2 => gR h 9 g2 1 fun g3 => gR h 10 x0 8 fun g4 => gd (hS h g4 = (3, 0)) (bI (K X d 12 [.ref g4, .ref g3, .int x2] h) fun r5 h1 => sem (X, K X d) 114 26 [some (.ref x0), some (.int x1), some (.int x2), some (.int x3), some (.ref g3), some (.int r5), some (.int 1)] [] h1) := by
  show sem (X, K X d) 114 0 [some (.ref x0), some (.int x1), some (.int x2), some (.int x3), none, none, none] [] h = _
  refine (s_aload_n 1 mc_114 dX10_edgeNights_0 rfl rfl rfl).trans ?_
  refine (s_getfR 4 mc_114 dX10_edgeNights_1 rfl mo_114 fs_10_11 ff_10_11 rfl).trans ?_
  refine gR_c fun g1 => ?_
  refine (s_iload_n 5 mc_114 dX10_edgeNights_4 rfl rfl rfl).trans ?_
  refine (s_aaload 6 mc_114 dX10_edgeNights_5 rfl).trans ?_
  refine aR_c fun g2 => ?_
  refine (s_getfR 9 mc_114 dX10_edgeNights_6 rfl mo_114 fs_10_102 ff_10_102 rfl).trans ?_
  refine gR_c fun g3 => ?_
  refine (s_astore 11 mc_114 dX10_edgeNights_9 rfl (Nat.le_of_ble_eq_true rfl) rfl).trans ?_
  refine (s_aload_n 12 mc_114 dX10_edgeNights_11 rfl rfl rfl).trans ?_
  refine (s_getfR 15 mc_114 dX10_edgeNights_12 rfl mo_114 fs_10_18 ff_10_18 rfl).trans ?_
  refine gR_c fun g4 => ?_
  refine (s_aload 17 mc_114 dX10_edgeNights_15 rfl rfl).trans ?_
  refine (s_iload_n 18 mc_114 dX10_edgeNights_17 rfl rfl rfl).trans ?_
  refine (s_iviI 21 mc_114 dX10_edgeNights_18 rfl mo_114 mm_10_266 (by decide) ms_12 mi_12 mr_12 ma_12 mo_12 (by decide) (Nat.le_of_ble_eq_true rfl) rfl rfl (Nat.le_of_ble_eq_true rfl)).trans ?_
  refine gd_c ?_
  refine bI_c fun r5 h1 => ?_
  refine (s_istore 23 mc_114 dX10_edgeNights_21 rfl (Nat.le_of_ble_eq_true rfl) rfl).trans ?_
  refine (s_iconst 24 1 mc_114 dX10_edgeNights_23 rfl (by decide)).trans ?_
  refine (s_istore 26 mc_114 dX10_edgeNights_24 rfl (Nat.le_of_ble_eq_true rfl) rfl).trans ?_
  rfl
theorem b_114_26 {X : Ctx} {d : Nat} (x0 : Nat) (v1 : Option Value) (x2 : Int32) (x3 : Int32) (x4 : Nat) (x5 : Int32) (x6 : Int32)  (h : Hp) : sem (X, K X d) 114 26 [some (.ref x0), v1, some (.int x2), some (.int x3), some (.ref x4), some (.int x5), some (.int x6)] [] h = if 360 < x6 then some (some (.int 0), h) else gR h 7 x4 0 fun g1 => aI X h g1 x2 fun g2 => if g2 < x6 then sem (X, K X d) 114 64 [some (.ref x0), v1, some (.int x2), some (.int x3), some (.ref x4), some (.int x5), some (.int x6)] [] h else gd (hS h x0 = (11, 0)) (bI (K X d 115 [.ref x0, .ref x4, .int x2, .int x3, .int x6] h) fun r3 h1 => if r3 = x5 then sem (X, K X d) 114 64 [some (.ref x0), v1, some (.int x2), some (.int x3), some (.ref x4), some (.int x5), some (.int x6)] [] h1 else some (some (.int x6), h1)) := by
  refine (s_iload 28 mc_114 dX10_edgeNights_26 rfl rfl).trans ?_
  refine (s_sipush 31 360 mc_114 dX10_edgeNights_28 rfl (by decide)).trans ?_
  refine (s_icmp_gt 102 34 mc_114 dX10_edgeNights_31 rfl rfl).trans ?_
  refine ite_c ?_ ?_
  · skip
    refine (s_iconst 103 0 mc_114 dX10_edgeNights_102 rfl (by decide)).trans ?_
    exact s_iret mc_114 dX10_edgeNights_103 mt_114
  · skip
    refine (s_iload 36 mc_114 dX10_edgeNights_34 rfl rfl).trans ?_
    refine (s_aload 38 mc_114 dX10_edgeNights_36 rfl rfl).trans ?_
    refine (s_getfR 41 mc_114 dX10_edgeNights_38 rfl mo_114 fs_10_270 ff_10_270 rfl).trans ?_
    refine gR_c fun g1 => ?_
    refine (s_iload_n 42 mc_114 dX10_edgeNights_41 rfl rfl rfl).trans ?_
    refine (s_iaload 43 mc_114 dX10_edgeNights_42 rfl).trans ?_
    refine aI_c fun g2 => ?_
    refine (s_icmp_gt 64 46 mc_114 dX10_edgeNights_43 rfl rfl).trans ?_
    refine ite_c ?_ ?_
    · skip
      rfl
    · skip
      refine (s_aload_n 47 mc_114 dX10_edgeNights_46 rfl rfl rfl).trans ?_
      refine (s_aload 49 mc_114 dX10_edgeNights_47 rfl rfl).trans ?_
      refine (s_iload_n 50 mc_114 dX10_edgeNights_49 rfl rfl rfl).trans ?_
      refine (s_iload_n 51 mc_114 dX10_edgeNights_50 rfl rfl rfl).trans ?_
      refine (s_iload 53 mc_114 dX10_edgeNights_51 rfl rfl).trans ?_
      refine (s_iviI 56 mc_114 dX10_edgeNights_53 rfl mo_114 mm_10_273 (by decide) ms_115 mi_115 mr_115 ma_115 mo_115 (by decide) (Nat.le_of_ble_eq_true rfl) rfl rfl (Nat.le_of_ble_eq_true rfl)).trans ?_
      refine gd_c ?_
      refine bI_c fun r3 h1 => ?_
      refine (s_iload 58 mc_114 dX10_edgeNights_56 rfl rfl).trans ?_
      refine (s_icmp_eq 64 61 mc_114 dX10_edgeNights_58 rfl rfl).trans ?_
      refine ite_c ?_ ?_
      · skip
        rfl
      · skip
        refine (s_iload 63 mc_114 dX10_edgeNights_61 rfl rfl).trans ?_
        exact s_iret mc_114 dX10_edgeNights_63 mt_114
theorem b_114_64 {X : Ctx} {d : Nat} (x0 : Nat) (v1 : Option Value) (x2 : Int32) (x3 : Int32) (x4 : Nat) (x5 : Int32) (x6 : Int32)  (h : Hp) : sem (X, K X d) 114 64 [some (.ref x0), v1, some (.int x2), some (.int x3), some (.ref x4), some (.int x5), some (.int x6)] [] h = gR h 7 x4 0 fun g1 => aI X h g1 x3 fun g2 => if g2 < x6 then sem (X, K X d) 114 26 [some (.ref x0), v1, some (.int x2), some (.int x3), some (.ref x4), some (.int x5), some (.int (x6 + 1))] [] h else gd (hS h x0 = (11, 0)) (bI (K X d 115 [.ref x0, .ref x4, .int x2, .int x3, .int (-x6)] h) fun r3 h1 => if r3 = x5 then sem (X, K X d) 114 26 [some (.ref x0), v1, some (.int x2), some (.int x3), some (.ref x4), some (.int x5), some (.int (x6 + 1))] [] h1 else some (some (.int (-x6)), h1)) := by
  refine (s_iload 66 mc_114 dX10_edgeNights_64 rfl rfl).trans ?_
  refine (s_aload 68 mc_114 dX10_edgeNights_66 rfl rfl).trans ?_
  refine (s_getfR 71 mc_114 dX10_edgeNights_68 rfl mo_114 fs_10_270 ff_10_270 rfl).trans ?_
  refine gR_c fun g1 => ?_
  refine (s_iload_n 72 mc_114 dX10_edgeNights_71 rfl rfl rfl).trans ?_
  refine (s_iaload 73 mc_114 dX10_edgeNights_72 rfl).trans ?_
  refine aI_c fun g2 => ?_
  refine (s_icmp_gt 96 76 mc_114 dX10_edgeNights_73 rfl rfl).trans ?_
  refine ite_c ?_ ?_
  · skip
    refine (s_iinc 1 99 mc_114 dX10_edgeNights_96 rfl rfl (Nat.le_of_ble_eq_true rfl) (by decide) rfl).trans ?_
    refine (s_goto 26 mc_114 dX10_edgeNights_99 rfl).trans ?_
    rfl
  · skip
    refine (s_aload_n 77 mc_114 dX10_edgeNights_76 rfl rfl rfl).trans ?_
    refine (s_aload 79 mc_114 dX10_edgeNights_77 rfl rfl).trans ?_
    refine (s_iload_n 80 mc_114 dX10_edgeNights_79 rfl rfl rfl).trans ?_
    refine (s_iload_n 81 mc_114 dX10_edgeNights_80 rfl rfl rfl).trans ?_
    refine (s_iload 83 mc_114 dX10_edgeNights_81 rfl rfl).trans ?_
    refine (s_ineg 84 mc_114 dX10_edgeNights_83 rfl).trans ?_
    refine (s_iviI 87 mc_114 dX10_edgeNights_84 rfl mo_114 mm_10_273 (by decide) ms_115 mi_115 mr_115 ma_115 mo_115 (by decide) (Nat.le_of_ble_eq_true rfl) rfl rfl (Nat.le_of_ble_eq_true rfl)).trans ?_
    refine gd_c ?_
    refine bI_c fun r3 h1 => ?_
    refine (s_iload 89 mc_114 dX10_edgeNights_87 rfl rfl).trans ?_
    refine (s_icmp_eq 96 92 mc_114 dX10_edgeNights_89 rfl rfl).trans ?_
    refine ite_c ?_ ?_
    · skip
      refine (s_iinc 1 99 mc_114 dX10_edgeNights_96 rfl rfl (Nat.le_of_ble_eq_true rfl) (by decide) rfl).trans ?_
      refine (s_goto 26 mc_114 dX10_edgeNights_99 rfl).trans ?_
      rfl
    · skip
      refine (s_iload 94 mc_114 dX10_edgeNights_92 rfl rfl).trans ?_
      refine (s_ineg 95 mc_114 dX10_edgeNights_94 rfl).trans ?_
      exact s_iret mc_114 dX10_edgeNights_95 mt_114
/-- FiveLands.saysAfter(LFiveLands$Stay;III)Z -/
theorem k_115 {X : Ctx} {d : Nat} (x0 : Nat) (x1 : Nat) (x2 : Int32) (x3 : Int32) (x4 : Int32) (h : Hp) : K X (d + 1) 115 [.ref x0, .ref x1, .int x2, .int x3, .int x4] h = gR h 10 x0 9 fun g1 => gd (hS h g1 = (8, 0)) (bV (K X d 85 [.ref g1, .ref x1] h) fun h1 => gR h1 10 x0 9 fun g2 => gd (hS h1 g2 = (8, 0)) (bV (K X d 86 [.ref g2, .int x2, .int x3, .int x4] h1) fun h2 => gR h2 10 x0 8 fun g3 => gR h2 10 x0 9 fun g4 => gd (hS h2 g3 = (3, 0)) (bI (K X d 12 [.ref g3, .ref g4, .int x2] h2) fun r5 h3 => gd (okN .boolean r5) (some (some (.int r5), h3))))) := by
  show sem (X, K X d) 115 0 [some (.ref x0), some (.ref x1), some (.int x2), some (.int x3), some (.int x4)] [] h = _
  refine (s_aload_n 1 mc_115 dX10_saysAfter_0 rfl rfl rfl).trans ?_
  refine (s_getfR 4 mc_115 dX10_saysAfter_1 rfl mo_115 fs_10_64 ff_10_64 rfl).trans ?_
  refine gR_c fun g1 => ?_
  refine (s_aload_n 5 mc_115 dX10_saysAfter_4 rfl rfl rfl).trans ?_
  refine (s_iviV 8 mc_115 dX10_saysAfter_5 rfl mo_115 mm_10_256 (by decide) ms_85 mi_85 mr_85 ma_85 mo_85 (by decide) (Nat.le_of_ble_eq_true rfl) rfl rfl (Nat.le_of_ble_eq_true rfl)).trans ?_
  refine gd_c ?_
  refine bV_c fun h1 => ?_
  refine (s_aload_n 9 mc_115 dX10_saysAfter_8 rfl rfl rfl).trans ?_
  refine (s_getfR 12 mc_115 dX10_saysAfter_9 rfl mo_115 fs_10_64 ff_10_64 rfl).trans ?_
  refine gR_c fun g2 => ?_
  refine (s_iload_n 13 mc_115 dX10_saysAfter_12 rfl rfl rfl).trans ?_
  refine (s_iload_n 14 mc_115 dX10_saysAfter_13 rfl rfl rfl).trans ?_
  refine (s_iload 16 mc_115 dX10_saysAfter_14 rfl rfl).trans ?_
  refine (s_iviV 19 mc_115 dX10_saysAfter_16 rfl mo_115 mm_10_260 (by decide) ms_86 mi_86 mr_86 ma_86 mo_86 (by decide) (Nat.le_of_ble_eq_true rfl) rfl rfl (Nat.le_of_ble_eq_true rfl)).trans ?_
  refine gd_c ?_
  refine bV_c fun h2 => ?_
  refine (s_aload_n 20 mc_115 dX10_saysAfter_19 rfl rfl rfl).trans ?_
  refine (s_getfR 23 mc_115 dX10_saysAfter_20 rfl mo_115 fs_10_18 ff_10_18 rfl).trans ?_
  refine gR_c fun g3 => ?_
  refine (s_aload_n 24 mc_115 dX10_saysAfter_23 rfl rfl rfl).trans ?_
  refine (s_getfR 27 mc_115 dX10_saysAfter_24 rfl mo_115 fs_10_64 ff_10_64 rfl).trans ?_
  refine gR_c fun g4 => ?_
  refine (s_iload_n 28 mc_115 dX10_saysAfter_27 rfl rfl rfl).trans ?_
  refine (s_iviI 31 mc_115 dX10_saysAfter_28 rfl mo_115 mm_10_266 (by decide) ms_12 mi_12 mr_12 ma_12 mo_12 (by decide) (Nat.le_of_ble_eq_true rfl) rfl rfl (Nat.le_of_ble_eq_true rfl)).trans ?_
  refine gd_c ?_
  refine bI_c fun r5 h3 => ?_
  exact s_zret mc_115 dX10_saysAfter_31 mt_115
/-- FiveLands.hangs(II)I -/
theorem k_116 {X : Ctx} {d : Nat} (x0 : Nat) (x1 : Int32) (x2 : Int32) (h : Hp) : K X (d + 1) 116 [.ref x0, .int x1, .int x2] h = bI (K X d 137 [.int x1] h) fun r1 h1 => if r1 = 0 then some (some (.int (-1)), h1) else bI (K X d 138 [.int x2] h1) fun r2 h2 => if ¬ r2 = 0 then gR h2 10 x0 0 fun g3 => aR h2 g3 x1 fun g4 => gR h2 9 g4 1 fun g5 => sem (X, K X d) 116 35 [some (.ref x0), some (.int x1), some (.int x2), some (.ref g5), some (.int 1), some (.int 1), some (.int 0), none, none] [] h2 else some (some (.int (-1)), h2) := by
  show sem (X, K X d) 116 0 [some (.ref x0), some (.int x1), some (.int x2), none, none, none, none, none, none] [] h = _
  refine (s_iload_n 1 mc_116 dX10_hangs_0 rfl rfl rfl).trans ?_
  refine (s_istI 4 mc_116 dX10_hangs_1 rfl mo_116 mm_10_88 (by decide) ms_137 mr_137 ma_137 (Nat.le_of_ble_eq_true rfl) rfl rfl (Nat.le_of_ble_eq_true rfl)).trans ?_
  refine bI_c fun r1 h1 => ?_
  refine (s_if_eq 14 7 mc_116 dX10_hangs_4 rfl rfl).trans ?_
  refine ite_c ?_ ?_
  · skip
    refine (s_iconst 15 (-1) mc_116 dX10_hangs_14 rfl (by decide)).trans ?_
    exact s_iret mc_116 dX10_hangs_15 mt_116
  · skip
    refine (s_iload_n 8 mc_116 dX10_hangs_7 rfl rfl rfl).trans ?_
    refine (s_istI 11 mc_116 dX10_hangs_8 rfl mo_116 mm_10_99 (by decide) ms_138 mr_138 ma_138 (Nat.le_of_ble_eq_true rfl) rfl rfl (Nat.le_of_ble_eq_true rfl)).trans ?_
    refine bI_c fun r2 h2 => ?_
    refine (s_if_ne 16 14 mc_116 dX10_hangs_11 rfl rfl).trans ?_
    refine ite_c ?_ ?_
    · skip
      refine (s_aload_n 17 mc_116 dX10_hangs_16 rfl rfl rfl).trans ?_
      refine (s_getfR 20 mc_116 dX10_hangs_17 rfl mo_116 fs_10_11 ff_10_11 rfl).trans ?_
      refine gR_c fun g3 => ?_
      refine (s_iload_n 21 mc_116 dX10_hangs_20 rfl rfl rfl).trans ?_
      refine (s_aaload 22 mc_116 dX10_hangs_21 rfl).trans ?_
      refine aR_c fun g4 => ?_
      refine (s_getfR 25 mc_116 dX10_hangs_22 rfl mo_116 fs_10_102 ff_10_102 rfl).trans ?_
      refine gR_c fun g5 => ?_
      refine (s_astore_n 26 mc_116 dX10_hangs_25 rfl rfl (Nat.le_of_ble_eq_true rfl) rfl).trans ?_
      refine (s_iconst 27 1 mc_116 dX10_hangs_26 rfl (by decide)).trans ?_
      refine (s_istore 29 mc_116 dX10_hangs_27 rfl (Nat.le_of_ble_eq_true rfl) rfl).trans ?_
      refine (s_iconst 30 1 mc_116 dX10_hangs_29 rfl (by decide)).trans ?_
      refine (s_istore 32 mc_116 dX10_hangs_30 rfl (Nat.le_of_ble_eq_true rfl) rfl).trans ?_
      refine (s_iconst 33 0 mc_116 dX10_hangs_32 rfl (by decide)).trans ?_
      refine (s_istore 35 mc_116 dX10_hangs_33 rfl (Nat.le_of_ble_eq_true rfl) rfl).trans ?_
      rfl
    · skip
      refine (s_iconst 15 (-1) mc_116 dX10_hangs_14 rfl (by decide)).trans ?_
      exact s_iret mc_116 dX10_hangs_15 mt_116
theorem b_116_35 {X : Ctx} {d : Nat} (v0 : Option Value) (v1 : Option Value) (v2 : Option Value) (x3 : Nat) (x4 : Int32) (x5 : Int32) (x6 : Int32) (v7 : Option Value) (v8 : Option Value)  (h : Hp) : sem (X, K X d) 116 35 [v0, v1, v2, some (.ref x3), some (.int x4), some (.int x5), some (.int x6), v7, v8] [] h = gI h 7 x3 1 fun g1 => if g1 < x6 then if x4 = 0 then if x5 = 0 then some (some (.int 2), h) else some (some (.int 1), h) else some (some (.int 0), h) else if ¬ x4 = 0 then sem (X, K X d) 116 57 [v0, v1, v2, some (.ref x3), some (.int x4), some (.int x5), some (.int x6), some (.int 0), v8] [] h else if x5 = 0 then if x4 = 0 then if x5 = 0 then some (some (.int 2), h) else some (some (.int 1), h) else some (some (.int 0), h) else sem (X, K X d) 116 57 [v0, v1, v2, some (.ref x3), some (.int x4), some (.int x5), some (.int x6), some (.int 0), v8] [] h := by
  refine (s_iload 37 mc_116 dX10_hangs_35 rfl rfl).trans ?_
  refine (s_aload_n 38 mc_116 dX10_hangs_37 rfl rfl rfl).trans ?_
  refine (s_getfI 41 mc_116 dX10_hangs_38 rfl mo_116 fs_10_230 ff_10_230 (Or.inl rfl)).trans ?_
  refine gI_c fun g1 => ?_
  refine (s_icmp_gt 128 44 mc_116 dX10_hangs_41 rfl rfl).trans ?_
  refine ite_c ?_ ?_
  · skip
    refine (s_iload 130 mc_116 dX10_hangs_128 rfl rfl).trans ?_
    refine (s_if_eq 135 133 mc_116 dX10_hangs_130 rfl rfl).trans ?_
    refine ite_c ?_ ?_
    · skip
      refine (s_iload 137 mc_116 dX10_hangs_135 rfl rfl).trans ?_
      refine (s_if_eq 144 140 mc_116 dX10_hangs_137 rfl rfl).trans ?_
      refine ite_c ?_ ?_
      · skip
        refine (s_iconst 145 2 mc_116 dX10_hangs_144 rfl (by decide)).trans ?_
        exact s_iret mc_116 dX10_hangs_145 mt_116
      · skip
        refine (s_iconst 141 1 mc_116 dX10_hangs_140 rfl (by decide)).trans ?_
        refine (s_goto 145 mc_116 dX10_hangs_141 rfl).trans ?_
        exact s_iret mc_116 dX10_hangs_145 mt_116
    · skip
      refine (s_iconst 134 0 mc_116 dX10_hangs_133 rfl (by decide)).trans ?_
      exact s_iret mc_116 dX10_hangs_134 mt_116
  · skip
    refine (s_iload 46 mc_116 dX10_hangs_44 rfl rfl).trans ?_
    refine (s_if_ne 54 49 mc_116 dX10_hangs_46 rfl rfl).trans ?_
    refine ite_c ?_ ?_
    · skip
      refine (s_iconst 55 0 mc_116 dX10_hangs_54 rfl (by decide)).trans ?_
      refine (s_istore 57 mc_116 dX10_hangs_55 rfl (Nat.le_of_ble_eq_true rfl) rfl).trans ?_
      rfl
    · skip
      refine (s_iload 51 mc_116 dX10_hangs_49 rfl rfl).trans ?_
      refine (s_if_eq 128 54 mc_116 dX10_hangs_51 rfl rfl).trans ?_
      refine ite_c ?_ ?_
      · skip
        refine (s_iload 130 mc_116 dX10_hangs_128 rfl rfl).trans ?_
        refine (s_if_eq 135 133 mc_116 dX10_hangs_130 rfl rfl).trans ?_
        refine ite_c ?_ ?_
        · skip
          refine (s_iload 137 mc_116 dX10_hangs_135 rfl rfl).trans ?_
          refine (s_if_eq 144 140 mc_116 dX10_hangs_137 rfl rfl).trans ?_
          refine ite_c ?_ ?_
          · skip
            refine (s_iconst 145 2 mc_116 dX10_hangs_144 rfl (by decide)).trans ?_
            exact s_iret mc_116 dX10_hangs_145 mt_116
          · skip
            refine (s_iconst 141 1 mc_116 dX10_hangs_140 rfl (by decide)).trans ?_
            refine (s_goto 145 mc_116 dX10_hangs_141 rfl).trans ?_
            exact s_iret mc_116 dX10_hangs_145 mt_116
        · skip
          refine (s_iconst 134 0 mc_116 dX10_hangs_133 rfl (by decide)).trans ?_
          exact s_iret mc_116 dX10_hangs_134 mt_116
      · skip
        refine (s_iconst 55 0 mc_116 dX10_hangs_54 rfl (by decide)).trans ?_
        refine (s_istore 57 mc_116 dX10_hangs_55 rfl (Nat.le_of_ble_eq_true rfl) rfl).trans ?_
        rfl
theorem b_116_57 {X : Ctx} {d : Nat} (x0 : Nat) (v1 : Option Value) (x2 : Int32) (x3 : Nat) (x4 : Int32) (v5 : Option Value) (x6 : Int32) (x7 : Int32) (v8 : Option Value)  (h : Hp) : sem (X, K X d) 116 57 [some (.ref x0), v1, some (.int x2), some (.ref x3), some (.int x4), v5, some (.int x6), some (.int x7), v8] [] h = if 6 ≤ x7 then sem (X, K X d) 116 35 [some (.ref x0), v1, some (.int x2), some (.ref x3), some (.int x4), v5, some (.int (x6 + 1)), some (.int x7), v8] [] h else if x7 = x2 then sem (X, K X d) 116 57 [some (.ref x0), v1, some (.int x2), some (.ref x3), some (.int x4), v5, some (.int x6), some (.int (x7 + 1)), v8] [] h else gd (hS h x0 = (11, 0)) (bI (K X d 117 [.ref x0, .ref x3, .int x2, .int x7, .int x6] h) fun r1 h1 => if x4 = 0 then sem (X, K X d) 116 97 [some (.ref x0), v1, some (.int x2), some (.ref x3), some (.int x4), v5, some (.int x6), some (.int x7), some (.int r1)] [.int 0] h1 else if ¬ r1 = 0 then sem (X, K X d) 116 97 [some (.ref x0), v1, some (.int x2), some (.ref x3), some (.int x4), v5, some (.int x6), some (.int x7), some (.int r1)] [.int 0] h1 else sem (X, K X d) 116 97 [some (.ref x0), v1, some (.int x2), some (.ref x3), some (.int x4), v5, some (.int x6), some (.int x7), some (.int r1)] [.int 1] h1) := by
  refine (s_iload 59 mc_116 dX10_hangs_57 rfl rfl).trans ?_
  refine (s_bipush 61 6 mc_116 dX10_hangs_59 rfl (by decide)).trans ?_
  refine (s_icmp_ge 122 64 mc_116 dX10_hangs_61 rfl rfl).trans ?_
  refine ite_c ?_ ?_
  · skip
    refine (s_iinc 1 125 mc_116 dX10_hangs_122 rfl rfl (Nat.le_of_ble_eq_true rfl) (by decide) rfl).trans ?_
    refine (s_goto 35 mc_116 dX10_hangs_125 rfl).trans ?_
    rfl
  · skip
    refine (s_iload 66 mc_116 dX10_hangs_64 rfl rfl).trans ?_
    refine (s_iload_n 67 mc_116 dX10_hangs_66 rfl rfl rfl).trans ?_
    refine (s_icmp_eq 116 70 mc_116 dX10_hangs_67 rfl rfl).trans ?_
    refine ite_c ?_ ?_
    · skip
      refine (s_iinc 1 119 mc_116 dX10_hangs_116 rfl rfl (Nat.le_of_ble_eq_true rfl) (by decide) rfl).trans ?_
      refine (s_goto 57 mc_116 dX10_hangs_119 rfl).trans ?_
      rfl
    · skip
      refine (s_aload_n 71 mc_116 dX10_hangs_70 rfl rfl rfl).trans ?_
      refine (s_aload_n 72 mc_116 dX10_hangs_71 rfl rfl rfl).trans ?_
      refine (s_iload_n 73 mc_116 dX10_hangs_72 rfl rfl rfl).trans ?_
      refine (s_iload 75 mc_116 dX10_hangs_73 rfl rfl).trans ?_
      refine (s_iload 77 mc_116 dX10_hangs_75 rfl rfl).trans ?_
      refine (s_iviI 80 mc_116 dX10_hangs_77 rfl mo_116 mm_10_277 (by decide) ms_117 mi_117 mr_117 ma_117 mo_117 (by decide) (Nat.le_of_ble_eq_true rfl) rfl rfl (Nat.le_of_ble_eq_true rfl)).trans ?_
      refine gd_c ?_
      refine bI_c fun r1 h1 => ?_
      refine (s_istore 82 mc_116 dX10_hangs_80 rfl (Nat.le_of_ble_eq_true rfl) rfl).trans ?_
      refine (s_iload 84 mc_116 dX10_hangs_82 rfl rfl).trans ?_
      refine (s_if_eq 96 87 mc_116 dX10_hangs_84 rfl rfl).trans ?_
      refine ite_c ?_ ?_
      · skip
        refine (s_iconst 97 0 mc_116 dX10_hangs_96 rfl (by decide)).trans ?_
        rfl
      · skip
        refine (s_iload 89 mc_116 dX10_hangs_87 rfl rfl).trans ?_
        refine (s_if_ne 96 92 mc_116 dX10_hangs_89 rfl rfl).trans ?_
        refine ite_c ?_ ?_
        · skip
          refine (s_iconst 97 0 mc_116 dX10_hangs_96 rfl (by decide)).trans ?_
          rfl
        · skip
          refine (s_iconst 93 1 mc_116 dX10_hangs_92 rfl (by decide)).trans ?_
          refine (s_goto 97 mc_116 dX10_hangs_93 rfl).trans ?_
          rfl
theorem b_116_97 {X : Ctx} {d : Nat} (v0 : Option Value) (v1 : Option Value) (v2 : Option Value) (v3 : Option Value) (v4 : Option Value) (x5 : Int32) (v6 : Option Value) (x7 : Int32) (x8 : Int32) (s0 : Int32) (h : Hp) : sem (X, K X d) 116 97 [v0, v1, v2, v3, v4, some (.int x5), v6, some (.int x7), some (.int x8)] [.int s0] h = if x5 = 0 then sem (X, K X d) 116 57 [v0, v1, v2, v3, some (.int s0), some (.int 0), v6, some (.int (x7 + 1)), some (.int x8)] [] h else if x8 = 0 then sem (X, K X d) 116 57 [v0, v1, v2, v3, some (.int s0), some (.int 0), v6, some (.int (x7 + 1)), some (.int x8)] [] h else sem (X, K X d) 116 57 [v0, v1, v2, v3, some (.int s0), some (.int 1), v6, some (.int (x7 + 1)), some (.int x8)] [] h := by
  refine (s_istore 99 mc_116 dX10_hangs_97 rfl (Nat.le_of_ble_eq_true rfl) rfl).trans ?_
  refine (s_iload 101 mc_116 dX10_hangs_99 rfl rfl).trans ?_
  refine (s_if_eq 113 104 mc_116 dX10_hangs_101 rfl rfl).trans ?_
  refine ite_c ?_ ?_
  · skip
    refine (s_iconst 114 0 mc_116 dX10_hangs_113 rfl (by decide)).trans ?_
    refine (s_istore 116 mc_116 dX10_hangs_114 rfl (Nat.le_of_ble_eq_true rfl) rfl).trans ?_
    refine (s_iinc 1 119 mc_116 dX10_hangs_116 rfl rfl (Nat.le_of_ble_eq_true rfl) (by decide) rfl).trans ?_
    refine (s_goto 57 mc_116 dX10_hangs_119 rfl).trans ?_
    rfl
  · skip
    refine (s_iload 106 mc_116 dX10_hangs_104 rfl rfl).trans ?_
    refine (s_if_eq 113 109 mc_116 dX10_hangs_106 rfl rfl).trans ?_
    refine ite_c ?_ ?_
    · skip
      refine (s_iconst 114 0 mc_116 dX10_hangs_113 rfl (by decide)).trans ?_
      refine (s_istore 116 mc_116 dX10_hangs_114 rfl (Nat.le_of_ble_eq_true rfl) rfl).trans ?_
      refine (s_iinc 1 119 mc_116 dX10_hangs_116 rfl rfl (Nat.le_of_ble_eq_true rfl) (by decide) rfl).trans ?_
      refine (s_goto 57 mc_116 dX10_hangs_119 rfl).trans ?_
      rfl
    · skip
      refine (s_iconst 110 1 mc_116 dX10_hangs_109 rfl (by decide)).trans ?_
      refine (s_goto 114 mc_116 dX10_hangs_110 rfl).trans ?_
      refine (s_istore 116 mc_116 dX10_hangs_114 rfl (Nat.le_of_ble_eq_true rfl) rfl).trans ?_
      refine (s_iinc 1 119 mc_116 dX10_hangs_116 rfl rfl (Nat.le_of_ble_eq_true rfl) (by decide) rfl).trans ?_
      refine (s_goto 57 mc_116 dX10_hangs_119 rfl).trans ?_
      rfl
/-- FiveLands.saysIfTold(LFiveLands$Stay;III)Z -/
theorem k_117 {X : Ctx} {d : Nat} (x0 : Nat) (x1 : Nat) (x2 : Int32) (x3 : Int32) (x4 : Int32) (h : Hp) : K X (d + 1) 117 [.ref x0, .ref x1, .int x2, .int x3, .int x4] h = gR h 10 x0 9 fun g1 => gd (hS h g1 = (8, 0)) (bV (K X d 85 [.ref g1, .ref x1] h) fun h1 => gR h1 10 x0 9 fun g2 => gR h1 7 g2 0 fun g3 => aI X h1 g3 x2 fun g4 => wI h1 g3 x2 (g4 + x4) fun h2 => gR h2 10 x0 9 fun g5 => gR h2 7 g5 0 fun g6 => aI X h2 g6 x3 fun g7 => gI h2 7 x1 1 fun g8 => wI h2 g6 x3 (g7 + (g8 - x4)) fun h3 => gR h3 10 x0 8 fun g9 => gR h3 10 x0 9 fun g10 => gd (hS h3 g9 = (3, 0)) (bI (K X d 12 [.ref g9, .ref g10, .int x2] h3) fun r11 h4 => gd (okN .boolean r11) (some (some (.int r11), h4)))) := by
  show sem (X, K X d) 117 0 [some (.ref x0), some (.ref x1), some (.int x2), some (.int x3), some (.int x4)] [] h = _
  refine (s_aload_n 1 mc_117 dX10_saysIfTold_0 rfl rfl rfl).trans ?_
  refine (s_getfR 4 mc_117 dX10_saysIfTold_1 rfl mo_117 fs_10_64 ff_10_64 rfl).trans ?_
  refine gR_c fun g1 => ?_
  refine (s_aload_n 5 mc_117 dX10_saysIfTold_4 rfl rfl rfl).trans ?_
  refine (s_iviV 8 mc_117 dX10_saysIfTold_5 rfl mo_117 mm_10_256 (by decide) ms_85 mi_85 mr_85 ma_85 mo_85 (by decide) (Nat.le_of_ble_eq_true rfl) rfl rfl (Nat.le_of_ble_eq_true rfl)).trans ?_
  refine gd_c ?_
  refine bV_c fun h1 => ?_
  refine (s_aload_n 9 mc_117 dX10_saysIfTold_8 rfl rfl rfl).trans ?_
  refine (s_getfR 12 mc_117 dX10_saysIfTold_9 rfl mo_117 fs_10_64 ff_10_64 rfl).trans ?_
  refine gR_c fun g2 => ?_
  refine (s_getfR 15 mc_117 dX10_saysIfTold_12 rfl mo_117 fs_10_270 ff_10_270 rfl).trans ?_
  refine gR_c fun g3 => ?_
  refine (s_iload_n 16 mc_117 dX10_saysIfTold_15 rfl rfl rfl).trans ?_
  refine (s_dup2 17 mc_117 dX10_saysIfTold_16 rfl rfl rfl).trans ?_
  refine (s_iaload 18 mc_117 dX10_saysIfTold_17 rfl).trans ?_
  refine aI_c fun g4 => ?_
  refine (s_iload 20 mc_117 dX10_saysIfTold_18 rfl rfl).trans ?_
  refine (s_iadd 21 mc_117 dX10_saysIfTold_20 rfl).trans ?_
  refine (s_iastore 22 mc_117 dX10_saysIfTold_21 rfl).trans ?_
  refine wI_c fun h2 => ?_
  refine (s_aload_n 23 mc_117 dX10_saysIfTold_22 rfl rfl rfl).trans ?_
  refine (s_getfR 26 mc_117 dX10_saysIfTold_23 rfl mo_117 fs_10_64 ff_10_64 rfl).trans ?_
  refine gR_c fun g5 => ?_
  refine (s_getfR 29 mc_117 dX10_saysIfTold_26 rfl mo_117 fs_10_270 ff_10_270 rfl).trans ?_
  refine gR_c fun g6 => ?_
  refine (s_iload_n 30 mc_117 dX10_saysIfTold_29 rfl rfl rfl).trans ?_
  refine (s_dup2 31 mc_117 dX10_saysIfTold_30 rfl rfl rfl).trans ?_
  refine (s_iaload 32 mc_117 dX10_saysIfTold_31 rfl).trans ?_
  refine aI_c fun g7 => ?_
  refine (s_aload_n 33 mc_117 dX10_saysIfTold_32 rfl rfl rfl).trans ?_
  refine (s_getfI 36 mc_117 dX10_saysIfTold_33 rfl mo_117 fs_10_230 ff_10_230 (Or.inl rfl)).trans ?_
  refine gI_c fun g8 => ?_
  refine (s_iload 38 mc_117 dX10_saysIfTold_36 rfl rfl).trans ?_
  refine (s_isub 39 mc_117 dX10_saysIfTold_38 rfl).trans ?_
  refine (s_iadd 40 mc_117 dX10_saysIfTold_39 rfl).trans ?_
  refine (s_iastore 41 mc_117 dX10_saysIfTold_40 rfl).trans ?_
  refine wI_c fun h3 => ?_
  refine (s_aload_n 42 mc_117 dX10_saysIfTold_41 rfl rfl rfl).trans ?_
  refine (s_getfR 45 mc_117 dX10_saysIfTold_42 rfl mo_117 fs_10_18 ff_10_18 rfl).trans ?_
  refine gR_c fun g9 => ?_
  refine (s_aload_n 46 mc_117 dX10_saysIfTold_45 rfl rfl rfl).trans ?_
  refine (s_getfR 49 mc_117 dX10_saysIfTold_46 rfl mo_117 fs_10_64 ff_10_64 rfl).trans ?_
  refine gR_c fun g10 => ?_
  refine (s_iload_n 50 mc_117 dX10_saysIfTold_49 rfl rfl rfl).trans ?_
  refine (s_iviI 53 mc_117 dX10_saysIfTold_50 rfl mo_117 mm_10_266 (by decide) ms_12 mi_12 mr_12 ma_12 mo_12 (by decide) (Nat.le_of_ble_eq_true rfl) rfl rfl (Nat.le_of_ble_eq_true rfl)).trans ?_
  refine gd_c ?_
  refine bI_c fun r11 h4 => ?_
  exact s_zret mc_117 dX10_saysIfTold_53 mt_117
/-- FiveLands.move(II)I -/
theorem k_118 {X : Ctx} {d : Nat} (x0 : Nat) (x1 : Int32) (x2 : Int32) (h : Hp) : K X (d + 1) 118 [.ref x0, .int x1, .int x2] h = if x1 < 0 then some (some (.int (-1)), h) else if 360 ≤ x1 then some (some (.int (-1)), h) else bI (K X d 138 [.int x2] h) fun r1 h1 => if r1 = 0 then some (some (.int (-1)), h1) else gR h1 10 x0 4 fun g2 => gI h1 4 g2 8 fun g3 => if g3 < 20 then gR h1 10 x0 4 fun g4 => gR h1 4 g4 0 fun g5 => gR h1 10 x0 4 fun g6 => gI h1 4 g6 8 fun g7 => wI h1 g5 g7 x1 fun h2 => gR h2 10 x0 4 fun g8 => gR h2 4 g8 1 fun g9 => gR h2 10 x0 4 fun g10 => gI h2 4 g10 8 fun g11 => wI h2 g9 g11 x2 fun h3 => gR h3 10 x0 4 fun g12 => gI h3 4 g12 8 fun g13 => fI h3 4 g12 8 (g13 + 1) fun h4 => gR h4 10 x0 4 fun g14 => gI h4 4 g14 8 fun g15 => some (some (.int (g15 - 1)), h4) else some (some (.int (-1)), h1) := by
  show sem (X, K X d) 118 0 [some (.ref x0), some (.int x1), some (.int x2)] [] h = _
  refine (s_iload_n 1 mc_118 dX10_move_0 rfl rfl rfl).trans ?_
  refine (s_if_lt 30 4 mc_118 dX10_move_1 rfl rfl).trans ?_
  refine ite_c ?_ ?_
  · skip
    refine (s_iconst 31 (-1) mc_118 dX10_move_30 rfl (by decide)).trans ?_
    exact s_iret mc_118 dX10_move_31 mt_118
  · skip
    refine (s_iload_n 5 mc_118 dX10_move_4 rfl rfl rfl).trans ?_
    refine (s_sipush 8 360 mc_118 dX10_move_5 rfl (by decide)).trans ?_
    refine (s_icmp_ge 30 11 mc_118 dX10_move_8 rfl rfl).trans ?_
    refine ite_c ?_ ?_
    · skip
      refine (s_iconst 31 (-1) mc_118 dX10_move_30 rfl (by decide)).trans ?_
      exact s_iret mc_118 dX10_move_31 mt_118
    · skip
      refine (s_iload_n 12 mc_118 dX10_move_11 rfl rfl rfl).trans ?_
      refine (s_istI 15 mc_118 dX10_move_12 rfl mo_118 mm_10_99 (by decide) ms_138 mr_138 ma_138 (Nat.le_of_ble_eq_true rfl) rfl rfl (Nat.le_of_ble_eq_true rfl)).trans ?_
      refine bI_c fun r1 h1 => ?_
      refine (s_if_eq 30 18 mc_118 dX10_move_15 rfl rfl).trans ?_
      refine ite_c ?_ ?_
      · skip
        refine (s_iconst 31 (-1) mc_118 dX10_move_30 rfl (by decide)).trans ?_
        exact s_iret mc_118 dX10_move_31 mt_118
      · skip
        refine (s_aload_n 19 mc_118 dX10_move_18 rfl rfl rfl).trans ?_
        refine (s_getfR 22 mc_118 dX10_move_19 rfl mo_118 fs_10_39 ff_10_39 rfl).trans ?_
        refine gR_c fun g2 => ?_
        refine (s_getfI 25 mc_118 dX10_move_22 rfl mo_118 fs_10_280 ff_10_280 (Or.inl rfl)).trans ?_
        refine gI_c fun g3 => ?_
        refine (s_bipush 27 20 mc_118 dX10_move_25 rfl (by decide)).trans ?_
        refine (s_icmp_lt 32 30 mc_118 dX10_move_27 rfl rfl).trans ?_
        refine ite_c ?_ ?_
        · skip
          refine (s_aload_n 33 mc_118 dX10_move_32 rfl rfl rfl).trans ?_
          refine (s_getfR 36 mc_118 dX10_move_33 rfl mo_118 fs_10_39 ff_10_39 rfl).trans ?_
          refine gR_c fun g4 => ?_
          refine (s_getfR 39 mc_118 dX10_move_36 rfl mo_118 fs_10_283 ff_10_283 rfl).trans ?_
          refine gR_c fun g5 => ?_
          refine (s_aload_n 40 mc_118 dX10_move_39 rfl rfl rfl).trans ?_
          refine (s_getfR 43 mc_118 dX10_move_40 rfl mo_118 fs_10_39 ff_10_39 rfl).trans ?_
          refine gR_c fun g6 => ?_
          refine (s_getfI 46 mc_118 dX10_move_43 rfl mo_118 fs_10_280 ff_10_280 (Or.inl rfl)).trans ?_
          refine gI_c fun g7 => ?_
          refine (s_iload_n 47 mc_118 dX10_move_46 rfl rfl rfl).trans ?_
          refine (s_iastore 48 mc_118 dX10_move_47 rfl).trans ?_
          refine wI_c fun h2 => ?_
          refine (s_aload_n 49 mc_118 dX10_move_48 rfl rfl rfl).trans ?_
          refine (s_getfR 52 mc_118 dX10_move_49 rfl mo_118 fs_10_39 ff_10_39 rfl).trans ?_
          refine gR_c fun g8 => ?_
          refine (s_getfR 55 mc_118 dX10_move_52 rfl mo_118 fs_10_286 ff_10_286 rfl).trans ?_
          refine gR_c fun g9 => ?_
          refine (s_aload_n 56 mc_118 dX10_move_55 rfl rfl rfl).trans ?_
          refine (s_getfR 59 mc_118 dX10_move_56 rfl mo_118 fs_10_39 ff_10_39 rfl).trans ?_
          refine gR_c fun g10 => ?_
          refine (s_getfI 62 mc_118 dX10_move_59 rfl mo_118 fs_10_280 ff_10_280 (Or.inl rfl)).trans ?_
          refine gI_c fun g11 => ?_
          refine (s_iload_n 63 mc_118 dX10_move_62 rfl rfl rfl).trans ?_
          refine (s_iastore 64 mc_118 dX10_move_63 rfl).trans ?_
          refine wI_c fun h3 => ?_
          refine (s_aload_n 65 mc_118 dX10_move_64 rfl rfl rfl).trans ?_
          refine (s_getfR 68 mc_118 dX10_move_65 rfl mo_118 fs_10_39 ff_10_39 rfl).trans ?_
          refine gR_c fun g12 => ?_
          refine (s_dup 69 mc_118 dX10_move_68 rfl rfl).trans ?_
          refine (s_getfI 72 mc_118 dX10_move_69 rfl mo_118 fs_10_280 ff_10_280 (Or.inl rfl)).trans ?_
          refine gI_c fun g13 => ?_
          refine (s_iconst 73 1 mc_118 dX10_move_72 rfl (by decide)).trans ?_
          refine (s_iadd 74 mc_118 dX10_move_73 rfl).trans ?_
          refine (s_putfI 77 mc_118 dX10_move_74 rfl mo_118 ff_10_280 rfl (Or.inl rfl)).trans ?_
          refine fI_c fun h4 => ?_
          refine (s_aload_n 78 mc_118 dX10_move_77 rfl rfl rfl).trans ?_
          refine (s_getfR 81 mc_118 dX10_move_78 rfl mo_118 fs_10_39 ff_10_39 rfl).trans ?_
          refine gR_c fun g14 => ?_
          refine (s_getfI 84 mc_118 dX10_move_81 rfl mo_118 fs_10_280 ff_10_280 (Or.inl rfl)).trans ?_
          refine gI_c fun g15 => ?_
          refine (s_iconst 85 1 mc_118 dX10_move_84 rfl (by decide)).trans ?_
          refine (s_isub 86 mc_118 dX10_move_85 rfl).trans ?_
          exact s_iret mc_118 dX10_move_86 mt_118
        · skip
          refine (s_iconst 31 (-1) mc_118 dX10_move_30 rfl (by decide)).trans ?_
          exact s_iret mc_118 dX10_move_31 mt_118
/-- FiveLands.best(II)J -/
theorem k_119 {X : Ctx} {d : Nat} (x0 : Nat) (x1 : Int32) (x2 : Int32) (h : Hp) : K X (d + 1) 119 [.ref x0, .int x1, .int x2] h = bI (K X d 137 [.int x1] h) fun r1 h1 => if ¬ r1 = 0 then if x2 < 10 then if x2 = 0 then sem (X, K X d) 119 59 [some (.ref x0), some (.int x1), some (.int x2), none, none, none, none, none, none] [] h1 else if x2 = 1 then sem (X, K X d) 119 59 [some (.ref x0), some (.int x1), some (.int x2), none, none, none, none, none, none] [] h1 else some (some (.long (-1)), h1) else gR h1 10 x0 4 fun g2 => gI h1 4 g2 8 fun g3 => if g3 ≤ (x2 - 10) then if x2 = 0 then sem (X, K X d) 119 59 [some (.ref x0), some (.int x1), some (.int x2), none, none, none, none, none, none] [] h1 else if x2 = 1 then sem (X, K X d) 119 59 [some (.ref x0), some (.int x1), some (.int x2), none, none, none, none, none, none] [] h1 else some (some (.long (-1)), h1) else gR h1 10 x0 0 fun g4 => aR h1 g4 x1 fun g5 => gd (hS h1 x0 = (11, 0)) (bJ (K X d 120 [.ref x0, .ref g5, .int (x2 - 10)] h1) fun r6 h2 => some (some (.long r6), h2)) else some (some (.long (-1)), h1) := by
  show sem (X, K X d) 119 0 [some (.ref x0), some (.int x1), some (.int x2), none, none, none, none, none, none] [] h = _
  refine (s_iload_n 1 mc_119 dX10_best_0 rfl rfl rfl).trans ?_
  refine (s_istI 4 mc_119 dX10_best_1 rfl mo_119 mm_10_88 (by decide) ms_137 mr_137 ma_137 (Nat.le_of_ble_eq_true rfl) rfl rfl (Nat.le_of_ble_eq_true rfl)).trans ?_
  refine bI_c fun r1 h1 => ?_
  refine (s_if_ne 11 7 mc_119 dX10_best_4 rfl rfl).trans ?_
  refine ite_c ?_ ?_
  · skip
    refine (s_iload_n 12 mc_119 dX10_best_11 rfl rfl rfl).trans ?_
    refine (s_bipush 14 10 mc_119 dX10_best_12 rfl (by decide)).trans ?_
    refine (s_icmp_lt 46 17 mc_119 dX10_best_14 rfl rfl).trans ?_
    refine ite_c ?_ ?_
    · skip
      refine (s_iload_n 47 mc_119 dX10_best_46 rfl rfl rfl).trans ?_
      refine (s_if_eq 59 50 mc_119 dX10_best_47 rfl rfl).trans ?_
      refine ite_c ?_ ?_
      · skip
        rfl
      · skip
        refine (s_iload_n 51 mc_119 dX10_best_50 rfl rfl rfl).trans ?_
        refine (s_iconst 52 1 mc_119 dX10_best_51 rfl (by decide)).trans ?_
        refine (s_icmp_eq 59 55 mc_119 dX10_best_52 rfl rfl).trans ?_
        refine ite_c ?_ ?_
        · skip
          rfl
        · skip
          refine (s_ldc2_w 58 (-1) mc_119 dX10_best_55 rfl mo_119 cl_10_195 (by decide)).trans ?_
          exact s_lret mc_119 dX10_best_58 mt_119
    · skip
      refine (s_iload_n 18 mc_119 dX10_best_17 rfl rfl rfl).trans ?_
      refine (s_bipush 20 10 mc_119 dX10_best_18 rfl (by decide)).trans ?_
      refine (s_isub 21 mc_119 dX10_best_20 rfl).trans ?_
      refine (s_aload_n 22 mc_119 dX10_best_21 rfl rfl rfl).trans ?_
      refine (s_getfR 25 mc_119 dX10_best_22 rfl mo_119 fs_10_39 ff_10_39 rfl).trans ?_
      refine gR_c fun g2 => ?_
      refine (s_getfI 28 mc_119 dX10_best_25 rfl mo_119 fs_10_280 ff_10_280 (Or.inl rfl)).trans ?_
      refine gI_c fun g3 => ?_
      refine (s_icmp_ge 46 31 mc_119 dX10_best_28 rfl rfl).trans ?_
      refine ite_c ?_ ?_
      · skip
        refine (s_iload_n 47 mc_119 dX10_best_46 rfl rfl rfl).trans ?_
        refine (s_if_eq 59 50 mc_119 dX10_best_47 rfl rfl).trans ?_
        refine ite_c ?_ ?_
        · skip
          rfl
        · skip
          refine (s_iload_n 51 mc_119 dX10_best_50 rfl rfl rfl).trans ?_
          refine (s_iconst 52 1 mc_119 dX10_best_51 rfl (by decide)).trans ?_
          refine (s_icmp_eq 59 55 mc_119 dX10_best_52 rfl rfl).trans ?_
          refine ite_c ?_ ?_
          · skip
            rfl
          · skip
            refine (s_ldc2_w 58 (-1) mc_119 dX10_best_55 rfl mo_119 cl_10_195 (by decide)).trans ?_
            exact s_lret mc_119 dX10_best_58 mt_119
      · skip
        refine (s_aload_n 32 mc_119 dX10_best_31 rfl rfl rfl).trans ?_
        refine (s_aload_n 33 mc_119 dX10_best_32 rfl rfl rfl).trans ?_
        refine (s_getfR 36 mc_119 dX10_best_33 rfl mo_119 fs_10_11 ff_10_11 rfl).trans ?_
        refine gR_c fun g4 => ?_
        refine (s_iload_n 37 mc_119 dX10_best_36 rfl rfl rfl).trans ?_
        refine (s_aaload 38 mc_119 dX10_best_37 rfl).trans ?_
        refine aR_c fun g5 => ?_
        refine (s_iload_n 39 mc_119 dX10_best_38 rfl rfl rfl).trans ?_
        refine (s_bipush 41 10 mc_119 dX10_best_39 rfl (by decide)).trans ?_
        refine (s_isub 42 mc_119 dX10_best_41 rfl).trans ?_
        refine (s_iviJ 45 mc_119 dX10_best_42 rfl mo_119 mm_10_289 (by decide) ms_120 mi_120 mr_120 ma_120 mo_120 (by decide) (Nat.le_of_ble_eq_true rfl) rfl rfl (Nat.le_of_ble_eq_true rfl)).trans ?_
        refine gd_c ?_
        refine bJ_c fun r6 h2 => ?_
        exact s_lret mc_119 dX10_best_45 mt_119
  · skip
    refine (s_ldc2_w 10 (-1) mc_119 dX10_best_7 rfl mo_119 cl_10_195 (by decide)).trans ?_
    exact s_lret mc_119 dX10_best_10 mt_119
theorem b_119_59 {X : Ctx} {d : Nat} (x0 : Nat) (x1 : Int32) (v2 : Option Value) (v3 : Option Value) (v4 : Option Value) (v5 : Option Value) (v6 : Option Value) (v7 : Option Value) (v8 : Option Value)  (h : Hp) : sem (X, K X d) 119 59 [some (.ref x0), some (.int x1), v2, v3, v4, v5, v6, v7, v8] [] h = gd (hS h x0 = (11, 0)) (bV (K X d 136 [.ref x0, .int x1] h) fun h1 => gR h1 10 x0 8 fun g1 => gR h1 10 x0 0 fun g2 => aR h1 g2 x1 fun g3 => gd (hS h1 g1 = (3, 0)) (bJ (K X d 20 [.ref g1, .ref g3] h1) fun r4 h2 => sem (X, K X d) 119 84 [some (.ref x0), some (.int x1), v2, some (.long r4), none, some (.int (-1)), some (.int 0), v7, v8] [] h2)) := by
  refine (s_aload_n 60 mc_119 dX10_best_59 rfl rfl rfl).trans ?_
  refine (s_iload_n 61 mc_119 dX10_best_60 rfl rfl rfl).trans ?_
  refine (s_iviV 64 mc_119 dX10_best_61 rfl mo_119 mm_10_166 (by decide) ms_136 mi_136 mr_136 ma_136 mo_136 (by decide) (Nat.le_of_ble_eq_true rfl) rfl rfl (Nat.le_of_ble_eq_true rfl)).trans ?_
  refine gd_c ?_
  refine bV_c fun h1 => ?_
  refine (s_aload_n 65 mc_119 dX10_best_64 rfl rfl rfl).trans ?_
  refine (s_getfR 68 mc_119 dX10_best_65 rfl mo_119 fs_10_18 ff_10_18 rfl).trans ?_
  refine gR_c fun g1 => ?_
  refine (s_aload_n 69 mc_119 dX10_best_68 rfl rfl rfl).trans ?_
  refine (s_getfR 72 mc_119 dX10_best_69 rfl mo_119 fs_10_11 ff_10_11 rfl).trans ?_
  refine gR_c fun g2 => ?_
  refine (s_iload_n 73 mc_119 dX10_best_72 rfl rfl rfl).trans ?_
  refine (s_aaload 74 mc_119 dX10_best_73 rfl).trans ?_
  refine aR_c fun g3 => ?_
  refine (s_iviJ 77 mc_119 dX10_best_74 rfl mo_119 mm_10_233 (by decide) ms_20 mi_20 mr_20 ma_20 mo_20 (by decide) (Nat.le_of_ble_eq_true rfl) rfl rfl (Nat.le_of_ble_eq_true rfl)).trans ?_
  refine gd_c ?_
  refine bJ_c fun r4 h2 => ?_
  refine (s_lstore_n 78 mc_119 dX10_best_77 rfl rfl (Nat.le_of_ble_eq_true rfl) rfl).trans ?_
  refine (s_iconst 79 (-1) mc_119 dX10_best_78 rfl (by decide)).trans ?_
  refine (s_istore 81 mc_119 dX10_best_79 rfl (Nat.le_of_ble_eq_true rfl) rfl).trans ?_
  refine (s_iconst 82 0 mc_119 dX10_best_81 rfl (by decide)).trans ?_
  refine (s_istore 84 mc_119 dX10_best_82 rfl (Nat.le_of_ble_eq_true rfl) rfl).trans ?_
  rfl
theorem b_119_84 {X : Ctx} {d : Nat} (x0 : Nat) (x1 : Int32) (x2 : Int32) (x3 : Int64) (x5 : Int32) (x6 : Int32) (v7 : Option Value) (v8 : Option Value)  (h : Hp) : sem (X, K X d) 119 84 [some (.ref x0), some (.int x1), some (.int x2), some (.long x3), none, some (.int x5), some (.int x6), v7, v8] [] h = gR h 10 x0 4 fun g1 => gI h 4 g1 8 fun g2 => if g2 ≤ x6 then if ¬ x2 = 0 then some (some (.long x3), h) else some (some (.long (x5 : Int32).toInt64), h) else gR h 10 x0 0 fun g3 => aR h g3 x1 fun g4 => gd (hS h x0 = (11, 0)) (bJ (K X d 120 [.ref x0, .ref g4, .int x6] h) fun r5 h1 => if 0 ≤ (lg_cmp r5 x3) then sem (X, K X d) 119 84 [some (.ref x0), some (.int x1), some (.int x2), some (.long x3), none, some (.int x5), some (.int (x6 + 1)), some (.long r5), none] [] h1 else sem (X, K X d) 119 84 [some (.ref x0), some (.int x1), some (.int x2), some (.long r5), none, some (.int x6), some (.int (x6 + 1)), some (.long r5), none] [] h1) := by
  refine (s_iload 86 mc_119 dX10_best_84 rfl rfl).trans ?_
  refine (s_aload_n 87 mc_119 dX10_best_86 rfl rfl rfl).trans ?_
  refine (s_getfR 90 mc_119 dX10_best_87 rfl mo_119 fs_10_39 ff_10_39 rfl).trans ?_
  refine gR_c fun g1 => ?_
  refine (s_getfI 93 mc_119 dX10_best_90 rfl mo_119 fs_10_280 ff_10_280 (Or.inl rfl)).trans ?_
  refine gI_c fun g2 => ?_
  refine (s_icmp_ge 130 96 mc_119 dX10_best_93 rfl rfl).trans ?_
  refine ite_c ?_ ?_
  · skip
    refine (s_iload_n 131 mc_119 dX10_best_130 rfl rfl rfl).trans ?_
    refine (s_if_ne 140 134 mc_119 dX10_best_131 rfl rfl).trans ?_
    refine ite_c ?_ ?_
    · skip
      refine (s_lload_n 141 mc_119 dX10_best_140 rfl rfl rfl rfl).trans ?_
      exact s_lret mc_119 dX10_best_141 mt_119
    · skip
      refine (s_iload 136 mc_119 dX10_best_134 rfl rfl).trans ?_
      refine (s_i2l 137 mc_119 dX10_best_136 rfl).trans ?_
      refine (s_goto 141 mc_119 dX10_best_137 rfl).trans ?_
      exact s_lret mc_119 dX10_best_141 mt_119
  · skip
    refine (s_aload_n 97 mc_119 dX10_best_96 rfl rfl rfl).trans ?_
    refine (s_aload_n 98 mc_119 dX10_best_97 rfl rfl rfl).trans ?_
    refine (s_getfR 101 mc_119 dX10_best_98 rfl mo_119 fs_10_11 ff_10_11 rfl).trans ?_
    refine gR_c fun g3 => ?_
    refine (s_iload_n 102 mc_119 dX10_best_101 rfl rfl rfl).trans ?_
    refine (s_aaload 103 mc_119 dX10_best_102 rfl).trans ?_
    refine aR_c fun g4 => ?_
    refine (s_iload 105 mc_119 dX10_best_103 rfl rfl).trans ?_
    refine (s_iviJ 108 mc_119 dX10_best_105 rfl mo_119 mm_10_289 (by decide) ms_120 mi_120 mr_120 ma_120 mo_120 (by decide) (Nat.le_of_ble_eq_true rfl) rfl rfl (Nat.le_of_ble_eq_true rfl)).trans ?_
    refine gd_c ?_
    refine bJ_c fun r5 h1 => ?_
    refine (s_lstore 110 mc_119 dX10_best_108 rfl (Nat.le_of_ble_eq_true rfl) rfl).trans ?_
    refine (s_lload 112 mc_119 dX10_best_110 rfl rfl rfl).trans ?_
    refine (s_lload_n 113 mc_119 dX10_best_112 rfl rfl rfl rfl).trans ?_
    refine (s_lcmp 114 mc_119 dX10_best_113 rfl).trans ?_
    refine (s_if_ge 124 117 mc_119 dX10_best_114 rfl rfl).trans ?_
    refine ite_c ?_ ?_
    · skip
      refine (s_iinc 1 127 mc_119 dX10_best_124 rfl rfl (Nat.le_of_ble_eq_true rfl) (by decide) rfl).trans ?_
      refine (s_goto 84 mc_119 dX10_best_127 rfl).trans ?_
      rfl
    · skip
      refine (s_lload 119 mc_119 dX10_best_117 rfl rfl rfl).trans ?_
      refine (s_lstore_n 120 mc_119 dX10_best_119 rfl rfl (Nat.le_of_ble_eq_true rfl) rfl).trans ?_
      refine (s_iload 122 mc_119 dX10_best_120 rfl rfl).trans ?_
      refine (s_istore 124 mc_119 dX10_best_122 rfl (Nat.le_of_ble_eq_true rfl) rfl).trans ?_
      refine (s_iinc 1 127 mc_119 dX10_best_124 rfl rfl (Nat.le_of_ble_eq_true rfl) (by decide) rfl).trans ?_
      refine (s_goto 84 mc_119 dX10_best_127 rfl).trans ?_
      rfl
/-- FiveLands.owesMoved(LFiveLands$Year;I)J -/
theorem k_120 {X : Ctx} {d : Nat} (x0 : Nat) (x1 : Nat) (x2 : Int32) (h : Hp) : K X (d + 1) 120 [.ref x0, .ref x1, .int x2] h = if x2 < 0 then some (some (.long (-1)), h) else gR h 10 x0 4 fun g1 => gI h 4 g1 8 fun g2 => if x2 < g2 then gR h 10 x0 4 fun g3 => gR h 4 g3 0 fun g4 => aI X h g4 x2 fun g5 => gR h 10 x0 4 fun g6 => gR h 4 g6 1 fun g7 => aI X h g7 x2 fun g8 => gR h 10 x0 9 fun g9 => gd (hS h x1 = (10, 0)) (bV (K X d 94 [.ref x1, .int g5, .int g8, .ref g9] h) fun h1 => gR h1 10 x0 8 fun g10 => gR h1 10 x0 9 fun g11 => gR h1 10 x0 2 fun g12 => gd (hS h1 x1 = (10, 0)) (bJ (K X d 95 [.ref x1] h1) fun r13 h2 => gd (hS h2 g10 = (3, 0)) (bV (K X d 13 [.ref g10, .ref g11, .ref g12, .long r13] h2) fun h3 => gR h3 10 x0 8 fun g14 => gd (hS h3 g14 = (3, 0)) (bJ (K X d 20 [.ref g14, .ref x1] h3) fun r15 h4 => some (some (.long r15), h4))))) else some (some (.long (-1)), h) := by
  show sem (X, K X d) 120 0 [some (.ref x0), some (.ref x1), some (.int x2)] [] h = _
  refine (s_iload_n 1 mc_120 dX10_owesMoved_0 rfl rfl rfl).trans ?_
  refine (s_if_lt 15 4 mc_120 dX10_owesMoved_1 rfl rfl).trans ?_
  refine ite_c ?_ ?_
  · skip
    refine (s_ldc2_w 18 (-1) mc_120 dX10_owesMoved_15 rfl mo_120 cl_10_195 (by decide)).trans ?_
    exact s_lret mc_120 dX10_owesMoved_18 mt_120
  · skip
    refine (s_iload_n 5 mc_120 dX10_owesMoved_4 rfl rfl rfl).trans ?_
    refine (s_aload_n 6 mc_120 dX10_owesMoved_5 rfl rfl rfl).trans ?_
    refine (s_getfR 9 mc_120 dX10_owesMoved_6 rfl mo_120 fs_10_39 ff_10_39 rfl).trans ?_
    refine gR_c fun g1 => ?_
    refine (s_getfI 12 mc_120 dX10_owesMoved_9 rfl mo_120 fs_10_280 ff_10_280 (Or.inl rfl)).trans ?_
    refine gI_c fun g2 => ?_
    refine (s_icmp_lt 19 15 mc_120 dX10_owesMoved_12 rfl rfl).trans ?_
    refine ite_c ?_ ?_
    · skip
      refine (s_aload_n 20 mc_120 dX10_owesMoved_19 rfl rfl rfl).trans ?_
      refine (s_aload_n 21 mc_120 dX10_owesMoved_20 rfl rfl rfl).trans ?_
      refine (s_getfR 24 mc_120 dX10_owesMoved_21 rfl mo_120 fs_10_39 ff_10_39 rfl).trans ?_
      refine gR_c fun g3 => ?_
      refine (s_getfR 27 mc_120 dX10_owesMoved_24 rfl mo_120 fs_10_283 ff_10_283 rfl).trans ?_
      refine gR_c fun g4 => ?_
      refine (s_iload_n 28 mc_120 dX10_owesMoved_27 rfl rfl rfl).trans ?_
      refine (s_iaload 29 mc_120 dX10_owesMoved_28 rfl).trans ?_
      refine aI_c fun g5 => ?_
      refine (s_aload_n 30 mc_120 dX10_owesMoved_29 rfl rfl rfl).trans ?_
      refine (s_getfR 33 mc_120 dX10_owesMoved_30 rfl mo_120 fs_10_39 ff_10_39 rfl).trans ?_
      refine gR_c fun g6 => ?_
      refine (s_getfR 36 mc_120 dX10_owesMoved_33 rfl mo_120 fs_10_286 ff_10_286 rfl).trans ?_
      refine gR_c fun g7 => ?_
      refine (s_iload_n 37 mc_120 dX10_owesMoved_36 rfl rfl rfl).trans ?_
      refine (s_iaload 38 mc_120 dX10_owesMoved_37 rfl).trans ?_
      refine aI_c fun g8 => ?_
      refine (s_aload_n 39 mc_120 dX10_owesMoved_38 rfl rfl rfl).trans ?_
      refine (s_getfR 42 mc_120 dX10_owesMoved_39 rfl mo_120 fs_10_64 ff_10_64 rfl).trans ?_
      refine gR_c fun g9 => ?_
      refine (s_iviV 45 mc_120 dX10_owesMoved_42 rfl mo_120 mm_10_293 (by decide) ms_94 mi_94 mr_94 ma_94 mo_94 (by decide) (Nat.le_of_ble_eq_true rfl) rfl rfl (Nat.le_of_ble_eq_true rfl)).trans ?_
      refine gd_c ?_
      refine bV_c fun h1 => ?_
      refine (s_aload_n 46 mc_120 dX10_owesMoved_45 rfl rfl rfl).trans ?_
      refine (s_getfR 49 mc_120 dX10_owesMoved_46 rfl mo_120 fs_10_18 ff_10_18 rfl).trans ?_
      refine gR_c fun g10 => ?_
      refine (s_aload_n 50 mc_120 dX10_owesMoved_49 rfl rfl rfl).trans ?_
      refine (s_getfR 53 mc_120 dX10_owesMoved_50 rfl mo_120 fs_10_64 ff_10_64 rfl).trans ?_
      refine gR_c fun g11 => ?_
      refine (s_aload_n 54 mc_120 dX10_owesMoved_53 rfl rfl rfl).trans ?_
      refine (s_getfR 57 mc_120 dX10_owesMoved_54 rfl mo_120 fs_10_29 ff_10_29 rfl).trans ?_
      refine gR_c fun g12 => ?_
      refine (s_aload_n 58 mc_120 dX10_owesMoved_57 rfl rfl rfl).trans ?_
      refine (s_iviJ 61 mc_120 dX10_owesMoved_58 rfl mo_120 mm_10_226 (by decide) ms_95 mi_95 mr_95 ma_95 mo_95 (by decide) (Nat.le_of_ble_eq_true rfl) rfl rfl (Nat.le_of_ble_eq_true rfl)).trans ?_
      refine gd_c ?_
      refine bJ_c fun r13 h2 => ?_
      refine (s_iviV 64 mc_120 dX10_owesMoved_61 rfl mo_120 mm_10_263 (by decide) ms_13 mi_13 mr_13 ma_13 mo_13 (by decide) (Nat.le_of_ble_eq_true rfl) rfl rfl (Nat.le_of_ble_eq_true rfl)).trans ?_
      refine gd_c ?_
      refine bV_c fun h3 => ?_
      refine (s_aload_n 65 mc_120 dX10_owesMoved_64 rfl rfl rfl).trans ?_
      refine (s_getfR 68 mc_120 dX10_owesMoved_65 rfl mo_120 fs_10_18 ff_10_18 rfl).trans ?_
      refine gR_c fun g14 => ?_
      refine (s_aload_n 69 mc_120 dX10_owesMoved_68 rfl rfl rfl).trans ?_
      refine (s_iviJ 72 mc_120 dX10_owesMoved_69 rfl mo_120 mm_10_233 (by decide) ms_20 mi_20 mr_20 ma_20 mo_20 (by decide) (Nat.le_of_ble_eq_true rfl) rfl rfl (Nat.le_of_ble_eq_true rfl)).trans ?_
      refine gd_c ?_
      refine bJ_c fun r15 h4 => ?_
      exact s_lret mc_120 dX10_owesMoved_72 mt_120
    · skip
      refine (s_ldc2_w 18 (-1) mc_120 dX10_owesMoved_15 rfl mo_120 cl_10_195 (by decide)).trans ?_
      exact s_lret mc_120 dX10_owesMoved_18 mt_120
/-- FiveLands.turning(III)I -/
theorem k_121 {X : Ctx} {d : Nat} (x0 : Nat) (x1 : Int32) (x2 : Int32) (x3 : Int32) (h : Hp) : K X (d + 1) 121 [.ref x0, .int x1, .int x2, .int x3] h = gR h 10 x0 0 fun g1 => aR h g1 0 fun g2 => gd (hS h g2 = (10, 0)) (bI (K X d 92 [.ref g2, .int x1] h) fun r3 h1 => if r3 = 0 then some (some (.int (-1)), h1) else bI (K X d 138 [.int x2] h1) fun r4 h2 => if r4 = 0 then some (some (.int (-1)), h2) else if x3 < 0 then some (some (.int (-1)), h2) else if 999999 < x3 then some (some (.int (-1)), h2) else gR h2 10 x0 4 fun g5 => gI h2 4 g5 9 fun g6 => if g6 < 6 then gR h2 10 x0 4 fun g7 => gR h2 4 g7 2 fun g8 => gR h2 10 x0 4 fun g9 => gI h2 4 g9 9 fun g10 => wI h2 g8 g10 x1 fun h3 => gR h3 10 x0 4 fun g11 => gR h3 4 g11 3 fun g12 => gR h3 10 x0 4 fun g13 => gI h3 4 g13 9 fun g14 => wI h3 g12 g14 x2 fun h4 => gR h4 10 x0 4 fun g15 => gR h4 4 g15 4 fun g16 => gR h4 10 x0 4 fun g17 => gI h4 4 g17 9 fun g18 => wI h4 g16 g18 x3 fun h5 => gR h5 10 x0 4 fun g19 => gI h5 4 g19 9 fun g20 => fI h5 4 g19 9 (g20 + 1) fun h6 => gR h6 10 x0 4 fun g21 => gI h6 4 g21 9 fun g22 => some (some (.int (g22 - 1)), h6) else some (some (.int (-1)), h2)) := by
  show sem (X, K X d) 121 0 [some (.ref x0), some (.int x1), some (.int x2), some (.int x3)] [] h = _
  refine (s_aload_n 1 mc_121 dX10_turning_0 rfl rfl rfl).trans ?_
  refine (s_getfR 4 mc_121 dX10_turning_1 rfl mo_121 fs_10_11 ff_10_11 rfl).trans ?_
  refine gR_c fun g1 => ?_
  refine (s_iconst 5 0 mc_121 dX10_turning_4 rfl (by decide)).trans ?_
  refine (s_aaload 6 mc_121 dX10_turning_5 rfl).trans ?_
  refine aR_c fun g2 => ?_
  refine (s_iload_n 7 mc_121 dX10_turning_6 rfl rfl rfl).trans ?_
  refine (s_iviI 10 mc_121 dX10_turning_7 rfl mo_121 mm_10_201 (by decide) ms_92 mi_92 mr_92 ma_92 mo_92 (by decide) (Nat.le_of_ble_eq_true rfl) rfl rfl (Nat.le_of_ble_eq_true rfl)).trans ?_
  refine gd_c ?_
  refine bI_c fun r3 h1 => ?_
  refine (s_if_eq 42 13 mc_121 dX10_turning_10 rfl rfl).trans ?_
  refine ite_c ?_ ?_
  · skip
    refine (s_iconst 43 (-1) mc_121 dX10_turning_42 rfl (by decide)).trans ?_
    exact s_iret mc_121 dX10_turning_43 mt_121
  · skip
    refine (s_iload_n 14 mc_121 dX10_turning_13 rfl rfl rfl).trans ?_
    refine (s_istI 17 mc_121 dX10_turning_14 rfl mo_121 mm_10_99 (by decide) ms_138 mr_138 ma_138 (Nat.le_of_ble_eq_true rfl) rfl rfl (Nat.le_of_ble_eq_true rfl)).trans ?_
    refine bI_c fun r4 h2 => ?_
    refine (s_if_eq 42 20 mc_121 dX10_turning_17 rfl rfl).trans ?_
    refine ite_c ?_ ?_
    · skip
      refine (s_iconst 43 (-1) mc_121 dX10_turning_42 rfl (by decide)).trans ?_
      exact s_iret mc_121 dX10_turning_43 mt_121
    · skip
      refine (s_iload_n 21 mc_121 dX10_turning_20 rfl rfl rfl).trans ?_
      refine (s_if_lt 42 24 mc_121 dX10_turning_21 rfl rfl).trans ?_
      refine ite_c ?_ ?_
      · skip
        refine (s_iconst 43 (-1) mc_121 dX10_turning_42 rfl (by decide)).trans ?_
        exact s_iret mc_121 dX10_turning_43 mt_121
      · skip
        refine (s_iload_n 25 mc_121 dX10_turning_24 rfl rfl rfl).trans ?_
        refine (s_ldc 27 999999 mc_121 dX10_turning_25 rfl mo_121 cs_10_115 (by decide)).trans ?_
        refine (s_icmp_gt 42 30 mc_121 dX10_turning_27 rfl rfl).trans ?_
        refine ite_c ?_ ?_
        · skip
          refine (s_iconst 43 (-1) mc_121 dX10_turning_42 rfl (by decide)).trans ?_
          exact s_iret mc_121 dX10_turning_43 mt_121
        · skip
          refine (s_aload_n 31 mc_121 dX10_turning_30 rfl rfl rfl).trans ?_
          refine (s_getfR 34 mc_121 dX10_turning_31 rfl mo_121 fs_10_39 ff_10_39 rfl).trans ?_
          refine gR_c fun g5 => ?_
          refine (s_getfI 37 mc_121 dX10_turning_34 rfl mo_121 fs_10_297 ff_10_297 (Or.inl rfl)).trans ?_
          refine gI_c fun g6 => ?_
          refine (s_bipush 39 6 mc_121 dX10_turning_37 rfl (by decide)).trans ?_
          refine (s_icmp_lt 44 42 mc_121 dX10_turning_39 rfl rfl).trans ?_
          refine ite_c ?_ ?_
          · skip
            refine (s_aload_n 45 mc_121 dX10_turning_44 rfl rfl rfl).trans ?_
            refine (s_getfR 48 mc_121 dX10_turning_45 rfl mo_121 fs_10_39 ff_10_39 rfl).trans ?_
            refine gR_c fun g7 => ?_
            refine (s_getfR 51 mc_121 dX10_turning_48 rfl mo_121 fs_10_300 ff_10_300 rfl).trans ?_
            refine gR_c fun g8 => ?_
            refine (s_aload_n 52 mc_121 dX10_turning_51 rfl rfl rfl).trans ?_
            refine (s_getfR 55 mc_121 dX10_turning_52 rfl mo_121 fs_10_39 ff_10_39 rfl).trans ?_
            refine gR_c fun g9 => ?_
            refine (s_getfI 58 mc_121 dX10_turning_55 rfl mo_121 fs_10_297 ff_10_297 (Or.inl rfl)).trans ?_
            refine gI_c fun g10 => ?_
            refine (s_iload_n 59 mc_121 dX10_turning_58 rfl rfl rfl).trans ?_
            refine (s_iastore 60 mc_121 dX10_turning_59 rfl).trans ?_
            refine wI_c fun h3 => ?_
            refine (s_aload_n 61 mc_121 dX10_turning_60 rfl rfl rfl).trans ?_
            refine (s_getfR 64 mc_121 dX10_turning_61 rfl mo_121 fs_10_39 ff_10_39 rfl).trans ?_
            refine gR_c fun g11 => ?_
            refine (s_getfR 67 mc_121 dX10_turning_64 rfl mo_121 fs_10_303 ff_10_303 rfl).trans ?_
            refine gR_c fun g12 => ?_
            refine (s_aload_n 68 mc_121 dX10_turning_67 rfl rfl rfl).trans ?_
            refine (s_getfR 71 mc_121 dX10_turning_68 rfl mo_121 fs_10_39 ff_10_39 rfl).trans ?_
            refine gR_c fun g13 => ?_
            refine (s_getfI 74 mc_121 dX10_turning_71 rfl mo_121 fs_10_297 ff_10_297 (Or.inl rfl)).trans ?_
            refine gI_c fun g14 => ?_
            refine (s_iload_n 75 mc_121 dX10_turning_74 rfl rfl rfl).trans ?_
            refine (s_iastore 76 mc_121 dX10_turning_75 rfl).trans ?_
            refine wI_c fun h4 => ?_
            refine (s_aload_n 77 mc_121 dX10_turning_76 rfl rfl rfl).trans ?_
            refine (s_getfR 80 mc_121 dX10_turning_77 rfl mo_121 fs_10_39 ff_10_39 rfl).trans ?_
            refine gR_c fun g15 => ?_
            refine (s_getfR 83 mc_121 dX10_turning_80 rfl mo_121 fs_10_306 ff_10_306 rfl).trans ?_
            refine gR_c fun g16 => ?_
            refine (s_aload_n 84 mc_121 dX10_turning_83 rfl rfl rfl).trans ?_
            refine (s_getfR 87 mc_121 dX10_turning_84 rfl mo_121 fs_10_39 ff_10_39 rfl).trans ?_
            refine gR_c fun g17 => ?_
            refine (s_getfI 90 mc_121 dX10_turning_87 rfl mo_121 fs_10_297 ff_10_297 (Or.inl rfl)).trans ?_
            refine gI_c fun g18 => ?_
            refine (s_iload_n 91 mc_121 dX10_turning_90 rfl rfl rfl).trans ?_
            refine (s_iastore 92 mc_121 dX10_turning_91 rfl).trans ?_
            refine wI_c fun h5 => ?_
            refine (s_aload_n 93 mc_121 dX10_turning_92 rfl rfl rfl).trans ?_
            refine (s_getfR 96 mc_121 dX10_turning_93 rfl mo_121 fs_10_39 ff_10_39 rfl).trans ?_
            refine gR_c fun g19 => ?_
            refine (s_dup 97 mc_121 dX10_turning_96 rfl rfl).trans ?_
            refine (s_getfI 100 mc_121 dX10_turning_97 rfl mo_121 fs_10_297 ff_10_297 (Or.inl rfl)).trans ?_
            refine gI_c fun g20 => ?_
            refine (s_iconst 101 1 mc_121 dX10_turning_100 rfl (by decide)).trans ?_
            refine (s_iadd 102 mc_121 dX10_turning_101 rfl).trans ?_
            refine (s_putfI 105 mc_121 dX10_turning_102 rfl mo_121 ff_10_297 rfl (Or.inl rfl)).trans ?_
            refine fI_c fun h6 => ?_
            refine (s_aload_n 106 mc_121 dX10_turning_105 rfl rfl rfl).trans ?_
            refine (s_getfR 109 mc_121 dX10_turning_106 rfl mo_121 fs_10_39 ff_10_39 rfl).trans ?_
            refine gR_c fun g21 => ?_
            refine (s_getfI 112 mc_121 dX10_turning_109 rfl mo_121 fs_10_297 ff_10_297 (Or.inl rfl)).trans ?_
            refine gI_c fun g22 => ?_
            refine (s_iconst 113 1 mc_121 dX10_turning_112 rfl (by decide)).trans ?_
            refine (s_isub 114 mc_121 dX10_turning_113 rfl).trans ?_
            exact s_iret mc_121 dX10_turning_114 mt_121
          · skip
            refine (s_iconst 43 (-1) mc_121 dX10_turning_42 rfl (by decide)).trans ?_
            exact s_iret mc_121 dX10_turning_43 mt_121
/-- FiveLands.sly(I)J -/
theorem k_122 {X : Ctx} {d : Nat} (x0 : Nat) (x1 : Int32) (h : Hp) : K X (d + 1) 122 [.ref x0, .int x1] h = if x1 < 0 then some (some (.long (-1)), h) else if x1 ≤ 1 then gd (hS h x0 = (11, 0)) (bV (K X d 136 [.ref x0, .int 0] h) fun h1 => sem (X, K X d) 122 25 [some (.ref x0), some (.int x1), some (.int 0), some (.long 0), none, some (.int 0), none, none, none, none, none, none] [] h1) else some (some (.long (-1)), h) := by
  show sem (X, K X d) 122 0 [some (.ref x0), some (.int x1), none, none, none, none, none, none, none, none, none, none] [] h = _
  refine (s_iload_n 1 mc_122 dX10_sly_0 rfl rfl rfl).trans ?_
  refine (s_if_lt 9 4 mc_122 dX10_sly_1 rfl rfl).trans ?_
  refine ite_c ?_ ?_
  · skip
    refine (s_ldc2_w 12 (-1) mc_122 dX10_sly_9 rfl mo_122 cl_10_195 (by decide)).trans ?_
    exact s_lret mc_122 dX10_sly_12 mt_122
  · skip
    refine (s_iload_n 5 mc_122 dX10_sly_4 rfl rfl rfl).trans ?_
    refine (s_iconst 6 1 mc_122 dX10_sly_5 rfl (by decide)).trans ?_
    refine (s_icmp_le 13 9 mc_122 dX10_sly_6 rfl rfl).trans ?_
    refine ite_c ?_ ?_
    · skip
      refine (s_aload_n 14 mc_122 dX10_sly_13 rfl rfl rfl).trans ?_
      refine (s_iconst 15 0 mc_122 dX10_sly_14 rfl (by decide)).trans ?_
      refine (s_iviV 18 mc_122 dX10_sly_15 rfl mo_122 mm_10_166 (by decide) ms_136 mi_136 mr_136 ma_136 mo_136 (by decide) (Nat.le_of_ble_eq_true rfl) rfl rfl (Nat.le_of_ble_eq_true rfl)).trans ?_
      refine gd_c ?_
      refine bV_c fun h1 => ?_
      refine (s_iconst 19 0 mc_122 dX10_sly_18 rfl (by decide)).trans ?_
      refine (s_istore_n 20 mc_122 dX10_sly_19 rfl rfl (Nat.le_of_ble_eq_true rfl) rfl).trans ?_
      refine (s_lconst 21 0 mc_122 dX10_sly_20 rfl (by decide)).trans ?_
      refine (s_lstore_n 22 mc_122 dX10_sly_21 rfl rfl (Nat.le_of_ble_eq_true rfl) rfl).trans ?_
      refine (s_iconst 23 0 mc_122 dX10_sly_22 rfl (by decide)).trans ?_
      refine (s_istore 25 mc_122 dX10_sly_23 rfl (Nat.le_of_ble_eq_true rfl) rfl).trans ?_
      rfl
    · skip
      refine (s_ldc2_w 12 (-1) mc_122 dX10_sly_9 rfl mo_122 cl_10_195 (by decide)).trans ?_
      exact s_lret mc_122 dX10_sly_12 mt_122
theorem b_122_25 {X : Ctx} {d : Nat} (x0 : Nat) (x1 : Int32) (x2 : Int32) (x3 : Int64) (x5 : Int32) (v6 : Option Value) (v7 : Option Value) (v8 : Option Value) (v9 : Option Value) (v10 : Option Value) (v11 : Option Value)  (h : Hp) : sem (X, K X d) 122 25 [some (.ref x0), some (.int x1), some (.int x2), some (.long x3), none, some (.int x5), v6, v7, v8, v9, v10, v11] [] h = gR h 10 x0 0 fun g1 => aR h g1 0 fun g2 => gI h 9 g2 3 fun g3 => if g3 ≤ x5 then if ¬ x1 = 0 then some (some (.long x3), h) else some (some (.long (x2 : Int32).toInt64), h) else gR h 10 x0 8 fun g4 => gR h 10 x0 0 fun g5 => aR h g5 0 fun g6 => gR h 9 g6 2 fun g7 => aR h g7 x5 fun g8 => gd (hS h g4 = (3, 0)) (bJ (K X d 21 [.ref g4, .ref g8] h) fun r9 h1 => sem (X, K X d) 122 66 [some (.ref x0), some (.int x1), some (.int x2), some (.long x3), none, some (.int x5), some (.long r9), none, some (.int (-1)), some (.int 0), v10, v11] [] h1) := by
  refine (s_iload 27 mc_122 dX10_sly_25 rfl rfl).trans ?_
  refine (s_aload_n 28 mc_122 dX10_sly_27 rfl rfl rfl).trans ?_
  refine (s_getfR 31 mc_122 dX10_sly_28 rfl mo_122 fs_10_11 ff_10_11 rfl).trans ?_
  refine gR_c fun g1 => ?_
  refine (s_iconst 32 0 mc_122 dX10_sly_31 rfl (by decide)).trans ?_
  refine (s_aaload 33 mc_122 dX10_sly_32 rfl).trans ?_
  refine aR_c fun g2 => ?_
  refine (s_getfI 36 mc_122 dX10_sly_33 rfl mo_122 fs_10_116 ff_10_116 (Or.inl rfl)).trans ?_
  refine gI_c fun g3 => ?_
  refine (s_icmp_ge 168 39 mc_122 dX10_sly_36 rfl rfl).trans ?_
  refine ite_c ?_ ?_
  · skip
    refine (s_iload_n 169 mc_122 dX10_sly_168 rfl rfl rfl).trans ?_
    refine (s_if_ne 177 172 mc_122 dX10_sly_169 rfl rfl).trans ?_
    refine ite_c ?_ ?_
    · skip
      refine (s_lload_n 178 mc_122 dX10_sly_177 rfl rfl rfl rfl).trans ?_
      exact s_lret mc_122 dX10_sly_178 mt_122
    · skip
      refine (s_iload_n 173 mc_122 dX10_sly_172 rfl rfl rfl).trans ?_
      refine (s_i2l 174 mc_122 dX10_sly_173 rfl).trans ?_
      refine (s_goto 178 mc_122 dX10_sly_174 rfl).trans ?_
      exact s_lret mc_122 dX10_sly_178 mt_122
  · skip
    refine (s_aload_n 40 mc_122 dX10_sly_39 rfl rfl rfl).trans ?_
    refine (s_getfR 43 mc_122 dX10_sly_40 rfl mo_122 fs_10_18 ff_10_18 rfl).trans ?_
    refine gR_c fun g4 => ?_
    refine (s_aload_n 44 mc_122 dX10_sly_43 rfl rfl rfl).trans ?_
    refine (s_getfR 47 mc_122 dX10_sly_44 rfl mo_122 fs_10_11 ff_10_11 rfl).trans ?_
    refine gR_c fun g5 => ?_
    refine (s_iconst 48 0 mc_122 dX10_sly_47 rfl (by decide)).trans ?_
    refine (s_aaload 49 mc_122 dX10_sly_48 rfl).trans ?_
    refine aR_c fun g6 => ?_
    refine (s_getfR 52 mc_122 dX10_sly_49 rfl mo_122 fs_10_119 ff_10_119 rfl).trans ?_
    refine gR_c fun g7 => ?_
    refine (s_iload 54 mc_122 dX10_sly_52 rfl rfl).trans ?_
    refine (s_aaload 55 mc_122 dX10_sly_54 rfl).trans ?_
    refine aR_c fun g8 => ?_
    refine (s_iviJ 58 mc_122 dX10_sly_55 rfl mo_122 mm_10_212 (by decide) ms_21 mi_21 mr_21 ma_21 mo_21 (by decide) (Nat.le_of_ble_eq_true rfl) rfl rfl (Nat.le_of_ble_eq_true rfl)).trans ?_
    refine gd_c ?_
    refine bJ_c fun r9 h1 => ?_
    refine (s_lstore 60 mc_122 dX10_sly_58 rfl (Nat.le_of_ble_eq_true rfl) rfl).trans ?_
    refine (s_iconst 61 (-1) mc_122 dX10_sly_60 rfl (by decide)).trans ?_
    refine (s_istore 63 mc_122 dX10_sly_61 rfl (Nat.le_of_ble_eq_true rfl) rfl).trans ?_
    refine (s_iconst 64 0 mc_122 dX10_sly_63 rfl (by decide)).trans ?_
    refine (s_istore 66 mc_122 dX10_sly_64 rfl (Nat.le_of_ble_eq_true rfl) rfl).trans ?_
    rfl
theorem b_122_66 {X : Ctx} {d : Nat} (x0 : Nat) (v1 : Option Value) (x2 : Int32) (x3 : Int64) (x5 : Int32) (x6 : Int64) (x8 : Int32) (x9 : Int32) (v10 : Option Value) (v11 : Option Value)  (h : Hp) : sem (X, K X d) 122 66 [some (.ref x0), v1, some (.int x2), some (.long x3), none, some (.int x5), some (.long x6), none, some (.int x8), some (.int x9), v10, v11] [] h = gR h 10 x0 4 fun g1 => gI h 4 g1 9 fun g2 => if g2 ≤ x9 then if ¬ x8 = (-1) then sem (X, K X d) 122 25 [some (.ref x0), v1, some (.int (x2 ||| (1 <<< (x8 &&& 31)))), some (.long (x3 + x6)), none, some (.int (x5 + 1)), some (.long x6), none, some (.int x8), some (.int x9), v10, v11] [] h else sem (X, K X d) 122 25 [some (.ref x0), v1, some (.int x2), some (.long (x3 + x6)), none, some (.int (x5 + 1)), some (.long x6), none, some (.int x8), some (.int x9), v10, v11] [] h else gR h 10 x0 4 fun g3 => gR h 4 g3 2 fun g4 => aI X h g4 x9 fun g5 => if ¬ g5 = x5 then sem (X, K X d) 122 66 [some (.ref x0), v1, some (.int x2), some (.long x3), none, some (.int x5), some (.long x6), none, some (.int x8), some (.int (x9 + 1)), v10, v11] [] h else gR h 10 x0 8 fun g6 => gd (hS h x0 = (11, 0)) (bR (K X d 123 [.ref x0, .int x9] h) fun r7 h1 => gd (hS h1 g6 = (3, 0)) (bJ (K X d 21 [.ref g6, .ref r7] h1) fun r8 h2 => gR h2 10 x0 4 fun g9 => gd (hS h2 g9 = (5, 0)) (bJ (K X d 36 [.ref g9, .int x9] h2) fun r10 h3 => if 0 ≤ (lg_cmp (r8 + r10) x6) then sem (X, K X d) 122 66 [some (.ref x0), v1, some (.int x2), some (.long x3), none, some (.int x5), some (.long x6), none, some (.int x8), some (.int (x9 + 1)), some (.long (r8 + r10)), none] [] h3 else sem (X, K X d) 122 66 [some (.ref x0), v1, some (.int x2), some (.long x3), none, some (.int x5), some (.long (r8 + r10)), none, some (.int x9), some (.int (x9 + 1)), some (.long (r8 + r10)), none] [] h3))) := by
  refine (s_iload 68 mc_122 dX10_sly_66 rfl rfl).trans ?_
  refine (s_aload_n 69 mc_122 dX10_sly_68 rfl rfl rfl).trans ?_
  refine (s_getfR 72 mc_122 dX10_sly_69 rfl mo_122 fs_10_39 ff_10_39 rfl).trans ?_
  refine gR_c fun g1 => ?_
  refine (s_getfI 75 mc_122 dX10_sly_72 rfl mo_122 fs_10_297 ff_10_297 (Or.inl rfl)).trans ?_
  refine gI_c fun g2 => ?_
  refine (s_icmp_ge 140 78 mc_122 dX10_sly_75 rfl rfl).trans ?_
  refine ite_c ?_ ?_
  · skip
    refine (s_lload_n 141 mc_122 dX10_sly_140 rfl rfl rfl rfl).trans ?_
    refine (s_lload 143 mc_122 dX10_sly_141 rfl rfl rfl).trans ?_
    refine (s_ladd 144 mc_122 dX10_sly_143 rfl).trans ?_
    refine (s_lstore_n 145 mc_122 dX10_sly_144 rfl rfl (Nat.le_of_ble_eq_true rfl) rfl).trans ?_
    refine (s_iload 147 mc_122 dX10_sly_145 rfl rfl).trans ?_
    refine (s_iconst 148 (-1) mc_122 dX10_sly_147 rfl (by decide)).trans ?_
    refine (s_icmp_ne 155 151 mc_122 dX10_sly_148 rfl rfl).trans ?_
    refine ite_c ?_ ?_
    · skip
      refine (s_iload_n 156 mc_122 dX10_sly_155 rfl rfl rfl).trans ?_
      refine (s_iconst 157 1 mc_122 dX10_sly_156 rfl (by decide)).trans ?_
      refine (s_iload 159 mc_122 dX10_sly_157 rfl rfl).trans ?_
      refine (s_ishl 160 mc_122 dX10_sly_159 rfl).trans ?_
      refine (s_ior 161 mc_122 dX10_sly_160 rfl).trans ?_
      refine (s_istore_n 162 mc_122 dX10_sly_161 rfl rfl (Nat.le_of_ble_eq_true rfl) rfl).trans ?_
      refine (s_iinc 1 165 mc_122 dX10_sly_162 rfl rfl (Nat.le_of_ble_eq_true rfl) (by decide) rfl).trans ?_
      refine (s_goto 25 mc_122 dX10_sly_165 rfl).trans ?_
      rfl
    · skip
      refine (s_iload_n 152 mc_122 dX10_sly_151 rfl rfl rfl).trans ?_
      refine (s_goto 161 mc_122 dX10_sly_152 rfl).trans ?_
      refine (s_istore_n 162 mc_122 dX10_sly_161 rfl rfl (Nat.le_of_ble_eq_true rfl) rfl).trans ?_
      refine (s_iinc 1 165 mc_122 dX10_sly_162 rfl rfl (Nat.le_of_ble_eq_true rfl) (by decide) rfl).trans ?_
      refine (s_goto 25 mc_122 dX10_sly_165 rfl).trans ?_
      rfl
  · skip
    refine (s_aload_n 79 mc_122 dX10_sly_78 rfl rfl rfl).trans ?_
    refine (s_getfR 82 mc_122 dX10_sly_79 rfl mo_122 fs_10_39 ff_10_39 rfl).trans ?_
    refine gR_c fun g3 => ?_
    refine (s_getfR 85 mc_122 dX10_sly_82 rfl mo_122 fs_10_300 ff_10_300 rfl).trans ?_
    refine gR_c fun g4 => ?_
    refine (s_iload 87 mc_122 dX10_sly_85 rfl rfl).trans ?_
    refine (s_iaload 88 mc_122 dX10_sly_87 rfl).trans ?_
    refine aI_c fun g5 => ?_
    refine (s_iload 90 mc_122 dX10_sly_88 rfl rfl).trans ?_
    refine (s_icmp_ne 134 93 mc_122 dX10_sly_90 rfl rfl).trans ?_
    refine ite_c ?_ ?_
    · skip
      refine (s_iinc 1 137 mc_122 dX10_sly_134 rfl rfl (Nat.le_of_ble_eq_true rfl) (by decide) rfl).trans ?_
      refine (s_goto 66 mc_122 dX10_sly_137 rfl).trans ?_
      rfl
    · skip
      refine (s_aload_n 94 mc_122 dX10_sly_93 rfl rfl rfl).trans ?_
      refine (s_getfR 97 mc_122 dX10_sly_94 rfl mo_122 fs_10_18 ff_10_18 rfl).trans ?_
      refine gR_c fun g6 => ?_
      refine (s_aload_n 98 mc_122 dX10_sly_97 rfl rfl rfl).trans ?_
      refine (s_iload 100 mc_122 dX10_sly_98 rfl rfl).trans ?_
      refine (s_iviR 103 mc_122 dX10_sly_100 rfl mo_122 mm_10_309 (by decide) ms_123 mi_123 mr_123 ma_123 mo_123 (by decide) (Nat.le_of_ble_eq_true rfl) rfl rfl (Nat.le_of_ble_eq_true rfl)).trans ?_
      refine gd_c ?_
      refine bR_c fun r7 h1 => ?_
      refine (s_iviJ 106 mc_122 dX10_sly_103 rfl mo_122 mm_10_212 (by decide) ms_21 mi_21 mr_21 ma_21 mo_21 (by decide) (Nat.le_of_ble_eq_true rfl) rfl rfl (Nat.le_of_ble_eq_true rfl)).trans ?_
      refine gd_c ?_
      refine bJ_c fun r8 h2 => ?_
      refine (s_aload_n 107 mc_122 dX10_sly_106 rfl rfl rfl).trans ?_
      refine (s_getfR 110 mc_122 dX10_sly_107 rfl mo_122 fs_10_39 ff_10_39 rfl).trans ?_
      refine gR_c fun g9 => ?_
      refine (s_iload 112 mc_122 dX10_sly_110 rfl rfl).trans ?_
      refine (s_iviJ 115 mc_122 dX10_sly_112 rfl mo_122 mm_10_313 (by decide) ms_36 mi_36 mr_36 ma_36 mo_36 (by decide) (Nat.le_of_ble_eq_true rfl) rfl rfl (Nat.le_of_ble_eq_true rfl)).trans ?_
      refine gd_c ?_
      refine bJ_c fun r10 h3 => ?_
      refine (s_ladd 116 mc_122 dX10_sly_115 rfl).trans ?_
      refine (s_lstore 118 mc_122 dX10_sly_116 rfl (Nat.le_of_ble_eq_true rfl) rfl).trans ?_
      refine (s_lload 120 mc_122 dX10_sly_118 rfl rfl rfl).trans ?_
      refine (s_lload 122 mc_122 dX10_sly_120 rfl rfl rfl).trans ?_
      refine (s_lcmp 123 mc_122 dX10_sly_122 rfl).trans ?_
      refine (s_if_ge 134 126 mc_122 dX10_sly_123 rfl rfl).trans ?_
      refine ite_c ?_ ?_
      · skip
        refine (s_iinc 1 137 mc_122 dX10_sly_134 rfl rfl (Nat.le_of_ble_eq_true rfl) (by decide) rfl).trans ?_
        refine (s_goto 66 mc_122 dX10_sly_137 rfl).trans ?_
        rfl
      · skip
        refine (s_lload 128 mc_122 dX10_sly_126 rfl rfl rfl).trans ?_
        refine (s_lstore 130 mc_122 dX10_sly_128 rfl (Nat.le_of_ble_eq_true rfl) rfl).trans ?_
        refine (s_iload 132 mc_122 dX10_sly_130 rfl rfl).trans ?_
        refine (s_istore 134 mc_122 dX10_sly_132 rfl (Nat.le_of_ble_eq_true rfl) rfl).trans ?_
        refine (s_iinc 1 137 mc_122 dX10_sly_134 rfl rfl (Nat.le_of_ble_eq_true rfl) (by decide) rfl).trans ?_
        refine (s_goto 66 mc_122 dX10_sly_137 rfl).trans ?_
        rfl
/-- FiveLands.turn(I)LFiveLands$Sum; -/
theorem k_123 {X : Ctx} {d : Nat} (x0 : Nat) (x1 : Int32) (h : Hp) : K X (d + 1) 123 [.ref x0, .int x1] h = gR h 10 x0 0 fun g1 => aR h g1 0 fun g2 => gR h 9 g2 2 fun g3 => gR h 10 x0 4 fun g4 => gR h 4 g4 2 fun g5 => aI X h g5 x1 fun g6 => aR h g3 g6 fun g7 => gR h 10 x0 10 fun g8 => fI h 8 g8 0 5 fun h1 => gR h1 10 x0 10 fun g9 => gI h1 8 g7 1 fun g10 => fI h1 8 g9 1 g10 fun h2 => gR h2 10 x0 10 fun g11 => gI h2 8 g7 2 fun g12 => fI h2 8 g11 2 g12 fun h3 => gR h3 10 x0 10 fun g13 => gR h3 10 x0 4 fun g14 => gR h3 4 g14 3 fun g15 => aI X h3 g15 x1 fun g16 => fI h3 8 g13 3 g16 fun h4 => gR h4 10 x0 10 fun g17 => gR h4 10 x0 4 fun g18 => gR h4 4 g18 3 fun g19 => aI X h4 g19 x1 fun g20 => fI h4 8 g17 4 g20 fun h5 => gR h5 10 x0 10 fun g21 => some (some (.ref g21), h5) := by
  show sem (X, K X d) 123 0 [some (.ref x0), some (.int x1), none] [] h = _
  refine (s_aload_n 1 mc_123 dX10_turn_0 rfl rfl rfl).trans ?_
  refine (s_getfR 4 mc_123 dX10_turn_1 rfl mo_123 fs_10_11 ff_10_11 rfl).trans ?_
  refine gR_c fun g1 => ?_
  refine (s_iconst 5 0 mc_123 dX10_turn_4 rfl (by decide)).trans ?_
  refine (s_aaload 6 mc_123 dX10_turn_5 rfl).trans ?_
  refine aR_c fun g2 => ?_
  refine (s_getfR 9 mc_123 dX10_turn_6 rfl mo_123 fs_10_119 ff_10_119 rfl).trans ?_
  refine gR_c fun g3 => ?_
  refine (s_aload_n 10 mc_123 dX10_turn_9 rfl rfl rfl).trans ?_
  refine (s_getfR 13 mc_123 dX10_turn_10 rfl mo_123 fs_10_39 ff_10_39 rfl).trans ?_
  refine gR_c fun g4 => ?_
  refine (s_getfR 16 mc_123 dX10_turn_13 rfl mo_123 fs_10_300 ff_10_300 rfl).trans ?_
  refine gR_c fun g5 => ?_
  refine (s_iload_n 17 mc_123 dX10_turn_16 rfl rfl rfl).trans ?_
  refine (s_iaload 18 mc_123 dX10_turn_17 rfl).trans ?_
  refine aI_c fun g6 => ?_
  refine (s_aaload 19 mc_123 dX10_turn_18 rfl).trans ?_
  refine aR_c fun g7 => ?_
  refine (s_astore_n 20 mc_123 dX10_turn_19 rfl rfl (Nat.le_of_ble_eq_true rfl) rfl).trans ?_
  refine (s_aload_n 21 mc_123 dX10_turn_20 rfl rfl rfl).trans ?_
  refine (s_getfR 24 mc_123 dX10_turn_21 rfl mo_123 fs_10_71 ff_10_71 rfl).trans ?_
  refine gR_c fun g8 => ?_
  refine (s_iconst 25 5 mc_123 dX10_turn_24 rfl (by decide)).trans ?_
  refine (s_putfI 28 mc_123 dX10_turn_25 rfl mo_123 ff_10_123 rfl (Or.inl rfl)).trans ?_
  refine fI_c fun h1 => ?_
  refine (s_aload_n 29 mc_123 dX10_turn_28 rfl rfl rfl).trans ?_
  refine (s_getfR 32 mc_123 dX10_turn_29 rfl mo_123 fs_10_71 ff_10_71 rfl).trans ?_
  refine gR_c fun g9 => ?_
  refine (s_aload_n 33 mc_123 dX10_turn_32 rfl rfl rfl).trans ?_
  refine (s_getfI 36 mc_123 dX10_turn_33 rfl mo_123 fs_10_126 ff_10_126 (Or.inl rfl)).trans ?_
  refine gI_c fun g10 => ?_
  refine (s_putfI 39 mc_123 dX10_turn_36 rfl mo_123 ff_10_126 rfl (Or.inl rfl)).trans ?_
  refine fI_c fun h2 => ?_
  refine (s_aload_n 40 mc_123 dX10_turn_39 rfl rfl rfl).trans ?_
  refine (s_getfR 43 mc_123 dX10_turn_40 rfl mo_123 fs_10_71 ff_10_71 rfl).trans ?_
  refine gR_c fun g11 => ?_
  refine (s_aload_n 44 mc_123 dX10_turn_43 rfl rfl rfl).trans ?_
  refine (s_getfI 47 mc_123 dX10_turn_44 rfl mo_123 fs_10_129 ff_10_129 (Or.inl rfl)).trans ?_
  refine gI_c fun g12 => ?_
  refine (s_putfI 50 mc_123 dX10_turn_47 rfl mo_123 ff_10_129 rfl (Or.inl rfl)).trans ?_
  refine fI_c fun h3 => ?_
  refine (s_aload_n 51 mc_123 dX10_turn_50 rfl rfl rfl).trans ?_
  refine (s_getfR 54 mc_123 dX10_turn_51 rfl mo_123 fs_10_71 ff_10_71 rfl).trans ?_
  refine gR_c fun g13 => ?_
  refine (s_aload_n 55 mc_123 dX10_turn_54 rfl rfl rfl).trans ?_
  refine (s_getfR 58 mc_123 dX10_turn_55 rfl mo_123 fs_10_39 ff_10_39 rfl).trans ?_
  refine gR_c fun g14 => ?_
  refine (s_getfR 61 mc_123 dX10_turn_58 rfl mo_123 fs_10_303 ff_10_303 rfl).trans ?_
  refine gR_c fun g15 => ?_
  refine (s_iload_n 62 mc_123 dX10_turn_61 rfl rfl rfl).trans ?_
  refine (s_iaload 63 mc_123 dX10_turn_62 rfl).trans ?_
  refine aI_c fun g16 => ?_
  refine (s_putfI 66 mc_123 dX10_turn_63 rfl mo_123 ff_10_132 rfl (Or.inl rfl)).trans ?_
  refine fI_c fun h4 => ?_
  refine (s_aload_n 67 mc_123 dX10_turn_66 rfl rfl rfl).trans ?_
  refine (s_getfR 70 mc_123 dX10_turn_67 rfl mo_123 fs_10_71 ff_10_71 rfl).trans ?_
  refine gR_c fun g17 => ?_
  refine (s_aload_n 71 mc_123 dX10_turn_70 rfl rfl rfl).trans ?_
  refine (s_getfR 74 mc_123 dX10_turn_71 rfl mo_123 fs_10_39 ff_10_39 rfl).trans ?_
  refine gR_c fun g18 => ?_
  refine (s_getfR 77 mc_123 dX10_turn_74 rfl mo_123 fs_10_303 ff_10_303 rfl).trans ?_
  refine gR_c fun g19 => ?_
  refine (s_iload_n 78 mc_123 dX10_turn_77 rfl rfl rfl).trans ?_
  refine (s_iaload 79 mc_123 dX10_turn_78 rfl).trans ?_
  refine aI_c fun g20 => ?_
  refine (s_putfI 82 mc_123 dX10_turn_79 rfl mo_123 ff_10_135 rfl (Or.inl rfl)).trans ?_
  refine fI_c fun h5 => ?_
  refine (s_aload_n 83 mc_123 dX10_turn_82 rfl rfl rfl).trans ?_
  refine (s_getfR 86 mc_123 dX10_turn_83 rfl mo_123 fs_10_71 ff_10_71 rfl).trans ?_
  refine gR_c fun g21 => ?_
  exact s_aret mc_123 dX10_turn_86 mt_123
/-- FiveLands.word(IIII)I -/
theorem k_124 {X : Ctx} {d : Nat} (x0 : Nat) (x1 : Int32) (x2 : Int32) (x3 : Int32) (x4 : Int32) (h : Hp) : K X (d + 1) 124 [.ref x0, .int x1, .int x2, .int x3, .int x4] h = bI (K X d 138 [.int x1] h) fun r1 h1 => if r1 = 0 then some (some (.int (-1)), h1) else bI (K X d 138 [.int x2] h1) fun r2 h2 => if r2 = 0 then some (some (.int (-1)), h2) else if x1 = x2 then some (some (.int (-1)), h2) else if x3 < 0 then some (some (.int (-1)), h2) else if 4 < x3 then some (some (.int (-1)), h2) else gR h2 10 x0 4 fun g3 => gI h2 4 g3 10 fun g4 => if g4 < 6 then if x3 = 1 then if x4 < 0 then some (some (.int (-1)), h2) else if x4 < 6 then sem (X, K X d) 124 66 [some (.ref x0), some (.int x1), some (.int x2), some (.int x3), some (.int x4)] [] h2 else some (some (.int (-1)), h2) else if ¬ x3 = 2 then sem (X, K X d) 124 66 [some (.ref x0), some (.int x1), some (.int x2), some (.int x3), some (.int x4)] [] h2 else if x4 < 0 then some (some (.int (-1)), h2) else if x4 < 6 then sem (X, K X d) 124 66 [some (.ref x0), some (.int x1), some (.int x2), some (.int x3), some (.int x4)] [] h2 else some (some (.int (-1)), h2) else some (some (.int (-1)), h2) := by
  show sem (X, K X d) 124 0 [some (.ref x0), some (.int x1), some (.int x2), some (.int x3), some (.int x4)] [] h = _
  refine (s_iload_n 1 mc_124 dX10_word_0 rfl rfl rfl).trans ?_
  refine (s_istI 4 mc_124 dX10_word_1 rfl mo_124 mm_10_99 (by decide) ms_138 mr_138 ma_138 (Nat.le_of_ble_eq_true rfl) rfl rfl (Nat.le_of_ble_eq_true rfl)).trans ?_
  refine bI_c fun r1 h1 => ?_
  refine (s_if_eq 40 7 mc_124 dX10_word_4 rfl rfl).trans ?_
  refine ite_c ?_ ?_
  · skip
    refine (s_iconst 41 (-1) mc_124 dX10_word_40 rfl (by decide)).trans ?_
    exact s_iret mc_124 dX10_word_41 mt_124
  · skip
    refine (s_iload_n 8 mc_124 dX10_word_7 rfl rfl rfl).trans ?_
    refine (s_istI 11 mc_124 dX10_word_8 rfl mo_124 mm_10_99 (by decide) ms_138 mr_138 ma_138 (Nat.le_of_ble_eq_true rfl) rfl rfl (Nat.le_of_ble_eq_true rfl)).trans ?_
    refine bI_c fun r2 h2 => ?_
    refine (s_if_eq 40 14 mc_124 dX10_word_11 rfl rfl).trans ?_
    refine ite_c ?_ ?_
    · skip
      refine (s_iconst 41 (-1) mc_124 dX10_word_40 rfl (by decide)).trans ?_
      exact s_iret mc_124 dX10_word_41 mt_124
    · skip
      refine (s_iload_n 15 mc_124 dX10_word_14 rfl rfl rfl).trans ?_
      refine (s_iload_n 16 mc_124 dX10_word_15 rfl rfl rfl).trans ?_
      refine (s_icmp_eq 40 19 mc_124 dX10_word_16 rfl rfl).trans ?_
      refine ite_c ?_ ?_
      · skip
        refine (s_iconst 41 (-1) mc_124 dX10_word_40 rfl (by decide)).trans ?_
        exact s_iret mc_124 dX10_word_41 mt_124
      · skip
        refine (s_iload_n 20 mc_124 dX10_word_19 rfl rfl rfl).trans ?_
        refine (s_if_lt 40 23 mc_124 dX10_word_20 rfl rfl).trans ?_
        refine ite_c ?_ ?_
        · skip
          refine (s_iconst 41 (-1) mc_124 dX10_word_40 rfl (by decide)).trans ?_
          exact s_iret mc_124 dX10_word_41 mt_124
        · skip
          refine (s_iload_n 24 mc_124 dX10_word_23 rfl rfl rfl).trans ?_
          refine (s_iconst 25 4 mc_124 dX10_word_24 rfl (by decide)).trans ?_
          refine (s_icmp_gt 40 28 mc_124 dX10_word_25 rfl rfl).trans ?_
          refine ite_c ?_ ?_
          · skip
            refine (s_iconst 41 (-1) mc_124 dX10_word_40 rfl (by decide)).trans ?_
            exact s_iret mc_124 dX10_word_41 mt_124
          · skip
            refine (s_aload_n 29 mc_124 dX10_word_28 rfl rfl rfl).trans ?_
            refine (s_getfR 32 mc_124 dX10_word_29 rfl mo_124 fs_10_39 ff_10_39 rfl).trans ?_
            refine gR_c fun g3 => ?_
            refine (s_getfI 35 mc_124 dX10_word_32 rfl mo_124 fs_10_317 ff_10_317 (Or.inl rfl)).trans ?_
            refine gI_c fun g4 => ?_
            refine (s_bipush 37 6 mc_124 dX10_word_35 rfl (by decide)).trans ?_
            refine (s_icmp_lt 42 40 mc_124 dX10_word_37 rfl rfl).trans ?_
            refine ite_c ?_ ?_
            · skip
              refine (s_iload_n 43 mc_124 dX10_word_42 rfl rfl rfl).trans ?_
              refine (s_iconst 44 1 mc_124 dX10_word_43 rfl (by decide)).trans ?_
              refine (s_icmp_eq 52 47 mc_124 dX10_word_44 rfl rfl).trans ?_
              refine ite_c ?_ ?_
              · skip
                refine (s_iload 54 mc_124 dX10_word_52 rfl rfl).trans ?_
                refine (s_if_lt 64 57 mc_124 dX10_word_54 rfl rfl).trans ?_
                refine ite_c ?_ ?_
                · skip
                  refine (s_iconst 65 (-1) mc_124 dX10_word_64 rfl (by decide)).trans ?_
                  exact s_iret mc_124 dX10_word_65 mt_124
                · skip
                  refine (s_iload 59 mc_124 dX10_word_57 rfl rfl).trans ?_
                  refine (s_bipush 61 6 mc_124 dX10_word_59 rfl (by decide)).trans ?_
                  refine (s_icmp_lt 66 64 mc_124 dX10_word_61 rfl rfl).trans ?_
                  refine ite_c ?_ ?_
                  · skip
                    rfl
                  · skip
                    refine (s_iconst 65 (-1) mc_124 dX10_word_64 rfl (by decide)).trans ?_
                    exact s_iret mc_124 dX10_word_65 mt_124
              · skip
                refine (s_iload_n 48 mc_124 dX10_word_47 rfl rfl rfl).trans ?_
                refine (s_iconst 49 2 mc_124 dX10_word_48 rfl (by decide)).trans ?_
                refine (s_icmp_ne 66 52 mc_124 dX10_word_49 rfl rfl).trans ?_
                refine ite_c ?_ ?_
                · skip
                  rfl
                · skip
                  refine (s_iload 54 mc_124 dX10_word_52 rfl rfl).trans ?_
                  refine (s_if_lt 64 57 mc_124 dX10_word_54 rfl rfl).trans ?_
                  refine ite_c ?_ ?_
                  · skip
                    refine (s_iconst 65 (-1) mc_124 dX10_word_64 rfl (by decide)).trans ?_
                    exact s_iret mc_124 dX10_word_65 mt_124
                  · skip
                    refine (s_iload 59 mc_124 dX10_word_57 rfl rfl).trans ?_
                    refine (s_bipush 61 6 mc_124 dX10_word_59 rfl (by decide)).trans ?_
                    refine (s_icmp_lt 66 64 mc_124 dX10_word_61 rfl rfl).trans ?_
                    refine ite_c ?_ ?_
                    · skip
                      rfl
                    · skip
                      refine (s_iconst 65 (-1) mc_124 dX10_word_64 rfl (by decide)).trans ?_
                      exact s_iret mc_124 dX10_word_65 mt_124
            · skip
              refine (s_iconst 41 (-1) mc_124 dX10_word_40 rfl (by decide)).trans ?_
              exact s_iret mc_124 dX10_word_41 mt_124
theorem b_124_66 {X : Ctx} {d : Nat} (x0 : Nat) (x1 : Int32) (x2 : Int32) (x3 : Int32) (x4 : Int32)  (h : Hp) : sem (X, K X d) 124 66 [some (.ref x0), some (.int x1), some (.int x2), some (.int x3), some (.int x4)] [] h = gR h 10 x0 4 fun g1 => gR h 4 g1 5 fun g2 => gR h 10 x0 4 fun g3 => gI h 4 g3 10 fun g4 => bI (K X d 141 [.int x1, .int x2] h) fun r5 h1 => wI h1 g2 g4 r5 fun h2 => gR h2 10 x0 4 fun g6 => gR h2 4 g6 6 fun g7 => gR h2 10 x0 4 fun g8 => gI h2 4 g8 10 fun g9 => wI h2 g7 g9 x3 fun h3 => gR h3 10 x0 4 fun g10 => gR h3 4 g10 7 fun g11 => gR h3 10 x0 4 fun g12 => gI h3 4 g12 10 fun g13 => wI h3 g11 g13 x4 fun h4 => gR h4 10 x0 4 fun g14 => gI h4 4 g14 10 fun g15 => fI h4 4 g14 10 (g15 + 1) fun h5 => gR h5 10 x0 4 fun g16 => gI h5 4 g16 10 fun g17 => some (some (.int (g17 - 1)), h5) := by
  refine (s_aload_n 67 mc_124 dX10_word_66 rfl rfl rfl).trans ?_
  refine (s_getfR 70 mc_124 dX10_word_67 rfl mo_124 fs_10_39 ff_10_39 rfl).trans ?_
  refine gR_c fun g1 => ?_
  refine (s_getfR 73 mc_124 dX10_word_70 rfl mo_124 fs_10_320 ff_10_320 rfl).trans ?_
  refine gR_c fun g2 => ?_
  refine (s_aload_n 74 mc_124 dX10_word_73 rfl rfl rfl).trans ?_
  refine (s_getfR 77 mc_124 dX10_word_74 rfl mo_124 fs_10_39 ff_10_39 rfl).trans ?_
  refine gR_c fun g3 => ?_
  refine (s_getfI 80 mc_124 dX10_word_77 rfl mo_124 fs_10_317 ff_10_317 (Or.inl rfl)).trans ?_
  refine gI_c fun g4 => ?_
  refine (s_iload_n 81 mc_124 dX10_word_80 rfl rfl rfl).trans ?_
  refine (s_iload_n 82 mc_124 dX10_word_81 rfl rfl rfl).trans ?_
  refine (s_istI 85 mc_124 dX10_word_82 rfl mo_124 mm_10_156 (by decide) ms_141 mr_141 ma_141 (Nat.le_of_ble_eq_true rfl) rfl rfl (Nat.le_of_ble_eq_true rfl)).trans ?_
  refine bI_c fun r5 h1 => ?_
  refine (s_iastore 86 mc_124 dX10_word_85 rfl).trans ?_
  refine wI_c fun h2 => ?_
  refine (s_aload_n 87 mc_124 dX10_word_86 rfl rfl rfl).trans ?_
  refine (s_getfR 90 mc_124 dX10_word_87 rfl mo_124 fs_10_39 ff_10_39 rfl).trans ?_
  refine gR_c fun g6 => ?_
  refine (s_getfR 93 mc_124 dX10_word_90 rfl mo_124 fs_10_323 ff_10_323 rfl).trans ?_
  refine gR_c fun g7 => ?_
  refine (s_aload_n 94 mc_124 dX10_word_93 rfl rfl rfl).trans ?_
  refine (s_getfR 97 mc_124 dX10_word_94 rfl mo_124 fs_10_39 ff_10_39 rfl).trans ?_
  refine gR_c fun g8 => ?_
  refine (s_getfI 100 mc_124 dX10_word_97 rfl mo_124 fs_10_317 ff_10_317 (Or.inl rfl)).trans ?_
  refine gI_c fun g9 => ?_
  refine (s_iload_n 101 mc_124 dX10_word_100 rfl rfl rfl).trans ?_
  refine (s_iastore 102 mc_124 dX10_word_101 rfl).trans ?_
  refine wI_c fun h3 => ?_
  refine (s_aload_n 103 mc_124 dX10_word_102 rfl rfl rfl).trans ?_
  refine (s_getfR 106 mc_124 dX10_word_103 rfl mo_124 fs_10_39 ff_10_39 rfl).trans ?_
  refine gR_c fun g10 => ?_
  refine (s_getfR 109 mc_124 dX10_word_106 rfl mo_124 fs_10_326 ff_10_326 rfl).trans ?_
  refine gR_c fun g11 => ?_
  refine (s_aload_n 110 mc_124 dX10_word_109 rfl rfl rfl).trans ?_
  refine (s_getfR 113 mc_124 dX10_word_110 rfl mo_124 fs_10_39 ff_10_39 rfl).trans ?_
  refine gR_c fun g12 => ?_
  refine (s_getfI 116 mc_124 dX10_word_113 rfl mo_124 fs_10_317 ff_10_317 (Or.inl rfl)).trans ?_
  refine gI_c fun g13 => ?_
  refine (s_iload 118 mc_124 dX10_word_116 rfl rfl).trans ?_
  refine (s_iastore 119 mc_124 dX10_word_118 rfl).trans ?_
  refine wI_c fun h4 => ?_
  refine (s_aload_n 120 mc_124 dX10_word_119 rfl rfl rfl).trans ?_
  refine (s_getfR 123 mc_124 dX10_word_120 rfl mo_124 fs_10_39 ff_10_39 rfl).trans ?_
  refine gR_c fun g14 => ?_
  refine (s_dup 124 mc_124 dX10_word_123 rfl rfl).trans ?_
  refine (s_getfI 127 mc_124 dX10_word_124 rfl mo_124 fs_10_317 ff_10_317 (Or.inl rfl)).trans ?_
  refine gI_c fun g15 => ?_
  refine (s_iconst 128 1 mc_124 dX10_word_127 rfl (by decide)).trans ?_
  refine (s_iadd 129 mc_124 dX10_word_128 rfl).trans ?_
  refine (s_putfI 132 mc_124 dX10_word_129 rfl mo_124 ff_10_317 rfl (Or.inl rfl)).trans ?_
  refine fI_c fun h5 => ?_
  refine (s_aload_n 133 mc_124 dX10_word_132 rfl rfl rfl).trans ?_
  refine (s_getfR 136 mc_124 dX10_word_133 rfl mo_124 fs_10_39 ff_10_39 rfl).trans ?_
  refine gR_c fun g16 => ?_
  refine (s_getfI 139 mc_124 dX10_word_136 rfl mo_124 fs_10_317 ff_10_317 (Or.inl rfl)).trans ?_
  refine gI_c fun g17 => ?_
  refine (s_iconst 140 1 mc_124 dX10_word_139 rfl (by decide)).trans ?_
  refine (s_isub 141 mc_124 dX10_word_140 rfl).trans ?_
  exact s_iret mc_124 dX10_word_141 mt_124
/-- FiveLands.mend()I -/
theorem k_125 {X : Ctx} {d : Nat} (x0 : Nat) (h : Hp) : K X (d + 1) 125 [.ref x0] h = gd (hS h x0 = (11, 0)) (bV (K X d 136 [.ref x0, .int 1] h) fun h1 => gR h1 10 x0 8 fun g1 => gR h1 10 x0 0 fun g2 => aR h1 g2 1 fun g3 => gd (hS h1 g1 = (3, 0)) (bJ (K X d 20 [.ref g1, .ref g3] h1) fun r4 h2 => sem (X, K X d) 125 21 [some (.ref x0), some (.long r4), none, some (.int 0), none] [] h2)) := by
  show sem (X, K X d) 125 0 [some (.ref x0), none, none, none, none] [] h = _
  refine (s_aload_n 1 mc_125 dX10_mend_0 rfl rfl rfl).trans ?_
  refine (s_iconst 2 1 mc_125 dX10_mend_1 rfl (by decide)).trans ?_
  refine (s_iviV 5 mc_125 dX10_mend_2 rfl mo_125 mm_10_166 (by decide) ms_136 mi_136 mr_136 ma_136 mo_136 (by decide) (Nat.le_of_ble_eq_true rfl) rfl rfl (Nat.le_of_ble_eq_true rfl)).trans ?_
  refine gd_c ?_
  refine bV_c fun h1 => ?_
  refine (s_aload_n 6 mc_125 dX10_mend_5 rfl rfl rfl).trans ?_
  refine (s_getfR 9 mc_125 dX10_mend_6 rfl mo_125 fs_10_18 ff_10_18 rfl).trans ?_
  refine gR_c fun g1 => ?_
  refine (s_aload_n 10 mc_125 dX10_mend_9 rfl rfl rfl).trans ?_
  refine (s_getfR 13 mc_125 dX10_mend_10 rfl mo_125 fs_10_11 ff_10_11 rfl).trans ?_
  refine gR_c fun g2 => ?_
  refine (s_iconst 14 1 mc_125 dX10_mend_13 rfl (by decide)).trans ?_
  refine (s_aaload 15 mc_125 dX10_mend_14 rfl).trans ?_
  refine aR_c fun g3 => ?_
  refine (s_iviJ 18 mc_125 dX10_mend_15 rfl mo_125 mm_10_233 (by decide) ms_20 mi_20 mr_20 ma_20 mo_20 (by decide) (Nat.le_of_ble_eq_true rfl) rfl rfl (Nat.le_of_ble_eq_true rfl)).trans ?_
  refine gd_c ?_
  refine bJ_c fun r4 h2 => ?_
  refine (s_lstore_n 19 mc_125 dX10_mend_18 rfl rfl (Nat.le_of_ble_eq_true rfl) rfl).trans ?_
  refine (s_iconst 20 0 mc_125 dX10_mend_19 rfl (by decide)).trans ?_
  refine (s_istore_n 21 mc_125 dX10_mend_20 rfl rfl (Nat.le_of_ble_eq_true rfl) rfl).trans ?_
  rfl
theorem b_125_21 {X : Ctx} {d : Nat} (x0 : Nat) (v1 : Option Value) (v2 : Option Value) (x3 : Int32) (v4 : Option Value)  (h : Hp) : sem (X, K X d) 125 21 [some (.ref x0), v1, v2, some (.int x3), v4] [] h = gR h 10 x0 4 fun g1 => gI h 4 g1 10 fun g2 => if g2 < x3 then some (some (.int (-1)), h) else sem (X, K X d) 125 35 [some (.ref x0), v1, v2, some (.int x3), some (.int 0)] [] h := by
  refine (s_iload_n 22 mc_125 dX10_mend_21 rfl rfl rfl).trans ?_
  refine (s_aload_n 23 mc_125 dX10_mend_22 rfl rfl rfl).trans ?_
  refine (s_getfR 26 mc_125 dX10_mend_23 rfl mo_125 fs_10_39 ff_10_39 rfl).trans ?_
  refine gR_c fun g1 => ?_
  refine (s_getfI 29 mc_125 dX10_mend_26 rfl mo_125 fs_10_317 ff_10_317 (Or.inl rfl)).trans ?_
  refine gI_c fun g2 => ?_
  refine (s_icmp_gt 93 32 mc_125 dX10_mend_29 rfl rfl).trans ?_
  refine ite_c ?_ ?_
  · skip
    refine (s_iconst 94 (-1) mc_125 dX10_mend_93 rfl (by decide)).trans ?_
    exact s_iret mc_125 dX10_mend_94 mt_125
  · skip
    refine (s_iconst 33 0 mc_125 dX10_mend_32 rfl (by decide)).trans ?_
    refine (s_istore 35 mc_125 dX10_mend_33 rfl (Nat.le_of_ble_eq_true rfl) rfl).trans ?_
    rfl
theorem b_125_35 {X : Ctx} {d : Nat} (x0 : Nat) (x1 : Int64) (x3 : Int32) (x4 : Int32)  (h : Hp) : sem (X, K X d) 125 35 [some (.ref x0), some (.long x1), none, some (.int x3), some (.int x4)] [] h = gR h 10 x0 4 fun g1 => gI h 4 g1 10 fun g2 => if (1 <<< (g2 &&& 31)) ≤ x4 then sem (X, K X d) 125 21 [some (.ref x0), some (.long x1), none, some (.int (x3 + 1)), some (.int x4)] [] h else bI (K X d 234 [.int x4] h) fun r3 h1 => if ¬ r3 = x3 then sem (X, K X d) 125 35 [some (.ref x0), some (.long x1), none, some (.int x3), some (.int (x4 + 1))] [] h1 else gd (hS h1 x0 = (11, 0)) (bI (K X d 126 [.ref x0, .int x4] h1) fun r4 h2 => if r4 = 0 then sem (X, K X d) 125 35 [some (.ref x0), some (.long x1), none, some (.int x3), some (.int (x4 + 1))] [] h2 else gd (hS h2 x0 = (11, 0)) (bJ (K X d 128 [.ref x0, .int x4] h2) fun r5 h3 => if 0 < (lg_cmp r5 x1) then sem (X, K X d) 125 35 [some (.ref x0), some (.long x1), none, some (.int x3), some (.int (x4 + 1))] [] h3 else some (some (.int x4), h3))) := by
  refine (s_iload 37 mc_125 dX10_mend_35 rfl rfl).trans ?_
  refine (s_iconst 38 1 mc_125 dX10_mend_37 rfl (by decide)).trans ?_
  refine (s_aload_n 39 mc_125 dX10_mend_38 rfl rfl rfl).trans ?_
  refine (s_getfR 42 mc_125 dX10_mend_39 rfl mo_125 fs_10_39 ff_10_39 rfl).trans ?_
  refine gR_c fun g1 => ?_
  refine (s_getfI 45 mc_125 dX10_mend_42 rfl mo_125 fs_10_317 ff_10_317 (Or.inl rfl)).trans ?_
  refine gI_c fun g2 => ?_
  refine (s_ishl 46 mc_125 dX10_mend_45 rfl).trans ?_
  refine (s_icmp_ge 87 49 mc_125 dX10_mend_46 rfl rfl).trans ?_
  refine ite_c ?_ ?_
  · skip
    refine (s_iinc 1 90 mc_125 dX10_mend_87 rfl rfl (Nat.le_of_ble_eq_true rfl) (by decide) rfl).trans ?_
    refine (s_goto 21 mc_125 dX10_mend_90 rfl).trans ?_
    rfl
  · skip
    refine (s_iload 51 mc_125 dX10_mend_49 rfl rfl).trans ?_
    refine (s_istI 54 mc_125 dX10_mend_51 rfl mo_125 mm_10_329 (by decide) ms_234 mr_234 ma_234 (Nat.le_of_ble_eq_true rfl) rfl rfl (Nat.le_of_ble_eq_true rfl)).trans ?_
    refine bI_c fun r3 h1 => ?_
    refine (s_iload_n 55 mc_125 dX10_mend_54 rfl rfl rfl).trans ?_
    refine (s_icmp_ne 81 58 mc_125 dX10_mend_55 rfl rfl).trans ?_
    refine ite_c ?_ ?_
    · skip
      refine (s_iinc 1 84 mc_125 dX10_mend_81 rfl rfl (Nat.le_of_ble_eq_true rfl) (by decide) rfl).trans ?_
      refine (s_goto 35 mc_125 dX10_mend_84 rfl).trans ?_
      rfl
    · skip
      refine (s_aload_n 59 mc_125 dX10_mend_58 rfl rfl rfl).trans ?_
      refine (s_iload 61 mc_125 dX10_mend_59 rfl rfl).trans ?_
      refine (s_iviI 64 mc_125 dX10_mend_61 rfl mo_125 mm_10_334 (by decide) ms_126 mi_126 mr_126 ma_126 mo_126 (by decide) (Nat.le_of_ble_eq_true rfl) rfl rfl (Nat.le_of_ble_eq_true rfl)).trans ?_
      refine gd_c ?_
      refine bI_c fun r4 h2 => ?_
      refine (s_if_eq 81 67 mc_125 dX10_mend_64 rfl rfl).trans ?_
      refine ite_c ?_ ?_
      · skip
        refine (s_iinc 1 84 mc_125 dX10_mend_81 rfl rfl (Nat.le_of_ble_eq_true rfl) (by decide) rfl).trans ?_
        refine (s_goto 35 mc_125 dX10_mend_84 rfl).trans ?_
        rfl
      · skip
        refine (s_aload_n 68 mc_125 dX10_mend_67 rfl rfl rfl).trans ?_
        refine (s_iload 70 mc_125 dX10_mend_68 rfl rfl).trans ?_
        refine (s_iviJ 73 mc_125 dX10_mend_70 rfl mo_125 mm_10_337 (by decide) ms_128 mi_128 mr_128 ma_128 mo_128 (by decide) (Nat.le_of_ble_eq_true rfl) rfl rfl (Nat.le_of_ble_eq_true rfl)).trans ?_
        refine gd_c ?_
        refine bJ_c fun r5 h3 => ?_
        refine (s_lload_n 74 mc_125 dX10_mend_73 rfl rfl rfl rfl).trans ?_
        refine (s_lcmp 75 mc_125 dX10_mend_74 rfl).trans ?_
        refine (s_if_gt 81 78 mc_125 dX10_mend_75 rfl rfl).trans ?_
        refine ite_c ?_ ?_
        · skip
          refine (s_iinc 1 84 mc_125 dX10_mend_81 rfl rfl (Nat.le_of_ble_eq_true rfl) (by decide) rfl).trans ?_
          refine (s_goto 35 mc_125 dX10_mend_84 rfl).trans ?_
          rfl
        · skip
          refine (s_iload 80 mc_125 dX10_mend_78 rfl rfl).trans ?_
          exact s_iret mc_125 dX10_mend_80 mt_125
/-- FiveLands.closes(I)Z -/
theorem k_126 {X : Ctx} {d : Nat} (x0 : Nat) (x1 : Int32) (h : Hp) : K X (d + 1) 126 [.ref x0, .int x1] h = gd (hS h x0 = (11, 0)) (bV (K X d 136 [.ref x0, .int 0] h) fun h1 => gd (hS h1 x0 = (11, 0)) (bV (K X d 129 [.ref x0, .int x1] h1) fun h2 => sem (X, K X d) 126 12 [some (.ref x0), some (.int x1), some (.int 0), none, none] [] h2)) := by
  show sem (X, K X d) 126 0 [some (.ref x0), some (.int x1), none, none, none] [] h = _
  refine (s_aload_n 1 mc_126 dX10_closes_0 rfl rfl rfl).trans ?_
  refine (s_iconst 2 0 mc_126 dX10_closes_1 rfl (by decide)).trans ?_
  refine (s_iviV 5 mc_126 dX10_closes_2 rfl mo_126 mm_10_166 (by decide) ms_136 mi_136 mr_136 ma_136 mo_136 (by decide) (Nat.le_of_ble_eq_true rfl) rfl rfl (Nat.le_of_ble_eq_true rfl)).trans ?_
  refine gd_c ?_
  refine bV_c fun h1 => ?_
  refine (s_aload_n 6 mc_126 dX10_closes_5 rfl rfl rfl).trans ?_
  refine (s_iload_n 7 mc_126 dX10_closes_6 rfl rfl rfl).trans ?_
  refine (s_iviV 10 mc_126 dX10_closes_7 rfl mo_126 mm_10_340 (by decide) ms_129 mi_129 mr_129 ma_129 mo_129 (by decide) (Nat.le_of_ble_eq_true rfl) rfl rfl (Nat.le_of_ble_eq_true rfl)).trans ?_
  refine gd_c ?_
  refine bV_c fun h2 => ?_
  refine (s_iconst 11 0 mc_126 dX10_closes_10 rfl (by decide)).trans ?_
  refine (s_istore_n 12 mc_126 dX10_closes_11 rfl rfl (Nat.le_of_ble_eq_true rfl) rfl).trans ?_
  rfl
theorem b_126_12 {X : Ctx} {d : Nat} (x0 : Nat) (v1 : Option Value) (x2 : Int32) (v3 : Option Value) (v4 : Option Value)  (h : Hp) : sem (X, K X d) 126 12 [some (.ref x0), v1, some (.int x2), v3, v4] [] h = gR h 10 x0 4 fun g1 => gI h 4 g1 9 fun g2 => if g2 ≤ x2 then some (some (.int 1), h) else gR h 10 x0 8 fun g3 => gR h 10 x0 0 fun g4 => aR h g4 0 fun g5 => gR h 9 g5 2 fun g6 => gR h 10 x0 4 fun g7 => gR h 4 g7 2 fun g8 => aI X h g8 x2 fun g9 => aR h g6 g9 fun g10 => gd (hS h g3 = (3, 0)) (bJ (K X d 21 [.ref g3, .ref g10] h) fun r11 h1 => gR h1 10 x0 8 fun g12 => gd (hS h1 x0 = (11, 0)) (bR (K X d 123 [.ref x0, .int x2] h1) fun r13 h2 => gd (hS h2 g12 = (3, 0)) (bJ (K X d 21 [.ref g12, .ref r13] h2) fun r14 h3 => gR h3 10 x0 4 fun g15 => gd (hS h3 g15 = (5, 0)) (bJ (K X d 36 [.ref g15, .int x2] h3) fun r16 h4 => if 0 ≤ (lg_cmp (r14 + r16) r11) then sem (X, K X d) 126 12 [some (.ref x0), v1, some (.int (x2 + 1)), some (.long r11), none] [] h4 else some (some (.int 0), h4))))) := by
  refine (s_iload_n 13 mc_126 dX10_closes_12 rfl rfl rfl).trans ?_
  refine (s_aload_n 14 mc_126 dX10_closes_13 rfl rfl rfl).trans ?_
  refine (s_getfR 17 mc_126 dX10_closes_14 rfl mo_126 fs_10_39 ff_10_39 rfl).trans ?_
  refine gR_c fun g1 => ?_
  refine (s_getfI 20 mc_126 dX10_closes_17 rfl mo_126 fs_10_297 ff_10_297 (Or.inl rfl)).trans ?_
  refine gI_c fun g2 => ?_
  refine (s_icmp_ge 84 23 mc_126 dX10_closes_20 rfl rfl).trans ?_
  refine ite_c ?_ ?_
  · skip
    refine (s_iconst 85 1 mc_126 dX10_closes_84 rfl (by decide)).trans ?_
    exact s_zret1 mc_126 dX10_closes_85 mt_126
  · skip
    refine (s_aload_n 24 mc_126 dX10_closes_23 rfl rfl rfl).trans ?_
    refine (s_getfR 27 mc_126 dX10_closes_24 rfl mo_126 fs_10_18 ff_10_18 rfl).trans ?_
    refine gR_c fun g3 => ?_
    refine (s_aload_n 28 mc_126 dX10_closes_27 rfl rfl rfl).trans ?_
    refine (s_getfR 31 mc_126 dX10_closes_28 rfl mo_126 fs_10_11 ff_10_11 rfl).trans ?_
    refine gR_c fun g4 => ?_
    refine (s_iconst 32 0 mc_126 dX10_closes_31 rfl (by decide)).trans ?_
    refine (s_aaload 33 mc_126 dX10_closes_32 rfl).trans ?_
    refine aR_c fun g5 => ?_
    refine (s_getfR 36 mc_126 dX10_closes_33 rfl mo_126 fs_10_119 ff_10_119 rfl).trans ?_
    refine gR_c fun g6 => ?_
    refine (s_aload_n 37 mc_126 dX10_closes_36 rfl rfl rfl).trans ?_
    refine (s_getfR 40 mc_126 dX10_closes_37 rfl mo_126 fs_10_39 ff_10_39 rfl).trans ?_
    refine gR_c fun g7 => ?_
    refine (s_getfR 43 mc_126 dX10_closes_40 rfl mo_126 fs_10_300 ff_10_300 rfl).trans ?_
    refine gR_c fun g8 => ?_
    refine (s_iload_n 44 mc_126 dX10_closes_43 rfl rfl rfl).trans ?_
    refine (s_iaload 45 mc_126 dX10_closes_44 rfl).trans ?_
    refine aI_c fun g9 => ?_
    refine (s_aaload 46 mc_126 dX10_closes_45 rfl).trans ?_
    refine aR_c fun g10 => ?_
    refine (s_iviJ 49 mc_126 dX10_closes_46 rfl mo_126 mm_10_212 (by decide) ms_21 mi_21 mr_21 ma_21 mo_21 (by decide) (Nat.le_of_ble_eq_true rfl) rfl rfl (Nat.le_of_ble_eq_true rfl)).trans ?_
    refine gd_c ?_
    refine bJ_c fun r11 h1 => ?_
    refine (s_lstore_n 50 mc_126 dX10_closes_49 rfl rfl (Nat.le_of_ble_eq_true rfl) rfl).trans ?_
    refine (s_aload_n 51 mc_126 dX10_closes_50 rfl rfl rfl).trans ?_
    refine (s_getfR 54 mc_126 dX10_closes_51 rfl mo_126 fs_10_18 ff_10_18 rfl).trans ?_
    refine gR_c fun g12 => ?_
    refine (s_aload_n 55 mc_126 dX10_closes_54 rfl rfl rfl).trans ?_
    refine (s_iload_n 56 mc_126 dX10_closes_55 rfl rfl rfl).trans ?_
    refine (s_iviR 59 mc_126 dX10_closes_56 rfl mo_126 mm_10_309 (by decide) ms_123 mi_123 mr_123 ma_123 mo_123 (by decide) (Nat.le_of_ble_eq_true rfl) rfl rfl (Nat.le_of_ble_eq_true rfl)).trans ?_
    refine gd_c ?_
    refine bR_c fun r13 h2 => ?_
    refine (s_iviJ 62 mc_126 dX10_closes_59 rfl mo_126 mm_10_212 (by decide) ms_21 mi_21 mr_21 ma_21 mo_21 (by decide) (Nat.le_of_ble_eq_true rfl) rfl rfl (Nat.le_of_ble_eq_true rfl)).trans ?_
    refine gd_c ?_
    refine bJ_c fun r14 h3 => ?_
    refine (s_aload_n 63 mc_126 dX10_closes_62 rfl rfl rfl).trans ?_
    refine (s_getfR 66 mc_126 dX10_closes_63 rfl mo_126 fs_10_39 ff_10_39 rfl).trans ?_
    refine gR_c fun g15 => ?_
    refine (s_iload_n 67 mc_126 dX10_closes_66 rfl rfl rfl).trans ?_
    refine (s_iviJ 70 mc_126 dX10_closes_67 rfl mo_126 mm_10_313 (by decide) ms_36 mi_36 mr_36 ma_36 mo_36 (by decide) (Nat.le_of_ble_eq_true rfl) rfl rfl (Nat.le_of_ble_eq_true rfl)).trans ?_
    refine gd_c ?_
    refine bJ_c fun r16 h4 => ?_
    refine (s_ladd 71 mc_126 dX10_closes_70 rfl).trans ?_
    refine (s_lload_n 72 mc_126 dX10_closes_71 rfl rfl rfl rfl).trans ?_
    refine (s_lcmp 73 mc_126 dX10_closes_72 rfl).trans ?_
    refine (s_if_ge 78 76 mc_126 dX10_closes_73 rfl rfl).trans ?_
    refine ite_c ?_ ?_
    · skip
      refine (s_iinc 1 81 mc_126 dX10_closes_78 rfl rfl (Nat.le_of_ble_eq_true rfl) (by decide) rfl).trans ?_
      refine (s_goto 12 mc_126 dX10_closes_81 rfl).trans ?_
      rfl
    · skip
      refine (s_iconst 77 0 mc_126 dX10_closes_76 rfl (by decide)).trans ?_
      exact s_zret0 mc_126 dX10_closes_77 mt_126
/-- FiveLands.closes(I)Z -/
theorem k_127 {X : Ctx} {d : Nat} (x0 : Nat) (x1 : Int32) (h : Hp) : K X (d + 1) 127 [.ref x0, .int x1] h = gd (hS h x0 = (11, 0)) (bV (K X d 136 [.ref x0, .int 0] h) fun h1 => gd (hS h1 x0 = (11, 0)) (bV (K X d 129 [.ref x0, .int x1] h1) fun h2 => sem (X, K X d) 127 12 [some (.ref x0), some (.int x1), some (.int 0), none, none] [] h2)) := by
  show sem (X, K X d) 127 0 [some (.ref x0), some (.int x1), none, none, none] [] h = _
  refine (s_aload_n 1 mc_127 dX10_closes_0 rfl rfl rfl).trans ?_
  refine (s_iconst 2 0 mc_127 dX10_closes_1 rfl (by decide)).trans ?_
  refine (s_iviV 5 mc_127 dX10_closes_2 rfl mo_127 mm_10_166 (by decide) ms_136 mi_136 mr_136 ma_136 mo_136 (by decide) (Nat.le_of_ble_eq_true rfl) rfl rfl (Nat.le_of_ble_eq_true rfl)).trans ?_
  refine gd_c ?_
  refine bV_c fun h1 => ?_
  refine (s_aload_n 6 mc_127 dX10_closes_5 rfl rfl rfl).trans ?_
  refine (s_iload_n 7 mc_127 dX10_closes_6 rfl rfl rfl).trans ?_
  refine (s_iviV 10 mc_127 dX10_closes_7 rfl mo_127 mm_10_340 (by decide) ms_129 mi_129 mr_129 ma_129 mo_129 (by decide) (Nat.le_of_ble_eq_true rfl) rfl rfl (Nat.le_of_ble_eq_true rfl)).trans ?_
  refine gd_c ?_
  refine bV_c fun h2 => ?_
  refine (s_iconst 11 0 mc_127 dX10_closes_10 rfl (by decide)).trans ?_
  refine (s_istore_n 12 mc_127 dX10_closes_11 rfl rfl (Nat.le_of_ble_eq_true rfl) rfl).trans ?_
  rfl
theorem b_127_12 {X : Ctx} {d : Nat} (x0 : Nat) (v1 : Option Value) (x2 : Int32) (v3 : Option Value) (v4 : Option Value)  (h : Hp) : sem (X, K X d) 127 12 [some (.ref x0), v1, some (.int x2), v3, v4] [] h = gR h 10 x0 4 fun g1 => gI h 4 g1 9 fun g2 => if g2 ≤ x2 then some (some (.int 1), h) else gR h 10 x0 8 fun g3 => gR h 10 x0 0 fun g4 => aR h g4 0 fun g5 => gR h 9 g5 2 fun g6 => gR h 10 x0 4 fun g7 => gR h 4 g7 2 fun g8 => aI X h g8 x2 fun g9 => aR h g6 g9 fun g10 => gd (hS h g3 = (3, 0)) (bJ (K X d 21 [.ref g3, .ref g10] h) fun r11 h1 => gR h1 10 x0 8 fun g12 => gd (hS h1 x0 = (11, 0)) (bR (K X d 123 [.ref x0, .int x2] h1) fun r13 h2 => gd (hS h2 g12 = (3, 0)) (bJ (K X d 21 [.ref g12, .ref r13] h2) fun r14 h3 => gR h3 10 x0 4 fun g15 => gd (hS h3 g15 = (5, 0)) (bJ (K X d 36 [.ref g15, .int x2] h3) fun r16 h4 => if 0 ≤ (lg_cmp (r14 + r16) r11) then sem (X, K X d) 127 12 [some (.ref x0), v1, some (.int (x2 + 1)), some (.long r11), none] [] h4 else some (some (.int 0), h4))))) := by
  refine (s_iload_n 13 mc_127 dX10_closes_12 rfl rfl rfl).trans ?_
  refine (s_aload_n 14 mc_127 dX10_closes_13 rfl rfl rfl).trans ?_
  refine (s_getfR 17 mc_127 dX10_closes_14 rfl mo_127 fs_10_39 ff_10_39 rfl).trans ?_
  refine gR_c fun g1 => ?_
  refine (s_getfI 20 mc_127 dX10_closes_17 rfl mo_127 fs_10_297 ff_10_297 (Or.inl rfl)).trans ?_
  refine gI_c fun g2 => ?_
  refine (s_icmp_ge 84 23 mc_127 dX10_closes_20 rfl rfl).trans ?_
  refine ite_c ?_ ?_
  · skip
    refine (s_iconst 85 1 mc_127 dX10_closes_84 rfl (by decide)).trans ?_
    exact s_zret1 mc_127 dX10_closes_85 mt_127
  · skip
    refine (s_aload_n 24 mc_127 dX10_closes_23 rfl rfl rfl).trans ?_
    refine (s_getfR 27 mc_127 dX10_closes_24 rfl mo_127 fs_10_18 ff_10_18 rfl).trans ?_
    refine gR_c fun g3 => ?_
    refine (s_aload_n 28 mc_127 dX10_closes_27 rfl rfl rfl).trans ?_
    refine (s_getfR 31 mc_127 dX10_closes_28 rfl mo_127 fs_10_11 ff_10_11 rfl).trans ?_
    refine gR_c fun g4 => ?_
    refine (s_iconst 32 0 mc_127 dX10_closes_31 rfl (by decide)).trans ?_
    refine (s_aaload 33 mc_127 dX10_closes_32 rfl).trans ?_
    refine aR_c fun g5 => ?_
    refine (s_getfR 36 mc_127 dX10_closes_33 rfl mo_127 fs_10_119 ff_10_119 rfl).trans ?_
    refine gR_c fun g6 => ?_
    refine (s_aload_n 37 mc_127 dX10_closes_36 rfl rfl rfl).trans ?_
    refine (s_getfR 40 mc_127 dX10_closes_37 rfl mo_127 fs_10_39 ff_10_39 rfl).trans ?_
    refine gR_c fun g7 => ?_
    refine (s_getfR 43 mc_127 dX10_closes_40 rfl mo_127 fs_10_300 ff_10_300 rfl).trans ?_
    refine gR_c fun g8 => ?_
    refine (s_iload_n 44 mc_127 dX10_closes_43 rfl rfl rfl).trans ?_
    refine (s_iaload 45 mc_127 dX10_closes_44 rfl).trans ?_
    refine aI_c fun g9 => ?_
    refine (s_aaload 46 mc_127 dX10_closes_45 rfl).trans ?_
    refine aR_c fun g10 => ?_
    refine (s_iviJ 49 mc_127 dX10_closes_46 rfl mo_127 mm_10_212 (by decide) ms_21 mi_21 mr_21 ma_21 mo_21 (by decide) (Nat.le_of_ble_eq_true rfl) rfl rfl (Nat.le_of_ble_eq_true rfl)).trans ?_
    refine gd_c ?_
    refine bJ_c fun r11 h1 => ?_
    refine (s_lstore_n 50 mc_127 dX10_closes_49 rfl rfl (Nat.le_of_ble_eq_true rfl) rfl).trans ?_
    refine (s_aload_n 51 mc_127 dX10_closes_50 rfl rfl rfl).trans ?_
    refine (s_getfR 54 mc_127 dX10_closes_51 rfl mo_127 fs_10_18 ff_10_18 rfl).trans ?_
    refine gR_c fun g12 => ?_
    refine (s_aload_n 55 mc_127 dX10_closes_54 rfl rfl rfl).trans ?_
    refine (s_iload_n 56 mc_127 dX10_closes_55 rfl rfl rfl).trans ?_
    refine (s_iviR 59 mc_127 dX10_closes_56 rfl mo_127 mm_10_309 (by decide) ms_123 mi_123 mr_123 ma_123 mo_123 (by decide) (Nat.le_of_ble_eq_true rfl) rfl rfl (Nat.le_of_ble_eq_true rfl)).trans ?_
    refine gd_c ?_
    refine bR_c fun r13 h2 => ?_
    refine (s_iviJ 62 mc_127 dX10_closes_59 rfl mo_127 mm_10_212 (by decide) ms_21 mi_21 mr_21 ma_21 mo_21 (by decide) (Nat.le_of_ble_eq_true rfl) rfl rfl (Nat.le_of_ble_eq_true rfl)).trans ?_
    refine gd_c ?_
    refine bJ_c fun r14 h3 => ?_
    refine (s_aload_n 63 mc_127 dX10_closes_62 rfl rfl rfl).trans ?_
    refine (s_getfR 66 mc_127 dX10_closes_63 rfl mo_127 fs_10_39 ff_10_39 rfl).trans ?_
    refine gR_c fun g15 => ?_
    refine (s_iload_n 67 mc_127 dX10_closes_66 rfl rfl rfl).trans ?_
    refine (s_iviJ 70 mc_127 dX10_closes_67 rfl mo_127 mm_10_313 (by decide) ms_36 mi_36 mr_36 ma_36 mo_36 (by decide) (Nat.le_of_ble_eq_true rfl) rfl rfl (Nat.le_of_ble_eq_true rfl)).trans ?_
    refine gd_c ?_
    refine bJ_c fun r16 h4 => ?_
    refine (s_ladd 71 mc_127 dX10_closes_70 rfl).trans ?_
    refine (s_lload_n 72 mc_127 dX10_closes_71 rfl rfl rfl rfl).trans ?_
    refine (s_lcmp 73 mc_127 dX10_closes_72 rfl).trans ?_
    refine (s_if_ge 78 76 mc_127 dX10_closes_73 rfl rfl).trans ?_
    refine ite_c ?_ ?_
    · skip
      refine (s_iinc 1 81 mc_127 dX10_closes_78 rfl rfl (Nat.le_of_ble_eq_true rfl) (by decide) rfl).trans ?_
      refine (s_goto 12 mc_127 dX10_closes_81 rfl).trans ?_
      rfl
    · skip
      refine (s_iconst 77 0 mc_127 dX10_closes_76 rfl (by decide)).trans ?_
      exact s_zret0 mc_127 dX10_closes_77 mt_127
/-- FiveLands.owesUnder(I)J -/
theorem k_128 {X : Ctx} {d : Nat} (x0 : Nat) (x1 : Int32) (h : Hp) : K X (d + 1) 128 [.ref x0, .int x1] h = gd (hS h x0 = (11, 0)) (bV (K X d 136 [.ref x0, .int 1] h) fun h1 => gd (hS h1 x0 = (11, 0)) (bV (K X d 129 [.ref x0, .int x1] h1) fun h2 => gR h2 10 x0 8 fun g1 => gR h2 10 x0 0 fun g2 => aR h2 g2 1 fun g3 => gd (hS h2 g1 = (3, 0)) (bJ (K X d 20 [.ref g1, .ref g3] h2) fun r4 h3 => some (some (.long r4), h3)))) := by
  show sem (X, K X d) 128 0 [some (.ref x0), some (.int x1)] [] h = _
  refine (s_aload_n 1 mc_128 dX10_owesUnder_0 rfl rfl rfl).trans ?_
  refine (s_iconst 2 1 mc_128 dX10_owesUnder_1 rfl (by decide)).trans ?_
  refine (s_iviV 5 mc_128 dX10_owesUnder_2 rfl mo_128 mm_10_166 (by decide) ms_136 mi_136 mr_136 ma_136 mo_136 (by decide) (Nat.le_of_ble_eq_true rfl) rfl rfl (Nat.le_of_ble_eq_true rfl)).trans ?_
  refine gd_c ?_
  refine bV_c fun h1 => ?_
  refine (s_aload_n 6 mc_128 dX10_owesUnder_5 rfl rfl rfl).trans ?_
  refine (s_iload_n 7 mc_128 dX10_owesUnder_6 rfl rfl rfl).trans ?_
  refine (s_iviV 10 mc_128 dX10_owesUnder_7 rfl mo_128 mm_10_340 (by decide) ms_129 mi_129 mr_129 ma_129 mo_129 (by decide) (Nat.le_of_ble_eq_true rfl) rfl rfl (Nat.le_of_ble_eq_true rfl)).trans ?_
  refine gd_c ?_
  refine bV_c fun h2 => ?_
  refine (s_aload_n 11 mc_128 dX10_owesUnder_10 rfl rfl rfl).trans ?_
  refine (s_getfR 14 mc_128 dX10_owesUnder_11 rfl mo_128 fs_10_18 ff_10_18 rfl).trans ?_
  refine gR_c fun g1 => ?_
  refine (s_aload_n 15 mc_128 dX10_owesUnder_14 rfl rfl rfl).trans ?_
  refine (s_getfR 18 mc_128 dX10_owesUnder_15 rfl mo_128 fs_10_11 ff_10_11 rfl).trans ?_
  refine gR_c fun g2 => ?_
  refine (s_iconst 19 1 mc_128 dX10_owesUnder_18 rfl (by decide)).trans ?_
  refine (s_aaload 20 mc_128 dX10_owesUnder_19 rfl).trans ?_
  refine aR_c fun g3 => ?_
  refine (s_iviJ 23 mc_128 dX10_owesUnder_20 rfl mo_128 mm_10_233 (by decide) ms_20 mi_20 mr_20 ma_20 mo_20 (by decide) (Nat.le_of_ble_eq_true rfl) rfl rfl (Nat.le_of_ble_eq_true rfl)).trans ?_
  refine gd_c ?_
  refine bJ_c fun r4 h3 => ?_
  exact s_lret mc_128 dX10_owesUnder_23 mt_128
/-- FiveLands.amend(I)V -/
theorem k_129 {X : Ctx} {d : Nat} (x0 : Nat) (x1 : Int32) (h : Hp) : K X (d + 1) 129 [.ref x0, .int x1] h = sem (X, K X d) 129 2 [some (.ref x0), some (.int x1), some (.int 0)] [] h := by
  show sem (X, K X d) 129 0 [some (.ref x0), some (.int x1), none] [] h = _
  refine (s_iconst 1 0 mc_129 dX10_amend_0 rfl (by decide)).trans ?_
  refine (s_istore_n 2 mc_129 dX10_amend_1 rfl rfl (Nat.le_of_ble_eq_true rfl) rfl).trans ?_
  rfl
theorem b_129_2 {X : Ctx} {d : Nat} (x0 : Nat) (v1 : Option Value) (x2 : Int32)  (h : Hp) : sem (X, K X d) 129 2 [some (.ref x0), v1, some (.int x2)] [] h = if 15 ≤ x2 then sem (X, K X d) 129 31 [some (.ref x0), v1, some (.int 0)] [] h else gR h 10 x0 3 fun g1 => aR h g1 x2 fun g2 => gR h 10 x0 2 fun g3 => aR h g3 x2 fun g4 => gd (hS h g2 = (4, 0)) (bV (K X d 31 [.ref g2, .ref g4] h) fun h1 => sem (X, K X d) 129 2 [some (.ref x0), v1, some (.int (x2 + 1))] [] h1) := by
  refine (s_iload_n 3 mc_129 dX10_amend_2 rfl rfl rfl).trans ?_
  refine (s_bipush 5 15 mc_129 dX10_amend_3 rfl (by decide)).trans ?_
  refine (s_icmp_ge 29 8 mc_129 dX10_amend_5 rfl rfl).trans ?_
  refine ite_c ?_ ?_
  · skip
    refine (s_iconst 30 0 mc_129 dX10_amend_29 rfl (by decide)).trans ?_
    refine (s_istore_n 31 mc_129 dX10_amend_30 rfl rfl (Nat.le_of_ble_eq_true rfl) rfl).trans ?_
    rfl
  · skip
    refine (s_aload_n 9 mc_129 dX10_amend_8 rfl rfl rfl).trans ?_
    refine (s_getfR 12 mc_129 dX10_amend_9 rfl mo_129 fs_10_33 ff_10_33 rfl).trans ?_
    refine gR_c fun g1 => ?_
    refine (s_iload_n 13 mc_129 dX10_amend_12 rfl rfl rfl).trans ?_
    refine (s_aaload 14 mc_129 dX10_amend_13 rfl).trans ?_
    refine aR_c fun g2 => ?_
    refine (s_aload_n 15 mc_129 dX10_amend_14 rfl rfl rfl).trans ?_
    refine (s_getfR 18 mc_129 dX10_amend_15 rfl mo_129 fs_10_29 ff_10_29 rfl).trans ?_
    refine gR_c fun g3 => ?_
    refine (s_iload_n 19 mc_129 dX10_amend_18 rfl rfl rfl).trans ?_
    refine (s_aaload 20 mc_129 dX10_amend_19 rfl).trans ?_
    refine aR_c fun g4 => ?_
    refine (s_iviV 23 mc_129 dX10_amend_20 rfl mo_129 mm_10_343 (by decide) ms_31 mi_31 mr_31 ma_31 mo_31 (by decide) (Nat.le_of_ble_eq_true rfl) rfl rfl (Nat.le_of_ble_eq_true rfl)).trans ?_
    refine gd_c ?_
    refine bV_c fun h1 => ?_
    refine (s_iinc 1 26 mc_129 dX10_amend_23 rfl rfl (Nat.le_of_ble_eq_true rfl) (by decide) rfl).trans ?_
    refine (s_goto 2 mc_129 dX10_amend_26 rfl).trans ?_
    rfl
theorem b_129_31 {X : Ctx} {d : Nat} (x0 : Nat) (x1 : Int32) (x2 : Int32)  (h : Hp) : sem (X, K X d) 129 31 [some (.ref x0), some (.int x1), some (.int x2)] [] h = gR h 10 x0 4 fun g1 => gI h 4 g1 10 fun g2 => if g2 ≤ x2 then gR h 10 x0 8 fun g3 => gR h 10 x0 3 fun g4 => gd (hS h g3 = (3, 0)) (bV (K X d 16 [.ref g3, .ref g4] h) fun h1 => some (none, h1)) else bI (K X d 140 [.long (x1 : Int32).toInt64, .int x2] h) fun r5 h2 => if r5 = 0 then sem (X, K X d) 129 31 [some (.ref x0), some (.int x1), some (.int (x2 + 1))] [] h2 else gR h2 10 x0 3 fun g6 => gR h2 10 x0 4 fun g7 => gR h2 4 g7 5 fun g8 => aI X h2 g8 x2 fun g9 => aR h2 g6 g9 fun g10 => gR h2 10 x0 4 fun g11 => gR h2 4 g11 6 fun g12 => aI X h2 g12 x2 fun g13 => gR h2 10 x0 4 fun g14 => gR h2 4 g14 7 fun g15 => aI X h2 g15 x2 fun g16 => gd (hS h2 g10 = (4, 0)) (bV (K X d 33 [.ref g10, .int g13, .int g16] h2) fun h3 => sem (X, K X d) 129 31 [some (.ref x0), some (.int x1), some (.int (x2 + 1))] [] h3) := by
  refine (s_iload_n 32 mc_129 dX10_amend_31 rfl rfl rfl).trans ?_
  refine (s_aload_n 33 mc_129 dX10_amend_32 rfl rfl rfl).trans ?_
  refine (s_getfR 36 mc_129 dX10_amend_33 rfl mo_129 fs_10_39 ff_10_39 rfl).trans ?_
  refine gR_c fun g1 => ?_
  refine (s_getfI 39 mc_129 dX10_amend_36 rfl mo_129 fs_10_317 ff_10_317 (Or.inl rfl)).trans ?_
  refine gI_c fun g2 => ?_
  refine (s_icmp_ge 92 42 mc_129 dX10_amend_39 rfl rfl).trans ?_
  refine ite_c ?_ ?_
  · skip
    refine (s_aload_n 93 mc_129 dX10_amend_92 rfl rfl rfl).trans ?_
    refine (s_getfR 96 mc_129 dX10_amend_93 rfl mo_129 fs_10_18 ff_10_18 rfl).trans ?_
    refine gR_c fun g3 => ?_
    refine (s_aload_n 97 mc_129 dX10_amend_96 rfl rfl rfl).trans ?_
    refine (s_getfR 100 mc_129 dX10_amend_97 rfl mo_129 fs_10_33 ff_10_33 rfl).trans ?_
    refine gR_c fun g4 => ?_
    refine (s_iviV 103 mc_129 dX10_amend_100 rfl mo_129 mm_10_351 (by decide) ms_16 mi_16 mr_16 ma_16 mo_16 (by decide) (Nat.le_of_ble_eq_true rfl) rfl rfl (Nat.le_of_ble_eq_true rfl)).trans ?_
    refine gd_c ?_
    refine bV_c fun h1 => ?_
    exact s_vret mc_129 dX10_amend_103 mt_129
  · skip
    refine (s_iload_n 43 mc_129 dX10_amend_42 rfl rfl rfl).trans ?_
    refine (s_i2l 44 mc_129 dX10_amend_43 rfl).trans ?_
    refine (s_iload_n 45 mc_129 dX10_amend_44 rfl rfl rfl).trans ?_
    refine (s_istI 48 mc_129 dX10_amend_45 rfl mo_129 mm_10_176 (by decide) ms_140 mr_140 ma_140 (Nat.le_of_ble_eq_true rfl) rfl rfl (Nat.le_of_ble_eq_true rfl)).trans ?_
    refine bI_c fun r5 h2 => ?_
    refine (s_if_eq 86 51 mc_129 dX10_amend_48 rfl rfl).trans ?_
    refine ite_c ?_ ?_
    · skip
      refine (s_iinc 1 89 mc_129 dX10_amend_86 rfl rfl (Nat.le_of_ble_eq_true rfl) (by decide) rfl).trans ?_
      refine (s_goto 31 mc_129 dX10_amend_89 rfl).trans ?_
      rfl
    · skip
      refine (s_aload_n 52 mc_129 dX10_amend_51 rfl rfl rfl).trans ?_
      refine (s_getfR 55 mc_129 dX10_amend_52 rfl mo_129 fs_10_33 ff_10_33 rfl).trans ?_
      refine gR_c fun g6 => ?_
      refine (s_aload_n 56 mc_129 dX10_amend_55 rfl rfl rfl).trans ?_
      refine (s_getfR 59 mc_129 dX10_amend_56 rfl mo_129 fs_10_39 ff_10_39 rfl).trans ?_
      refine gR_c fun g7 => ?_
      refine (s_getfR 62 mc_129 dX10_amend_59 rfl mo_129 fs_10_320 ff_10_320 rfl).trans ?_
      refine gR_c fun g8 => ?_
      refine (s_iload_n 63 mc_129 dX10_amend_62 rfl rfl rfl).trans ?_
      refine (s_iaload 64 mc_129 dX10_amend_63 rfl).trans ?_
      refine aI_c fun g9 => ?_
      refine (s_aaload 65 mc_129 dX10_amend_64 rfl).trans ?_
      refine aR_c fun g10 => ?_
      refine (s_aload_n 66 mc_129 dX10_amend_65 rfl rfl rfl).trans ?_
      refine (s_getfR 69 mc_129 dX10_amend_66 rfl mo_129 fs_10_39 ff_10_39 rfl).trans ?_
      refine gR_c fun g11 => ?_
      refine (s_getfR 72 mc_129 dX10_amend_69 rfl mo_129 fs_10_323 ff_10_323 rfl).trans ?_
      refine gR_c fun g12 => ?_
      refine (s_iload_n 73 mc_129 dX10_amend_72 rfl rfl rfl).trans ?_
      refine (s_iaload 74 mc_129 dX10_amend_73 rfl).trans ?_
      refine aI_c fun g13 => ?_
      refine (s_aload_n 75 mc_129 dX10_amend_74 rfl rfl rfl).trans ?_
      refine (s_getfR 78 mc_129 dX10_amend_75 rfl mo_129 fs_10_39 ff_10_39 rfl).trans ?_
      refine gR_c fun g14 => ?_
      refine (s_getfR 81 mc_129 dX10_amend_78 rfl mo_129 fs_10_326 ff_10_326 rfl).trans ?_
      refine gR_c fun g15 => ?_
      refine (s_iload_n 82 mc_129 dX10_amend_81 rfl rfl rfl).trans ?_
      refine (s_iaload 83 mc_129 dX10_amend_82 rfl).trans ?_
      refine aI_c fun g16 => ?_
      refine (s_iviV 86 mc_129 dX10_amend_83 rfl mo_129 mm_10_347 (by decide) ms_33 mi_33 mr_33 ma_33 mo_33 (by decide) (Nat.le_of_ble_eq_true rfl) rfl rfl (Nat.le_of_ble_eq_true rfl)).trans ?_
      refine gd_c ?_
      refine bV_c fun h3 => ?_
      refine (s_iinc 1 89 mc_129 dX10_amend_86 rfl rfl (Nat.le_of_ble_eq_true rfl) (by decide) rfl).trans ?_
      refine (s_goto 31 mc_129 dX10_amend_89 rfl).trans ?_
      rfl
/-- FiveLands.round(IIII)I -/
theorem k_130 {X : Ctx} {d : Nat} (x0 : Nat) (x1 : Int32) (x2 : Int32) (x3 : Int32) (x4 : Int32) (h : Hp) : K X (d + 1) 130 [.ref x0, .int x1, .int x2, .int x3, .int x4] h = if x1 < 0 then some (some (.int (-1)), h) else if 5 ≤ x1 then some (some (.int (-1)), h) else bI (K X d 138 [.int x2] h) fun r1 h1 => if r1 = 0 then some (some (.int (-1)), h1) else bI (K X d 138 [.int x3] h1) fun r2 h2 => if r2 = 0 then some (some (.int (-1)), h2) else if x2 = x3 then some (some (.int (-1)), h2) else if x4 < 0 then some (some (.int (-1)), h2) else if x4 ≤ 2 then gd (hS h2 x0 = (11, 0)) (bI (K X d 131 [.ref x0, .int x1, .int x2, .int x3] h2) fun r3 h3 => sem (X, K X d) 130 60 [some (.ref x0), some (.int x1), some (.int x2), some (.int x3), some (.int x4), some (.int r3), some (.int r3), some (.int (-1)), some (.int 0), none] [] h3) else some (some (.int (-1)), h2) := by
  show sem (X, K X d) 130 0 [some (.ref x0), some (.int x1), some (.int x2), some (.int x3), some (.int x4), none, none, none, none, none] [] h = _
  refine (s_iload_n 1 mc_130 dX10_round_0 rfl rfl rfl).trans ?_
  refine (s_if_lt 39 4 mc_130 dX10_round_1 rfl rfl).trans ?_
  refine ite_c ?_ ?_
  · skip
    refine (s_iconst 40 (-1) mc_130 dX10_round_39 rfl (by decide)).trans ?_
    exact s_iret mc_130 dX10_round_40 mt_130
  · skip
    refine (s_iload_n 5 mc_130 dX10_round_4 rfl rfl rfl).trans ?_
    refine (s_iconst 6 5 mc_130 dX10_round_5 rfl (by decide)).trans ?_
    refine (s_icmp_ge 39 9 mc_130 dX10_round_6 rfl rfl).trans ?_
    refine ite_c ?_ ?_
    · skip
      refine (s_iconst 40 (-1) mc_130 dX10_round_39 rfl (by decide)).trans ?_
      exact s_iret mc_130 dX10_round_40 mt_130
    · skip
      refine (s_iload_n 10 mc_130 dX10_round_9 rfl rfl rfl).trans ?_
      refine (s_istI 13 mc_130 dX10_round_10 rfl mo_130 mm_10_99 (by decide) ms_138 mr_138 ma_138 (Nat.le_of_ble_eq_true rfl) rfl rfl (Nat.le_of_ble_eq_true rfl)).trans ?_
      refine bI_c fun r1 h1 => ?_
      refine (s_if_eq 39 16 mc_130 dX10_round_13 rfl rfl).trans ?_
      refine ite_c ?_ ?_
      · skip
        refine (s_iconst 40 (-1) mc_130 dX10_round_39 rfl (by decide)).trans ?_
        exact s_iret mc_130 dX10_round_40 mt_130
      · skip
        refine (s_iload_n 17 mc_130 dX10_round_16 rfl rfl rfl).trans ?_
        refine (s_istI 20 mc_130 dX10_round_17 rfl mo_130 mm_10_99 (by decide) ms_138 mr_138 ma_138 (Nat.le_of_ble_eq_true rfl) rfl rfl (Nat.le_of_ble_eq_true rfl)).trans ?_
        refine bI_c fun r2 h2 => ?_
        refine (s_if_eq 39 23 mc_130 dX10_round_20 rfl rfl).trans ?_
        refine ite_c ?_ ?_
        · skip
          refine (s_iconst 40 (-1) mc_130 dX10_round_39 rfl (by decide)).trans ?_
          exact s_iret mc_130 dX10_round_40 mt_130
        · skip
          refine (s_iload_n 24 mc_130 dX10_round_23 rfl rfl rfl).trans ?_
          refine (s_iload_n 25 mc_130 dX10_round_24 rfl rfl rfl).trans ?_
          refine (s_icmp_eq 39 28 mc_130 dX10_round_25 rfl rfl).trans ?_
          refine ite_c ?_ ?_
          · skip
            refine (s_iconst 40 (-1) mc_130 dX10_round_39 rfl (by decide)).trans ?_
            exact s_iret mc_130 dX10_round_40 mt_130
          · skip
            refine (s_iload 30 mc_130 dX10_round_28 rfl rfl).trans ?_
            refine (s_if_lt 39 33 mc_130 dX10_round_30 rfl rfl).trans ?_
            refine ite_c ?_ ?_
            · skip
              refine (s_iconst 40 (-1) mc_130 dX10_round_39 rfl (by decide)).trans ?_
              exact s_iret mc_130 dX10_round_40 mt_130
            · skip
              refine (s_iload 35 mc_130 dX10_round_33 rfl rfl).trans ?_
              refine (s_iconst 36 2 mc_130 dX10_round_35 rfl (by decide)).trans ?_
              refine (s_icmp_le 41 39 mc_130 dX10_round_36 rfl rfl).trans ?_
              refine ite_c ?_ ?_
              · skip
                refine (s_aload_n 42 mc_130 dX10_round_41 rfl rfl rfl).trans ?_
                refine (s_iload_n 43 mc_130 dX10_round_42 rfl rfl rfl).trans ?_
                refine (s_iload_n 44 mc_130 dX10_round_43 rfl rfl rfl).trans ?_
                refine (s_iload_n 45 mc_130 dX10_round_44 rfl rfl rfl).trans ?_
                refine (s_iviI 48 mc_130 dX10_round_45 rfl mo_130 mm_10_355 (by decide) ms_131 mi_131 mr_131 ma_131 mo_131 (by decide) (Nat.le_of_ble_eq_true rfl) rfl rfl (Nat.le_of_ble_eq_true rfl)).trans ?_
                refine gd_c ?_
                refine bI_c fun r3 h3 => ?_
                refine (s_istore 50 mc_130 dX10_round_48 rfl (Nat.le_of_ble_eq_true rfl) rfl).trans ?_
                refine (s_iload 52 mc_130 dX10_round_50 rfl rfl).trans ?_
                refine (s_istore 54 mc_130 dX10_round_52 rfl (Nat.le_of_ble_eq_true rfl) rfl).trans ?_
                refine (s_iconst 55 (-1) mc_130 dX10_round_54 rfl (by decide)).trans ?_
                refine (s_istore 57 mc_130 dX10_round_55 rfl (Nat.le_of_ble_eq_true rfl) rfl).trans ?_
                refine (s_iconst 58 0 mc_130 dX10_round_57 rfl (by decide)).trans ?_
                refine (s_istore 60 mc_130 dX10_round_58 rfl (Nat.le_of_ble_eq_true rfl) rfl).trans ?_
                rfl
              · skip
                refine (s_iconst 40 (-1) mc_130 dX10_round_39 rfl (by decide)).trans ?_
                exact s_iret mc_130 dX10_round_40 mt_130
theorem b_130_60 {X : Ctx} {d : Nat} (x0 : Nat) (x1 : Int32) (x2 : Int32) (x3 : Int32) (x4 : Int32) (x5 : Int32) (x6 : Int32) (x7 : Int32) (x8 : Int32) (v9 : Option Value)  (h : Hp) : sem (X, K X d) 130 60 [some (.ref x0), some (.int x1), some (.int x2), some (.int x3), some (.int x4), some (.int x5), some (.int x6), some (.int x7), some (.int x8), v9] [] h = if 6 ≤ x8 then if ¬ x4 = 0 then if ¬ x4 = 1 then some (some (.int x6), h) else some (some (.int x7), h) else some (some (.int x5), h) else if x8 = x2 then sem (X, K X d) 130 60 [some (.ref x0), some (.int x1), some (.int x2), some (.int x3), some (.int x4), some (.int x5), some (.int x6), some (.int x7), some (.int (x8 + 1)), v9] [] h else if x8 = x3 then sem (X, K X d) 130 60 [some (.ref x0), some (.int x1), some (.int x2), some (.int x3), some (.int x4), some (.int x5), some (.int x6), some (.int x7), some (.int (x8 + 1)), v9] [] h else gd (hS h x0 = (11, 0)) (bI (K X d 131 [.ref x0, .int x1, .int x2, .int x8] h) fun r1 h1 => gd (hS h1 x0 = (11, 0)) (bI (K X d 131 [.ref x0, .int x1, .int x8, .int x3] h1) fun r2 h2 => if x6 ≤ (r1 + r2) then sem (X, K X d) 130 60 [some (.ref x0), some (.int x1), some (.int x2), some (.int x3), some (.int x4), some (.int x5), some (.int x6), some (.int x7), some (.int (x8 + 1)), some (.int (r1 + r2))] [] h2 else sem (X, K X d) 130 60 [some (.ref x0), some (.int x1), some (.int x2), some (.int x3), some (.int x4), some (.int x5), some (.int (r1 + r2)), some (.int x8), some (.int (x8 + 1)), some (.int (r1 + r2))] [] h2)) := by
  refine (s_iload 62 mc_130 dX10_round_60 rfl rfl).trans ?_
  refine (s_bipush 64 6 mc_130 dX10_round_62 rfl (by decide)).trans ?_
  refine (s_icmp_ge 119 67 mc_130 dX10_round_64 rfl rfl).trans ?_
  refine ite_c ?_ ?_
  · skip
    refine (s_iload 121 mc_130 dX10_round_119 rfl rfl).trans ?_
    refine (s_if_ne 127 124 mc_130 dX10_round_121 rfl rfl).trans ?_
    refine ite_c ?_ ?_
    · skip
      refine (s_iload 129 mc_130 dX10_round_127 rfl rfl).trans ?_
      refine (s_iconst 130 1 mc_130 dX10_round_129 rfl (by decide)).trans ?_
      refine (s_icmp_ne 138 133 mc_130 dX10_round_130 rfl rfl).trans ?_
      refine ite_c ?_ ?_
      · skip
        refine (s_iload 140 mc_130 dX10_round_138 rfl rfl).trans ?_
        exact s_iret mc_130 dX10_round_140 mt_130
      · skip
        refine (s_iload 135 mc_130 dX10_round_133 rfl rfl).trans ?_
        refine (s_goto 140 mc_130 dX10_round_135 rfl).trans ?_
        exact s_iret mc_130 dX10_round_140 mt_130
    · skip
      refine (s_iload 126 mc_130 dX10_round_124 rfl rfl).trans ?_
      exact s_iret mc_130 dX10_round_126 mt_130
  · skip
    refine (s_iload 69 mc_130 dX10_round_67 rfl rfl).trans ?_
    refine (s_iload_n 70 mc_130 dX10_round_69 rfl rfl rfl).trans ?_
    refine (s_icmp_eq 113 73 mc_130 dX10_round_70 rfl rfl).trans ?_
    refine ite_c ?_ ?_
    · skip
      refine (s_iinc 1 116 mc_130 dX10_round_113 rfl rfl (Nat.le_of_ble_eq_true rfl) (by decide) rfl).trans ?_
      refine (s_goto 60 mc_130 dX10_round_116 rfl).trans ?_
      rfl
    · skip
      refine (s_iload 75 mc_130 dX10_round_73 rfl rfl).trans ?_
      refine (s_iload_n 76 mc_130 dX10_round_75 rfl rfl rfl).trans ?_
      refine (s_icmp_eq 113 79 mc_130 dX10_round_76 rfl rfl).trans ?_
      refine ite_c ?_ ?_
      · skip
        refine (s_iinc 1 116 mc_130 dX10_round_113 rfl rfl (Nat.le_of_ble_eq_true rfl) (by decide) rfl).trans ?_
        refine (s_goto 60 mc_130 dX10_round_116 rfl).trans ?_
        rfl
      · skip
        refine (s_aload_n 80 mc_130 dX10_round_79 rfl rfl rfl).trans ?_
        refine (s_iload_n 81 mc_130 dX10_round_80 rfl rfl rfl).trans ?_
        refine (s_iload_n 82 mc_130 dX10_round_81 rfl rfl rfl).trans ?_
        refine (s_iload 84 mc_130 dX10_round_82 rfl rfl).trans ?_
        refine (s_iviI 87 mc_130 dX10_round_84 rfl mo_130 mm_10_355 (by decide) ms_131 mi_131 mr_131 ma_131 mo_131 (by decide) (Nat.le_of_ble_eq_true rfl) rfl rfl (Nat.le_of_ble_eq_true rfl)).trans ?_
        refine gd_c ?_
        refine bI_c fun r1 h1 => ?_
        refine (s_aload_n 88 mc_130 dX10_round_87 rfl rfl rfl).trans ?_
        refine (s_iload_n 89 mc_130 dX10_round_88 rfl rfl rfl).trans ?_
        refine (s_iload 91 mc_130 dX10_round_89 rfl rfl).trans ?_
        refine (s_iload_n 92 mc_130 dX10_round_91 rfl rfl rfl).trans ?_
        refine (s_iviI 95 mc_130 dX10_round_92 rfl mo_130 mm_10_355 (by decide) ms_131 mi_131 mr_131 ma_131 mo_131 (by decide) (Nat.le_of_ble_eq_true rfl) rfl rfl (Nat.le_of_ble_eq_true rfl)).trans ?_
        refine gd_c ?_
        refine bI_c fun r2 h2 => ?_
        refine (s_iadd 96 mc_130 dX10_round_95 rfl).trans ?_
        refine (s_istore 98 mc_130 dX10_round_96 rfl (Nat.le_of_ble_eq_true rfl) rfl).trans ?_
        refine (s_iload 100 mc_130 dX10_round_98 rfl rfl).trans ?_
        refine (s_iload 102 mc_130 dX10_round_100 rfl rfl).trans ?_
        refine (s_icmp_ge 113 105 mc_130 dX10_round_102 rfl rfl).trans ?_
        refine ite_c ?_ ?_
        · skip
          refine (s_iinc 1 116 mc_130 dX10_round_113 rfl rfl (Nat.le_of_ble_eq_true rfl) (by decide) rfl).trans ?_
          refine (s_goto 60 mc_130 dX10_round_116 rfl).trans ?_
          rfl
        · skip
          refine (s_iload 107 mc_130 dX10_round_105 rfl rfl).trans ?_
          refine (s_istore 109 mc_130 dX10_round_107 rfl (Nat.le_of_ble_eq_true rfl) rfl).trans ?_
          refine (s_iload 111 mc_130 dX10_round_109 rfl rfl).trans ?_
          refine (s_istore 113 mc_130 dX10_round_111 rfl (Nat.le_of_ble_eq_true rfl) rfl).trans ?_
          refine (s_iinc 1 116 mc_130 dX10_round_113 rfl rfl (Nat.le_of_ble_eq_true rfl) (by decide) rfl).trans ?_
          refine (s_goto 60 mc_130 dX10_round_116 rfl).trans ?_
          rfl
/-- FiveLands.leg(III)I -/
theorem k_131 {X : Ctx} {d : Nat} (x0 : Nat) (x1 : Int32) (x2 : Int32) (x3 : Int32) (h : Hp) : K X (d + 1) 131 [.ref x0, .int x1, .int x2, .int x3] h = gR h 10 x0 8 fun g1 => gd (hS h g1 = (3, 0)) (bI (K X d 28 [.ref g1, .int x2, .int x1] h) fun r2 h1 => gR h1 10 x0 2 fun g3 => bI (K X d 141 [.int x2, .int x3] h1) fun r4 h2 => aR h2 g3 r4 fun g5 => gd (hS h2 g5 = (4, 0)) (bI (K X d 34 [.ref g5, .int x1] h2) fun r6 h3 => some (some (.int (if r6 < r2 then r6 else r2)), h3))) := by
  show sem (X, K X d) 131 0 [some (.ref x0), some (.int x1), some (.int x2), some (.int x3)] [] h = _
  refine (s_aload_n 1 mc_131 dX10_leg_0 rfl rfl rfl).trans ?_
  refine (s_getfR 4 mc_131 dX10_leg_1 rfl mo_131 fs_10_18 ff_10_18 rfl).trans ?_
  refine gR_c fun g1 => ?_
  refine (s_iload_n 5 mc_131 dX10_leg_4 rfl rfl rfl).trans ?_
  refine (s_iload_n 6 mc_131 dX10_leg_5 rfl rfl rfl).trans ?_
  refine (s_iviI 9 mc_131 dX10_leg_6 rfl mo_131 mm_10_358 (by decide) ms_28 mi_28 mr_28 ma_28 mo_28 (by decide) (Nat.le_of_ble_eq_true rfl) rfl rfl (Nat.le_of_ble_eq_true rfl)).trans ?_
  refine gd_c ?_
  refine bI_c fun r2 h1 => ?_
  refine (s_aload_n 10 mc_131 dX10_leg_9 rfl rfl rfl).trans ?_
  refine (s_getfR 13 mc_131 dX10_leg_10 rfl mo_131 fs_10_29 ff_10_29 rfl).trans ?_
  refine gR_c fun g3 => ?_
  refine (s_iload_n 14 mc_131 dX10_leg_13 rfl rfl rfl).trans ?_
  refine (s_iload_n 15 mc_131 dX10_leg_14 rfl rfl rfl).trans ?_
  refine (s_istI 18 mc_131 dX10_leg_15 rfl mo_131 mm_10_156 (by decide) ms_141 mr_141 ma_141 (Nat.le_of_ble_eq_true rfl) rfl rfl (Nat.le_of_ble_eq_true rfl)).trans ?_
  refine bI_c fun r4 h2 => ?_
  refine (s_aaload 19 mc_131 dX10_leg_18 rfl).trans ?_
  refine aR_c fun g5 => ?_
  refine (s_iload_n 20 mc_131 dX10_leg_19 rfl rfl rfl).trans ?_
  refine (s_iviI 23 mc_131 dX10_leg_20 rfl mo_131 mm_10_361 (by decide) ms_34 mi_34 mr_34 ma_34 mo_34 (by decide) (Nat.le_of_ble_eq_true rfl) rfl rfl (Nat.le_of_ble_eq_true rfl)).trans ?_
  refine gd_c ?_
  refine bI_c fun r6 h3 => ?_
  refine (s_mmin 26 mc_131 dX10_leg_23 rfl mo_131 mm_10_364 (Nat.le_of_ble_eq_true rfl)).trans ?_
  exact s_iret mc_131 dX10_leg_26 mt_131
/-- FiveLands.answer(IIIJ)I -/
theorem k_132 {X : Ctx} {d : Nat} (x0 : Nat) (x1 : Int32) (x2 : Int32) (x3 : Int32) (x4 : Int64) (h : Hp) : K X (d + 1) 132 [.ref x0, .int x1, .int x2, .int x3, .long x4] h = if x1 < 0 then some (some (.int (-1)), h) else if 2 < x1 then some (some (.int (-1)), h) else if x1 = 2 then sem (X, K X d) 132 21 [some (.ref x0), some (.int x1), some (.int x2), some (.int x3), some (.long x4), none] [] h else bI (K X d 138 [.int x2] h) fun r1 h1 => if r1 = 0 then some (some (.int (-1)), h1) else sem (X, K X d) 132 21 [some (.ref x0), some (.int x1), some (.int x2), some (.int x3), some (.long x4), none] [] h1 := by
  show sem (X, K X d) 132 0 [some (.ref x0), some (.int x1), some (.int x2), some (.int x3), some (.long x4), none] [] h = _
  refine (s_iload_n 1 mc_132 dX10_answer_0 rfl rfl rfl).trans ?_
  refine (s_if_lt 33 4 mc_132 dX10_answer_1 rfl rfl).trans ?_
  refine ite_c ?_ ?_
  · skip
    refine (s_iconst 34 (-1) mc_132 dX10_answer_33 rfl (by decide)).trans ?_
    exact s_iret mc_132 dX10_answer_34 mt_132
  · skip
    refine (s_iload_n 5 mc_132 dX10_answer_4 rfl rfl rfl).trans ?_
    refine (s_iconst 6 2 mc_132 dX10_answer_5 rfl (by decide)).trans ?_
    refine (s_icmp_gt 33 9 mc_132 dX10_answer_6 rfl rfl).trans ?_
    refine ite_c ?_ ?_
    · skip
      refine (s_iconst 34 (-1) mc_132 dX10_answer_33 rfl (by decide)).trans ?_
      exact s_iret mc_132 dX10_answer_34 mt_132
    · skip
      refine (s_iload_n 10 mc_132 dX10_answer_9 rfl rfl rfl).trans ?_
      refine (s_iconst 11 2 mc_132 dX10_answer_10 rfl (by decide)).trans ?_
      refine (s_icmp_eq 21 14 mc_132 dX10_answer_11 rfl rfl).trans ?_
      refine ite_c ?_ ?_
      · skip
        rfl
      · skip
        refine (s_iload_n 15 mc_132 dX10_answer_14 rfl rfl rfl).trans ?_
        refine (s_istI 18 mc_132 dX10_answer_15 rfl mo_132 mm_10_99 (by decide) ms_138 mr_138 ma_138 (Nat.le_of_ble_eq_true rfl) rfl rfl (Nat.le_of_ble_eq_true rfl)).trans ?_
        refine bI_c fun r1 h1 => ?_
        refine (s_if_eq 33 21 mc_132 dX10_answer_18 rfl rfl).trans ?_
        refine ite_c ?_ ?_
        · skip
          refine (s_iconst 34 (-1) mc_132 dX10_answer_33 rfl (by decide)).trans ?_
          exact s_iret mc_132 dX10_answer_34 mt_132
        · skip
          rfl
theorem b_132_21 {X : Ctx} {d : Nat} (x0 : Nat) (x1 : Int32) (v2 : Option Value) (v3 : Option Value) (x4 : Int64)  (h : Hp) : sem (X, K X d) 132 21 [some (.ref x0), some (.int x1), v2, v3, some (.long x4), none] [] h = gR h 10 x0 5 fun g1 => gI h 0 g1 4 fun g2 => if g2 < 10 then if ¬ x1 = 0 then sem (X, K X d) 132 53 [some (.ref x0), some (.int x1), v2, v3, some (.long x4), none] [] h else if (lg_cmp x4 0) = 0 then sem (X, K X d) 132 53 [some (.ref x0), some (.int x1), v2, v3, some (.long x4), none] [] h else if ¬ (lg_cmp x4 1) = 0 then some (some (.int (-1)), h) else sem (X, K X d) 132 53 [some (.ref x0), some (.int x1), v2, v3, some (.long x4), none] [] h else some (some (.int (-1)), h) := by
  refine (s_aload_n 22 mc_132 dX10_answer_21 rfl rfl rfl).trans ?_
  refine (s_getfR 25 mc_132 dX10_answer_22 rfl mo_132 fs_10_46 ff_10_46 rfl).trans ?_
  refine gR_c fun g1 => ?_
  refine (s_getfI 28 mc_132 dX10_answer_25 rfl mo_132 fs_10_367 ff_10_367 (Or.inl rfl)).trans ?_
  refine gI_c fun g2 => ?_
  refine (s_bipush 30 10 mc_132 dX10_answer_28 rfl (by decide)).trans ?_
  refine (s_icmp_lt 35 33 mc_132 dX10_answer_30 rfl rfl).trans ?_
  refine ite_c ?_ ?_
  · skip
    refine (s_iload_n 36 mc_132 dX10_answer_35 rfl rfl rfl).trans ?_
    refine (s_if_ne 53 39 mc_132 dX10_answer_36 rfl rfl).trans ?_
    refine ite_c ?_ ?_
    · skip
      rfl
    · skip
      refine (s_lload 41 mc_132 dX10_answer_39 rfl rfl rfl).trans ?_
      refine (s_lconst 42 0 mc_132 dX10_answer_41 rfl (by decide)).trans ?_
      refine (s_lcmp 43 mc_132 dX10_answer_42 rfl).trans ?_
      refine (s_if_eq 53 46 mc_132 dX10_answer_43 rfl rfl).trans ?_
      refine ite_c ?_ ?_
      · skip
        rfl
      · skip
        refine (s_lload 48 mc_132 dX10_answer_46 rfl rfl rfl).trans ?_
        refine (s_lconst 49 1 mc_132 dX10_answer_48 rfl (by decide)).trans ?_
        refine (s_lcmp 50 mc_132 dX10_answer_49 rfl).trans ?_
        refine (s_if_ne 71 53 mc_132 dX10_answer_50 rfl rfl).trans ?_
        refine ite_c ?_ ?_
        · skip
          refine (s_iconst 72 (-1) mc_132 dX10_answer_71 rfl (by decide)).trans ?_
          exact s_iret mc_132 dX10_answer_72 mt_132
        · skip
          rfl
  · skip
    refine (s_iconst 34 (-1) mc_132 dX10_answer_33 rfl (by decide)).trans ?_
    exact s_iret mc_132 dX10_answer_34 mt_132
theorem b_132_53 {X : Ctx} {d : Nat} (x0 : Nat) (x1 : Int32) (v2 : Option Value) (x3 : Int32) (v4 : Option Value) (v5 : Option Value)  (h : Hp) : sem (X, K X d) 132 53 [some (.ref x0), some (.int x1), v2, some (.int x3), v4, v5] [] h = if ¬ x1 = 1 then sem (X, K X d) 132 73 [some (.ref x0), some (.int x1), v2, some (.int x3), v4, v5] [] h else gR h 10 x0 0 fun g1 => aR h g1 0 fun g2 => gd (hS h g2 = (10, 0)) (bI (K X d 92 [.ref g2, .int x3] h) fun r3 h1 => if ¬ r3 = 0 then sem (X, K X d) 132 73 [some (.ref x0), some (.int x1), v2, some (.int x3), v4, v5] [] h1 else some (some (.int (-1)), h1)) := by
  refine (s_iload_n 54 mc_132 dX10_answer_53 rfl rfl rfl).trans ?_
  refine (s_iconst 55 1 mc_132 dX10_answer_54 rfl (by decide)).trans ?_
  refine (s_icmp_ne 73 58 mc_132 dX10_answer_55 rfl rfl).trans ?_
  refine ite_c ?_ ?_
  · skip
    rfl
  · skip
    refine (s_aload_n 59 mc_132 dX10_answer_58 rfl rfl rfl).trans ?_
    refine (s_getfR 62 mc_132 dX10_answer_59 rfl mo_132 fs_10_11 ff_10_11 rfl).trans ?_
    refine gR_c fun g1 => ?_
    refine (s_iconst 63 0 mc_132 dX10_answer_62 rfl (by decide)).trans ?_
    refine (s_aaload 64 mc_132 dX10_answer_63 rfl).trans ?_
    refine aR_c fun g2 => ?_
    refine (s_iload_n 65 mc_132 dX10_answer_64 rfl rfl rfl).trans ?_
    refine (s_iviI 68 mc_132 dX10_answer_65 rfl mo_132 mm_10_201 (by decide) ms_92 mi_92 mr_92 ma_92 mo_92 (by decide) (Nat.le_of_ble_eq_true rfl) rfl rfl (Nat.le_of_ble_eq_true rfl)).trans ?_
    refine gd_c ?_
    refine bI_c fun r3 h1 => ?_
    refine (s_if_ne 73 71 mc_132 dX10_answer_68 rfl rfl).trans ?_
    refine ite_c ?_ ?_
    · skip
      rfl
    · skip
      refine (s_iconst 72 (-1) mc_132 dX10_answer_71 rfl (by decide)).trans ?_
      exact s_iret mc_132 dX10_answer_72 mt_132
theorem b_132_73 {X : Ctx} {d : Nat} (x0 : Nat) (x1 : Int32) (x2 : Int32) (x3 : Int32) (x4 : Int64)  (h : Hp) : sem (X, K X d) 132 73 [some (.ref x0), some (.int x1), some (.int x2), some (.int x3), some (.long x4), none] [] h = gR h 10 x0 5 fun g1 => gR h 0 g1 0 fun g2 => gR h 10 x0 5 fun g3 => gI h 0 g3 4 fun g4 => wI h g2 g4 x1 fun h1 => gR h1 10 x0 5 fun g5 => gR h1 0 g5 1 fun g6 => gR h1 10 x0 5 fun g7 => gI h1 0 g7 4 fun g8 => wI h1 g6 g8 x2 fun h2 => gR h2 10 x0 5 fun g9 => gR h2 0 g9 2 fun g10 => gR h2 10 x0 5 fun g11 => gI h2 0 g11 4 fun g12 => wI h2 g10 g12 x3 fun h3 => gR h3 10 x0 5 fun g13 => gR h3 0 g13 3 fun g14 => gR h3 10 x0 5 fun g15 => gI h3 0 g15 4 fun g16 => wJ h3 g14 g16 x4 fun h4 => gR h4 10 x0 5 fun g17 => gI h4 0 g17 4 fun g18 => fI h4 0 g17 4 (g18 + 1) fun h5 => gR h5 10 x0 5 fun g19 => gI h5 0 g19 4 fun g20 => some (some (.int (g20 - 1)), h5) := by
  refine (s_aload_n 74 mc_132 dX10_answer_73 rfl rfl rfl).trans ?_
  refine (s_getfR 77 mc_132 dX10_answer_74 rfl mo_132 fs_10_46 ff_10_46 rfl).trans ?_
  refine gR_c fun g1 => ?_
  refine (s_getfR 80 mc_132 dX10_answer_77 rfl mo_132 fs_10_368 ff_10_368 rfl).trans ?_
  refine gR_c fun g2 => ?_
  refine (s_aload_n 81 mc_132 dX10_answer_80 rfl rfl rfl).trans ?_
  refine (s_getfR 84 mc_132 dX10_answer_81 rfl mo_132 fs_10_46 ff_10_46 rfl).trans ?_
  refine gR_c fun g3 => ?_
  refine (s_getfI 87 mc_132 dX10_answer_84 rfl mo_132 fs_10_367 ff_10_367 (Or.inl rfl)).trans ?_
  refine gI_c fun g4 => ?_
  refine (s_iload_n 88 mc_132 dX10_answer_87 rfl rfl rfl).trans ?_
  refine (s_iastore 89 mc_132 dX10_answer_88 rfl).trans ?_
  refine wI_c fun h1 => ?_
  refine (s_aload_n 90 mc_132 dX10_answer_89 rfl rfl rfl).trans ?_
  refine (s_getfR 93 mc_132 dX10_answer_90 rfl mo_132 fs_10_46 ff_10_46 rfl).trans ?_
  refine gR_c fun g5 => ?_
  refine (s_getfR 96 mc_132 dX10_answer_93 rfl mo_132 fs_10_371 ff_10_371 rfl).trans ?_
  refine gR_c fun g6 => ?_
  refine (s_aload_n 97 mc_132 dX10_answer_96 rfl rfl rfl).trans ?_
  refine (s_getfR 100 mc_132 dX10_answer_97 rfl mo_132 fs_10_46 ff_10_46 rfl).trans ?_
  refine gR_c fun g7 => ?_
  refine (s_getfI 103 mc_132 dX10_answer_100 rfl mo_132 fs_10_367 ff_10_367 (Or.inl rfl)).trans ?_
  refine gI_c fun g8 => ?_
  refine (s_iload_n 104 mc_132 dX10_answer_103 rfl rfl rfl).trans ?_
  refine (s_iastore 105 mc_132 dX10_answer_104 rfl).trans ?_
  refine wI_c fun h2 => ?_
  refine (s_aload_n 106 mc_132 dX10_answer_105 rfl rfl rfl).trans ?_
  refine (s_getfR 109 mc_132 dX10_answer_106 rfl mo_132 fs_10_46 ff_10_46 rfl).trans ?_
  refine gR_c fun g9 => ?_
  refine (s_getfR 112 mc_132 dX10_answer_109 rfl mo_132 fs_10_374 ff_10_374 rfl).trans ?_
  refine gR_c fun g10 => ?_
  refine (s_aload_n 113 mc_132 dX10_answer_112 rfl rfl rfl).trans ?_
  refine (s_getfR 116 mc_132 dX10_answer_113 rfl mo_132 fs_10_46 ff_10_46 rfl).trans ?_
  refine gR_c fun g11 => ?_
  refine (s_getfI 119 mc_132 dX10_answer_116 rfl mo_132 fs_10_367 ff_10_367 (Or.inl rfl)).trans ?_
  refine gI_c fun g12 => ?_
  refine (s_iload_n 120 mc_132 dX10_answer_119 rfl rfl rfl).trans ?_
  refine (s_iastore 121 mc_132 dX10_answer_120 rfl).trans ?_
  refine wI_c fun h3 => ?_
  refine (s_aload_n 122 mc_132 dX10_answer_121 rfl rfl rfl).trans ?_
  refine (s_getfR 125 mc_132 dX10_answer_122 rfl mo_132 fs_10_46 ff_10_46 rfl).trans ?_
  refine gR_c fun g13 => ?_
  refine (s_getfR 128 mc_132 dX10_answer_125 rfl mo_132 fs_10_377 ff_10_377 rfl).trans ?_
  refine gR_c fun g14 => ?_
  refine (s_aload_n 129 mc_132 dX10_answer_128 rfl rfl rfl).trans ?_
  refine (s_getfR 132 mc_132 dX10_answer_129 rfl mo_132 fs_10_46 ff_10_46 rfl).trans ?_
  refine gR_c fun g15 => ?_
  refine (s_getfI 135 mc_132 dX10_answer_132 rfl mo_132 fs_10_367 ff_10_367 (Or.inl rfl)).trans ?_
  refine gI_c fun g16 => ?_
  refine (s_lload 137 mc_132 dX10_answer_135 rfl rfl rfl).trans ?_
  refine (s_lastore 138 mc_132 dX10_answer_137 rfl).trans ?_
  refine wJ_c fun h4 => ?_
  refine (s_aload_n 139 mc_132 dX10_answer_138 rfl rfl rfl).trans ?_
  refine (s_getfR 142 mc_132 dX10_answer_139 rfl mo_132 fs_10_46 ff_10_46 rfl).trans ?_
  refine gR_c fun g17 => ?_
  refine (s_dup 143 mc_132 dX10_answer_142 rfl rfl).trans ?_
  refine (s_getfI 146 mc_132 dX10_answer_143 rfl mo_132 fs_10_367 ff_10_367 (Or.inl rfl)).trans ?_
  refine gI_c fun g18 => ?_
  refine (s_iconst 147 1 mc_132 dX10_answer_146 rfl (by decide)).trans ?_
  refine (s_iadd 148 mc_132 dX10_answer_147 rfl).trans ?_
  refine (s_putfI 151 mc_132 dX10_answer_148 rfl mo_132 ff_10_367 rfl (Or.inl rfl)).trans ?_
  refine fI_c fun h5 => ?_
  refine (s_aload_n 152 mc_132 dX10_answer_151 rfl rfl rfl).trans ?_
  refine (s_getfR 155 mc_132 dX10_answer_152 rfl mo_132 fs_10_46 ff_10_46 rfl).trans ?_
  refine gR_c fun g19 => ?_
  refine (s_getfI 158 mc_132 dX10_answer_155 rfl mo_132 fs_10_367 ff_10_367 (Or.inl rfl)).trans ?_
  refine gI_c fun g20 => ?_
  refine (s_iconst 159 1 mc_132 dX10_answer_158 rfl (by decide)).trans ?_
  refine (s_isub 160 mc_132 dX10_answer_159 rfl).trans ?_
  exact s_iret mc_132 dX10_answer_160 mt_132
/-- FiveLands.judged()I -/
theorem k_133 {X : Ctx} {d : Nat} (x0 : Nat) (h : Hp) : K X (d + 1) 133 [.ref x0] h = gd (hS h x0 = (11, 0)) (bV (K X d 136 [.ref x0, .int 0] h) fun h1 => sem (X, K X d) 133 7 [some (.ref x0), some (.int 0)] [] h1) := by
  show sem (X, K X d) 133 0 [some (.ref x0), none] [] h = _
  refine (s_aload_n 1 mc_133 dX10_judged_0 rfl rfl rfl).trans ?_
  refine (s_iconst 2 0 mc_133 dX10_judged_1 rfl (by decide)).trans ?_
  refine (s_iviV 5 mc_133 dX10_judged_2 rfl mo_133 mm_10_166 (by decide) ms_136 mi_136 mr_136 ma_136 mo_136 (by decide) (Nat.le_of_ble_eq_true rfl) rfl rfl (Nat.le_of_ble_eq_true rfl)).trans ?_
  refine gd_c ?_
  refine bV_c fun h1 => ?_
  refine (s_iconst 6 0 mc_133 dX10_judged_5 rfl (by decide)).trans ?_
  refine (s_istore_n 7 mc_133 dX10_judged_6 rfl rfl (Nat.le_of_ble_eq_true rfl) rfl).trans ?_
  rfl
theorem b_133_7 {X : Ctx} {d : Nat} (x0 : Nat) (x1 : Int32)  (h : Hp) : sem (X, K X d) 133 7 [some (.ref x0), some (.int x1)] [] h = gR h 10 x0 5 fun g1 => gI h 0 g1 4 fun g2 => if g2 ≤ x1 then some (some (.int (-1)), h) else gd (hS h x0 = (11, 0)) (bJ (K X d 134 [.ref x0, .int x1] h) fun r3 h1 => gR h1 10 x0 5 fun g4 => gR h1 0 g4 3 fun g5 => aJ h1 g5 x1 fun g6 => if (lg_cmp r3 g6) = 0 then sem (X, K X d) 133 7 [some (.ref x0), some (.int (x1 + 1))] [] h1 else some (some (.int x1), h1)) := by
  refine (s_iload_n 8 mc_133 dX10_judged_7 rfl rfl rfl).trans ?_
  refine (s_aload_n 9 mc_133 dX10_judged_8 rfl rfl rfl).trans ?_
  refine (s_getfR 12 mc_133 dX10_judged_9 rfl mo_133 fs_10_46 ff_10_46 rfl).trans ?_
  refine gR_c fun g1 => ?_
  refine (s_getfI 15 mc_133 dX10_judged_12 rfl mo_133 fs_10_367 ff_10_367 (Or.inl rfl)).trans ?_
  refine gI_c fun g2 => ?_
  refine (s_icmp_ge 44 18 mc_133 dX10_judged_15 rfl rfl).trans ?_
  refine ite_c ?_ ?_
  · skip
    refine (s_iconst 45 (-1) mc_133 dX10_judged_44 rfl (by decide)).trans ?_
    exact s_iret mc_133 dX10_judged_45 mt_133
  · skip
    refine (s_aload_n 19 mc_133 dX10_judged_18 rfl rfl rfl).trans ?_
    refine (s_iload_n 20 mc_133 dX10_judged_19 rfl rfl rfl).trans ?_
    refine (s_iviJ 23 mc_133 dX10_judged_20 rfl mo_133 mm_10_380 (by decide) ms_134 mi_134 mr_134 ma_134 mo_134 (by decide) (Nat.le_of_ble_eq_true rfl) rfl rfl (Nat.le_of_ble_eq_true rfl)).trans ?_
    refine gd_c ?_
    refine bJ_c fun r3 h1 => ?_
    refine (s_aload_n 24 mc_133 dX10_judged_23 rfl rfl rfl).trans ?_
    refine (s_getfR 27 mc_133 dX10_judged_24 rfl mo_133 fs_10_46 ff_10_46 rfl).trans ?_
    refine gR_c fun g4 => ?_
    refine (s_getfR 30 mc_133 dX10_judged_27 rfl mo_133 fs_10_377 ff_10_377 rfl).trans ?_
    refine gR_c fun g5 => ?_
    refine (s_iload_n 31 mc_133 dX10_judged_30 rfl rfl rfl).trans ?_
    refine (s_laload 32 mc_133 dX10_judged_31 rfl).trans ?_
    refine aJ_c fun g6 => ?_
    refine (s_lcmp 33 mc_133 dX10_judged_32 rfl).trans ?_
    refine (s_if_eq 38 36 mc_133 dX10_judged_33 rfl rfl).trans ?_
    refine ite_c ?_ ?_
    · skip
      refine (s_iinc 1 41 mc_133 dX10_judged_38 rfl rfl (Nat.le_of_ble_eq_true rfl) (by decide) rfl).trans ?_
      refine (s_goto 7 mc_133 dX10_judged_41 rfl).trans ?_
      rfl
    · skip
      refine (s_iload_n 37 mc_133 dX10_judged_36 rfl rfl rfl).trans ?_
      exact s_iret mc_133 dX10_judged_37 mt_133
/-- FiveLands.truth(I)J -/
theorem k_134 {X : Ctx} {d : Nat} (x0 : Nat) (x1 : Int32) (h : Hp) : K X (d + 1) 134 [.ref x0, .int x1] h = gR h 10 x0 5 fun g1 => gR h 0 g1 1 fun g2 => aI X h g2 x1 fun g3 => gR h 10 x0 5 fun g4 => gR h 0 g4 0 fun g5 => aI X h g5 x1 fun g6 => if ¬ g6 = 0 then gR h 10 x0 5 fun g7 => gR h 0 g7 0 fun g8 => aI X h g8 x1 fun g9 => if ¬ g9 = 1 then gR h 10 x0 8 fun g10 => gR h 10 x0 0 fun g11 => aR h g11 0 fun g12 => gd (hS h g10 = (3, 0)) (bJ (K X d 20 [.ref g10, .ref g12] h) fun r13 h1 => some (some (.long r13), h1)) else gR h 10 x0 8 fun g14 => gR h 10 x0 0 fun g15 => aR h g15 0 fun g16 => gR h 9 g16 2 fun g17 => gR h 10 x0 5 fun g18 => gR h 0 g18 2 fun g19 => aI X h g19 x1 fun g20 => aR h g17 g20 fun g21 => gd (hS h g14 = (3, 0)) (bJ (K X d 21 [.ref g14, .ref g21] h) fun r22 h2 => gR h2 10 x0 8 fun g23 => gR h2 2 g23 9 fun g24 => aJ h2 g24 g3 fun g25 => some (some (.long g25), h2)) else gR h 10 x0 8 fun g26 => gI h 2 g26 15 fun g27 => bI (K X d 140 [.long (g27 : Int32).toInt64, .int g3] h) fun r28 h3 => if r28 = 0 then some (some (.long 0), h3) else some (some (.long 1), h3) := by
  show sem (X, K X d) 134 0 [some (.ref x0), some (.int x1), none] [] h = _
  refine (s_aload_n 1 mc_134 dX10_truth_0 rfl rfl rfl).trans ?_
  refine (s_getfR 4 mc_134 dX10_truth_1 rfl mo_134 fs_10_46 ff_10_46 rfl).trans ?_
  refine gR_c fun g1 => ?_
  refine (s_getfR 7 mc_134 dX10_truth_4 rfl mo_134 fs_10_371 ff_10_371 rfl).trans ?_
  refine gR_c fun g2 => ?_
  refine (s_iload_n 8 mc_134 dX10_truth_7 rfl rfl rfl).trans ?_
  refine (s_iaload 9 mc_134 dX10_truth_8 rfl).trans ?_
  refine aI_c fun g3 => ?_
  refine (s_istore_n 10 mc_134 dX10_truth_9 rfl rfl (Nat.le_of_ble_eq_true rfl) rfl).trans ?_
  refine (s_aload_n 11 mc_134 dX10_truth_10 rfl rfl rfl).trans ?_
  refine (s_getfR 14 mc_134 dX10_truth_11 rfl mo_134 fs_10_46 ff_10_46 rfl).trans ?_
  refine gR_c fun g4 => ?_
  refine (s_getfR 17 mc_134 dX10_truth_14 rfl mo_134 fs_10_368 ff_10_368 rfl).trans ?_
  refine gR_c fun g5 => ?_
  refine (s_iload_n 18 mc_134 dX10_truth_17 rfl rfl rfl).trans ?_
  refine (s_iaload 19 mc_134 dX10_truth_18 rfl).trans ?_
  refine aI_c fun g6 => ?_
  refine (s_if_ne 43 22 mc_134 dX10_truth_19 rfl rfl).trans ?_
  refine ite_c ?_ ?_
  · skip
    refine (s_aload_n 44 mc_134 dX10_truth_43 rfl rfl rfl).trans ?_
    refine (s_getfR 47 mc_134 dX10_truth_44 rfl mo_134 fs_10_46 ff_10_46 rfl).trans ?_
    refine gR_c fun g7 => ?_
    refine (s_getfR 50 mc_134 dX10_truth_47 rfl mo_134 fs_10_368 ff_10_368 rfl).trans ?_
    refine gR_c fun g8 => ?_
    refine (s_iload_n 51 mc_134 dX10_truth_50 rfl rfl rfl).trans ?_
    refine (s_iaload 52 mc_134 dX10_truth_51 rfl).trans ?_
    refine aI_c fun g9 => ?_
    refine (s_iconst 53 1 mc_134 dX10_truth_52 rfl (by decide)).trans ?_
    refine (s_icmp_ne 93 56 mc_134 dX10_truth_53 rfl rfl).trans ?_
    refine ite_c ?_ ?_
    · skip
      refine (s_aload_n 94 mc_134 dX10_truth_93 rfl rfl rfl).trans ?_
      refine (s_getfR 97 mc_134 dX10_truth_94 rfl mo_134 fs_10_18 ff_10_18 rfl).trans ?_
      refine gR_c fun g10 => ?_
      refine (s_aload_n 98 mc_134 dX10_truth_97 rfl rfl rfl).trans ?_
      refine (s_getfR 101 mc_134 dX10_truth_98 rfl mo_134 fs_10_11 ff_10_11 rfl).trans ?_
      refine gR_c fun g11 => ?_
      refine (s_iconst 102 0 mc_134 dX10_truth_101 rfl (by decide)).trans ?_
      refine (s_aaload 103 mc_134 dX10_truth_102 rfl).trans ?_
      refine aR_c fun g12 => ?_
      refine (s_iviJ 106 mc_134 dX10_truth_103 rfl mo_134 mm_10_233 (by decide) ms_20 mi_20 mr_20 ma_20 mo_20 (by decide) (Nat.le_of_ble_eq_true rfl) rfl rfl (Nat.le_of_ble_eq_true rfl)).trans ?_
      refine gd_c ?_
      refine bJ_c fun r13 h1 => ?_
      exact s_lret mc_134 dX10_truth_106 mt_134
    · skip
      refine (s_aload_n 57 mc_134 dX10_truth_56 rfl rfl rfl).trans ?_
      refine (s_getfR 60 mc_134 dX10_truth_57 rfl mo_134 fs_10_18 ff_10_18 rfl).trans ?_
      refine gR_c fun g14 => ?_
      refine (s_aload_n 61 mc_134 dX10_truth_60 rfl rfl rfl).trans ?_
      refine (s_getfR 64 mc_134 dX10_truth_61 rfl mo_134 fs_10_11 ff_10_11 rfl).trans ?_
      refine gR_c fun g15 => ?_
      refine (s_iconst 65 0 mc_134 dX10_truth_64 rfl (by decide)).trans ?_
      refine (s_aaload 66 mc_134 dX10_truth_65 rfl).trans ?_
      refine aR_c fun g16 => ?_
      refine (s_getfR 69 mc_134 dX10_truth_66 rfl mo_134 fs_10_119 ff_10_119 rfl).trans ?_
      refine gR_c fun g17 => ?_
      refine (s_aload_n 70 mc_134 dX10_truth_69 rfl rfl rfl).trans ?_
      refine (s_getfR 73 mc_134 dX10_truth_70 rfl mo_134 fs_10_46 ff_10_46 rfl).trans ?_
      refine gR_c fun g18 => ?_
      refine (s_getfR 76 mc_134 dX10_truth_73 rfl mo_134 fs_10_374 ff_10_374 rfl).trans ?_
      refine gR_c fun g19 => ?_
      refine (s_iload_n 77 mc_134 dX10_truth_76 rfl rfl rfl).trans ?_
      refine (s_iaload 78 mc_134 dX10_truth_77 rfl).trans ?_
      refine aI_c fun g20 => ?_
      refine (s_aaload 79 mc_134 dX10_truth_78 rfl).trans ?_
      refine aR_c fun g21 => ?_
      refine (s_iviJ 82 mc_134 dX10_truth_79 rfl mo_134 mm_10_212 (by decide) ms_21 mi_21 mr_21 ma_21 mo_21 (by decide) (Nat.le_of_ble_eq_true rfl) rfl rfl (Nat.le_of_ble_eq_true rfl)).trans ?_
      refine gd_c ?_
      refine bJ_c fun r22 h2 => ?_
      refine (s_pop2 83 mc_134 dX10_truth_82 rfl).trans ?_
      refine (s_aload_n 84 mc_134 dX10_truth_83 rfl rfl rfl).trans ?_
      refine (s_getfR 87 mc_134 dX10_truth_84 rfl mo_134 fs_10_18 ff_10_18 rfl).trans ?_
      refine gR_c fun g23 => ?_
      refine (s_getfR 90 mc_134 dX10_truth_87 rfl mo_134 fs_10_223 ff_10_223 rfl).trans ?_
      refine gR_c fun g24 => ?_
      refine (s_iload_n 91 mc_134 dX10_truth_90 rfl rfl rfl).trans ?_
      refine (s_laload 92 mc_134 dX10_truth_91 rfl).trans ?_
      refine aJ_c fun g25 => ?_
      exact s_lret mc_134 dX10_truth_92 mt_134
  · skip
    refine (s_aload_n 23 mc_134 dX10_truth_22 rfl rfl rfl).trans ?_
    refine (s_getfR 26 mc_134 dX10_truth_23 rfl mo_134 fs_10_18 ff_10_18 rfl).trans ?_
    refine gR_c fun g26 => ?_
    refine (s_getfI 29 mc_134 dX10_truth_26 rfl mo_134 fs_10_180 ff_10_180 (Or.inl rfl)).trans ?_
    refine gI_c fun g27 => ?_
    refine (s_i2l 30 mc_134 dX10_truth_29 rfl).trans ?_
    refine (s_iload_n 31 mc_134 dX10_truth_30 rfl rfl rfl).trans ?_
    refine (s_istI 34 mc_134 dX10_truth_31 rfl mo_134 mm_10_176 (by decide) ms_140 mr_140 ma_140 (Nat.le_of_ble_eq_true rfl) rfl rfl (Nat.le_of_ble_eq_true rfl)).trans ?_
    refine bI_c fun r28 h3 => ?_
    refine (s_if_eq 41 37 mc_134 dX10_truth_34 rfl rfl).trans ?_
    refine ite_c ?_ ?_
    · skip
      refine (s_lconst 42 0 mc_134 dX10_truth_41 rfl (by decide)).trans ?_
      exact s_lret mc_134 dX10_truth_42 mt_134
    · skip
      refine (s_lconst 38 1 mc_134 dX10_truth_37 rfl (by decide)).trans ?_
      refine (s_goto 42 mc_134 dX10_truth_38 rfl).trans ?_
      exact s_lret mc_134 dX10_truth_42 mt_134
/-- FiveLands.look(I)I -/
theorem k_135 {X : Ctx} {d : Nat} (x0 : Nat) (x1 : Int32) (h : Hp) : K X (d + 1) 135 [.ref x0, .int x1] h = sem (X, K X d) 135 (tsw 0 [40, 50, 60, 68, 76, 84] 92 x1) [some (.ref x0), some (.int x1)] [] h := by
  show sem (X, K X d) 135 0 [some (.ref x0), some (.int x1)] [] h = _
  refine (s_iload_n 1 mc_135 dX10_look_0 rfl rfl rfl).trans ?_
  refine (s_tsw [40, 50, 60, 68, 76, 84] 92 mc_135 dX10_look_1 rfl rfl rfl).trans ?_
  rfl
theorem b_135_40 {X : Ctx} {d : Nat} (x0 : Nat) (v1 : Option Value)  (h : Hp) : sem (X, K X d) 135 40 [some (.ref x0), v1] [] h = gR h 10 x0 0 fun g1 => aR h g1 0 fun g2 => gI h 9 g2 3 fun g3 => some (some (.int g3), h) := by
  refine (s_aload_n 41 mc_135 dX10_look_40 rfl rfl rfl).trans ?_
  refine (s_getfR 44 mc_135 dX10_look_41 rfl mo_135 fs_10_11 ff_10_11 rfl).trans ?_
  refine gR_c fun g1 => ?_
  refine (s_iconst 45 0 mc_135 dX10_look_44 rfl (by decide)).trans ?_
  refine (s_aaload 46 mc_135 dX10_look_45 rfl).trans ?_
  refine aR_c fun g2 => ?_
  refine (s_getfI 49 mc_135 dX10_look_46 rfl mo_135 fs_10_116 ff_10_116 (Or.inl rfl)).trans ?_
  refine gI_c fun g3 => ?_
  exact s_iret mc_135 dX10_look_49 mt_135
theorem b_135_50 {X : Ctx} {d : Nat} (x0 : Nat) (v1 : Option Value)  (h : Hp) : sem (X, K X d) 135 50 [some (.ref x0), v1] [] h = gR h 10 x0 0 fun g1 => aR h g1 1 fun g2 => gI h 9 g2 3 fun g3 => some (some (.int g3), h) := by
  refine (s_aload_n 51 mc_135 dX10_look_50 rfl rfl rfl).trans ?_
  refine (s_getfR 54 mc_135 dX10_look_51 rfl mo_135 fs_10_11 ff_10_11 rfl).trans ?_
  refine gR_c fun g1 => ?_
  refine (s_iconst 55 1 mc_135 dX10_look_54 rfl (by decide)).trans ?_
  refine (s_aaload 56 mc_135 dX10_look_55 rfl).trans ?_
  refine aR_c fun g2 => ?_
  refine (s_getfI 59 mc_135 dX10_look_56 rfl mo_135 fs_10_116 ff_10_116 (Or.inl rfl)).trans ?_
  refine gI_c fun g3 => ?_
  exact s_iret mc_135 dX10_look_59 mt_135
theorem b_135_60 {X : Ctx} {d : Nat} (x0 : Nat) (v1 : Option Value)  (h : Hp) : sem (X, K X d) 135 60 [some (.ref x0), v1] [] h = gR h 10 x0 4 fun g1 => gI h 4 g1 8 fun g2 => some (some (.int g2), h) := by
  refine (s_aload_n 61 mc_135 dX10_look_60 rfl rfl rfl).trans ?_
  refine (s_getfR 64 mc_135 dX10_look_61 rfl mo_135 fs_10_39 ff_10_39 rfl).trans ?_
  refine gR_c fun g1 => ?_
  refine (s_getfI 67 mc_135 dX10_look_64 rfl mo_135 fs_10_280 ff_10_280 (Or.inl rfl)).trans ?_
  refine gI_c fun g2 => ?_
  exact s_iret mc_135 dX10_look_67 mt_135
theorem b_135_68 {X : Ctx} {d : Nat} (x0 : Nat) (v1 : Option Value)  (h : Hp) : sem (X, K X d) 135 68 [some (.ref x0), v1] [] h = gR h 10 x0 4 fun g1 => gI h 4 g1 9 fun g2 => some (some (.int g2), h) := by
  refine (s_aload_n 69 mc_135 dX10_look_68 rfl rfl rfl).trans ?_
  refine (s_getfR 72 mc_135 dX10_look_69 rfl mo_135 fs_10_39 ff_10_39 rfl).trans ?_
  refine gR_c fun g1 => ?_
  refine (s_getfI 75 mc_135 dX10_look_72 rfl mo_135 fs_10_297 ff_10_297 (Or.inl rfl)).trans ?_
  refine gI_c fun g2 => ?_
  exact s_iret mc_135 dX10_look_75 mt_135
theorem b_135_76 {X : Ctx} {d : Nat} (x0 : Nat) (v1 : Option Value)  (h : Hp) : sem (X, K X d) 135 76 [some (.ref x0), v1] [] h = gR h 10 x0 4 fun g1 => gI h 4 g1 10 fun g2 => some (some (.int g2), h) := by
  refine (s_aload_n 77 mc_135 dX10_look_76 rfl rfl rfl).trans ?_
  refine (s_getfR 80 mc_135 dX10_look_77 rfl mo_135 fs_10_39 ff_10_39 rfl).trans ?_
  refine gR_c fun g1 => ?_
  refine (s_getfI 83 mc_135 dX10_look_80 rfl mo_135 fs_10_317 ff_10_317 (Or.inl rfl)).trans ?_
  refine gI_c fun g2 => ?_
  exact s_iret mc_135 dX10_look_83 mt_135
theorem b_135_84 {X : Ctx} {d : Nat} (x0 : Nat) (v1 : Option Value)  (h : Hp) : sem (X, K X d) 135 84 [some (.ref x0), v1] [] h = gR h 10 x0 5 fun g1 => gI h 0 g1 4 fun g2 => some (some (.int g2), h) := by
  refine (s_aload_n 85 mc_135 dX10_look_84 rfl rfl rfl).trans ?_
  refine (s_getfR 88 mc_135 dX10_look_85 rfl mo_135 fs_10_46 ff_10_46 rfl).trans ?_
  refine gR_c fun g1 => ?_
  refine (s_getfI 91 mc_135 dX10_look_88 rfl mo_135 fs_10_367 ff_10_367 (Or.inl rfl)).trans ?_
  refine gI_c fun g2 => ?_
  exact s_iret mc_135 dX10_look_91 mt_135
theorem b_135_92 {X : Ctx} {d : Nat} (v0 : Option Value) (v1 : Option Value)  (h : Hp) : sem (X, K X d) 135 92 [v0, v1] [] h = some (some (.int (-1)), h) := by
  refine (s_iconst 93 (-1) mc_135 dX10_look_92 rfl (by decide)).trans ?_
  exact s_iret mc_135 dX10_look_93 mt_135
/-- FiveLands.hear(I)V -/
theorem k_136 {X : Ctx} {d : Nat} (x0 : Nat) (x1 : Int32) (h : Hp) : K X (d + 1) 136 [.ref x0, .int x1] h = gR h 10 x0 8 fun g1 => gR h 10 x0 0 fun g2 => aR h g2 x1 fun g3 => gR h 9 g3 1 fun g4 => gR h 10 x0 2 fun g5 => gR h 10 x0 0 fun g6 => aR h g6 x1 fun g7 => gd (hS h g7 = (10, 0)) (bJ (K X d 95 [.ref g7] h) fun r8 h1 => gd (hS h1 g1 = (3, 0)) (bV (K X d 13 [.ref g1, .ref g4, .ref g5, .long r8] h1) fun h2 => some (none, h2))) := by
  show sem (X, K X d) 136 0 [some (.ref x0), some (.int x1)] [] h = _
  refine (s_aload_n 1 mc_136 dX10_hear_0 rfl rfl rfl).trans ?_
  refine (s_getfR 4 mc_136 dX10_hear_1 rfl mo_136 fs_10_18 ff_10_18 rfl).trans ?_
  refine gR_c fun g1 => ?_
  refine (s_aload_n 5 mc_136 dX10_hear_4 rfl rfl rfl).trans ?_
  refine (s_getfR 8 mc_136 dX10_hear_5 rfl mo_136 fs_10_11 ff_10_11 rfl).trans ?_
  refine gR_c fun g2 => ?_
  refine (s_iload_n 9 mc_136 dX10_hear_8 rfl rfl rfl).trans ?_
  refine (s_aaload 10 mc_136 dX10_hear_9 rfl).trans ?_
  refine aR_c fun g3 => ?_
  refine (s_getfR 13 mc_136 dX10_hear_10 rfl mo_136 fs_10_102 ff_10_102 rfl).trans ?_
  refine gR_c fun g4 => ?_
  refine (s_aload_n 14 mc_136 dX10_hear_13 rfl rfl rfl).trans ?_
  refine (s_getfR 17 mc_136 dX10_hear_14 rfl mo_136 fs_10_29 ff_10_29 rfl).trans ?_
  refine gR_c fun g5 => ?_
  refine (s_aload_n 18 mc_136 dX10_hear_17 rfl rfl rfl).trans ?_
  refine (s_getfR 21 mc_136 dX10_hear_18 rfl mo_136 fs_10_11 ff_10_11 rfl).trans ?_
  refine gR_c fun g6 => ?_
  refine (s_iload_n 22 mc_136 dX10_hear_21 rfl rfl rfl).trans ?_
  refine (s_aaload 23 mc_136 dX10_hear_22 rfl).trans ?_
  refine aR_c fun g7 => ?_
  refine (s_iviJ 26 mc_136 dX10_hear_23 rfl mo_136 mm_10_226 (by decide) ms_95 mi_95 mr_95 ma_95 mo_95 (by decide) (Nat.le_of_ble_eq_true rfl) rfl rfl (Nat.le_of_ble_eq_true rfl)).trans ?_
  refine gd_c ?_
  refine bJ_c fun r8 h1 => ?_
  refine (s_iviV 29 mc_136 dX10_hear_26 rfl mo_136 mm_10_263 (by decide) ms_13 mi_13 mr_13 ma_13 mo_13 (by decide) (Nat.le_of_ble_eq_true rfl) rfl rfl (Nat.le_of_ble_eq_true rfl)).trans ?_
  refine gd_c ?_
  refine bV_c fun h2 => ?_
  exact s_vret mc_136 dX10_hear_29 mt_136
/-- FiveLands.isYear(I)Z -/
theorem k_137 {X : Ctx} {d : Nat} (x0 : Int32) (h : Hp) : K X (d + 1) 137 [.int x0] h = if x0 < 0 then some (some (.int 0), h) else if 2 ≤ x0 then some (some (.int 0), h) else some (some (.int 1), h) := by
  show sem (X, K X d) 137 0 [some (.int x0)] [] h = _
  refine (s_iload_n 1 mc_137 dX10_isYear_0 rfl rfl rfl).trans ?_
  refine (s_if_lt 13 4 mc_137 dX10_isYear_1 rfl rfl).trans ?_
  refine ite_c ?_ ?_
  · skip
    refine (s_iconst 14 0 mc_137 dX10_isYear_13 rfl (by decide)).trans ?_
    exact s_zret0 mc_137 dX10_isYear_14 mt_137
  · skip
    refine (s_iload_n 5 mc_137 dX10_isYear_4 rfl rfl rfl).trans ?_
    refine (s_iconst 6 2 mc_137 dX10_isYear_5 rfl (by decide)).trans ?_
    refine (s_icmp_ge 13 9 mc_137 dX10_isYear_6 rfl rfl).trans ?_
    refine ite_c ?_ ?_
    · skip
      refine (s_iconst 14 0 mc_137 dX10_isYear_13 rfl (by decide)).trans ?_
      exact s_zret0 mc_137 dX10_isYear_14 mt_137
    · skip
      refine (s_iconst 10 1 mc_137 dX10_isYear_9 rfl (by decide)).trans ?_
      refine (s_goto 14 mc_137 dX10_isYear_10 rfl).trans ?_
      exact s_zret1 mc_137 dX10_isYear_14 mt_137
/-- FiveLands.isLand(I)Z -/
theorem k_138 {X : Ctx} {d : Nat} (x0 : Int32) (h : Hp) : K X (d + 1) 138 [.int x0] h = if x0 < 0 then some (some (.int 0), h) else if 6 ≤ x0 then some (some (.int 0), h) else some (some (.int 1), h) := by
  show sem (X, K X d) 138 0 [some (.int x0)] [] h = _
  refine (s_iload_n 1 mc_138 dX10_isLand_0 rfl rfl rfl).trans ?_
  refine (s_if_lt 14 4 mc_138 dX10_isLand_1 rfl rfl).trans ?_
  refine ite_c ?_ ?_
  · skip
    refine (s_iconst 15 0 mc_138 dX10_isLand_14 rfl (by decide)).trans ?_
    exact s_zret0 mc_138 dX10_isLand_15 mt_138
  · skip
    refine (s_iload_n 5 mc_138 dX10_isLand_4 rfl rfl rfl).trans ?_
    refine (s_bipush 7 6 mc_138 dX10_isLand_5 rfl (by decide)).trans ?_
    refine (s_icmp_ge 14 10 mc_138 dX10_isLand_7 rfl rfl).trans ?_
    refine ite_c ?_ ?_
    · skip
      refine (s_iconst 15 0 mc_138 dX10_isLand_14 rfl (by decide)).trans ?_
      exact s_zret0 mc_138 dX10_isLand_15 mt_138
    · skip
      refine (s_iconst 11 1 mc_138 dX10_isLand_10 rfl (by decide)).trans ?_
      refine (s_goto 15 mc_138 dX10_isLand_11 rfl).trans ?_
      exact s_zret1 mc_138 dX10_isLand_15 mt_138
/-- FiveLands.isLandOrNone(I)Z -/
theorem k_139 {X : Ctx} {d : Nat} (x0 : Int32) (h : Hp) : K X (d + 1) 139 [.int x0] h = if x0 = (-1) then some (some (.int 1), h) else bI (K X d 138 [.int x0] h) fun r1 h1 => if r1 = 0 then some (some (.int 0), h1) else some (some (.int 1), h1) := by
  show sem (X, K X d) 139 0 [some (.int x0)] [] h = _
  refine (s_iload_n 1 mc_139 dX10_isLandOrNone_0 rfl rfl rfl).trans ?_
  refine (s_iconst 2 (-1) mc_139 dX10_isLandOrNone_1 rfl (by decide)).trans ?_
  refine (s_icmp_eq 12 5 mc_139 dX10_isLandOrNone_2 rfl rfl).trans ?_
  refine ite_c ?_ ?_
  · skip
    refine (s_iconst 13 1 mc_139 dX10_isLandOrNone_12 rfl (by decide)).trans ?_
    refine (s_goto 17 mc_139 dX10_isLandOrNone_13 rfl).trans ?_
    exact s_zret1 mc_139 dX10_isLandOrNone_17 mt_139
  · skip
    refine (s_iload_n 6 mc_139 dX10_isLandOrNone_5 rfl rfl rfl).trans ?_
    refine (s_istI 9 mc_139 dX10_isLandOrNone_6 rfl mo_139 mm_10_99 (by decide) ms_138 mr_138 ma_138 (Nat.le_of_ble_eq_true rfl) rfl rfl (Nat.le_of_ble_eq_true rfl)).trans ?_
    refine bI_c fun r1 h1 => ?_
    refine (s_if_eq 16 12 mc_139 dX10_isLandOrNone_9 rfl rfl).trans ?_
    refine ite_c ?_ ?_
    · skip
      refine (s_iconst 17 0 mc_139 dX10_isLandOrNone_16 rfl (by decide)).trans ?_
      exact s_zret0 mc_139 dX10_isLandOrNone_17 mt_139
    · skip
      refine (s_iconst 13 1 mc_139 dX10_isLandOrNone_12 rfl (by decide)).trans ?_
      refine (s_goto 17 mc_139 dX10_isLandOrNone_13 rfl).trans ?_
      exact s_zret1 mc_139 dX10_isLandOrNone_17 mt_139
/-- FiveLands.has(JI)Z -/
theorem k_140 {X : Ctx} {d : Nat} (x0 : Int64) (x2 : Int32) (h : Hp) : K X (d + 1) 140 [.long x0, .int x2] h = if ¬ (lg_cmp ((x0 >>> ((x2 : Int32).toInt64 &&& 63)) &&& 1) 1) = 0 then some (some (.int 0), h) else some (some (.int 1), h) := by
  show sem (X, K X d) 140 0 [some (.long x0), none, some (.int x2)] [] h = _
  refine (s_lload_n 1 mc_140 dX10_has_0 rfl rfl rfl rfl).trans ?_
  refine (s_iload_n 2 mc_140 dX10_has_1 rfl rfl rfl).trans ?_
  refine (s_lshr 3 mc_140 dX10_has_2 rfl).trans ?_
  refine (s_lconst 4 1 mc_140 dX10_has_3 rfl (by decide)).trans ?_
  refine (s_land 5 mc_140 dX10_has_4 rfl).trans ?_
  refine (s_lconst 6 1 mc_140 dX10_has_5 rfl (by decide)).trans ?_
  refine (s_lcmp 7 mc_140 dX10_has_6 rfl).trans ?_
  refine (s_if_ne 14 10 mc_140 dX10_has_7 rfl rfl).trans ?_
  refine ite_c ?_ ?_
  · skip
    refine (s_iconst 15 0 mc_140 dX10_has_14 rfl (by decide)).trans ?_
    exact s_zret0 mc_140 dX10_has_15 mt_140
  · skip
    refine (s_iconst 11 1 mc_140 dX10_has_10 rfl (by decide)).trans ?_
    refine (s_goto 15 mc_140 dX10_has_11 rfl).trans ?_
    exact s_zret1 mc_140 dX10_has_15 mt_140
/-- FiveLands.pair(II)I -/
theorem k_141 {X : Ctx} {d : Nat} (x0 : Int32) (x1 : Int32) (h : Hp) : K X (d + 1) 141 [.int x0, .int x1] h = gd (¬ 2 = 0) (some (some (.int ((((((if x1 < x0 then x1 else x0) * (11 - (if x1 < x0 then x1 else x0))) / 2) + (if x0 < x1 then x1 else x0)) - (if x1 < x0 then x1 else x0)) - 1)), h)) := by
  show sem (X, K X d) 141 0 [some (.int x0), some (.int x1), none, none] [] h = _
  refine (s_iload_n 1 mc_141 dX10_pair_0 rfl rfl rfl).trans ?_
  refine (s_iload_n 2 mc_141 dX10_pair_1 rfl rfl rfl).trans ?_
  refine (s_mmin 5 mc_141 dX10_pair_2 rfl mo_141 mm_10_364 (Nat.le_of_ble_eq_true rfl)).trans ?_
  refine (s_istore_n 6 mc_141 dX10_pair_5 rfl rfl (Nat.le_of_ble_eq_true rfl) rfl).trans ?_
  refine (s_iload_n 7 mc_141 dX10_pair_6 rfl rfl rfl).trans ?_
  refine (s_iload_n 8 mc_141 dX10_pair_7 rfl rfl rfl).trans ?_
  refine (s_mmax 11 mc_141 dX10_pair_8 rfl mo_141 mm_10_383 (Nat.le_of_ble_eq_true rfl)).trans ?_
  refine (s_istore_n 12 mc_141 dX10_pair_11 rfl rfl (Nat.le_of_ble_eq_true rfl) rfl).trans ?_
  refine (s_iload_n 13 mc_141 dX10_pair_12 rfl rfl rfl).trans ?_
  refine (s_bipush 15 11 mc_141 dX10_pair_13 rfl (by decide)).trans ?_
  refine (s_iload_n 16 mc_141 dX10_pair_15 rfl rfl rfl).trans ?_
  refine (s_isub 17 mc_141 dX10_pair_16 rfl).trans ?_
  refine (s_imul 18 mc_141 dX10_pair_17 rfl).trans ?_
  refine (s_iconst 19 2 mc_141 dX10_pair_18 rfl (by decide)).trans ?_
  refine (s_idiv 20 mc_141 dX10_pair_19 rfl).trans ?_
  refine gd_c ?_
  refine (s_iload_n 21 mc_141 dX10_pair_20 rfl rfl rfl).trans ?_
  refine (s_iadd 22 mc_141 dX10_pair_21 rfl).trans ?_
  refine (s_iload_n 23 mc_141 dX10_pair_22 rfl rfl rfl).trans ?_
  refine (s_isub 24 mc_141 dX10_pair_23 rfl).trans ?_
  refine (s_iconst 25 1 mc_141 dX10_pair_24 rfl (by decide)).trans ?_
  refine (s_isub 26 mc_141 dX10_pair_25 rfl).trans ?_
  exact s_iret mc_141 dX10_pair_26 mt_141
