/-- FiveLandsModel.isIn(III)Z -/
theorem k_142 {X : Ctx} {d : Nat} (x0 : Int32) (x1 : Int32) (x2 : Int32) (h : Hp) : K X (d + 1) 142 [.int x0, .int x1, .int x2] h = if x0 < x1 then some (some (.int 0), h) else if x2 < x0 then some (some (.int 0), h) else some (some (.int 1), h) := by
  show sem (X, K X d) 142 0 [some (.int x0), some (.int x1), some (.int x2)] [] h = _
  refine (s_iload_n 1 mc_142 dX11_isIn_0 rfl rfl rfl).trans ?_
  refine (s_iload_n 2 mc_142 dX11_isIn_1 rfl rfl rfl).trans ?_
  refine (s_icmp_lt 14 5 mc_142 dX11_isIn_2 rfl rfl).trans ?_
  refine ite_c ?_ ?_
  · skip
    refine (s_iconst 15 0 mc_142 dX11_isIn_14 rfl (by decide)).trans ?_
    exact s_zret0 mc_142 dX11_isIn_15 mt_142
  · skip
    refine (s_iload_n 6 mc_142 dX11_isIn_5 rfl rfl rfl).trans ?_
    refine (s_iload_n 7 mc_142 dX11_isIn_6 rfl rfl rfl).trans ?_
    refine (s_icmp_gt 14 10 mc_142 dX11_isIn_7 rfl rfl).trans ?_
    refine ite_c ?_ ?_
    · skip
      refine (s_iconst 15 0 mc_142 dX11_isIn_14 rfl (by decide)).trans ?_
      exact s_zret0 mc_142 dX11_isIn_15 mt_142
    · skip
      refine (s_iconst 11 1 mc_142 dX11_isIn_10 rfl (by decide)).trans ?_
      refine (s_goto 15 mc_142 dX11_isIn_11 rfl).trans ?_
      exact s_zret1 mc_142 dX11_isIn_15 mt_142
/-- FiveLandsModel.isYear(I)Z -/
theorem k_143 {X : Ctx} {d : Nat} (x0 : Int32) (h : Hp) : K X (d + 1) 143 [.int x0] h = bI (K X d 142 [.int x0, .int 0, .int 1] h) fun r1 h1 => gd (okN .boolean r1) (some (some (.int r1), h1)) := by
  show sem (X, K X d) 143 0 [some (.int x0)] [] h = _
  refine (s_iload_n 1 mc_143 dX11_isYear_0 rfl rfl rfl).trans ?_
  refine (s_iconst 2 0 mc_143 dX11_isYear_1 rfl (by decide)).trans ?_
  refine (s_iconst 3 1 mc_143 dX11_isYear_2 rfl (by decide)).trans ?_
  refine (s_istI 6 mc_143 dX11_isYear_3 rfl mo_143 mm_11_1 (by decide) ms_142 mr_142 ma_142 (Nat.le_of_ble_eq_true rfl) rfl rfl (Nat.le_of_ble_eq_true rfl)).trans ?_
  refine bI_c fun r1 h1 => ?_
  exact s_zret mc_143 dX11_isYear_6 mt_143
/-- FiveLandsModel.isLand(I)Z -/
theorem k_144 {X : Ctx} {d : Nat} (x0 : Int32) (h : Hp) : K X (d + 1) 144 [.int x0] h = bI (K X d 142 [.int x0, .int 0, .int 5] h) fun r1 h1 => gd (okN .boolean r1) (some (some (.int r1), h1)) := by
  show sem (X, K X d) 144 0 [some (.int x0)] [] h = _
  refine (s_iload_n 1 mc_144 dX11_isLand_0 rfl rfl rfl).trans ?_
  refine (s_iconst 2 0 mc_144 dX11_isLand_1 rfl (by decide)).trans ?_
  refine (s_iconst 3 5 mc_144 dX11_isLand_2 rfl (by decide)).trans ?_
  refine (s_istI 6 mc_144 dX11_isLand_3 rfl mo_144 mm_11_1 (by decide) ms_142 mr_142 ma_142 (Nat.le_of_ble_eq_true rfl) rfl rfl (Nat.le_of_ble_eq_true rfl)).trans ?_
  refine bI_c fun r1 h1 => ?_
  exact s_zret mc_144 dX11_isLand_6 mt_144
/-- FiveLandsModel.count(I)I -/
theorem k_145 {X : Ctx} {d : Nat} (x0 : Int32) (h : Hp) : K X (d + 1) 145 [.int x0] h = sem (X, K X d) 145 4 [some (.int x0), some (.int 0), some (.int 0)] [] h := by
  show sem (X, K X d) 145 0 [some (.int x0), none, none] [] h = _
  refine (s_iconst 1 0 mc_145 dX11_count_0 rfl (by decide)).trans ?_
  refine (s_istore_n 2 mc_145 dX11_count_1 rfl rfl (Nat.le_of_ble_eq_true rfl) rfl).trans ?_
  refine (s_iconst 3 0 mc_145 dX11_count_2 rfl (by decide)).trans ?_
  refine (s_istore_n 4 mc_145 dX11_count_3 rfl rfl (Nat.le_of_ble_eq_true rfl) rfl).trans ?_
  rfl
theorem b_145_4 {X : Ctx} {d : Nat} (x0 : Int32) (x1 : Int32) (x2 : Int32)  (h : Hp) : sem (X, K X d) 145 4 [some (.int x0), some (.int x1), some (.int x2)] [] h = if 12 ≤ x2 then some (some (.int x1), h) else sem (X, K X d) 145 4 [some (.int x0), some (.int (x1 + ((x0 >>> (x2 &&& 31)) &&& 1))), some (.int (x2 + 1))] [] h := by
  refine (s_iload_n 5 mc_145 dX11_count_4 rfl rfl rfl).trans ?_
  refine (s_bipush 7 12 mc_145 dX11_count_5 rfl (by decide)).trans ?_
  refine (s_icmp_ge 24 10 mc_145 dX11_count_7 rfl rfl).trans ?_
  refine ite_c ?_ ?_
  · skip
    refine (s_iload_n 25 mc_145 dX11_count_24 rfl rfl rfl).trans ?_
    exact s_iret mc_145 dX11_count_25 mt_145
  · skip
    refine (s_iload_n 11 mc_145 dX11_count_10 rfl rfl rfl).trans ?_
    refine (s_iload_n 12 mc_145 dX11_count_11 rfl rfl rfl).trans ?_
    refine (s_iload_n 13 mc_145 dX11_count_12 rfl rfl rfl).trans ?_
    refine (s_ishr 14 mc_145 dX11_count_13 rfl).trans ?_
    refine (s_iconst 15 1 mc_145 dX11_count_14 rfl (by decide)).trans ?_
    refine (s_iand 16 mc_145 dX11_count_15 rfl).trans ?_
    refine (s_iadd 17 mc_145 dX11_count_16 rfl).trans ?_
    refine (s_istore_n 18 mc_145 dX11_count_17 rfl rfl (Nat.le_of_ble_eq_true rfl) rfl).trans ?_
    refine (s_iinc 1 21 mc_145 dX11_count_18 rfl rfl (Nat.le_of_ble_eq_true rfl) (by decide) rfl).trans ?_
    refine (s_goto 4 mc_145 dX11_count_21 rfl).trans ?_
    rfl
/-- FiveLandsModel.<init>()V -/
theorem k_146 {X : Ctx} {d : Nat} (x0 : Nat) (h : Hp) : K X (d + 1) 146 [.ref x0] h = letH (hN h) (alc h (50, 720) 720) fun a1 h1 => fR h1 11 x0 0 a1 fun h2 => letH (hN h2) (alc h2 (50, 2) 2) fun a3 h3 => fR h3 11 x0 1 a3 fun h4 => letH (hN h4) (alc h4 (50, 4) 4) fun a5 h5 => wI h5 a5 0 (-1) fun h6 => wI h6 a5 1 (-1) fun h7 => wI h7 a5 2 (-1) fun h8 => wI h8 a5 3 (-1) fun h9 => fR h9 11 x0 2 a5 fun h10 => letH (hN h10) (alc h10 (50, 2) 2) fun a11 h11 => fR h11 11 x0 3 a11 fun h12 => letH (hN h12) (alc h12 (50, 24) 24) fun a13 h13 => fR h13 11 x0 4 a13 fun h14 => letH (hN h14) (alc h14 (50, 24) 24) fun a15 h15 => fR h15 11 x0 5 a15 fun h16 => letH (hN h16) (alc h16 (50, 24) 24) fun a17 h17 => fR h17 11 x0 6 a17 fun h18 => letH (hN h18) (alc h18 (50, 24) 24) fun a19 h19 => fR h19 11 x0 7 a19 fun h20 => letH (hN h20) (alc h20 (50, 24) 24) fun a21 h21 => fR h21 11 x0 8 a21 fun h22 => letH (hN h22) (alc h22 (50, 7) 7) fun a23 h23 => fR h23 11 x0 9 a23 fun h24 => letH (hN h24) (alc h24 (50, 140) 140) fun a25 h25 => fR h25 11 x0 10 a25 fun h26 => letH (hN h26) (alc h26 (50, 140) 140) fun a27 h27 => fR h27 11 x0 11 a27 fun h28 => letH (hN h28) (alc h28 (50, 140) 140) fun a29 h29 => fR h29 11 x0 12 a29 fun h30 => letH (hN h30) (alc h30 (50, 140) 140) fun a31 h31 => fR h31 11 x0 13 a31 fun h32 => letH (hN h32) (alc h32 (50, 140) 140) fun a33 h33 => fR h33 11 x0 14 a33 fun h34 => letH (hN h34) (alc h34 (50, 8540) 8540) fun a35 h35 => fR h35 11 x0 15 a35 fun h36 => letH (hN h36) (alc h36 (50, 7) 7) fun a37 h37 => fR h37 11 x0 16 a37 fun h38 => letH (hN h38) (alc h38 (50, 7) 7) fun a39 h39 => fR h39 11 x0 17 a39 fun h40 => letH (hN h40) (alc h40 (50, 140) 140) fun a41 h41 => fR h41 11 x0 18 a41 fun h42 => letH (hN h42) (alc h42 (50, 140) 140) fun a43 h43 => fR h43 11 x0 19 a43 fun h44 => letH (hN h44) (alc h44 (50, 7) 7) fun a45 h45 => fR h45 11 x0 20 a45 fun h46 => letH (hN h46) (alc h46 (52, 7) 7) fun a47 h47 => fR h47 11 x0 21 a47 fun h48 => letH (hN h48) (alc h48 (52, 7) 7) fun a49 h49 => fR h49 11 x0 22 a49 fun h50 => letH (hN h50) (alc h50 (50, 37) 37) fun a51 h51 => fR h51 11 x0 23 a51 fun h52 => letH (hN h52) (alc h52 (50, 37) 37) fun a53 h53 => fR h53 11 x0 24 a53 fun h54 => letH (hN h54) (alc h54 (50, 740) 740) fun a55 h55 => fR h55 11 x0 25 a55 fun h56 => letH (hN h56) (alc h56 (50, 37) 37) fun a57 h57 => fR h57 11 x0 26 a57 fun h58 => letH (hN h58) (alc h58 (50, 222) 222) fun a59 h59 => fR h59 11 x0 27 a59 fun h60 => letH (hN h60) (alc h60 (50, 37) 37) fun a61 h61 => fR h61 11 x0 28 a61 fun h62 => letH (hN h62) (alc h62 (52, 37) 37) fun a63 h63 => fR h63 11 x0 29 a63 fun h64 => letH (hN h64) (alc h64 (50, 600) 600) fun a65 h65 => fR h65 11 x0 30 a65 fun h66 => letH (hN h66) (alc h66 (50, 620) 620) fun a67 h67 => fR h67 11 x0 31 a67 fun h68 => letH (hN h68) (alc h68 (50, 9) 9) fun a69 h69 => fR h69 11 x0 32 a69 fun h70 => fI h70 11 x0 44 (-1) fun h71 => sem (X, K X d) 146 301 [some (.ref x0), some (.int 0)] [] h71 := by
  show sem (X, K X d) 146 0 [some (.ref x0), none] [] h = _
  refine (s_aload_n 1 mc_146 dX11_init_0 rfl rfl rfl).trans ?_
  refine (s_obj 4 mc_146 dX11_init_1 rfl mo_146 mm_11_7 mq_146 (Nat.le_of_ble_eq_true rfl)).trans ?_
  refine (s_aload_n 5 mc_146 dX11_init_4 rfl rfl rfl).trans ?_
  refine (s_sipush 8 720 mc_146 dX11_init_5 rfl (by decide)).trans ?_
  refine (s_newI 10 mc_146 dX11_init_8 rfl mq_146 (by decide) rfl (by decide)).trans ?_
  refine letH_i (F := fun a1 h1 => sem (X, K X d) 146 10 [some (.ref x0), none] [.ref a1, .ref x0] h1) (hN h) (alc h (50, 720) 720) ?_
  intro a1 h1
  refine (s_putfR 13 mc_146 dX11_init_10 rfl mo_146 ff_11_13 rfl (Or.inr ⟨mo_146, mn_146⟩)).trans ?_
  refine fR_c fun h2 => ?_
  refine (s_aload_n 14 mc_146 dX11_init_13 rfl rfl rfl).trans ?_
  refine (s_iconst 15 2 mc_146 dX11_init_14 rfl (by decide)).trans ?_
  refine (s_newI 17 mc_146 dX11_init_15 rfl mq_146 (by decide) rfl (by decide)).trans ?_
  refine letH_i (F := fun a3 h3 => sem (X, K X d) 146 17 [some (.ref x0), none] [.ref a3, .ref x0] h3) (hN h2) (alc h2 (50, 2) 2) ?_
  intro a3 h3
  refine (s_putfR 20 mc_146 dX11_init_17 rfl mo_146 ff_11_17 rfl (Or.inr ⟨mo_146, mn_146⟩)).trans ?_
  refine fR_c fun h4 => ?_
  refine (s_aload_n 21 mc_146 dX11_init_20 rfl rfl rfl).trans ?_
  refine (s_iconst 22 4 mc_146 dX11_init_21 rfl (by decide)).trans ?_
  refine (s_newI 24 mc_146 dX11_init_22 rfl mq_146 (by decide) rfl (by decide)).trans ?_
  refine letH_i (F := fun a5 h5 => sem (X, K X d) 146 24 [some (.ref x0), none] [.ref a5, .ref x0] h5) (hN h4) (alc h4 (50, 4) 4) ?_
  intro a5 h5
  refine (s_dup 25 mc_146 dX11_init_24 rfl rfl).trans ?_
  refine (s_iconst 26 0 mc_146 dX11_init_25 rfl (by decide)).trans ?_
  refine (s_iconst 27 (-1) mc_146 dX11_init_26 rfl (by decide)).trans ?_
  refine (s_iastore 28 mc_146 dX11_init_27 rfl).trans ?_
  refine wI_c fun h6 => ?_
  refine (s_dup 29 mc_146 dX11_init_28 rfl rfl).trans ?_
  refine (s_iconst 30 1 mc_146 dX11_init_29 rfl (by decide)).trans ?_
  refine (s_iconst 31 (-1) mc_146 dX11_init_30 rfl (by decide)).trans ?_
  refine (s_iastore 32 mc_146 dX11_init_31 rfl).trans ?_
  refine wI_c fun h7 => ?_
  refine (s_dup 33 mc_146 dX11_init_32 rfl rfl).trans ?_
  refine (s_iconst 34 2 mc_146 dX11_init_33 rfl (by decide)).trans ?_
  refine (s_iconst 35 (-1) mc_146 dX11_init_34 rfl (by decide)).trans ?_
  refine (s_iastore 36 mc_146 dX11_init_35 rfl).trans ?_
  refine wI_c fun h8 => ?_
  refine (s_dup 37 mc_146 dX11_init_36 rfl rfl).trans ?_
  refine (s_iconst 38 3 mc_146 dX11_init_37 rfl (by decide)).trans ?_
  refine (s_iconst 39 (-1) mc_146 dX11_init_38 rfl (by decide)).trans ?_
  refine (s_iastore 40 mc_146 dX11_init_39 rfl).trans ?_
  refine wI_c fun h9 => ?_
  refine (s_putfR 43 mc_146 dX11_init_40 rfl mo_146 ff_11_20 rfl (Or.inr ⟨mo_146, mn_146⟩)).trans ?_
  refine fR_c fun h10 => ?_
  refine (s_aload_n 44 mc_146 dX11_init_43 rfl rfl rfl).trans ?_
  refine (s_iconst 45 2 mc_146 dX11_init_44 rfl (by decide)).trans ?_
  refine (s_newI 47 mc_146 dX11_init_45 rfl mq_146 (by decide) rfl (by decide)).trans ?_
  refine letH_i (F := fun a11 h11 => sem (X, K X d) 146 47 [some (.ref x0), none] [.ref a11, .ref x0] h11) (hN h10) (alc h10 (50, 2) 2) ?_
  intro a11 h11
  refine (s_putfR 50 mc_146 dX11_init_47 rfl mo_146 ff_11_23 rfl (Or.inr ⟨mo_146, mn_146⟩)).trans ?_
  refine fR_c fun h12 => ?_
  refine (s_aload_n 51 mc_146 dX11_init_50 rfl rfl rfl).trans ?_
  refine (s_bipush 53 24 mc_146 dX11_init_51 rfl (by decide)).trans ?_
  refine (s_newI 55 mc_146 dX11_init_53 rfl mq_146 (by decide) rfl (by decide)).trans ?_
  refine letH_i (F := fun a13 h13 => sem (X, K X d) 146 55 [some (.ref x0), none] [.ref a13, .ref x0] h13) (hN h12) (alc h12 (50, 24) 24) ?_
  intro a13 h13
  refine (s_putfR 58 mc_146 dX11_init_55 rfl mo_146 ff_11_26 rfl (Or.inr ⟨mo_146, mn_146⟩)).trans ?_
  refine fR_c fun h14 => ?_
  refine (s_aload_n 59 mc_146 dX11_init_58 rfl rfl rfl).trans ?_
  refine (s_bipush 61 24 mc_146 dX11_init_59 rfl (by decide)).trans ?_
  refine (s_newI 63 mc_146 dX11_init_61 rfl mq_146 (by decide) rfl (by decide)).trans ?_
  refine letH_i (F := fun a15 h15 => sem (X, K X d) 146 63 [some (.ref x0), none] [.ref a15, .ref x0] h15) (hN h14) (alc h14 (50, 24) 24) ?_
  intro a15 h15
  refine (s_putfR 66 mc_146 dX11_init_63 rfl mo_146 ff_11_29 rfl (Or.inr ⟨mo_146, mn_146⟩)).trans ?_
  refine fR_c fun h16 => ?_
  refine (s_aload_n 67 mc_146 dX11_init_66 rfl rfl rfl).trans ?_
  refine (s_bipush 69 24 mc_146 dX11_init_67 rfl (by decide)).trans ?_
  refine (s_newI 71 mc_146 dX11_init_69 rfl mq_146 (by decide) rfl (by decide)).trans ?_
  refine letH_i (F := fun a17 h17 => sem (X, K X d) 146 71 [some (.ref x0), none] [.ref a17, .ref x0] h17) (hN h16) (alc h16 (50, 24) 24) ?_
  intro a17 h17
  refine (s_putfR 74 mc_146 dX11_init_71 rfl mo_146 ff_11_32 rfl (Or.inr ⟨mo_146, mn_146⟩)).trans ?_
  refine fR_c fun h18 => ?_
  refine (s_aload_n 75 mc_146 dX11_init_74 rfl rfl rfl).trans ?_
  refine (s_bipush 77 24 mc_146 dX11_init_75 rfl (by decide)).trans ?_
  refine (s_newI 79 mc_146 dX11_init_77 rfl mq_146 (by decide) rfl (by decide)).trans ?_
  refine letH_i (F := fun a19 h19 => sem (X, K X d) 146 79 [some (.ref x0), none] [.ref a19, .ref x0] h19) (hN h18) (alc h18 (50, 24) 24) ?_
  intro a19 h19
  refine (s_putfR 82 mc_146 dX11_init_79 rfl mo_146 ff_11_35 rfl (Or.inr ⟨mo_146, mn_146⟩)).trans ?_
  refine fR_c fun h20 => ?_
  refine (s_aload_n 83 mc_146 dX11_init_82 rfl rfl rfl).trans ?_
  refine (s_bipush 85 24 mc_146 dX11_init_83 rfl (by decide)).trans ?_
  refine (s_newI 87 mc_146 dX11_init_85 rfl mq_146 (by decide) rfl (by decide)).trans ?_
  refine letH_i (F := fun a21 h21 => sem (X, K X d) 146 87 [some (.ref x0), none] [.ref a21, .ref x0] h21) (hN h20) (alc h20 (50, 24) 24) ?_
  intro a21 h21
  refine (s_putfR 90 mc_146 dX11_init_87 rfl mo_146 ff_11_38 rfl (Or.inr ⟨mo_146, mn_146⟩)).trans ?_
  refine fR_c fun h22 => ?_
  refine (s_aload_n 91 mc_146 dX11_init_90 rfl rfl rfl).trans ?_
  refine (s_bipush 93 7 mc_146 dX11_init_91 rfl (by decide)).trans ?_
  refine (s_newI 95 mc_146 dX11_init_93 rfl mq_146 (by decide) rfl (by decide)).trans ?_
  refine letH_i (F := fun a23 h23 => sem (X, K X d) 146 95 [some (.ref x0), none] [.ref a23, .ref x0] h23) (hN h22) (alc h22 (50, 7) 7) ?_
  intro a23 h23
  refine (s_putfR 98 mc_146 dX11_init_95 rfl mo_146 ff_11_41 rfl (Or.inr ⟨mo_146, mn_146⟩)).trans ?_
  refine fR_c fun h24 => ?_
  refine (s_aload_n 99 mc_146 dX11_init_98 rfl rfl rfl).trans ?_
  refine (s_sipush 102 140 mc_146 dX11_init_99 rfl (by decide)).trans ?_
  refine (s_newI 104 mc_146 dX11_init_102 rfl mq_146 (by decide) rfl (by decide)).trans ?_
  refine letH_i (F := fun a25 h25 => sem (X, K X d) 146 104 [some (.ref x0), none] [.ref a25, .ref x0] h25) (hN h24) (alc h24 (50, 140) 140) ?_
  intro a25 h25
  refine (s_putfR 107 mc_146 dX11_init_104 rfl mo_146 ff_11_44 rfl (Or.inr ⟨mo_146, mn_146⟩)).trans ?_
  refine fR_c fun h26 => ?_
  refine (s_aload_n 108 mc_146 dX11_init_107 rfl rfl rfl).trans ?_
  refine (s_sipush 111 140 mc_146 dX11_init_108 rfl (by decide)).trans ?_
  refine (s_newI 113 mc_146 dX11_init_111 rfl mq_146 (by decide) rfl (by decide)).trans ?_
  refine letH_i (F := fun a27 h27 => sem (X, K X d) 146 113 [some (.ref x0), none] [.ref a27, .ref x0] h27) (hN h26) (alc h26 (50, 140) 140) ?_
  intro a27 h27
  refine (s_putfR 116 mc_146 dX11_init_113 rfl mo_146 ff_11_47 rfl (Or.inr ⟨mo_146, mn_146⟩)).trans ?_
  refine fR_c fun h28 => ?_
  refine (s_aload_n 117 mc_146 dX11_init_116 rfl rfl rfl).trans ?_
  refine (s_sipush 120 140 mc_146 dX11_init_117 rfl (by decide)).trans ?_
  refine (s_newI 122 mc_146 dX11_init_120 rfl mq_146 (by decide) rfl (by decide)).trans ?_
  refine letH_i (F := fun a29 h29 => sem (X, K X d) 146 122 [some (.ref x0), none] [.ref a29, .ref x0] h29) (hN h28) (alc h28 (50, 140) 140) ?_
  intro a29 h29
  refine (s_putfR 125 mc_146 dX11_init_122 rfl mo_146 ff_11_50 rfl (Or.inr ⟨mo_146, mn_146⟩)).trans ?_
  refine fR_c fun h30 => ?_
  refine (s_aload_n 126 mc_146 dX11_init_125 rfl rfl rfl).trans ?_
  refine (s_sipush 129 140 mc_146 dX11_init_126 rfl (by decide)).trans ?_
  refine (s_newI 131 mc_146 dX11_init_129 rfl mq_146 (by decide) rfl (by decide)).trans ?_
  refine letH_i (F := fun a31 h31 => sem (X, K X d) 146 131 [some (.ref x0), none] [.ref a31, .ref x0] h31) (hN h30) (alc h30 (50, 140) 140) ?_
  intro a31 h31
  refine (s_putfR 134 mc_146 dX11_init_131 rfl mo_146 ff_11_53 rfl (Or.inr ⟨mo_146, mn_146⟩)).trans ?_
  refine fR_c fun h32 => ?_
  refine (s_aload_n 135 mc_146 dX11_init_134 rfl rfl rfl).trans ?_
  refine (s_sipush 138 140 mc_146 dX11_init_135 rfl (by decide)).trans ?_
  refine (s_newI 140 mc_146 dX11_init_138 rfl mq_146 (by decide) rfl (by decide)).trans ?_
  refine letH_i (F := fun a33 h33 => sem (X, K X d) 146 140 [some (.ref x0), none] [.ref a33, .ref x0] h33) (hN h32) (alc h32 (50, 140) 140) ?_
  intro a33 h33
  refine (s_putfR 143 mc_146 dX11_init_140 rfl mo_146 ff_11_56 rfl (Or.inr ⟨mo_146, mn_146⟩)).trans ?_
  refine fR_c fun h34 => ?_
  refine (s_aload_n 144 mc_146 dX11_init_143 rfl rfl rfl).trans ?_
  refine (s_sipush 147 8540 mc_146 dX11_init_144 rfl (by decide)).trans ?_
  refine (s_newI 149 mc_146 dX11_init_147 rfl mq_146 (by decide) rfl (by decide)).trans ?_
  refine letH_i (F := fun a35 h35 => sem (X, K X d) 146 149 [some (.ref x0), none] [.ref a35, .ref x0] h35) (hN h34) (alc h34 (50, 8540) 8540) ?_
  intro a35 h35
  refine (s_putfR 152 mc_146 dX11_init_149 rfl mo_146 ff_11_59 rfl (Or.inr ⟨mo_146, mn_146⟩)).trans ?_
  refine fR_c fun h36 => ?_
  refine (s_aload_n 153 mc_146 dX11_init_152 rfl rfl rfl).trans ?_
  refine (s_bipush 155 7 mc_146 dX11_init_153 rfl (by decide)).trans ?_
  refine (s_newI 157 mc_146 dX11_init_155 rfl mq_146 (by decide) rfl (by decide)).trans ?_
  refine letH_i (F := fun a37 h37 => sem (X, K X d) 146 157 [some (.ref x0), none] [.ref a37, .ref x0] h37) (hN h36) (alc h36 (50, 7) 7) ?_
  intro a37 h37
  refine (s_putfR 160 mc_146 dX11_init_157 rfl mo_146 ff_11_62 rfl (Or.inr ⟨mo_146, mn_146⟩)).trans ?_
  refine fR_c fun h38 => ?_
  refine (s_aload_n 161 mc_146 dX11_init_160 rfl rfl rfl).trans ?_
  refine (s_bipush 163 7 mc_146 dX11_init_161 rfl (by decide)).trans ?_
  refine (s_newI 165 mc_146 dX11_init_163 rfl mq_146 (by decide) rfl (by decide)).trans ?_
  refine letH_i (F := fun a39 h39 => sem (X, K X d) 146 165 [some (.ref x0), none] [.ref a39, .ref x0] h39) (hN h38) (alc h38 (50, 7) 7) ?_
  intro a39 h39
  refine (s_putfR 168 mc_146 dX11_init_165 rfl mo_146 ff_11_65 rfl (Or.inr ⟨mo_146, mn_146⟩)).trans ?_
  refine fR_c fun h40 => ?_
  refine (s_aload_n 169 mc_146 dX11_init_168 rfl rfl rfl).trans ?_
  refine (s_sipush 172 140 mc_146 dX11_init_169 rfl (by decide)).trans ?_
  refine (s_newI 174 mc_146 dX11_init_172 rfl mq_146 (by decide) rfl (by decide)).trans ?_
  refine letH_i (F := fun a41 h41 => sem (X, K X d) 146 174 [some (.ref x0), none] [.ref a41, .ref x0] h41) (hN h40) (alc h40 (50, 140) 140) ?_
  intro a41 h41
  refine (s_putfR 177 mc_146 dX11_init_174 rfl mo_146 ff_11_68 rfl (Or.inr ⟨mo_146, mn_146⟩)).trans ?_
  refine fR_c fun h42 => ?_
  refine (s_aload_n 178 mc_146 dX11_init_177 rfl rfl rfl).trans ?_
  refine (s_sipush 181 140 mc_146 dX11_init_178 rfl (by decide)).trans ?_
  refine (s_newI 183 mc_146 dX11_init_181 rfl mq_146 (by decide) rfl (by decide)).trans ?_
  refine letH_i (F := fun a43 h43 => sem (X, K X d) 146 183 [some (.ref x0), none] [.ref a43, .ref x0] h43) (hN h42) (alc h42 (50, 140) 140) ?_
  intro a43 h43
  refine (s_putfR 186 mc_146 dX11_init_183 rfl mo_146 ff_11_71 rfl (Or.inr ⟨mo_146, mn_146⟩)).trans ?_
  refine fR_c fun h44 => ?_
  refine (s_aload_n 187 mc_146 dX11_init_186 rfl rfl rfl).trans ?_
  refine (s_bipush 189 7 mc_146 dX11_init_187 rfl (by decide)).trans ?_
  refine (s_newI 191 mc_146 dX11_init_189 rfl mq_146 (by decide) rfl (by decide)).trans ?_
  refine letH_i (F := fun a45 h45 => sem (X, K X d) 146 191 [some (.ref x0), none] [.ref a45, .ref x0] h45) (hN h44) (alc h44 (50, 7) 7) ?_
  intro a45 h45
  refine (s_putfR 194 mc_146 dX11_init_191 rfl mo_146 ff_11_74 rfl (Or.inr ⟨mo_146, mn_146⟩)).trans ?_
  refine fR_c fun h46 => ?_
  refine (s_aload_n 195 mc_146 dX11_init_194 rfl rfl rfl).trans ?_
  refine (s_bipush 197 7 mc_146 dX11_init_195 rfl (by decide)).trans ?_
  refine (s_newZ 199 mc_146 dX11_init_197 rfl mq_146 (by decide) rfl (by decide)).trans ?_
  refine letH_i (F := fun a47 h47 => sem (X, K X d) 146 199 [some (.ref x0), none] [.ref a47, .ref x0] h47) (hN h46) (alc h46 (52, 7) 7) ?_
  intro a47 h47
  refine (s_putfR 202 mc_146 dX11_init_199 rfl mo_146 ff_11_77 rfl (Or.inr ⟨mo_146, mn_146⟩)).trans ?_
  refine fR_c fun h48 => ?_
  refine (s_aload_n 203 mc_146 dX11_init_202 rfl rfl rfl).trans ?_
  refine (s_bipush 205 7 mc_146 dX11_init_203 rfl (by decide)).trans ?_
  refine (s_newZ 207 mc_146 dX11_init_205 rfl mq_146 (by decide) rfl (by decide)).trans ?_
  refine letH_i (F := fun a49 h49 => sem (X, K X d) 146 207 [some (.ref x0), none] [.ref a49, .ref x0] h49) (hN h48) (alc h48 (52, 7) 7) ?_
  intro a49 h49
  refine (s_putfR 210 mc_146 dX11_init_207 rfl mo_146 ff_11_81 rfl (Or.inr ⟨mo_146, mn_146⟩)).trans ?_
  refine fR_c fun h50 => ?_
  refine (s_aload_n 211 mc_146 dX11_init_210 rfl rfl rfl).trans ?_
  refine (s_bipush 213 37 mc_146 dX11_init_211 rfl (by decide)).trans ?_
  refine (s_newI 215 mc_146 dX11_init_213 rfl mq_146 (by decide) rfl (by decide)).trans ?_
  refine letH_i (F := fun a51 h51 => sem (X, K X d) 146 215 [some (.ref x0), none] [.ref a51, .ref x0] h51) (hN h50) (alc h50 (50, 37) 37) ?_
  intro a51 h51
  refine (s_putfR 218 mc_146 dX11_init_215 rfl mo_146 ff_11_84 rfl (Or.inr ⟨mo_146, mn_146⟩)).trans ?_
  refine fR_c fun h52 => ?_
  refine (s_aload_n 219 mc_146 dX11_init_218 rfl rfl rfl).trans ?_
  refine (s_bipush 221 37 mc_146 dX11_init_219 rfl (by decide)).trans ?_
  refine (s_newI 223 mc_146 dX11_init_221 rfl mq_146 (by decide) rfl (by decide)).trans ?_
  refine letH_i (F := fun a53 h53 => sem (X, K X d) 146 223 [some (.ref x0), none] [.ref a53, .ref x0] h53) (hN h52) (alc h52 (50, 37) 37) ?_
  intro a53 h53
  refine (s_putfR 226 mc_146 dX11_init_223 rfl mo_146 ff_11_87 rfl (Or.inr ⟨mo_146, mn_146⟩)).trans ?_
  refine fR_c fun h54 => ?_
  refine (s_aload_n 227 mc_146 dX11_init_226 rfl rfl rfl).trans ?_
  refine (s_sipush 230 740 mc_146 dX11_init_227 rfl (by decide)).trans ?_
  refine (s_newI 232 mc_146 dX11_init_230 rfl mq_146 (by decide) rfl (by decide)).trans ?_
  refine letH_i (F := fun a55 h55 => sem (X, K X d) 146 232 [some (.ref x0), none] [.ref a55, .ref x0] h55) (hN h54) (alc h54 (50, 740) 740) ?_
  intro a55 h55
  refine (s_putfR 235 mc_146 dX11_init_232 rfl mo_146 ff_11_90 rfl (Or.inr ⟨mo_146, mn_146⟩)).trans ?_
  refine fR_c fun h56 => ?_
  refine (s_aload_n 236 mc_146 dX11_init_235 rfl rfl rfl).trans ?_
  refine (s_bipush 238 37 mc_146 dX11_init_236 rfl (by decide)).trans ?_
  refine (s_newI 240 mc_146 dX11_init_238 rfl mq_146 (by decide) rfl (by decide)).trans ?_
  refine letH_i (F := fun a57 h57 => sem (X, K X d) 146 240 [some (.ref x0), none] [.ref a57, .ref x0] h57) (hN h56) (alc h56 (50, 37) 37) ?_
  intro a57 h57
  refine (s_putfR 243 mc_146 dX11_init_240 rfl mo_146 ff_11_93 rfl (Or.inr ⟨mo_146, mn_146⟩)).trans ?_
  refine fR_c fun h58 => ?_
  refine (s_aload_n 244 mc_146 dX11_init_243 rfl rfl rfl).trans ?_
  refine (s_sipush 247 222 mc_146 dX11_init_244 rfl (by decide)).trans ?_
  refine (s_newI 249 mc_146 dX11_init_247 rfl mq_146 (by decide) rfl (by decide)).trans ?_
  refine letH_i (F := fun a59 h59 => sem (X, K X d) 146 249 [some (.ref x0), none] [.ref a59, .ref x0] h59) (hN h58) (alc h58 (50, 222) 222) ?_
  intro a59 h59
  refine (s_putfR 252 mc_146 dX11_init_249 rfl mo_146 ff_11_96 rfl (Or.inr ⟨mo_146, mn_146⟩)).trans ?_
  refine fR_c fun h60 => ?_
  refine (s_aload_n 253 mc_146 dX11_init_252 rfl rfl rfl).trans ?_
  refine (s_bipush 255 37 mc_146 dX11_init_253 rfl (by decide)).trans ?_
  refine (s_newI 257 mc_146 dX11_init_255 rfl mq_146 (by decide) rfl (by decide)).trans ?_
  refine letH_i (F := fun a61 h61 => sem (X, K X d) 146 257 [some (.ref x0), none] [.ref a61, .ref x0] h61) (hN h60) (alc h60 (50, 37) 37) ?_
  intro a61 h61
  refine (s_putfR 260 mc_146 dX11_init_257 rfl mo_146 ff_11_99 rfl (Or.inr ⟨mo_146, mn_146⟩)).trans ?_
  refine fR_c fun h62 => ?_
  refine (s_aload_n 261 mc_146 dX11_init_260 rfl rfl rfl).trans ?_
  refine (s_bipush 263 37 mc_146 dX11_init_261 rfl (by decide)).trans ?_
  refine (s_newZ 265 mc_146 dX11_init_263 rfl mq_146 (by decide) rfl (by decide)).trans ?_
  refine letH_i (F := fun a63 h63 => sem (X, K X d) 146 265 [some (.ref x0), none] [.ref a63, .ref x0] h63) (hN h62) (alc h62 (52, 37) 37) ?_
  intro a63 h63
  refine (s_putfR 268 mc_146 dX11_init_265 rfl mo_146 ff_11_102 rfl (Or.inr ⟨mo_146, mn_146⟩)).trans ?_
  refine fR_c fun h64 => ?_
  refine (s_aload_n 269 mc_146 dX11_init_268 rfl rfl rfl).trans ?_
  refine (s_sipush 272 600 mc_146 dX11_init_269 rfl (by decide)).trans ?_
  refine (s_newI 274 mc_146 dX11_init_272 rfl mq_146 (by decide) rfl (by decide)).trans ?_
  refine letH_i (F := fun a65 h65 => sem (X, K X d) 146 274 [some (.ref x0), none] [.ref a65, .ref x0] h65) (hN h64) (alc h64 (50, 600) 600) ?_
  intro a65 h65
  refine (s_putfR 277 mc_146 dX11_init_274 rfl mo_146 ff_11_105 rfl (Or.inr ⟨mo_146, mn_146⟩)).trans ?_
  refine fR_c fun h66 => ?_
  refine (s_aload_n 278 mc_146 dX11_init_277 rfl rfl rfl).trans ?_
  refine (s_sipush 281 620 mc_146 dX11_init_278 rfl (by decide)).trans ?_
  refine (s_newI 283 mc_146 dX11_init_281 rfl mq_146 (by decide) rfl (by decide)).trans ?_
  refine letH_i (F := fun a67 h67 => sem (X, K X d) 146 283 [some (.ref x0), none] [.ref a67, .ref x0] h67) (hN h66) (alc h66 (50, 620) 620) ?_
  intro a67 h67
  refine (s_putfR 286 mc_146 dX11_init_283 rfl mo_146 ff_11_108 rfl (Or.inr ⟨mo_146, mn_146⟩)).trans ?_
  refine fR_c fun h68 => ?_
  refine (s_aload_n 287 mc_146 dX11_init_286 rfl rfl rfl).trans ?_
  refine (s_bipush 289 9 mc_146 dX11_init_287 rfl (by decide)).trans ?_
  refine (s_newI 291 mc_146 dX11_init_289 rfl mq_146 (by decide) rfl (by decide)).trans ?_
  refine letH_i (F := fun a69 h69 => sem (X, K X d) 146 291 [some (.ref x0), none] [.ref a69, .ref x0] h69) (hN h68) (alc h68 (50, 9) 9) ?_
  intro a69 h69
  refine (s_putfR 294 mc_146 dX11_init_291 rfl mo_146 ff_11_111 rfl (Or.inr ⟨mo_146, mn_146⟩)).trans ?_
  refine fR_c fun h70 => ?_
  refine (s_aload_n 295 mc_146 dX11_init_294 rfl rfl rfl).trans ?_
  refine (s_iconst 296 (-1) mc_146 dX11_init_295 rfl (by decide)).trans ?_
  refine (s_putfI 299 mc_146 dX11_init_296 rfl mo_146 ff_11_114 rfl (Or.inl rfl)).trans ?_
  refine fI_c fun h71 => ?_
  refine (s_iconst 300 0 mc_146 dX11_init_299 rfl (by decide)).trans ?_
  refine (s_istore_n 301 mc_146 dX11_init_300 rfl rfl (Nat.le_of_ble_eq_true rfl) rfl).trans ?_
  rfl
theorem b_146_301 {X : Ctx} {d : Nat} (x0 : Nat) (x1 : Int32)  (h : Hp) : sem (X, K X d) 146 301 [some (.ref x0), some (.int x1)] [] h = if 37 ≤ x1 then letH (hN h) (alc h (50, 6) 6) fun a1 h1 => fR h1 11 x0 46 a1 fun h2 => letH (hN h2) (alc h2 (50, 12) 12) fun a3 h3 => fR h3 11 x0 47 a3 fun h4 => letH (hN h4) (alc h4 (50, 12) 12) fun a5 h5 => fR h5 11 x0 48 a5 fun h6 => letH (hN h6) (alc h6 (50, 12) 12) fun a7 h7 => fR h7 11 x0 49 a7 fun h8 => letH (hN h8) (alc h8 (50, 12) 12) fun a9 h9 => fR h9 11 x0 50 a9 fun h10 => letH (hN h10) (alc h10 (50, 12) 12) fun a11 h11 => fR h11 11 x0 51 a11 fun h12 => letH (hN h12) (alc h12 (50, 36) 36) fun a13 h13 => fR h13 11 x0 58 a13 fun h14 => letH (hN h14) (alc h14 (50, 216) 216) fun a15 h15 => fR h15 11 x0 59 a15 fun h16 => letH (hN h16) (alc h16 (50, 36) 36) fun a17 h17 => fR h17 11 x0 60 a17 fun h18 => letH (hN h18) (alc h18 (52, 36) 36) fun a19 h19 => fR h19 11 x0 61 a19 fun h20 => letH (hN h20) (alc h20 (51, 6) 6) fun a21 h21 => fR h21 11 x0 64 a21 fun h22 => letH (hN h22) (alc h22 (51, 6) 6) fun a23 h23 => fR h23 11 x0 65 a23 fun h24 => letH (hN h24) (alc h24 (51, 6) 6) fun a25 h25 => fR h25 11 x0 66 a25 fun h26 => letH (hN h26) (alc h26 (51, 6) 6) fun a27 h27 => fR h27 11 x0 67 a27 fun h28 => letH (hN h28) (alc h28 (51, 42) 42) fun a29 h29 => fR h29 11 x0 68 a29 fun h30 => letH (hN h30) (alc h30 (50, 6) 6) fun a31 h31 => fR h31 11 x0 69 a31 fun h32 => letH (hN h32) (alc h32 (50, 20) 20) fun a33 h33 => fR h33 11 x0 74 a33 fun h34 => letH (hN h34) (alc h34 (50, 20) 20) fun a35 h35 => fR h35 11 x0 75 a35 fun h36 => letH (hN h36) (alc h36 (50, 6) 6) fun a37 h37 => fR h37 11 x0 78 a37 fun h38 => letH (hN h38) (alc h38 (50, 6) 6) fun a39 h39 => fR h39 11 x0 79 a39 fun h40 => letH (hN h40) (alc h40 (50, 6) 6) fun a41 h41 => fR h41 11 x0 80 a41 fun h42 => letH (hN h42) (alc h42 (50, 6) 6) fun a43 h43 => fR h43 11 x0 81 a43 fun h44 => letH (hN h44) (alc h44 (50, 6) 6) fun a45 h45 => fR h45 11 x0 82 a45 fun h46 => letH (hN h46) (alc h46 (50, 6) 6) fun a47 h47 => fR h47 11 x0 83 a47 fun h48 => letH (hN h48) (alc h48 (50, 10) 10) fun a49 h49 => fR h49 11 x0 85 a49 fun h50 => letH (hN h50) (alc h50 (50, 10) 10) fun a51 h51 => fR h51 11 x0 86 a51 fun h52 => letH (hN h52) (alc h52 (50, 10) 10) fun a53 h53 => fR h53 11 x0 87 a53 fun h54 => letH (hN h54) (alc h54 (51, 10) 10) fun a55 h55 => fR h55 11 x0 88 a55 fun h56 => sem (X, K X d) 146 545 [some (.ref x0), some (.int 0)] [] h56 else gd (hS h x0 = (12, 0)) (bV (K X d 179 [.ref x0, .int x1] h) fun h57 => sem (X, K X d) 146 301 [some (.ref x0), some (.int (x1 + 1))] [] h57) := by
  refine (s_iload_n 302 mc_146 dX11_init_301 rfl rfl rfl).trans ?_
  refine (s_bipush 304 37 mc_146 dX11_init_302 rfl (by decide)).trans ?_
  refine (s_icmp_ge 318 307 mc_146 dX11_init_304 rfl rfl).trans ?_
  refine ite_c ?_ ?_
  · skip
    refine (s_aload_n 319 mc_146 dX11_init_318 rfl rfl rfl).trans ?_
    refine (s_bipush 321 6 mc_146 dX11_init_319 rfl (by decide)).trans ?_
    refine (s_newI 323 mc_146 dX11_init_321 rfl mq_146 (by decide) rfl (by decide)).trans ?_
    refine letH_i (F := fun a1 h1 => sem (X, K X d) 146 323 [some (.ref x0), some (.int x1)] [.ref a1, .ref x0] h1) (hN h) (alc h (50, 6) 6) ?_
    intro a1 h1
    refine (s_putfR 326 mc_146 dX11_init_323 rfl mo_146 ff_11_122 rfl (Or.inr ⟨mo_146, mn_146⟩)).trans ?_
    refine fR_c fun h2 => ?_
    refine (s_aload_n 327 mc_146 dX11_init_326 rfl rfl rfl).trans ?_
    refine (s_bipush 329 12 mc_146 dX11_init_327 rfl (by decide)).trans ?_
    refine (s_newI 331 mc_146 dX11_init_329 rfl mq_146 (by decide) rfl (by decide)).trans ?_
    refine letH_i (F := fun a3 h3 => sem (X, K X d) 146 331 [some (.ref x0), some (.int x1)] [.ref a3, .ref x0] h3) (hN h2) (alc h2 (50, 12) 12) ?_
    intro a3 h3
    refine (s_putfR 334 mc_146 dX11_init_331 rfl mo_146 ff_11_125 rfl (Or.inr ⟨mo_146, mn_146⟩)).trans ?_
    refine fR_c fun h4 => ?_
    refine (s_aload_n 335 mc_146 dX11_init_334 rfl rfl rfl).trans ?_
    refine (s_bipush 337 12 mc_146 dX11_init_335 rfl (by decide)).trans ?_
    refine (s_newI 339 mc_146 dX11_init_337 rfl mq_146 (by decide) rfl (by decide)).trans ?_
    refine letH_i (F := fun a5 h5 => sem (X, K X d) 146 339 [some (.ref x0), some (.int x1)] [.ref a5, .ref x0] h5) (hN h4) (alc h4 (50, 12) 12) ?_
    intro a5 h5
    refine (s_putfR 342 mc_146 dX11_init_339 rfl mo_146 ff_11_128 rfl (Or.inr ⟨mo_146, mn_146⟩)).trans ?_
    refine fR_c fun h6 => ?_
    refine (s_aload_n 343 mc_146 dX11_init_342 rfl rfl rfl).trans ?_
    refine (s_bipush 345 12 mc_146 dX11_init_343 rfl (by decide)).trans ?_
    refine (s_newI 347 mc_146 dX11_init_345 rfl mq_146 (by decide) rfl (by decide)).trans ?_
    refine letH_i (F := fun a7 h7 => sem (X, K X d) 146 347 [some (.ref x0), some (.int x1)] [.ref a7, .ref x0] h7) (hN h6) (alc h6 (50, 12) 12) ?_
    intro a7 h7
    refine (s_putfR 350 mc_146 dX11_init_347 rfl mo_146 ff_11_131 rfl (Or.inr ⟨mo_146, mn_146⟩)).trans ?_
    refine fR_c fun h8 => ?_
    refine (s_aload_n 351 mc_146 dX11_init_350 rfl rfl rfl).trans ?_
    refine (s_bipush 353 12 mc_146 dX11_init_351 rfl (by decide)).trans ?_
    refine (s_newI 355 mc_146 dX11_init_353 rfl mq_146 (by decide) rfl (by decide)).trans ?_
    refine letH_i (F := fun a9 h9 => sem (X, K X d) 146 355 [some (.ref x0), some (.int x1)] [.ref a9, .ref x0] h9) (hN h8) (alc h8 (50, 12) 12) ?_
    intro a9 h9
    refine (s_putfR 358 mc_146 dX11_init_355 rfl mo_146 ff_11_134 rfl (Or.inr ⟨mo_146, mn_146⟩)).trans ?_
    refine fR_c fun h10 => ?_
    refine (s_aload_n 359 mc_146 dX11_init_358 rfl rfl rfl).trans ?_
    refine (s_bipush 361 12 mc_146 dX11_init_359 rfl (by decide)).trans ?_
    refine (s_newI 363 mc_146 dX11_init_361 rfl mq_146 (by decide) rfl (by decide)).trans ?_
    refine letH_i (F := fun a11 h11 => sem (X, K X d) 146 363 [some (.ref x0), some (.int x1)] [.ref a11, .ref x0] h11) (hN h10) (alc h10 (50, 12) 12) ?_
    intro a11 h11
    refine (s_putfR 366 mc_146 dX11_init_363 rfl mo_146 ff_11_137 rfl (Or.inr ⟨mo_146, mn_146⟩)).trans ?_
    refine fR_c fun h12 => ?_
    refine (s_aload_n 367 mc_146 dX11_init_366 rfl rfl rfl).trans ?_
    refine (s_bipush 369 36 mc_146 dX11_init_367 rfl (by decide)).trans ?_
    refine (s_newI 371 mc_146 dX11_init_369 rfl mq_146 (by decide) rfl (by decide)).trans ?_
    refine letH_i (F := fun a13 h13 => sem (X, K X d) 146 371 [some (.ref x0), some (.int x1)] [.ref a13, .ref x0] h13) (hN h12) (alc h12 (50, 36) 36) ?_
    intro a13 h13
    refine (s_putfR 374 mc_146 dX11_init_371 rfl mo_146 ff_11_140 rfl (Or.inr ⟨mo_146, mn_146⟩)).trans ?_
    refine fR_c fun h14 => ?_
    refine (s_aload_n 375 mc_146 dX11_init_374 rfl rfl rfl).trans ?_
    refine (s_sipush 378 216 mc_146 dX11_init_375 rfl (by decide)).trans ?_
    refine (s_newI 380 mc_146 dX11_init_378 rfl mq_146 (by decide) rfl (by decide)).trans ?_
    refine letH_i (F := fun a15 h15 => sem (X, K X d) 146 380 [some (.ref x0), some (.int x1)] [.ref a15, .ref x0] h15) (hN h14) (alc h14 (50, 216) 216) ?_
    intro a15 h15
    refine (s_putfR 383 mc_146 dX11_init_380 rfl mo_146 ff_11_143 rfl (Or.inr ⟨mo_146, mn_146⟩)).trans ?_
    refine fR_c fun h16 => ?_
    refine (s_aload_n 384 mc_146 dX11_init_383 rfl rfl rfl).trans ?_
    refine (s_bipush 386 36 mc_146 dX11_init_384 rfl (by decide)).trans ?_
    refine (s_newI 388 mc_146 dX11_init_386 rfl mq_146 (by decide) rfl (by decide)).trans ?_
    refine letH_i (F := fun a17 h17 => sem (X, K X d) 146 388 [some (.ref x0), some (.int x1)] [.ref a17, .ref x0] h17) (hN h16) (alc h16 (50, 36) 36) ?_
    intro a17 h17
    refine (s_putfR 391 mc_146 dX11_init_388 rfl mo_146 ff_11_146 rfl (Or.inr ⟨mo_146, mn_146⟩)).trans ?_
    refine fR_c fun h18 => ?_
    refine (s_aload_n 392 mc_146 dX11_init_391 rfl rfl rfl).trans ?_
    refine (s_bipush 394 36 mc_146 dX11_init_392 rfl (by decide)).trans ?_
    refine (s_newZ 396 mc_146 dX11_init_394 rfl mq_146 (by decide) rfl (by decide)).trans ?_
    refine letH_i (F := fun a19 h19 => sem (X, K X d) 146 396 [some (.ref x0), some (.int x1)] [.ref a19, .ref x0] h19) (hN h18) (alc h18 (52, 36) 36) ?_
    intro a19 h19
    refine (s_putfR 399 mc_146 dX11_init_396 rfl mo_146 ff_11_149 rfl (Or.inr ⟨mo_146, mn_146⟩)).trans ?_
    refine fR_c fun h20 => ?_
    refine (s_aload_n 400 mc_146 dX11_init_399 rfl rfl rfl).trans ?_
    refine (s_bipush 402 6 mc_146 dX11_init_400 rfl (by decide)).trans ?_
    refine (s_newJ 404 mc_146 dX11_init_402 rfl mq_146 (by decide) rfl (by decide)).trans ?_
    refine letH_i (F := fun a21 h21 => sem (X, K X d) 146 404 [some (.ref x0), some (.int x1)] [.ref a21, .ref x0] h21) (hN h20) (alc h20 (51, 6) 6) ?_
    intro a21 h21
    refine (s_putfR 407 mc_146 dX11_init_404 rfl mo_146 ff_11_152 rfl (Or.inr ⟨mo_146, mn_146⟩)).trans ?_
    refine fR_c fun h22 => ?_
    refine (s_aload_n 408 mc_146 dX11_init_407 rfl rfl rfl).trans ?_
    refine (s_bipush 410 6 mc_146 dX11_init_408 rfl (by decide)).trans ?_
    refine (s_newJ 412 mc_146 dX11_init_410 rfl mq_146 (by decide) rfl (by decide)).trans ?_
    refine letH_i (F := fun a23 h23 => sem (X, K X d) 146 412 [some (.ref x0), some (.int x1)] [.ref a23, .ref x0] h23) (hN h22) (alc h22 (51, 6) 6) ?_
    intro a23 h23
    refine (s_putfR 415 mc_146 dX11_init_412 rfl mo_146 ff_11_156 rfl (Or.inr ⟨mo_146, mn_146⟩)).trans ?_
    refine fR_c fun h24 => ?_
    refine (s_aload_n 416 mc_146 dX11_init_415 rfl rfl rfl).trans ?_
    refine (s_bipush 418 6 mc_146 dX11_init_416 rfl (by decide)).trans ?_
    refine (s_newJ 420 mc_146 dX11_init_418 rfl mq_146 (by decide) rfl (by decide)).trans ?_
    refine letH_i (F := fun a25 h25 => sem (X, K X d) 146 420 [some (.ref x0), some (.int x1)] [.ref a25, .ref x0] h25) (hN h24) (alc h24 (51, 6) 6) ?_
    intro a25 h25
    refine (s_putfR 423 mc_146 dX11_init_420 rfl mo_146 ff_11_159 rfl (Or.inr ⟨mo_146, mn_146⟩)).trans ?_
    refine fR_c fun h26 => ?_
    refine (s_aload_n 424 mc_146 dX11_init_423 rfl rfl rfl).trans ?_
    refine (s_bipush 426 6 mc_146 dX11_init_424 rfl (by decide)).trans ?_
    refine (s_newJ 428 mc_146 dX11_init_426 rfl mq_146 (by decide) rfl (by decide)).trans ?_
    refine letH_i (F := fun a27 h27 => sem (X, K X d) 146 428 [some (.ref x0), some (.int x1)] [.ref a27, .ref x0] h27) (hN h26) (alc h26 (51, 6) 6) ?_
    intro a27 h27
    refine (s_putfR 431 mc_146 dX11_init_428 rfl mo_146 ff_11_162 rfl (Or.inr ⟨mo_146, mn_146⟩)).trans ?_
    refine fR_c fun h28 => ?_
    refine (s_aload_n 432 mc_146 dX11_init_431 rfl rfl rfl).trans ?_
    refine (s_bipush 434 42 mc_146 dX11_init_432 rfl (by decide)).trans ?_
    refine (s_newJ 436 mc_146 dX11_init_434 rfl mq_146 (by decide) rfl (by decide)).trans ?_
    refine letH_i (F := fun a29 h29 => sem (X, K X d) 146 436 [some (.ref x0), some (.int x1)] [.ref a29, .ref x0] h29) (hN h28) (alc h28 (51, 42) 42) ?_
    intro a29 h29
    refine (s_putfR 439 mc_146 dX11_init_436 rfl mo_146 ff_11_165 rfl (Or.inr ⟨mo_146, mn_146⟩)).trans ?_
    refine fR_c fun h30 => ?_
    refine (s_aload_n 440 mc_146 dX11_init_439 rfl rfl rfl).trans ?_
    refine (s_bipush 442 6 mc_146 dX11_init_440 rfl (by decide)).trans ?_
    refine (s_newI 444 mc_146 dX11_init_442 rfl mq_146 (by decide) rfl (by decide)).trans ?_
    refine letH_i (F := fun a31 h31 => sem (X, K X d) 146 444 [some (.ref x0), some (.int x1)] [.ref a31, .ref x0] h31) (hN h30) (alc h30 (50, 6) 6) ?_
    intro a31 h31
    refine (s_putfR 447 mc_146 dX11_init_444 rfl mo_146 ff_11_168 rfl (Or.inr ⟨mo_146, mn_146⟩)).trans ?_
    refine fR_c fun h32 => ?_
    refine (s_aload_n 448 mc_146 dX11_init_447 rfl rfl rfl).trans ?_
    refine (s_bipush 450 20 mc_146 dX11_init_448 rfl (by decide)).trans ?_
    refine (s_newI 452 mc_146 dX11_init_450 rfl mq_146 (by decide) rfl (by decide)).trans ?_
    refine letH_i (F := fun a33 h33 => sem (X, K X d) 146 452 [some (.ref x0), some (.int x1)] [.ref a33, .ref x0] h33) (hN h32) (alc h32 (50, 20) 20) ?_
    intro a33 h33
    refine (s_putfR 455 mc_146 dX11_init_452 rfl mo_146 ff_11_171 rfl (Or.inr ⟨mo_146, mn_146⟩)).trans ?_
    refine fR_c fun h34 => ?_
    refine (s_aload_n 456 mc_146 dX11_init_455 rfl rfl rfl).trans ?_
    refine (s_bipush 458 20 mc_146 dX11_init_456 rfl (by decide)).trans ?_
    refine (s_newI 460 mc_146 dX11_init_458 rfl mq_146 (by decide) rfl (by decide)).trans ?_
    refine letH_i (F := fun a35 h35 => sem (X, K X d) 146 460 [some (.ref x0), some (.int x1)] [.ref a35, .ref x0] h35) (hN h34) (alc h34 (50, 20) 20) ?_
    intro a35 h35
    refine (s_putfR 463 mc_146 dX11_init_460 rfl mo_146 ff_11_174 rfl (Or.inr ⟨mo_146, mn_146⟩)).trans ?_
    refine fR_c fun h36 => ?_
    refine (s_aload_n 464 mc_146 dX11_init_463 rfl rfl rfl).trans ?_
    refine (s_bipush 466 6 mc_146 dX11_init_464 rfl (by decide)).trans ?_
    refine (s_newI 468 mc_146 dX11_init_466 rfl mq_146 (by decide) rfl (by decide)).trans ?_
    refine letH_i (F := fun a37 h37 => sem (X, K X d) 146 468 [some (.ref x0), some (.int x1)] [.ref a37, .ref x0] h37) (hN h36) (alc h36 (50, 6) 6) ?_
    intro a37 h37
    refine (s_putfR 471 mc_146 dX11_init_468 rfl mo_146 ff_11_177 rfl (Or.inr ⟨mo_146, mn_146⟩)).trans ?_
    refine fR_c fun h38 => ?_
    refine (s_aload_n 472 mc_146 dX11_init_471 rfl rfl rfl).trans ?_
    refine (s_bipush 474 6 mc_146 dX11_init_472 rfl (by decide)).trans ?_
    refine (s_newI 476 mc_146 dX11_init_474 rfl mq_146 (by decide) rfl (by decide)).trans ?_
    refine letH_i (F := fun a39 h39 => sem (X, K X d) 146 476 [some (.ref x0), some (.int x1)] [.ref a39, .ref x0] h39) (hN h38) (alc h38 (50, 6) 6) ?_
    intro a39 h39
    refine (s_putfR 479 mc_146 dX11_init_476 rfl mo_146 ff_11_180 rfl (Or.inr ⟨mo_146, mn_146⟩)).trans ?_
    refine fR_c fun h40 => ?_
    refine (s_aload_n 480 mc_146 dX11_init_479 rfl rfl rfl).trans ?_
    refine (s_bipush 482 6 mc_146 dX11_init_480 rfl (by decide)).trans ?_
    refine (s_newI 484 mc_146 dX11_init_482 rfl mq_146 (by decide) rfl (by decide)).trans ?_
    refine letH_i (F := fun a41 h41 => sem (X, K X d) 146 484 [some (.ref x0), some (.int x1)] [.ref a41, .ref x0] h41) (hN h40) (alc h40 (50, 6) 6) ?_
    intro a41 h41
    refine (s_putfR 487 mc_146 dX11_init_484 rfl mo_146 ff_11_183 rfl (Or.inr ⟨mo_146, mn_146⟩)).trans ?_
    refine fR_c fun h42 => ?_
    refine (s_aload_n 488 mc_146 dX11_init_487 rfl rfl rfl).trans ?_
    refine (s_bipush 490 6 mc_146 dX11_init_488 rfl (by decide)).trans ?_
    refine (s_newI 492 mc_146 dX11_init_490 rfl mq_146 (by decide) rfl (by decide)).trans ?_
    refine letH_i (F := fun a43 h43 => sem (X, K X d) 146 492 [some (.ref x0), some (.int x1)] [.ref a43, .ref x0] h43) (hN h42) (alc h42 (50, 6) 6) ?_
    intro a43 h43
    refine (s_putfR 495 mc_146 dX11_init_492 rfl mo_146 ff_11_186 rfl (Or.inr ⟨mo_146, mn_146⟩)).trans ?_
    refine fR_c fun h44 => ?_
    refine (s_aload_n 496 mc_146 dX11_init_495 rfl rfl rfl).trans ?_
    refine (s_bipush 498 6 mc_146 dX11_init_496 rfl (by decide)).trans ?_
    refine (s_newI 500 mc_146 dX11_init_498 rfl mq_146 (by decide) rfl (by decide)).trans ?_
    refine letH_i (F := fun a45 h45 => sem (X, K X d) 146 500 [some (.ref x0), some (.int x1)] [.ref a45, .ref x0] h45) (hN h44) (alc h44 (50, 6) 6) ?_
    intro a45 h45
    refine (s_putfR 503 mc_146 dX11_init_500 rfl mo_146 ff_11_189 rfl (Or.inr ⟨mo_146, mn_146⟩)).trans ?_
    refine fR_c fun h46 => ?_
    refine (s_aload_n 504 mc_146 dX11_init_503 rfl rfl rfl).trans ?_
    refine (s_bipush 506 6 mc_146 dX11_init_504 rfl (by decide)).trans ?_
    refine (s_newI 508 mc_146 dX11_init_506 rfl mq_146 (by decide) rfl (by decide)).trans ?_
    refine letH_i (F := fun a47 h47 => sem (X, K X d) 146 508 [some (.ref x0), some (.int x1)] [.ref a47, .ref x0] h47) (hN h46) (alc h46 (50, 6) 6) ?_
    intro a47 h47
    refine (s_putfR 511 mc_146 dX11_init_508 rfl mo_146 ff_11_192 rfl (Or.inr ⟨mo_146, mn_146⟩)).trans ?_
    refine fR_c fun h48 => ?_
    refine (s_aload_n 512 mc_146 dX11_init_511 rfl rfl rfl).trans ?_
    refine (s_bipush 514 10 mc_146 dX11_init_512 rfl (by decide)).trans ?_
    refine (s_newI 516 mc_146 dX11_init_514 rfl mq_146 (by decide) rfl (by decide)).trans ?_
    refine letH_i (F := fun a49 h49 => sem (X, K X d) 146 516 [some (.ref x0), some (.int x1)] [.ref a49, .ref x0] h49) (hN h48) (alc h48 (50, 10) 10) ?_
    intro a49 h49
    refine (s_putfR 519 mc_146 dX11_init_516 rfl mo_146 ff_11_195 rfl (Or.inr ⟨mo_146, mn_146⟩)).trans ?_
    refine fR_c fun h50 => ?_
    refine (s_aload_n 520 mc_146 dX11_init_519 rfl rfl rfl).trans ?_
    refine (s_bipush 522 10 mc_146 dX11_init_520 rfl (by decide)).trans ?_
    refine (s_newI 524 mc_146 dX11_init_522 rfl mq_146 (by decide) rfl (by decide)).trans ?_
    refine letH_i (F := fun a51 h51 => sem (X, K X d) 146 524 [some (.ref x0), some (.int x1)] [.ref a51, .ref x0] h51) (hN h50) (alc h50 (50, 10) 10) ?_
    intro a51 h51
    refine (s_putfR 527 mc_146 dX11_init_524 rfl mo_146 ff_11_198 rfl (Or.inr ⟨mo_146, mn_146⟩)).trans ?_
    refine fR_c fun h52 => ?_
    refine (s_aload_n 528 mc_146 dX11_init_527 rfl rfl rfl).trans ?_
    refine (s_bipush 530 10 mc_146 dX11_init_528 rfl (by decide)).trans ?_
    refine (s_newI 532 mc_146 dX11_init_530 rfl mq_146 (by decide) rfl (by decide)).trans ?_
    refine letH_i (F := fun a53 h53 => sem (X, K X d) 146 532 [some (.ref x0), some (.int x1)] [.ref a53, .ref x0] h53) (hN h52) (alc h52 (50, 10) 10) ?_
    intro a53 h53
    refine (s_putfR 535 mc_146 dX11_init_532 rfl mo_146 ff_11_201 rfl (Or.inr ⟨mo_146, mn_146⟩)).trans ?_
    refine fR_c fun h54 => ?_
    refine (s_aload_n 536 mc_146 dX11_init_535 rfl rfl rfl).trans ?_
    refine (s_bipush 538 10 mc_146 dX11_init_536 rfl (by decide)).trans ?_
    refine (s_newJ 540 mc_146 dX11_init_538 rfl mq_146 (by decide) rfl (by decide)).trans ?_
    refine letH_i (F := fun a55 h55 => sem (X, K X d) 146 540 [some (.ref x0), some (.int x1)] [.ref a55, .ref x0] h55) (hN h54) (alc h54 (51, 10) 10) ?_
    intro a55 h55
    refine (s_putfR 543 mc_146 dX11_init_540 rfl mo_146 ff_11_204 rfl (Or.inr ⟨mo_146, mn_146⟩)).trans ?_
    refine fR_c fun h56 => ?_
    refine (s_iconst 544 0 mc_146 dX11_init_543 rfl (by decide)).trans ?_
    refine (s_istore_n 545 mc_146 dX11_init_544 rfl rfl (Nat.le_of_ble_eq_true rfl) rfl).trans ?_
    rfl
  · skip
    refine (s_aload_n 308 mc_146 dX11_init_307 rfl rfl rfl).trans ?_
    refine (s_iload_n 309 mc_146 dX11_init_308 rfl rfl rfl).trans ?_
    refine (s_iviV 312 mc_146 dX11_init_309 rfl mo_146 mm_11_118 (by decide) ms_179 mi_179 mr_179 ma_179 mo_179 (by decide) (Nat.le_of_ble_eq_true rfl) rfl rfl (Nat.le_of_ble_eq_true rfl)).trans ?_
    refine gd_c ?_
    refine bV_c fun h57 => ?_
    refine (s_iinc 1 315 mc_146 dX11_init_312 rfl rfl (Nat.le_of_ble_eq_true rfl) (by decide) rfl).trans ?_
    refine (s_goto 301 mc_146 dX11_init_315 rfl).trans ?_
    rfl
theorem b_146_545 {X : Ctx} {d : Nat} (x0 : Nat) (x1 : Int32)  (h : Hp) : sem (X, K X d) 146 545 [some (.ref x0), some (.int x1)] [] h = if 720 ≤ x1 then some (none, h) else gR h 11 x0 0 fun g1 => wI h g1 x1 (-1) fun h1 => sem (X, K X d) 146 545 [some (.ref x0), some (.int (x1 + 1))] [] h1 := by
  refine (s_iload_n 546 mc_146 dX11_init_545 rfl rfl rfl).trans ?_
  refine (s_sipush 549 720 mc_146 dX11_init_546 rfl (by decide)).trans ?_
  refine (s_icmp_ge 565 552 mc_146 dX11_init_549 rfl rfl).trans ?_
  refine ite_c ?_ ?_
  · skip
    exact s_vret mc_146 dX11_init_565 mt_146
  · skip
    refine (s_aload_n 553 mc_146 dX11_init_552 rfl rfl rfl).trans ?_
    refine (s_getfR 556 mc_146 dX11_init_553 rfl mo_146 fs_11_13 ff_11_13 rfl).trans ?_
    refine gR_c fun g1 => ?_
    refine (s_iload_n 557 mc_146 dX11_init_556 rfl rfl rfl).trans ?_
    refine (s_iconst 558 (-1) mc_146 dX11_init_557 rfl (by decide)).trans ?_
    refine (s_iastore 559 mc_146 dX11_init_558 rfl).trans ?_
    refine wI_c fun h1 => ?_
    refine (s_iinc 1 562 mc_146 dX11_init_559 rfl rfl (Nat.le_of_ble_eq_true rfl) (by decide) rfl).trans ?_
    refine (s_goto 545 mc_146 dX11_init_562 rfl).trans ?_
    rfl
/-- FiveLandsModel.night(IIII)Z -/
theorem k_147 {X : Ctx} {d : Nat} (x0 : Nat) (x1 : Int32) (x2 : Int32) (x3 : Int32) (x4 : Int32) (h : Hp) : K X (d + 1) 147 [.ref x0, .int x1, .int x2, .int x3, .int x4] h = bI (K X d 143 [.int x1] h) fun r1 h1 => if r1 = 0 then some (some (.int 0), h1) else bI (K X d 142 [.int x2, .int 0, .int 359] h1) fun r2 h2 => if r2 = 0 then some (some (.int 0), h2) else bI (K X d 142 [.int x3, .int x2, .int 359] h2) fun r3 h3 => if r3 = 0 then some (some (.int 0), h3) else if x4 = (-1) then sem (X, K X d) 147 48 [some (.ref x0), some (.int x1), some (.int x2), some (.int x3), some (.int x4), some (.int x2)] [] h3 else bI (K X d 144 [.int x4] h3) fun r4 h4 => if ¬ r4 = 0 then sem (X, K X d) 147 48 [some (.ref x0), some (.int x1), some (.int x2), some (.int x3), some (.int x4), some (.int x2)] [] h4 else some (some (.int 0), h4) := by
  show sem (X, K X d) 147 0 [some (.ref x0), some (.int x1), some (.int x2), some (.int x3), some (.int x4), none] [] h = _
  refine (s_iload_n 1 mc_147 dX11_night_0 rfl rfl rfl).trans ?_
  refine (s_istI 4 mc_147 dX11_night_1 rfl mo_147 mm_11_207 (by decide) ms_143 mr_143 ma_143 (Nat.le_of_ble_eq_true rfl) rfl rfl (Nat.le_of_ble_eq_true rfl)).trans ?_
  refine bI_c fun r1 h1 => ?_
  refine (s_if_eq 43 7 mc_147 dX11_night_4 rfl rfl).trans ?_
  refine ite_c ?_ ?_
  · skip
    refine (s_iconst 44 0 mc_147 dX11_night_43 rfl (by decide)).trans ?_
    exact s_zret0 mc_147 dX11_night_44 mt_147
  · skip
    refine (s_iload_n 8 mc_147 dX11_night_7 rfl rfl rfl).trans ?_
    refine (s_iconst 9 0 mc_147 dX11_night_8 rfl (by decide)).trans ?_
    refine (s_sipush 12 359 mc_147 dX11_night_9 rfl (by decide)).trans ?_
    refine (s_istI 15 mc_147 dX11_night_12 rfl mo_147 mm_11_1 (by decide) ms_142 mr_142 ma_142 (Nat.le_of_ble_eq_true rfl) rfl rfl (Nat.le_of_ble_eq_true rfl)).trans ?_
    refine bI_c fun r2 h2 => ?_
    refine (s_if_eq 43 18 mc_147 dX11_night_15 rfl rfl).trans ?_
    refine ite_c ?_ ?_
    · skip
      refine (s_iconst 44 0 mc_147 dX11_night_43 rfl (by decide)).trans ?_
      exact s_zret0 mc_147 dX11_night_44 mt_147
    · skip
      refine (s_iload_n 19 mc_147 dX11_night_18 rfl rfl rfl).trans ?_
      refine (s_iload_n 20 mc_147 dX11_night_19 rfl rfl rfl).trans ?_
      refine (s_sipush 23 359 mc_147 dX11_night_20 rfl (by decide)).trans ?_
      refine (s_istI 26 mc_147 dX11_night_23 rfl mo_147 mm_11_1 (by decide) ms_142 mr_142 ma_142 (Nat.le_of_ble_eq_true rfl) rfl rfl (Nat.le_of_ble_eq_true rfl)).trans ?_
      refine bI_c fun r3 h3 => ?_
      refine (s_if_eq 43 29 mc_147 dX11_night_26 rfl rfl).trans ?_
      refine ite_c ?_ ?_
      · skip
        refine (s_iconst 44 0 mc_147 dX11_night_43 rfl (by decide)).trans ?_
        exact s_zret0 mc_147 dX11_night_44 mt_147
      · skip
        refine (s_iload 31 mc_147 dX11_night_29 rfl rfl).trans ?_
        refine (s_iconst 32 (-1) mc_147 dX11_night_31 rfl (by decide)).trans ?_
        refine (s_icmp_eq 45 35 mc_147 dX11_night_32 rfl rfl).trans ?_
        refine ite_c ?_ ?_
        · skip
          refine (s_iload_n 46 mc_147 dX11_night_45 rfl rfl rfl).trans ?_
          refine (s_istore 48 mc_147 dX11_night_46 rfl (Nat.le_of_ble_eq_true rfl) rfl).trans ?_
          rfl
        · skip
          refine (s_iload 37 mc_147 dX11_night_35 rfl rfl).trans ?_
          refine (s_istI 40 mc_147 dX11_night_37 rfl mo_147 mm_11_211 (by decide) ms_144 mr_144 ma_144 (Nat.le_of_ble_eq_true rfl) rfl rfl (Nat.le_of_ble_eq_true rfl)).trans ?_
          refine bI_c fun r4 h4 => ?_
          refine (s_if_ne 45 43 mc_147 dX11_night_40 rfl rfl).trans ?_
          refine ite_c ?_ ?_
          · skip
            refine (s_iload_n 46 mc_147 dX11_night_45 rfl rfl rfl).trans ?_
            refine (s_istore 48 mc_147 dX11_night_46 rfl (Nat.le_of_ble_eq_true rfl) rfl).trans ?_
            rfl
          · skip
            refine (s_iconst 44 0 mc_147 dX11_night_43 rfl (by decide)).trans ?_
            exact s_zret0 mc_147 dX11_night_44 mt_147
theorem b_147_48 {X : Ctx} {d : Nat} (x0 : Nat) (x1 : Int32) (v2 : Option Value) (x3 : Int32) (x4 : Int32) (x5 : Int32)  (h : Hp) : sem (X, K X d) 147 48 [some (.ref x0), some (.int x1), v2, some (.int x3), some (.int x4), some (.int x5)] [] h = if x3 < x5 then some (some (.int 1), h) else gR h 11 x0 0 fun g1 => wI h g1 ((360 * x1) + x5) x4 fun h1 => sem (X, K X d) 147 48 [some (.ref x0), some (.int x1), v2, some (.int x3), some (.int x4), some (.int (x5 + 1))] [] h1 := by
  refine (s_iload 50 mc_147 dX11_night_48 rfl rfl).trans ?_
  refine (s_iload_n 51 mc_147 dX11_night_50 rfl rfl rfl).trans ?_
  refine (s_icmp_gt 75 54 mc_147 dX11_night_51 rfl rfl).trans ?_
  refine ite_c ?_ ?_
  · skip
    refine (s_iconst 76 1 mc_147 dX11_night_75 rfl (by decide)).trans ?_
    exact s_zret1 mc_147 dX11_night_76 mt_147
  · skip
    refine (s_aload_n 55 mc_147 dX11_night_54 rfl rfl rfl).trans ?_
    refine (s_getfR 58 mc_147 dX11_night_55 rfl mo_147 fs_11_13 ff_11_13 rfl).trans ?_
    refine gR_c fun g1 => ?_
    refine (s_sipush 61 360 mc_147 dX11_night_58 rfl (by decide)).trans ?_
    refine (s_iload_n 62 mc_147 dX11_night_61 rfl rfl rfl).trans ?_
    refine (s_imul 63 mc_147 dX11_night_62 rfl).trans ?_
    refine (s_iload 65 mc_147 dX11_night_63 rfl rfl).trans ?_
    refine (s_iadd 66 mc_147 dX11_night_65 rfl).trans ?_
    refine (s_iload 68 mc_147 dX11_night_66 rfl rfl).trans ?_
    refine (s_iastore 69 mc_147 dX11_night_68 rfl).trans ?_
    refine wI_c fun h1 => ?_
    refine (s_iinc 1 72 mc_147 dX11_night_69 rfl rfl (Nat.le_of_ble_eq_true rfl) (by decide) rfl).trans ?_
    refine (s_goto 48 mc_147 dX11_night_72 rfl).trans ?_
    rfl
/-- FiveLandsModel.home(IIZ)Z -/
theorem k_148 {X : Ctx} {d : Nat} (x0 : Nat) (x1 : Int32) (x2 : Int32) (x3 : Int32) (h : Hp) : K X (d + 1) 148 [.ref x0, .int x1, .int x2, .int x3] h = bI (K X d 143 [.int x1] h) fun r1 h1 => if r1 = 0 then some (some (.int 0), h1) else bI (K X d 144 [.int x2] h1) fun r2 h2 => if ¬ r2 = 0 then gR h2 11 x0 1 fun g3 => if x3 = 0 then gR h2 11 x0 1 fun g4 => aI X h2 g4 x1 fun g5 => wI h2 g3 x1 (g5 &&& ((1 <<< (x2 &&& 31)) ^^^ (-1))) fun h3 => some (some (.int 1), h3) else gR h2 11 x0 1 fun g6 => aI X h2 g6 x1 fun g7 => wI h2 g3 x1 (g7 ||| (1 <<< (x2 &&& 31))) fun h4 => some (some (.int 1), h4) else some (some (.int 0), h2) := by
  show sem (X, K X d) 148 0 [some (.ref x0), some (.int x1), some (.int x2), some (.int x3)] [] h = _
  refine (s_iload_n 1 mc_148 dX11_home_0 rfl rfl rfl).trans ?_
  refine (s_istI 4 mc_148 dX11_home_1 rfl mo_148 mm_11_207 (by decide) ms_143 mr_143 ma_143 (Nat.le_of_ble_eq_true rfl) rfl rfl (Nat.le_of_ble_eq_true rfl)).trans ?_
  refine bI_c fun r1 h1 => ?_
  refine (s_if_eq 14 7 mc_148 dX11_home_4 rfl rfl).trans ?_
  refine ite_c ?_ ?_
  · skip
    refine (s_iconst 15 0 mc_148 dX11_home_14 rfl (by decide)).trans ?_
    exact s_zret0 mc_148 dX11_home_15 mt_148
  · skip
    refine (s_iload_n 8 mc_148 dX11_home_7 rfl rfl rfl).trans ?_
    refine (s_istI 11 mc_148 dX11_home_8 rfl mo_148 mm_11_211 (by decide) ms_144 mr_144 ma_144 (Nat.le_of_ble_eq_true rfl) rfl rfl (Nat.le_of_ble_eq_true rfl)).trans ?_
    refine bI_c fun r2 h2 => ?_
    refine (s_if_ne 16 14 mc_148 dX11_home_11 rfl rfl).trans ?_
    refine ite_c ?_ ?_
    · skip
      refine (s_aload_n 17 mc_148 dX11_home_16 rfl rfl rfl).trans ?_
      refine (s_getfR 20 mc_148 dX11_home_17 rfl mo_148 fs_11_17 ff_11_17 rfl).trans ?_
      refine gR_c fun g3 => ?_
      refine (s_iload_n 21 mc_148 dX11_home_20 rfl rfl rfl).trans ?_
      refine (s_iload_n 22 mc_148 dX11_home_21 rfl rfl rfl).trans ?_
      refine (s_if_eq 38 25 mc_148 dX11_home_22 rfl rfl).trans ?_
      refine ite_c ?_ ?_
      · skip
        refine (s_aload_n 39 mc_148 dX11_home_38 rfl rfl rfl).trans ?_
        refine (s_getfR 42 mc_148 dX11_home_39 rfl mo_148 fs_11_17 ff_11_17 rfl).trans ?_
        refine gR_c fun g4 => ?_
        refine (s_iload_n 43 mc_148 dX11_home_42 rfl rfl rfl).trans ?_
        refine (s_iaload 44 mc_148 dX11_home_43 rfl).trans ?_
        refine aI_c fun g5 => ?_
        refine (s_iconst 45 1 mc_148 dX11_home_44 rfl (by decide)).trans ?_
        refine (s_iload_n 46 mc_148 dX11_home_45 rfl rfl rfl).trans ?_
        refine (s_ishl 47 mc_148 dX11_home_46 rfl).trans ?_
        refine (s_iconst 48 (-1) mc_148 dX11_home_47 rfl (by decide)).trans ?_
        refine (s_ixor 49 mc_148 dX11_home_48 rfl).trans ?_
        refine (s_iand 50 mc_148 dX11_home_49 rfl).trans ?_
        refine (s_iastore 51 mc_148 dX11_home_50 rfl).trans ?_
        refine wI_c fun h3 => ?_
        refine (s_iconst 52 1 mc_148 dX11_home_51 rfl (by decide)).trans ?_
        exact s_zret1 mc_148 dX11_home_52 mt_148
      · skip
        refine (s_aload_n 26 mc_148 dX11_home_25 rfl rfl rfl).trans ?_
        refine (s_getfR 29 mc_148 dX11_home_26 rfl mo_148 fs_11_17 ff_11_17 rfl).trans ?_
        refine gR_c fun g6 => ?_
        refine (s_iload_n 30 mc_148 dX11_home_29 rfl rfl rfl).trans ?_
        refine (s_iaload 31 mc_148 dX11_home_30 rfl).trans ?_
        refine aI_c fun g7 => ?_
        refine (s_iconst 32 1 mc_148 dX11_home_31 rfl (by decide)).trans ?_
        refine (s_iload_n 33 mc_148 dX11_home_32 rfl rfl rfl).trans ?_
        refine (s_ishl 34 mc_148 dX11_home_33 rfl).trans ?_
        refine (s_ior 35 mc_148 dX11_home_34 rfl).trans ?_
        refine (s_goto 50 mc_148 dX11_home_35 rfl).trans ?_
        refine (s_iastore 51 mc_148 dX11_home_50 rfl).trans ?_
        refine wI_c fun h4 => ?_
        refine (s_iconst 52 1 mc_148 dX11_home_51 rfl (by decide)).trans ?_
        exact s_zret1 mc_148 dX11_home_52 mt_148
    · skip
      refine (s_iconst 15 0 mc_148 dX11_home_14 rfl (by decide)).trans ?_
      exact s_zret0 mc_148 dX11_home_15 mt_148
/-- FiveLandsModel.tie(III)Z -/
theorem k_149 {X : Ctx} {d : Nat} (x0 : Nat) (x1 : Int32) (x2 : Int32) (x3 : Int32) (h : Hp) : K X (d + 1) 149 [.ref x0, .int x1, .int x2, .int x3] h = bI (K X d 143 [.int x1] h) fun r1 h1 => if r1 = 0 then some (some (.int 0), h1) else bI (K X d 142 [.int x2, .int 0, .int 1] h1) fun r2 h2 => if r2 = 0 then some (some (.int 0), h2) else if x3 = (-1) then gR h2 11 x0 2 fun g3 => wI h2 g3 ((2 * x1) + x2) x3 fun h3 => some (some (.int 1), h3) else bI (K X d 144 [.int x3] h2) fun r4 h4 => if ¬ r4 = 0 then gR h4 11 x0 2 fun g5 => wI h4 g5 ((2 * x1) + x2) x3 fun h5 => some (some (.int 1), h5) else some (some (.int 0), h4) := by
  show sem (X, K X d) 149 0 [some (.ref x0), some (.int x1), some (.int x2), some (.int x3)] [] h = _
  refine (s_iload_n 1 mc_149 dX11_tie_0 rfl rfl rfl).trans ?_
  refine (s_istI 4 mc_149 dX11_tie_1 rfl mo_149 mm_11_207 (by decide) ms_143 mr_143 ma_143 (Nat.le_of_ble_eq_true rfl) rfl rfl (Nat.le_of_ble_eq_true rfl)).trans ?_
  refine bI_c fun r1 h1 => ?_
  refine (s_if_eq 28 7 mc_149 dX11_tie_4 rfl rfl).trans ?_
  refine ite_c ?_ ?_
  · skip
    refine (s_iconst 29 0 mc_149 dX11_tie_28 rfl (by decide)).trans ?_
    exact s_zret0 mc_149 dX11_tie_29 mt_149
  · skip
    refine (s_iload_n 8 mc_149 dX11_tie_7 rfl rfl rfl).trans ?_
    refine (s_iconst 9 0 mc_149 dX11_tie_8 rfl (by decide)).trans ?_
    refine (s_iconst 10 1 mc_149 dX11_tie_9 rfl (by decide)).trans ?_
    refine (s_istI 13 mc_149 dX11_tie_10 rfl mo_149 mm_11_1 (by decide) ms_142 mr_142 ma_142 (Nat.le_of_ble_eq_true rfl) rfl rfl (Nat.le_of_ble_eq_true rfl)).trans ?_
    refine bI_c fun r2 h2 => ?_
    refine (s_if_eq 28 16 mc_149 dX11_tie_13 rfl rfl).trans ?_
    refine ite_c ?_ ?_
    · skip
      refine (s_iconst 29 0 mc_149 dX11_tie_28 rfl (by decide)).trans ?_
      exact s_zret0 mc_149 dX11_tie_29 mt_149
    · skip
      refine (s_iload_n 17 mc_149 dX11_tie_16 rfl rfl rfl).trans ?_
      refine (s_iconst 18 (-1) mc_149 dX11_tie_17 rfl (by decide)).trans ?_
      refine (s_icmp_eq 30 21 mc_149 dX11_tie_18 rfl rfl).trans ?_
      refine ite_c ?_ ?_
      · skip
        refine (s_aload_n 31 mc_149 dX11_tie_30 rfl rfl rfl).trans ?_
        refine (s_getfR 34 mc_149 dX11_tie_31 rfl mo_149 fs_11_20 ff_11_20 rfl).trans ?_
        refine gR_c fun g3 => ?_
        refine (s_iconst 35 2 mc_149 dX11_tie_34 rfl (by decide)).trans ?_
        refine (s_iload_n 36 mc_149 dX11_tie_35 rfl rfl rfl).trans ?_
        refine (s_imul 37 mc_149 dX11_tie_36 rfl).trans ?_
        refine (s_iload_n 38 mc_149 dX11_tie_37 rfl rfl rfl).trans ?_
        refine (s_iadd 39 mc_149 dX11_tie_38 rfl).trans ?_
        refine (s_iload_n 40 mc_149 dX11_tie_39 rfl rfl rfl).trans ?_
        refine (s_iastore 41 mc_149 dX11_tie_40 rfl).trans ?_
        refine wI_c fun h3 => ?_
        refine (s_iconst 42 1 mc_149 dX11_tie_41 rfl (by decide)).trans ?_
        exact s_zret1 mc_149 dX11_tie_42 mt_149
      · skip
        refine (s_iload_n 22 mc_149 dX11_tie_21 rfl rfl rfl).trans ?_
        refine (s_istI 25 mc_149 dX11_tie_22 rfl mo_149 mm_11_211 (by decide) ms_144 mr_144 ma_144 (Nat.le_of_ble_eq_true rfl) rfl rfl (Nat.le_of_ble_eq_true rfl)).trans ?_
        refine bI_c fun r4 h4 => ?_
        refine (s_if_ne 30 28 mc_149 dX11_tie_25 rfl rfl).trans ?_
        refine ite_c ?_ ?_
        · skip
          refine (s_aload_n 31 mc_149 dX11_tie_30 rfl rfl rfl).trans ?_
          refine (s_getfR 34 mc_149 dX11_tie_31 rfl mo_149 fs_11_20 ff_11_20 rfl).trans ?_
          refine gR_c fun g5 => ?_
          refine (s_iconst 35 2 mc_149 dX11_tie_34 rfl (by decide)).trans ?_
          refine (s_iload_n 36 mc_149 dX11_tie_35 rfl rfl rfl).trans ?_
          refine (s_imul 37 mc_149 dX11_tie_36 rfl).trans ?_
          refine (s_iload_n 38 mc_149 dX11_tie_37 rfl rfl rfl).trans ?_
          refine (s_iadd 39 mc_149 dX11_tie_38 rfl).trans ?_
          refine (s_iload_n 40 mc_149 dX11_tie_39 rfl rfl rfl).trans ?_
          refine (s_iastore 41 mc_149 dX11_tie_40 rfl).trans ?_
          refine wI_c fun h5 => ?_
          refine (s_iconst 42 1 mc_149 dX11_tie_41 rfl (by decide)).trans ?_
          exact s_zret1 mc_149 dX11_tie_42 mt_149
        · skip
          refine (s_iconst 29 0 mc_149 dX11_tie_28 rfl (by decide)).trans ?_
          exact s_zret0 mc_149 dX11_tie_29 mt_149
/-- FiveLandsModel.sum(IIIIII)I -/
theorem k_150 {X : Ctx} {d : Nat} (x0 : Nat) (x1 : Int32) (x2 : Int32) (x3 : Int32) (x4 : Int32) (x5 : Int32) (x6 : Int32) (h : Hp) : K X (d + 1) 150 [.ref x0, .int x1, .int x2, .int x3, .int x4, .int x5, .int x6] h = bI (K X d 143 [.int x1] h) fun r1 h1 => if r1 = 0 then some (some (.int (-1)), h1) else bI (K X d 142 [.int x2, .int 0, .int 5] h1) fun r2 h2 => if r2 = 0 then some (some (.int (-1)), h2) else if ¬ x2 = 5 then sem (X, K X d) 150 30 [some (.ref x0), some (.int x1), some (.int x2), some (.int x3), some (.int x4), some (.int x5), some (.int x6), none] [] h2 else bI (K X d 142 [.int x3, .int 0, .int 4] h2) fun r3 h3 => if r3 = 0 then some (some (.int (-1)), h3) else sem (X, K X d) 150 30 [some (.ref x0), some (.int x1), some (.int x2), some (.int x3), some (.int x4), some (.int x5), some (.int x6), none] [] h3 := by
  show sem (X, K X d) 150 0 [some (.ref x0), some (.int x1), some (.int x2), some (.int x3), some (.int x4), some (.int x5), some (.int x6), none] [] h = _
  refine (s_iload_n 1 mc_150 dX11_sum_0 rfl rfl rfl).trans ?_
  refine (s_istI 4 mc_150 dX11_sum_1 rfl mo_150 mm_11_207 (by decide) ms_143 mr_143 ma_143 (Nat.le_of_ble_eq_true rfl) rfl rfl (Nat.le_of_ble_eq_true rfl)).trans ?_
  refine bI_c fun r1 h1 => ?_
  refine (s_if_eq 68 7 mc_150 dX11_sum_4 rfl rfl).trans ?_
  refine ite_c ?_ ?_
  · skip
    refine (s_iconst 69 (-1) mc_150 dX11_sum_68 rfl (by decide)).trans ?_
    exact s_iret mc_150 dX11_sum_69 mt_150
  · skip
    refine (s_iload_n 8 mc_150 dX11_sum_7 rfl rfl rfl).trans ?_
    refine (s_iconst 9 0 mc_150 dX11_sum_8 rfl (by decide)).trans ?_
    refine (s_iconst 10 5 mc_150 dX11_sum_9 rfl (by decide)).trans ?_
    refine (s_istI 13 mc_150 dX11_sum_10 rfl mo_150 mm_11_1 (by decide) ms_142 mr_142 ma_142 (Nat.le_of_ble_eq_true rfl) rfl rfl (Nat.le_of_ble_eq_true rfl)).trans ?_
    refine bI_c fun r2 h2 => ?_
    refine (s_if_eq 68 16 mc_150 dX11_sum_13 rfl rfl).trans ?_
    refine ite_c ?_ ?_
    · skip
      refine (s_iconst 69 (-1) mc_150 dX11_sum_68 rfl (by decide)).trans ?_
      exact s_iret mc_150 dX11_sum_69 mt_150
    · skip
      refine (s_iload_n 17 mc_150 dX11_sum_16 rfl rfl rfl).trans ?_
      refine (s_iconst 18 5 mc_150 dX11_sum_17 rfl (by decide)).trans ?_
      refine (s_icmp_ne 30 21 mc_150 dX11_sum_18 rfl rfl).trans ?_
      refine ite_c ?_ ?_
      · skip
        rfl
      · skip
        refine (s_iload_n 22 mc_150 dX11_sum_21 rfl rfl rfl).trans ?_
        refine (s_iconst 23 0 mc_150 dX11_sum_22 rfl (by decide)).trans ?_
        refine (s_iconst 24 4 mc_150 dX11_sum_23 rfl (by decide)).trans ?_
        refine (s_istI 27 mc_150 dX11_sum_24 rfl mo_150 mm_11_1 (by decide) ms_142 mr_142 ma_142 (Nat.le_of_ble_eq_true rfl) rfl rfl (Nat.le_of_ble_eq_true rfl)).trans ?_
        refine bI_c fun r3 h3 => ?_
        refine (s_if_eq 68 30 mc_150 dX11_sum_27 rfl rfl).trans ?_
        refine ite_c ?_ ?_
        · skip
          refine (s_iconst 69 (-1) mc_150 dX11_sum_68 rfl (by decide)).trans ?_
          exact s_iret mc_150 dX11_sum_69 mt_150
        · skip
          rfl
theorem b_150_30 {X : Ctx} {d : Nat} (x0 : Nat) (x1 : Int32) (x2 : Int32) (x3 : Int32) (x4 : Int32) (x5 : Int32) (x6 : Int32) (v7 : Option Value)  (h : Hp) : sem (X, K X d) 150 30 [some (.ref x0), some (.int x1), some (.int x2), some (.int x3), some (.int x4), some (.int x5), some (.int x6), v7] [] h = bI (K X d 142 [.int x4, .int 1, .int 999999] h) fun r1 h1 => if r1 = 0 then some (some (.int (-1)), h1) else bI (K X d 144 [.int x5] h1) fun r2 h2 => if r2 = 0 then some (some (.int (-1)), h2) else bI (K X d 144 [.int x6] h2) fun r3 h3 => if r3 = 0 then some (some (.int (-1)), h3) else gR h3 11 x0 3 fun g4 => aI X h3 g4 x1 fun g5 => if ¬ g5 = 12 then gR h3 11 x0 3 fun g6 => aI X h3 g6 x1 fun g7 => gR h3 11 x0 4 fun g8 => wI h3 g8 ((12 * x1) + g7) x2 fun h4 => gR h4 11 x0 5 fun g9 => if ¬ x2 = 5 then sem (X, K X d) 150 107 [some (.ref x0), some (.int x1), some (.int x2), some (.int x3), some (.int x4), some (.int x5), some (.int x6), some (.int ((12 * x1) + g7))] [.int x2, .int ((12 * x1) + g7), .ref g9] h4 else sem (X, K X d) 150 107 [some (.ref x0), some (.int x1), some (.int x2), some (.int x3), some (.int x4), some (.int x5), some (.int x6), some (.int ((12 * x1) + g7))] [.int x3, .int ((12 * x1) + g7), .ref g9] h4 else some (some (.int (-1)), h3) := by
  refine (s_iload 32 mc_150 dX11_sum_30 rfl rfl).trans ?_
  refine (s_iconst 33 1 mc_150 dX11_sum_32 rfl (by decide)).trans ?_
  refine (s_ldc 35 999999 mc_150 dX11_sum_33 rfl mo_150 cs_11_214 (by decide)).trans ?_
  refine (s_istI 38 mc_150 dX11_sum_35 rfl mo_150 mm_11_1 (by decide) ms_142 mr_142 ma_142 (Nat.le_of_ble_eq_true rfl) rfl rfl (Nat.le_of_ble_eq_true rfl)).trans ?_
  refine bI_c fun r1 h1 => ?_
  refine (s_if_eq 68 41 mc_150 dX11_sum_38 rfl rfl).trans ?_
  refine ite_c ?_ ?_
  · skip
    refine (s_iconst 69 (-1) mc_150 dX11_sum_68 rfl (by decide)).trans ?_
    exact s_iret mc_150 dX11_sum_69 mt_150
  · skip
    refine (s_iload 43 mc_150 dX11_sum_41 rfl rfl).trans ?_
    refine (s_istI 46 mc_150 dX11_sum_43 rfl mo_150 mm_11_211 (by decide) ms_144 mr_144 ma_144 (Nat.le_of_ble_eq_true rfl) rfl rfl (Nat.le_of_ble_eq_true rfl)).trans ?_
    refine bI_c fun r2 h2 => ?_
    refine (s_if_eq 68 49 mc_150 dX11_sum_46 rfl rfl).trans ?_
    refine ite_c ?_ ?_
    · skip
      refine (s_iconst 69 (-1) mc_150 dX11_sum_68 rfl (by decide)).trans ?_
      exact s_iret mc_150 dX11_sum_69 mt_150
    · skip
      refine (s_iload 51 mc_150 dX11_sum_49 rfl rfl).trans ?_
      refine (s_istI 54 mc_150 dX11_sum_51 rfl mo_150 mm_11_211 (by decide) ms_144 mr_144 ma_144 (Nat.le_of_ble_eq_true rfl) rfl rfl (Nat.le_of_ble_eq_true rfl)).trans ?_
      refine bI_c fun r3 h3 => ?_
      refine (s_if_eq 68 57 mc_150 dX11_sum_54 rfl rfl).trans ?_
      refine ite_c ?_ ?_
      · skip
        refine (s_iconst 69 (-1) mc_150 dX11_sum_68 rfl (by decide)).trans ?_
        exact s_iret mc_150 dX11_sum_69 mt_150
      · skip
        refine (s_aload_n 58 mc_150 dX11_sum_57 rfl rfl rfl).trans ?_
        refine (s_getfR 61 mc_150 dX11_sum_58 rfl mo_150 fs_11_23 ff_11_23 rfl).trans ?_
        refine gR_c fun g4 => ?_
        refine (s_iload_n 62 mc_150 dX11_sum_61 rfl rfl rfl).trans ?_
        refine (s_iaload 63 mc_150 dX11_sum_62 rfl).trans ?_
        refine aI_c fun g5 => ?_
        refine (s_bipush 65 12 mc_150 dX11_sum_63 rfl (by decide)).trans ?_
        refine (s_icmp_ne 70 68 mc_150 dX11_sum_65 rfl rfl).trans ?_
        refine ite_c ?_ ?_
        · skip
          refine (s_bipush 72 12 mc_150 dX11_sum_70 rfl (by decide)).trans ?_
          refine (s_iload_n 73 mc_150 dX11_sum_72 rfl rfl rfl).trans ?_
          refine (s_imul 74 mc_150 dX11_sum_73 rfl).trans ?_
          refine (s_aload_n 75 mc_150 dX11_sum_74 rfl rfl rfl).trans ?_
          refine (s_getfR 78 mc_150 dX11_sum_75 rfl mo_150 fs_11_23 ff_11_23 rfl).trans ?_
          refine gR_c fun g6 => ?_
          refine (s_iload_n 79 mc_150 dX11_sum_78 rfl rfl rfl).trans ?_
          refine (s_iaload 80 mc_150 dX11_sum_79 rfl).trans ?_
          refine aI_c fun g7 => ?_
          refine (s_iadd 81 mc_150 dX11_sum_80 rfl).trans ?_
          refine (s_istore 83 mc_150 dX11_sum_81 rfl (Nat.le_of_ble_eq_true rfl) rfl).trans ?_
          refine (s_aload_n 84 mc_150 dX11_sum_83 rfl rfl rfl).trans ?_
          refine (s_getfR 87 mc_150 dX11_sum_84 rfl mo_150 fs_11_26 ff_11_26 rfl).trans ?_
          refine gR_c fun g8 => ?_
          refine (s_iload 89 mc_150 dX11_sum_87 rfl rfl).trans ?_
          refine (s_iload_n 90 mc_150 dX11_sum_89 rfl rfl rfl).trans ?_
          refine (s_iastore 91 mc_150 dX11_sum_90 rfl).trans ?_
          refine wI_c fun h4 => ?_
          refine (s_aload_n 92 mc_150 dX11_sum_91 rfl rfl rfl).trans ?_
          refine (s_getfR 95 mc_150 dX11_sum_92 rfl mo_150 fs_11_29 ff_11_29 rfl).trans ?_
          refine gR_c fun g9 => ?_
          refine (s_iload 97 mc_150 dX11_sum_95 rfl rfl).trans ?_
          refine (s_iload_n 98 mc_150 dX11_sum_97 rfl rfl rfl).trans ?_
          refine (s_iconst 99 5 mc_150 dX11_sum_98 rfl (by decide)).trans ?_
          refine (s_icmp_ne 106 102 mc_150 dX11_sum_99 rfl rfl).trans ?_
          refine ite_c ?_ ?_
          · skip
            refine (s_iload_n 107 mc_150 dX11_sum_106 rfl rfl rfl).trans ?_
            rfl
          · skip
            refine (s_iload_n 103 mc_150 dX11_sum_102 rfl rfl rfl).trans ?_
            refine (s_goto 107 mc_150 dX11_sum_103 rfl).trans ?_
            rfl
        · skip
          refine (s_iconst 69 (-1) mc_150 dX11_sum_68 rfl (by decide)).trans ?_
          exact s_iret mc_150 dX11_sum_69 mt_150
theorem b_150_107 {X : Ctx} {d : Nat} (x0 : Nat) (x1 : Int32) (v2 : Option Value) (v3 : Option Value) (x4 : Int32) (x5 : Int32) (x6 : Int32) (x7 : Int32) (s0 : Nat) (s1 : Int32) (s2 : Int32) (h : Hp) : sem (X, K X d) 150 107 [some (.ref x0), some (.int x1), v2, v3, some (.int x4), some (.int x5), some (.int x6), some (.int x7)] [.int s2, .int s1, .ref s0] h = wI h s0 s1 s2 fun h1 => gR h1 11 x0 6 fun g1 => wI h1 g1 x7 x4 fun h2 => gR h2 11 x0 7 fun g2 => wI h2 g2 x7 x5 fun h3 => gR h3 11 x0 8 fun g3 => wI h3 g3 x7 x6 fun h4 => gR h4 11 x0 3 fun g4 => aI X h4 g4 x1 fun g5 => wI h4 g4 x1 (g5 + 1) fun h5 => gR h5 11 x0 3 fun g6 => aI X h5 g6 x1 fun g7 => some (some (.int (g7 - 1)), h5) := by
  refine (s_iastore 108 mc_150 dX11_sum_107 rfl).trans ?_
  refine wI_c fun h1 => ?_
  refine (s_aload_n 109 mc_150 dX11_sum_108 rfl rfl rfl).trans ?_
  refine (s_getfR 112 mc_150 dX11_sum_109 rfl mo_150 fs_11_32 ff_11_32 rfl).trans ?_
  refine gR_c fun g1 => ?_
  refine (s_iload 114 mc_150 dX11_sum_112 rfl rfl).trans ?_
  refine (s_iload 116 mc_150 dX11_sum_114 rfl rfl).trans ?_
  refine (s_iastore 117 mc_150 dX11_sum_116 rfl).trans ?_
  refine wI_c fun h2 => ?_
  refine (s_aload_n 118 mc_150 dX11_sum_117 rfl rfl rfl).trans ?_
  refine (s_getfR 121 mc_150 dX11_sum_118 rfl mo_150 fs_11_35 ff_11_35 rfl).trans ?_
  refine gR_c fun g2 => ?_
  refine (s_iload 123 mc_150 dX11_sum_121 rfl rfl).trans ?_
  refine (s_iload 125 mc_150 dX11_sum_123 rfl rfl).trans ?_
  refine (s_iastore 126 mc_150 dX11_sum_125 rfl).trans ?_
  refine wI_c fun h3 => ?_
  refine (s_aload_n 127 mc_150 dX11_sum_126 rfl rfl rfl).trans ?_
  refine (s_getfR 130 mc_150 dX11_sum_127 rfl mo_150 fs_11_38 ff_11_38 rfl).trans ?_
  refine gR_c fun g3 => ?_
  refine (s_iload 132 mc_150 dX11_sum_130 rfl rfl).trans ?_
  refine (s_iload 134 mc_150 dX11_sum_132 rfl rfl).trans ?_
  refine (s_iastore 135 mc_150 dX11_sum_134 rfl).trans ?_
  refine wI_c fun h4 => ?_
  refine (s_aload_n 136 mc_150 dX11_sum_135 rfl rfl rfl).trans ?_
  refine (s_getfR 139 mc_150 dX11_sum_136 rfl mo_150 fs_11_23 ff_11_23 rfl).trans ?_
  refine gR_c fun g4 => ?_
  refine (s_iload_n 140 mc_150 dX11_sum_139 rfl rfl rfl).trans ?_
  refine (s_dup2 141 mc_150 dX11_sum_140 rfl rfl rfl).trans ?_
  refine (s_iaload 142 mc_150 dX11_sum_141 rfl).trans ?_
  refine aI_c fun g5 => ?_
  refine (s_iconst 143 1 mc_150 dX11_sum_142 rfl (by decide)).trans ?_
  refine (s_iadd 144 mc_150 dX11_sum_143 rfl).trans ?_
  refine (s_iastore 145 mc_150 dX11_sum_144 rfl).trans ?_
  refine wI_c fun h5 => ?_
  refine (s_aload_n 146 mc_150 dX11_sum_145 rfl rfl rfl).trans ?_
  refine (s_getfR 149 mc_150 dX11_sum_146 rfl mo_150 fs_11_23 ff_11_23 rfl).trans ?_
  refine gR_c fun g6 => ?_
  refine (s_iload_n 150 mc_150 dX11_sum_149 rfl rfl rfl).trans ?_
  refine (s_iaload 151 mc_150 dX11_sum_150 rfl).trans ?_
  refine aI_c fun g7 => ?_
  refine (s_iconst 152 1 mc_150 dX11_sum_151 rfl (by decide)).trans ?_
  refine (s_isub 153 mc_150 dX11_sum_152 rfl).trans ?_
  exact s_iret mc_150 dX11_sum_153 mt_150
/-- FiveLandsModel.feed(IIIII)I -/
theorem k_151 {X : Ctx} {d : Nat} (x0 : Nat) (x1 : Int32) (x2 : Int32) (x3 : Int32) (x4 : Int32) (x5 : Int32) (h : Hp) : K X (d + 1) 151 [.ref x0, .int x1, .int x2, .int x3, .int x4, .int x5] h = gI h 11 x0 35 fun g1 => if (g1 + 20) ≤ 600 then sem (X, K X d) 151 18 [some (.ref x0), some (.int x1), some (.int x2), some (.int x3), some (.int x4), some (.int x5), some (.int 0), none] [] h else some (some (.int (-1)), h) := by
  show sem (X, K X d) 151 0 [some (.ref x0), some (.int x1), some (.int x2), some (.int x3), some (.int x4), some (.int x5), none, none] [] h = _
  refine (s_aload_n 1 mc_151 dX11_feed_0 rfl rfl rfl).trans ?_
  refine (s_getfI 4 mc_151 dX11_feed_1 rfl mo_151 fs_11_215 ff_11_215 (Or.inl rfl)).trans ?_
  refine gI_c fun g1 => ?_
  refine (s_bipush 6 20 mc_151 dX11_feed_4 rfl (by decide)).trans ?_
  refine (s_iadd 7 mc_151 dX11_feed_6 rfl).trans ?_
  refine (s_sipush 10 600 mc_151 dX11_feed_7 rfl (by decide)).trans ?_
  refine (s_icmp_le 15 13 mc_151 dX11_feed_10 rfl rfl).trans ?_
  refine ite_c ?_ ?_
  · skip
    refine (s_iconst 16 0 mc_151 dX11_feed_15 rfl (by decide)).trans ?_
    refine (s_istore 18 mc_151 dX11_feed_16 rfl (Nat.le_of_ble_eq_true rfl) rfl).trans ?_
    rfl
  · skip
    refine (s_iconst 14 (-1) mc_151 dX11_feed_13 rfl (by decide)).trans ?_
    exact s_iret mc_151 dX11_feed_14 mt_151
theorem b_151_18 {X : Ctx} {d : Nat} (x0 : Nat) (x1 : Int32) (x2 : Int32) (x3 : Int32) (x4 : Int32) (x5 : Int32) (x6 : Int32) (v7 : Option Value)  (h : Hp) : sem (X, K X d) 151 18 [some (.ref x0), some (.int x1), some (.int x2), some (.int x3), some (.int x4), some (.int x5), some (.int x6), v7] [] h = if 20 ≤ x6 then gI h 11 x0 35 fun g1 => some (some (.int g1), h) else if 4 ≤ x6 then if 8 ≤ x6 then if 12 ≤ x6 then if 16 ≤ x6 then sem (X, K X d) 151 71 [some (.ref x0), some (.int x1), some (.int x2), some (.int x3), some (.int x4), some (.int x5), some (.int x6), v7] [.int x5] h else sem (X, K X d) 151 71 [some (.ref x0), some (.int x1), some (.int x2), some (.int x3), some (.int x4), some (.int x5), some (.int x6), v7] [.int x4] h else sem (X, K X d) 151 71 [some (.ref x0), some (.int x1), some (.int x2), some (.int x3), some (.int x4), some (.int x5), some (.int x6), v7] [.int x3] h else sem (X, K X d) 151 71 [some (.ref x0), some (.int x1), some (.int x2), some (.int x3), some (.int x4), some (.int x5), some (.int x6), v7] [.int x2] h else sem (X, K X d) 151 71 [some (.ref x0), some (.int x1), some (.int x2), some (.int x3), some (.int x4), some (.int x5), some (.int x6), v7] [.int x1] h := by
  refine (s_iload 20 mc_151 dX11_feed_18 rfl rfl).trans ?_
  refine (s_bipush 22 20 mc_151 dX11_feed_20 rfl (by decide)).trans ?_
  refine (s_icmp_ge 115 25 mc_151 dX11_feed_22 rfl rfl).trans ?_
  refine ite_c ?_ ?_
  · skip
    refine (s_aload_n 116 mc_151 dX11_feed_115 rfl rfl rfl).trans ?_
    refine (s_getfI 119 mc_151 dX11_feed_116 rfl mo_151 fs_11_215 ff_11_215 (Or.inl rfl)).trans ?_
    refine gI_c fun g1 => ?_
    exact s_iret mc_151 dX11_feed_119 mt_151
  · skip
    refine (s_iload 27 mc_151 dX11_feed_25 rfl rfl).trans ?_
    refine (s_iconst 28 4 mc_151 dX11_feed_27 rfl (by decide)).trans ?_
    refine (s_icmp_ge 35 31 mc_151 dX11_feed_28 rfl rfl).trans ?_
    refine ite_c ?_ ?_
    · skip
      refine (s_iload 37 mc_151 dX11_feed_35 rfl rfl).trans ?_
      refine (s_bipush 39 8 mc_151 dX11_feed_37 rfl (by decide)).trans ?_
      refine (s_icmp_ge 46 42 mc_151 dX11_feed_39 rfl rfl).trans ?_
      refine ite_c ?_ ?_
      · skip
        refine (s_iload 48 mc_151 dX11_feed_46 rfl rfl).trans ?_
        refine (s_bipush 50 12 mc_151 dX11_feed_48 rfl (by decide)).trans ?_
        refine (s_icmp_ge 57 53 mc_151 dX11_feed_50 rfl rfl).trans ?_
        refine ite_c ?_ ?_
        · skip
          refine (s_iload 59 mc_151 dX11_feed_57 rfl rfl).trans ?_
          refine (s_bipush 61 16 mc_151 dX11_feed_59 rfl (by decide)).trans ?_
          refine (s_icmp_ge 69 64 mc_151 dX11_feed_61 rfl rfl).trans ?_
          refine ite_c ?_ ?_
          · skip
            refine (s_iload 71 mc_151 dX11_feed_69 rfl rfl).trans ?_
            rfl
          · skip
            refine (s_iload 66 mc_151 dX11_feed_64 rfl rfl).trans ?_
            refine (s_goto 71 mc_151 dX11_feed_66 rfl).trans ?_
            rfl
        · skip
          refine (s_iload_n 54 mc_151 dX11_feed_53 rfl rfl rfl).trans ?_
          refine (s_goto 71 mc_151 dX11_feed_54 rfl).trans ?_
          rfl
      · skip
        refine (s_iload_n 43 mc_151 dX11_feed_42 rfl rfl rfl).trans ?_
        refine (s_goto 71 mc_151 dX11_feed_43 rfl).trans ?_
        rfl
    · skip
      refine (s_iload_n 32 mc_151 dX11_feed_31 rfl rfl rfl).trans ?_
      refine (s_goto 71 mc_151 dX11_feed_32 rfl).trans ?_
      rfl
theorem b_151_71 {X : Ctx} {d : Nat} (x0 : Nat) (v1 : Option Value) (v2 : Option Value) (v3 : Option Value) (v4 : Option Value) (v5 : Option Value) (x6 : Int32) (v7 : Option Value) (s0 : Int32) (h : Hp) : sem (X, K X d) 151 71 [some (.ref x0), v1, v2, v3, v4, v5, some (.int x6), v7] [.int s0] h = gR h 11 x0 30 fun g1 => gI h 11 x0 35 fun g2 => gd (¬ 4 = 0) (wI h g1 g2 ((s0 >>> ((24 - (8 * (x6 - x6 / 4 * 4))) &&& 31)) &&& 255) fun h1 => gI h1 11 x0 35 fun g3 => fI h1 11 x0 35 (g3 + 1) fun h2 => sem (X, K X d) 151 18 [some (.ref x0), v1, v2, v3, v4, v5, some (.int (x6 + 1)), some (.int s0)] [] h2) := by
  refine (s_istore 73 mc_151 dX11_feed_71 rfl (Nat.le_of_ble_eq_true rfl) rfl).trans ?_
  refine (s_aload_n 74 mc_151 dX11_feed_73 rfl rfl rfl).trans ?_
  refine (s_getfR 77 mc_151 dX11_feed_74 rfl mo_151 fs_11_105 ff_11_105 rfl).trans ?_
  refine gR_c fun g1 => ?_
  refine (s_aload_n 78 mc_151 dX11_feed_77 rfl rfl rfl).trans ?_
  refine (s_getfI 81 mc_151 dX11_feed_78 rfl mo_151 fs_11_215 ff_11_215 (Or.inl rfl)).trans ?_
  refine gI_c fun g2 => ?_
  refine (s_iload 83 mc_151 dX11_feed_81 rfl rfl).trans ?_
  refine (s_bipush 85 24 mc_151 dX11_feed_83 rfl (by decide)).trans ?_
  refine (s_bipush 87 8 mc_151 dX11_feed_85 rfl (by decide)).trans ?_
  refine (s_iload 89 mc_151 dX11_feed_87 rfl rfl).trans ?_
  refine (s_iconst 90 4 mc_151 dX11_feed_89 rfl (by decide)).trans ?_
  refine (s_irem 91 mc_151 dX11_feed_90 rfl).trans ?_
  refine gd_c ?_
  refine (s_imul 92 mc_151 dX11_feed_91 rfl).trans ?_
  refine (s_isub 93 mc_151 dX11_feed_92 rfl).trans ?_
  refine (s_ishr 94 mc_151 dX11_feed_93 rfl).trans ?_
  refine (s_sipush 97 255 mc_151 dX11_feed_94 rfl (by decide)).trans ?_
  refine (s_iand 98 mc_151 dX11_feed_97 rfl).trans ?_
  refine (s_iastore 99 mc_151 dX11_feed_98 rfl).trans ?_
  refine wI_c fun h1 => ?_
  refine (s_aload_n 100 mc_151 dX11_feed_99 rfl rfl rfl).trans ?_
  refine (s_dup 101 mc_151 dX11_feed_100 rfl rfl).trans ?_
  refine (s_getfI 104 mc_151 dX11_feed_101 rfl mo_151 fs_11_215 ff_11_215 (Or.inl rfl)).trans ?_
  refine gI_c fun g3 => ?_
  refine (s_iconst 105 1 mc_151 dX11_feed_104 rfl (by decide)).trans ?_
  refine (s_iadd 106 mc_151 dX11_feed_105 rfl).trans ?_
  refine (s_putfI 109 mc_151 dX11_feed_106 rfl mo_151 ff_11_215 rfl (Or.inl rfl)).trans ?_
  refine fI_c fun h2 => ?_
  refine (s_iinc 1 112 mc_151 dX11_feed_109 rfl rfl (Nat.le_of_ble_eq_true rfl) (by decide) rfl).trans ?_
  refine (s_goto 18 mc_151 dX11_feed_112 rfl).trans ?_
  rfl
/-- FiveLandsModel.end(I)Z -/
theorem k_152 {X : Ctx} {d : Nat} (x0 : Nat) (x1 : Int32) (h : Hp) : K X (d + 1) 152 [.ref x0, .int x1] h = gI h 11 x0 35 fun g1 => bI (K X d 142 [.int x1, .int 0, .int g1] h) fun r2 h1 => if ¬ r2 = 0 then fI h1 11 x0 35 x1 fun h2 => some (some (.int 1), h2) else some (some (.int 0), h1) := by
  show sem (X, K X d) 152 0 [some (.ref x0), some (.int x1)] [] h = _
  refine (s_iload_n 1 mc_152 dX11_end_0 rfl rfl rfl).trans ?_
  refine (s_iconst 2 0 mc_152 dX11_end_1 rfl (by decide)).trans ?_
  refine (s_aload_n 3 mc_152 dX11_end_2 rfl rfl rfl).trans ?_
  refine (s_getfI 6 mc_152 dX11_end_3 rfl mo_152 fs_11_215 ff_11_215 (Or.inl rfl)).trans ?_
  refine gI_c fun g1 => ?_
  refine (s_istI 9 mc_152 dX11_end_6 rfl mo_152 mm_11_1 (by decide) ms_142 mr_142 ma_142 (Nat.le_of_ble_eq_true rfl) rfl rfl (Nat.le_of_ble_eq_true rfl)).trans ?_
  refine bI_c fun r2 h1 => ?_
  refine (s_if_ne 14 12 mc_152 dX11_end_9 rfl rfl).trans ?_
  refine ite_c ?_ ?_
  · skip
    refine (s_aload_n 15 mc_152 dX11_end_14 rfl rfl rfl).trans ?_
    refine (s_iload_n 16 mc_152 dX11_end_15 rfl rfl rfl).trans ?_
    refine (s_putfI 19 mc_152 dX11_end_16 rfl mo_152 ff_11_215 rfl (Or.inl rfl)).trans ?_
    refine fI_c fun h2 => ?_
    refine (s_iconst 20 1 mc_152 dX11_end_19 rfl (by decide)).trans ?_
    exact s_zret1 mc_152 dX11_end_20 mt_152
  · skip
    refine (s_iconst 13 0 mc_152 dX11_end_12 rfl (by decide)).trans ?_
    exact s_zret0 mc_152 dX11_end_13 mt_152
/-- FiveLandsModel.see(I)I -/
theorem k_153 {X : Ctx} {d : Nat} (x0 : Nat) (x1 : Int32) (h : Hp) : K X (d + 1) 153 [.ref x0, .int x1] h = gI h 11 x0 35 fun g1 => if g1 ≤ x1 then some (some (.int (-1)), h) else gR h 11 x0 30 fun g2 => aI X h g2 x1 fun g3 => some (some (.int g3), h) := by
  show sem (X, K X d) 153 0 [some (.ref x0), some (.int x1)] [] h = _
  refine (s_iload_n 1 mc_153 dX11_see_0 rfl rfl rfl).trans ?_
  refine (s_aload_n 2 mc_153 dX11_see_1 rfl rfl rfl).trans ?_
  refine (s_getfI 5 mc_153 dX11_see_2 rfl mo_153 fs_11_215 ff_11_215 (Or.inl rfl)).trans ?_
  refine gI_c fun g1 => ?_
  refine (s_icmp_ge 17 8 mc_153 dX11_see_5 rfl rfl).trans ?_
  refine ite_c ?_ ?_
  · skip
    refine (s_iconst 18 (-1) mc_153 dX11_see_17 rfl (by decide)).trans ?_
    exact s_iret mc_153 dX11_see_18 mt_153
  · skip
    refine (s_aload_n 9 mc_153 dX11_see_8 rfl rfl rfl).trans ?_
    refine (s_getfR 12 mc_153 dX11_see_9 rfl mo_153 fs_11_105 ff_11_105 rfl).trans ?_
    refine gR_c fun g2 => ?_
    refine (s_iload_n 13 mc_153 dX11_see_12 rfl rfl rfl).trans ?_
    refine (s_iaload 14 mc_153 dX11_see_13 rfl).trans ?_
    refine aI_c fun g3 => ?_
    refine (s_goto 18 mc_153 dX11_see_14 rfl).trans ?_
    exact s_iret mc_153 dX11_see_18 mt_153
/-- FiveLandsModel.isLetter(I)Z -/
theorem k_154 {X : Ctx} {d : Nat} (x0 : Int32) (h : Hp) : K X (d + 1) 154 [.int x0] h = bI (K X d 142 [.int x0, .int 97, .int 122] h) fun r1 h1 => if ¬ r1 = 0 then some (some (.int 1), h1) else bI (K X d 142 [.int x0, .int 65, .int 90] h1) fun r2 h2 => if r2 = 0 then some (some (.int 0), h2) else some (some (.int 1), h2) := by
  show sem (X, K X d) 154 0 [some (.int x0)] [] h = _
  refine (s_iload_n 1 mc_154 dX11_isLetter_0 rfl rfl rfl).trans ?_
  refine (s_bipush 3 97 mc_154 dX11_isLetter_1 rfl (by decide)).trans ?_
  refine (s_bipush 5 122 mc_154 dX11_isLetter_3 rfl (by decide)).trans ?_
  refine (s_istI 8 mc_154 dX11_isLetter_5 rfl mo_154 mm_11_1 (by decide) ms_142 mr_142 ma_142 (Nat.le_of_ble_eq_true rfl) rfl rfl (Nat.le_of_ble_eq_true rfl)).trans ?_
  refine bI_c fun r1 h1 => ?_
  refine (s_if_ne 22 11 mc_154 dX11_isLetter_8 rfl rfl).trans ?_
  refine ite_c ?_ ?_
  · skip
    refine (s_iconst 23 1 mc_154 dX11_isLetter_22 rfl (by decide)).trans ?_
    refine (s_goto 27 mc_154 dX11_isLetter_23 rfl).trans ?_
    exact s_zret1 mc_154 dX11_isLetter_27 mt_154
  · skip
    refine (s_iload_n 12 mc_154 dX11_isLetter_11 rfl rfl rfl).trans ?_
    refine (s_bipush 14 65 mc_154 dX11_isLetter_12 rfl (by decide)).trans ?_
    refine (s_bipush 16 90 mc_154 dX11_isLetter_14 rfl (by decide)).trans ?_
    refine (s_istI 19 mc_154 dX11_isLetter_16 rfl mo_154 mm_11_1 (by decide) ms_142 mr_142 ma_142 (Nat.le_of_ble_eq_true rfl) rfl rfl (Nat.le_of_ble_eq_true rfl)).trans ?_
    refine bI_c fun r2 h2 => ?_
    refine (s_if_eq 26 22 mc_154 dX11_isLetter_19 rfl rfl).trans ?_
    refine ite_c ?_ ?_
    · skip
      refine (s_iconst 27 0 mc_154 dX11_isLetter_26 rfl (by decide)).trans ?_
      exact s_zret0 mc_154 dX11_isLetter_27 mt_154
    · skip
      refine (s_iconst 23 1 mc_154 dX11_isLetter_22 rfl (by decide)).trans ?_
      refine (s_goto 27 mc_154 dX11_isLetter_23 rfl).trans ?_
      exact s_zret1 mc_154 dX11_isLetter_27 mt_154
/-- FiveLandsModel.isDigit(I)Z -/
theorem k_155 {X : Ctx} {d : Nat} (x0 : Int32) (h : Hp) : K X (d + 1) 155 [.int x0] h = bI (K X d 142 [.int x0, .int 48, .int 57] h) fun r1 h1 => gd (okN .boolean r1) (some (some (.int r1), h1)) := by
  show sem (X, K X d) 155 0 [some (.int x0)] [] h = _
  refine (s_iload_n 1 mc_155 dX11_isDigit_0 rfl rfl rfl).trans ?_
  refine (s_bipush 3 48 mc_155 dX11_isDigit_1 rfl (by decide)).trans ?_
  refine (s_bipush 5 57 mc_155 dX11_isDigit_3 rfl (by decide)).trans ?_
  refine (s_istI 8 mc_155 dX11_isDigit_5 rfl mo_155 mm_11_1 (by decide) ms_142 mr_142 ma_142 (Nat.le_of_ble_eq_true rfl) rfl rfl (Nat.le_of_ble_eq_true rfl)).trans ?_
  refine bI_c fun r1 h1 => ?_
  exact s_zret mc_155 dX11_isDigit_8 mt_155
/-- FiveLandsModel.is(Ljava/lang/String;)Z -/
theorem k_156 {X : Ctx} {d : Nat} (x0 : Nat) (x1 : Nat) (h : Hp) : K X (d + 1) 156 [.ref x0, .ref x1] h = gI h 11 x0 36 fun g1 => gI h 11 x0 38 fun g2 => gd (1 ≤ x1 ∧ x1 < 31) (bI (K X d 240 [.ref x1] h) fun r3 h1 => if ¬ (g1 - g2) = r3 then sem (X, K X d) 156 24 [some (.ref x0), some (.ref x1), some (.int 0), some (.int 0)] [] h1 else sem (X, K X d) 156 24 [some (.ref x0), some (.ref x1), some (.int 1), some (.int 0)] [] h1) := by
  show sem (X, K X d) 156 0 [some (.ref x0), some (.ref x1), none, none] [] h = _
  refine (s_aload_n 1 mc_156 dX11_is_0 rfl rfl rfl).trans ?_
  refine (s_getfI 4 mc_156 dX11_is_1 rfl mo_156 fs_11_218 ff_11_218 (Or.inl rfl)).trans ?_
  refine gI_c fun g1 => ?_
  refine (s_aload_n 5 mc_156 dX11_is_4 rfl rfl rfl).trans ?_
  refine (s_getfI 8 mc_156 dX11_is_5 rfl mo_156 fs_11_221 ff_11_221 (Or.inl rfl)).trans ?_
  refine gI_c fun g2 => ?_
  refine (s_isub 9 mc_156 dX11_is_8 rfl).trans ?_
  refine (s_aload_n 10 mc_156 dX11_is_9 rfl rfl rfl).trans ?_
  refine (s_iviS 13 mc_156 dX11_is_10 rfl mo_156 mm_11_224 (by decide) ms_240 mi_240 mr_240 ma_240 mo_240 (Nat.le_of_ble_eq_true rfl) rfl rfl (Nat.le_of_ble_eq_true rfl)).trans ?_
  refine gd_c ?_
  refine bI_c fun r3 h1 => ?_
  refine (s_icmp_ne 20 16 mc_156 dX11_is_13 rfl rfl).trans ?_
  refine ite_c ?_ ?_
  · skip
    refine (s_iconst 21 0 mc_156 dX11_is_20 rfl (by decide)).trans ?_
    refine (s_istore_n 22 mc_156 dX11_is_21 rfl rfl (Nat.le_of_ble_eq_true rfl) rfl).trans ?_
    refine (s_iconst 23 0 mc_156 dX11_is_22 rfl (by decide)).trans ?_
    refine (s_istore_n 24 mc_156 dX11_is_23 rfl rfl (Nat.le_of_ble_eq_true rfl) rfl).trans ?_
    rfl
  · skip
    refine (s_iconst 17 1 mc_156 dX11_is_16 rfl (by decide)).trans ?_
    refine (s_goto 21 mc_156 dX11_is_17 rfl).trans ?_
    refine (s_istore_n 22 mc_156 dX11_is_21 rfl rfl (Nat.le_of_ble_eq_true rfl) rfl).trans ?_
    refine (s_iconst 23 0 mc_156 dX11_is_22 rfl (by decide)).trans ?_
    refine (s_istore_n 24 mc_156 dX11_is_23 rfl rfl (Nat.le_of_ble_eq_true rfl) rfl).trans ?_
    rfl
theorem b_156_24 {X : Ctx} {d : Nat} (x0 : Nat) (x1 : Nat) (x2 : Int32) (x3 : Int32)  (h : Hp) : sem (X, K X d) 156 24 [some (.ref x0), some (.ref x1), some (.int x2), some (.int x3)] [] h = gd (1 ≤ x1 ∧ x1 < 31) (bI (K X d 240 [.ref x1] h) fun r1 h1 => if r1 ≤ x3 then gd (okN .boolean x2) (some (some (.int x2), h1)) else if x2 = 0 then gd (okN .boolean x2) (some (some (.int x2), h1)) else gR h1 11 x0 30 fun g2 => gI h1 11 x0 38 fun g3 => aI X h1 g2 (g3 + x3) fun g4 => gd (1 ≤ x1 ∧ x1 < 31) (bI (K X d 241 [.ref x1, .int x3] h1) fun r5 h2 => if ¬ g4 = r5 then sem (X, K X d) 156 24 [some (.ref x0), some (.ref x1), some (.int 0), some (.int (x3 + 1))] [] h2 else sem (X, K X d) 156 24 [some (.ref x0), some (.ref x1), some (.int 1), some (.int (x3 + 1))] [] h2)) := by
  refine (s_iload_n 25 mc_156 dX11_is_24 rfl rfl rfl).trans ?_
  refine (s_aload_n 26 mc_156 dX11_is_25 rfl rfl rfl).trans ?_
  refine (s_iviS 29 mc_156 dX11_is_26 rfl mo_156 mm_11_224 (by decide) ms_240 mi_240 mr_240 ma_240 mo_240 (Nat.le_of_ble_eq_true rfl) rfl rfl (Nat.le_of_ble_eq_true rfl)).trans ?_
  refine gd_c ?_
  refine bI_c fun r1 h1 => ?_
  refine (s_icmp_ge 67 32 mc_156 dX11_is_29 rfl rfl).trans ?_
  refine ite_c ?_ ?_
  · skip
    refine (s_iload_n 68 mc_156 dX11_is_67 rfl rfl rfl).trans ?_
    exact s_zret mc_156 dX11_is_68 mt_156
  · skip
    refine (s_iload_n 33 mc_156 dX11_is_32 rfl rfl rfl).trans ?_
    refine (s_if_eq 67 36 mc_156 dX11_is_33 rfl rfl).trans ?_
    refine ite_c ?_ ?_
    · skip
      refine (s_iload_n 68 mc_156 dX11_is_67 rfl rfl rfl).trans ?_
      exact s_zret mc_156 dX11_is_68 mt_156
    · skip
      refine (s_aload_n 37 mc_156 dX11_is_36 rfl rfl rfl).trans ?_
      refine (s_getfR 40 mc_156 dX11_is_37 rfl mo_156 fs_11_105 ff_11_105 rfl).trans ?_
      refine gR_c fun g2 => ?_
      refine (s_aload_n 41 mc_156 dX11_is_40 rfl rfl rfl).trans ?_
      refine (s_getfI 44 mc_156 dX11_is_41 rfl mo_156 fs_11_221 ff_11_221 (Or.inl rfl)).trans ?_
      refine gI_c fun g3 => ?_
      refine (s_iload_n 45 mc_156 dX11_is_44 rfl rfl rfl).trans ?_
      refine (s_iadd 46 mc_156 dX11_is_45 rfl).trans ?_
      refine (s_iaload 47 mc_156 dX11_is_46 rfl).trans ?_
      refine aI_c fun g4 => ?_
      refine (s_aload_n 48 mc_156 dX11_is_47 rfl rfl rfl).trans ?_
      refine (s_iload_n 49 mc_156 dX11_is_48 rfl rfl rfl).trans ?_
      refine (s_iviS 52 mc_156 dX11_is_49 rfl mo_156 mm_11_230 (by decide) ms_241 mi_241 mr_241 ma_241 mo_241 (Nat.le_of_ble_eq_true rfl) rfl rfl (Nat.le_of_ble_eq_true rfl)).trans ?_
      refine gd_c ?_
      refine bI_c fun r5 h2 => ?_
      refine (s_icmp_ne 59 55 mc_156 dX11_is_52 rfl rfl).trans ?_
      refine ite_c ?_ ?_
      · skip
        refine (s_iconst 60 0 mc_156 dX11_is_59 rfl (by decide)).trans ?_
        refine (s_istore_n 61 mc_156 dX11_is_60 rfl rfl (Nat.le_of_ble_eq_true rfl) rfl).trans ?_
        refine (s_iinc 1 64 mc_156 dX11_is_61 rfl rfl (Nat.le_of_ble_eq_true rfl) (by decide) rfl).trans ?_
        refine (s_goto 24 mc_156 dX11_is_64 rfl).trans ?_
        rfl
      · skip
        refine (s_iconst 56 1 mc_156 dX11_is_55 rfl (by decide)).trans ?_
        refine (s_goto 60 mc_156 dX11_is_56 rfl).trans ?_
        refine (s_istore_n 61 mc_156 dX11_is_60 rfl rfl (Nat.le_of_ble_eq_true rfl) rfl).trans ?_
        refine (s_iinc 1 64 mc_156 dX11_is_61 rfl rfl (Nat.le_of_ble_eq_true rfl) (by decide) rfl).trans ?_
        refine (s_goto 24 mc_156 dX11_is_64 rfl).trans ?_
        rfl
/-- FiveLandsModel.kindWord()I -/
theorem k_157 {X : Ctx} {d : Nat} (x0 : Nat) (h : Hp) : K X (d + 1) 157 [.ref x0] h = gd (hS h x0 = (12, 0)) (bI (K X d 156 [.ref x0, .ref 17] h) fun r1 h1 => if r1 = 0 then gd (hS h1 x0 = (12, 0)) (bI (K X d 156 [.ref x0, .ref 18] h1) fun r2 h2 => if r2 = 0 then gd (hS h2 x0 = (12, 0)) (bI (K X d 156 [.ref x0, .ref 19] h2) fun r3 h3 => if r3 = 0 then gd (hS h3 x0 = (12, 0)) (bI (K X d 156 [.ref x0, .ref 20] h3) fun r4 h4 => if r4 = 0 then gd (hS h4 x0 = (12, 0)) (bI (K X d 156 [.ref x0, .ref 21] h4) fun r5 h5 => if r5 = 0 then gd (hS h5 x0 = (12, 0)) (bI (K X d 156 [.ref x0, .ref 22] h5) fun r6 h6 => if r6 = 0 then gd (hS h6 x0 = (12, 0)) (bI (K X d 156 [.ref x0, .ref 23] h6) fun r7 h7 => if r7 = 0 then gd (hS h7 x0 = (12, 0)) (bI (K X d 156 [.ref x0, .ref 24] h7) fun r8 h8 => if r8 = 0 then gd (hS h8 x0 = (12, 0)) (bI (K X d 156 [.ref x0, .ref 25] h8) fun r9 h9 => if r9 = 0 then gd (hS h9 x0 = (12, 0)) (bI (K X d 156 [.ref x0, .ref 26] h9) fun r10 h10 => if r10 = 0 then gd (hS h10 x0 = (12, 0)) (bI (K X d 156 [.ref x0, .ref 27] h10) fun r11 h11 => if r11 = 0 then gd (hS h11 x0 = (12, 0)) (bI (K X d 156 [.ref x0, .ref 28] h11) fun r12 h12 => if r12 = 0 then gd (hS h12 x0 = (12, 0)) (bI (K X d 156 [.ref x0, .ref 29] h12) fun r13 h13 => if r13 = 0 then gd (hS h13 x0 = (12, 0)) (bI (K X d 156 [.ref x0, .ref 30] h13) fun r14 h14 => if r14 = 0 then some (some (.int 1), h14) else some (some (.int 68), h14)) else some (some (.int 67), h13)) else some (some (.int 66), h12)) else some (some (.int 65), h11)) else some (some (.int 64), h10)) else some (some (.int 63), h9)) else some (some (.int 62), h8)) else some (some (.int 61), h7)) else some (some (.int 45), h6)) else some (some (.int 44), h5)) else some (some (.int 43), h4)) else some (some (.int 42), h3)) else some (some (.int 41), h2)) else some (some (.int 40), h1)) := by
  show sem (X, K X d) 157 0 [some (.ref x0)] [] h = _
  refine (s_aload_n 1 mc_157 dX11_kindWord_0 rfl rfl rfl).trans ?_
  refine (s_ldcS 3 mc_157 dX11_kindWord_1 rfl mo_157 cn_11_234 sr_11_234 rfl).trans ?_
  refine (s_iviI 6 mc_157 dX11_kindWord_3 rfl mo_157 mm_11_236 (by decide) ms_156 mi_156 mr_156 ma_156 mo_156 (by decide) (Nat.le_of_ble_eq_true rfl) rfl rfl (Nat.le_of_ble_eq_true rfl)).trans ?_
  refine gd_c ?_
  refine bI_c fun r1 h1 => ?_
  refine (s_if_eq 12 9 mc_157 dX11_kindWord_6 rfl rfl).trans ?_
  refine ite_c ?_ ?_
  · skip
    refine (s_aload_n 13 mc_157 dX11_kindWord_12 rfl rfl rfl).trans ?_
    refine (s_ldcS 15 mc_157 dX11_kindWord_13 rfl mo_157 cn_11_240 sr_11_240 rfl).trans ?_
    refine (s_iviI 18 mc_157 dX11_kindWord_15 rfl mo_157 mm_11_236 (by decide) ms_156 mi_156 mr_156 ma_156 mo_156 (by decide) (Nat.le_of_ble_eq_true rfl) rfl rfl (Nat.le_of_ble_eq_true rfl)).trans ?_
    refine gd_c ?_
    refine bI_c fun r2 h2 => ?_
    refine (s_if_eq 24 21 mc_157 dX11_kindWord_18 rfl rfl).trans ?_
    refine ite_c ?_ ?_
    · skip
      refine (s_aload_n 25 mc_157 dX11_kindWord_24 rfl rfl rfl).trans ?_
      refine (s_ldcS 27 mc_157 dX11_kindWord_25 rfl mo_157 cn_11_242 sr_11_242 rfl).trans ?_
      refine (s_iviI 30 mc_157 dX11_kindWord_27 rfl mo_157 mm_11_236 (by decide) ms_156 mi_156 mr_156 ma_156 mo_156 (by decide) (Nat.le_of_ble_eq_true rfl) rfl rfl (Nat.le_of_ble_eq_true rfl)).trans ?_
      refine gd_c ?_
      refine bI_c fun r3 h3 => ?_
      refine (s_if_eq 36 33 mc_157 dX11_kindWord_30 rfl rfl).trans ?_
      refine ite_c ?_ ?_
      · skip
        refine (s_aload_n 37 mc_157 dX11_kindWord_36 rfl rfl rfl).trans ?_
        refine (s_ldcS 39 mc_157 dX11_kindWord_37 rfl mo_157 cn_11_244 sr_11_244 rfl).trans ?_
        refine (s_iviI 42 mc_157 dX11_kindWord_39 rfl mo_157 mm_11_236 (by decide) ms_156 mi_156 mr_156 ma_156 mo_156 (by decide) (Nat.le_of_ble_eq_true rfl) rfl rfl (Nat.le_of_ble_eq_true rfl)).trans ?_
        refine gd_c ?_
        refine bI_c fun r4 h4 => ?_
        refine (s_if_eq 48 45 mc_157 dX11_kindWord_42 rfl rfl).trans ?_
        refine ite_c ?_ ?_
        · skip
          refine (s_aload_n 49 mc_157 dX11_kindWord_48 rfl rfl rfl).trans ?_
          refine (s_ldcS 51 mc_157 dX11_kindWord_49 rfl mo_157 cn_11_246 sr_11_246 rfl).trans ?_
          refine (s_iviI 54 mc_157 dX11_kindWord_51 rfl mo_157 mm_11_236 (by decide) ms_156 mi_156 mr_156 ma_156 mo_156 (by decide) (Nat.le_of_ble_eq_true rfl) rfl rfl (Nat.le_of_ble_eq_true rfl)).trans ?_
          refine gd_c ?_
          refine bI_c fun r5 h5 => ?_
          refine (s_if_eq 60 57 mc_157 dX11_kindWord_54 rfl rfl).trans ?_
          refine ite_c ?_ ?_
          · skip
            refine (s_aload_n 61 mc_157 dX11_kindWord_60 rfl rfl rfl).trans ?_
            refine (s_ldcS 63 mc_157 dX11_kindWord_61 rfl mo_157 cn_11_248 sr_11_248 rfl).trans ?_
            refine (s_iviI 66 mc_157 dX11_kindWord_63 rfl mo_157 mm_11_236 (by decide) ms_156 mi_156 mr_156 ma_156 mo_156 (by decide) (Nat.le_of_ble_eq_true rfl) rfl rfl (Nat.le_of_ble_eq_true rfl)).trans ?_
            refine gd_c ?_
            refine bI_c fun r6 h6 => ?_
            refine (s_if_eq 72 69 mc_157 dX11_kindWord_66 rfl rfl).trans ?_
            refine ite_c ?_ ?_
            · skip
              refine (s_aload_n 73 mc_157 dX11_kindWord_72 rfl rfl rfl).trans ?_
              refine (s_ldcS 75 mc_157 dX11_kindWord_73 rfl mo_157 cn_11_250 sr_11_250 rfl).trans ?_
              refine (s_iviI 78 mc_157 dX11_kindWord_75 rfl mo_157 mm_11_236 (by decide) ms_156 mi_156 mr_156 ma_156 mo_156 (by decide) (Nat.le_of_ble_eq_true rfl) rfl rfl (Nat.le_of_ble_eq_true rfl)).trans ?_
              refine gd_c ?_
              refine bI_c fun r7 h7 => ?_
              refine (s_if_eq 84 81 mc_157 dX11_kindWord_78 rfl rfl).trans ?_
              refine ite_c ?_ ?_
              · skip
                refine (s_aload_n 85 mc_157 dX11_kindWord_84 rfl rfl rfl).trans ?_
                refine (s_ldcS 87 mc_157 dX11_kindWord_85 rfl mo_157 cn_11_251 sr_11_251 rfl).trans ?_
                refine (s_iviI 90 mc_157 dX11_kindWord_87 rfl mo_157 mm_11_236 (by decide) ms_156 mi_156 mr_156 ma_156 mo_156 (by decide) (Nat.le_of_ble_eq_true rfl) rfl rfl (Nat.le_of_ble_eq_true rfl)).trans ?_
                refine gd_c ?_
                refine bI_c fun r8 h8 => ?_
                refine (s_if_eq 96 93 mc_157 dX11_kindWord_90 rfl rfl).trans ?_
                refine ite_c ?_ ?_
                · skip
                  refine (s_aload_n 97 mc_157 dX11_kindWord_96 rfl rfl rfl).trans ?_
                  refine (s_ldcS 99 mc_157 dX11_kindWord_97 rfl mo_157 cn_11_253 sr_11_253 rfl).trans ?_
                  refine (s_iviI 102 mc_157 dX11_kindWord_99 rfl mo_157 mm_11_236 (by decide) ms_156 mi_156 mr_156 ma_156 mo_156 (by decide) (Nat.le_of_ble_eq_true rfl) rfl rfl (Nat.le_of_ble_eq_true rfl)).trans ?_
                  refine gd_c ?_
                  refine bI_c fun r9 h9 => ?_
                  refine (s_if_eq 108 105 mc_157 dX11_kindWord_102 rfl rfl).trans ?_
                  refine ite_c ?_ ?_
                  · skip
                    refine (s_aload_n 109 mc_157 dX11_kindWord_108 rfl rfl rfl).trans ?_
                    refine (s_ldcS 111 mc_157 dX11_kindWord_109 rfl mo_157 cn_11_255 sr_11_255 rfl).trans ?_
                    refine (s_iviI 114 mc_157 dX11_kindWord_111 rfl mo_157 mm_11_236 (by decide) ms_156 mi_156 mr_156 ma_156 mo_156 (by decide) (Nat.le_of_ble_eq_true rfl) rfl rfl (Nat.le_of_ble_eq_true rfl)).trans ?_
                    refine gd_c ?_
                    refine bI_c fun r10 h10 => ?_
                    refine (s_if_eq 120 117 mc_157 dX11_kindWord_114 rfl rfl).trans ?_
                    refine ite_c ?_ ?_
                    · skip
                      refine (s_aload_n 121 mc_157 dX11_kindWord_120 rfl rfl rfl).trans ?_
                      refine (s_ldcSw 124 mc_157 dX11_kindWord_121 rfl mo_157 cn_11_257 sr_11_257 rfl).trans ?_
                      refine (s_iviI 127 mc_157 dX11_kindWord_124 rfl mo_157 mm_11_236 (by decide) ms_156 mi_156 mr_156 ma_156 mo_156 (by decide) (Nat.le_of_ble_eq_true rfl) rfl rfl (Nat.le_of_ble_eq_true rfl)).trans ?_
                      refine gd_c ?_
                      refine bI_c fun r11 h11 => ?_
                      refine (s_if_eq 133 130 mc_157 dX11_kindWord_127 rfl rfl).trans ?_
                      refine ite_c ?_ ?_
                      · skip
                        refine (s_aload_n 134 mc_157 dX11_kindWord_133 rfl rfl rfl).trans ?_
                        refine (s_ldcSw 137 mc_157 dX11_kindWord_134 rfl mo_157 cn_11_259 sr_11_259 rfl).trans ?_
                        refine (s_iviI 140 mc_157 dX11_kindWord_137 rfl mo_157 mm_11_236 (by decide) ms_156 mi_156 mr_156 ma_156 mo_156 (by decide) (Nat.le_of_ble_eq_true rfl) rfl rfl (Nat.le_of_ble_eq_true rfl)).trans ?_
                        refine gd_c ?_
                        refine bI_c fun r12 h12 => ?_
                        refine (s_if_eq 146 143 mc_157 dX11_kindWord_140 rfl rfl).trans ?_
                        refine ite_c ?_ ?_
                        · skip
                          refine (s_aload_n 147 mc_157 dX11_kindWord_146 rfl rfl rfl).trans ?_
                          refine (s_ldcSw 150 mc_157 dX11_kindWord_147 rfl mo_157 cn_11_261 sr_11_261 rfl).trans ?_
                          refine (s_iviI 153 mc_157 dX11_kindWord_150 rfl mo_157 mm_11_236 (by decide) ms_156 mi_156 mr_156 ma_156 mo_156 (by decide) (Nat.le_of_ble_eq_true rfl) rfl rfl (Nat.le_of_ble_eq_true rfl)).trans ?_
                          refine gd_c ?_
                          refine bI_c fun r13 h13 => ?_
                          refine (s_if_eq 159 156 mc_157 dX11_kindWord_153 rfl rfl).trans ?_
                          refine ite_c ?_ ?_
                          · skip
                            refine (s_aload_n 160 mc_157 dX11_kindWord_159 rfl rfl rfl).trans ?_
                            refine (s_ldcSw 163 mc_157 dX11_kindWord_160 rfl mo_157 cn_11_263 sr_11_263 rfl).trans ?_
                            refine (s_iviI 166 mc_157 dX11_kindWord_163 rfl mo_157 mm_11_236 (by decide) ms_156 mi_156 mr_156 ma_156 mo_156 (by decide) (Nat.le_of_ble_eq_true rfl) rfl rfl (Nat.le_of_ble_eq_true rfl)).trans ?_
                            refine gd_c ?_
                            refine bI_c fun r14 h14 => ?_
                            refine (s_if_eq 174 169 mc_157 dX11_kindWord_166 rfl rfl).trans ?_
                            refine ite_c ?_ ?_
                            · skip
                              refine (s_iconst 175 1 mc_157 dX11_kindWord_174 rfl (by decide)).trans ?_
                              exact s_iret mc_157 dX11_kindWord_175 mt_157
                            · skip
                              refine (s_bipush 171 68 mc_157 dX11_kindWord_169 rfl (by decide)).trans ?_
                              refine (s_goto 175 mc_157 dX11_kindWord_171 rfl).trans ?_
                              exact s_iret mc_157 dX11_kindWord_175 mt_157
                          · skip
                            refine (s_bipush 158 67 mc_157 dX11_kindWord_156 rfl (by decide)).trans ?_
                            exact s_iret mc_157 dX11_kindWord_158 mt_157
                        · skip
                          refine (s_bipush 145 66 mc_157 dX11_kindWord_143 rfl (by decide)).trans ?_
                          exact s_iret mc_157 dX11_kindWord_145 mt_157
                      · skip
                        refine (s_bipush 132 65 mc_157 dX11_kindWord_130 rfl (by decide)).trans ?_
                        exact s_iret mc_157 dX11_kindWord_132 mt_157
                    · skip
                      refine (s_bipush 119 64 mc_157 dX11_kindWord_117 rfl (by decide)).trans ?_
                      exact s_iret mc_157 dX11_kindWord_119 mt_157
                  · skip
                    refine (s_bipush 107 63 mc_157 dX11_kindWord_105 rfl (by decide)).trans ?_
                    exact s_iret mc_157 dX11_kindWord_107 mt_157
                · skip
                  refine (s_bipush 95 62 mc_157 dX11_kindWord_93 rfl (by decide)).trans ?_
                  exact s_iret mc_157 dX11_kindWord_95 mt_157
              · skip
                refine (s_bipush 83 61 mc_157 dX11_kindWord_81 rfl (by decide)).trans ?_
                exact s_iret mc_157 dX11_kindWord_83 mt_157
            · skip
              refine (s_bipush 71 45 mc_157 dX11_kindWord_69 rfl (by decide)).trans ?_
              exact s_iret mc_157 dX11_kindWord_71 mt_157
          · skip
            refine (s_bipush 59 44 mc_157 dX11_kindWord_57 rfl (by decide)).trans ?_
            exact s_iret mc_157 dX11_kindWord_59 mt_157
        · skip
          refine (s_bipush 47 43 mc_157 dX11_kindWord_45 rfl (by decide)).trans ?_
          exact s_iret mc_157 dX11_kindWord_47 mt_157
      · skip
        refine (s_bipush 35 42 mc_157 dX11_kindWord_33 rfl (by decide)).trans ?_
        exact s_iret mc_157 dX11_kindWord_35 mt_157
    · skip
      refine (s_bipush 23 41 mc_157 dX11_kindWord_21 rfl (by decide)).trans ?_
      exact s_iret mc_157 dX11_kindWord_23 mt_157
  · skip
    refine (s_bipush 11 40 mc_157 dX11_kindWord_9 rfl (by decide)).trans ?_
    exact s_iret mc_157 dX11_kindWord_11 mt_157
/-- FiveLandsModel.word()I -/
theorem k_158 {X : Ctx} {d : Nat} (x0 : Nat) (h : Hp) : K X (d + 1) 158 [.ref x0] h = gd (hS h x0 = (12, 0)) (bI (K X d 156 [.ref x0, .ref 2] h) fun r1 h1 => if r1 = 0 then gd (hS h1 x0 = (12, 0)) (bI (K X d 156 [.ref x0, .ref 3] h1) fun r2 h2 => if r2 = 0 then gd (hS h2 x0 = (12, 0)) (bI (K X d 156 [.ref x0, .ref 4] h2) fun r3 h3 => if r3 = 0 then gd (hS h3 x0 = (12, 0)) (bI (K X d 156 [.ref x0, .ref 5] h3) fun r4 h4 => if r4 = 0 then gd (hS h4 x0 = (12, 0)) (bI (K X d 156 [.ref x0, .ref 6] h4) fun r5 h5 => if r5 = 0 then gd (hS h5 x0 = (12, 0)) (bI (K X d 156 [.ref x0, .ref 7] h5) fun r6 h6 => if r6 = 0 then gd (hS h6 x0 = (12, 0)) (bI (K X d 156 [.ref x0, .ref 8] h6) fun r7 h7 => if r7 = 0 then gd (hS h7 x0 = (12, 0)) (bI (K X d 156 [.ref x0, .ref 9] h7) fun r8 h8 => if r8 = 0 then gd (hS h8 x0 = (12, 0)) (bI (K X d 156 [.ref x0, .ref 10] h8) fun r9 h9 => if r9 = 0 then gd (hS h9 x0 = (12, 0)) (bI (K X d 156 [.ref x0, .ref 11] h9) fun r10 h10 => if r10 = 0 then gd (hS h10 x0 = (12, 0)) (bI (K X d 156 [.ref x0, .ref 12] h10) fun r11 h11 => if r11 = 0 then gd (hS h11 x0 = (12, 0)) (bI (K X d 156 [.ref x0, .ref 13] h11) fun r12 h12 => if r12 = 0 then gd (hS h12 x0 = (12, 0)) (bI (K X d 156 [.ref x0, .ref 14] h12) fun r13 h13 => if r13 = 0 then gd (hS h13 x0 = (12, 0)) (bI (K X d 156 [.ref x0, .ref 15] h13) fun r14 h14 => if r14 = 0 then gd (hS h14 x0 = (12, 0)) (bI (K X d 156 [.ref x0, .ref 16] h14) fun r15 h15 => if r15 = 0 then gd (hS h15 x0 = (12, 0)) (bI (K X d 157 [.ref x0] h15) fun r16 h16 => some (some (.int r16), h16)) else some (some (.int 8), h15)) else some (some (.int 7), h14)) else some (some (.int 6), h13)) else some (some (.int 5), h12)) else some (some (.int 4), h11)) else some (some (.int 3), h10)) else some (some (.int 28), h9)) else some (some (.int 27), h8)) else some (some (.int 26), h7)) else some (some (.int 25), h6)) else some (some (.int 24), h5)) else some (some (.int 23), h4)) else some (some (.int 22), h3)) else some (some (.int 21), h2)) else some (some (.int 20), h1)) := by
  show sem (X, K X d) 158 0 [some (.ref x0)] [] h = _
  refine (s_aload_n 1 mc_158 dX11_word_0 rfl rfl rfl).trans ?_
  refine (s_ldcSw 4 mc_158 dX11_word_1 rfl mo_158 cn_11_264 sr_11_264 rfl).trans ?_
  refine (s_iviI 7 mc_158 dX11_word_4 rfl mo_158 mm_11_236 (by decide) ms_156 mi_156 mr_156 ma_156 mo_156 (by decide) (Nat.le_of_ble_eq_true rfl) rfl rfl (Nat.le_of_ble_eq_true rfl)).trans ?_
  refine gd_c ?_
  refine bI_c fun r1 h1 => ?_
  refine (s_if_eq 13 10 mc_158 dX11_word_7 rfl rfl).trans ?_
  refine ite_c ?_ ?_
  · skip
    refine (s_aload_n 14 mc_158 dX11_word_13 rfl rfl rfl).trans ?_
    refine (s_ldcSw 17 mc_158 dX11_word_14 rfl mo_158 cn_11_266 sr_11_266 rfl).trans ?_
    refine (s_iviI 20 mc_158 dX11_word_17 rfl mo_158 mm_11_236 (by decide) ms_156 mi_156 mr_156 ma_156 mo_156 (by decide) (Nat.le_of_ble_eq_true rfl) rfl rfl (Nat.le_of_ble_eq_true rfl)).trans ?_
    refine gd_c ?_
    refine bI_c fun r2 h2 => ?_
    refine (s_if_eq 26 23 mc_158 dX11_word_20 rfl rfl).trans ?_
    refine ite_c ?_ ?_
    · skip
      refine (s_aload_n 27 mc_158 dX11_word_26 rfl rfl rfl).trans ?_
      refine (s_ldcSw 30 mc_158 dX11_word_27 rfl mo_158 cn_11_268 sr_11_268 rfl).trans ?_
      refine (s_iviI 33 mc_158 dX11_word_30 rfl mo_158 mm_11_236 (by decide) ms_156 mi_156 mr_156 ma_156 mo_156 (by decide) (Nat.le_of_ble_eq_true rfl) rfl rfl (Nat.le_of_ble_eq_true rfl)).trans ?_
      refine gd_c ?_
      refine bI_c fun r3 h3 => ?_
      refine (s_if_eq 39 36 mc_158 dX11_word_33 rfl rfl).trans ?_
      refine ite_c ?_ ?_
      · skip
        refine (s_aload_n 40 mc_158 dX11_word_39 rfl rfl rfl).trans ?_
        refine (s_ldcSw 43 mc_158 dX11_word_40 rfl mo_158 cn_11_270 sr_11_270 rfl).trans ?_
        refine (s_iviI 46 mc_158 dX11_word_43 rfl mo_158 mm_11_236 (by decide) ms_156 mi_156 mr_156 ma_156 mo_156 (by decide) (Nat.le_of_ble_eq_true rfl) rfl rfl (Nat.le_of_ble_eq_true rfl)).trans ?_
        refine gd_c ?_
        refine bI_c fun r4 h4 => ?_
        refine (s_if_eq 52 49 mc_158 dX11_word_46 rfl rfl).trans ?_
        refine ite_c ?_ ?_
        · skip
          refine (s_aload_n 53 mc_158 dX11_word_52 rfl rfl rfl).trans ?_
          refine (s_ldcSw 56 mc_158 dX11_word_53 rfl mo_158 cn_11_271 sr_11_271 rfl).trans ?_
          refine (s_iviI 59 mc_158 dX11_word_56 rfl mo_158 mm_11_236 (by decide) ms_156 mi_156 mr_156 ma_156 mo_156 (by decide) (Nat.le_of_ble_eq_true rfl) rfl rfl (Nat.le_of_ble_eq_true rfl)).trans ?_
          refine gd_c ?_
          refine bI_c fun r5 h5 => ?_
          refine (s_if_eq 65 62 mc_158 dX11_word_59 rfl rfl).trans ?_
          refine ite_c ?_ ?_
          · skip
            refine (s_aload_n 66 mc_158 dX11_word_65 rfl rfl rfl).trans ?_
            refine (s_ldcSw 69 mc_158 dX11_word_66 rfl mo_158 cn_11_272 sr_11_272 rfl).trans ?_
            refine (s_iviI 72 mc_158 dX11_word_69 rfl mo_158 mm_11_236 (by decide) ms_156 mi_156 mr_156 ma_156 mo_156 (by decide) (Nat.le_of_ble_eq_true rfl) rfl rfl (Nat.le_of_ble_eq_true rfl)).trans ?_
            refine gd_c ?_
            refine bI_c fun r6 h6 => ?_
            refine (s_if_eq 78 75 mc_158 dX11_word_72 rfl rfl).trans ?_
            refine ite_c ?_ ?_
            · skip
              refine (s_aload_n 79 mc_158 dX11_word_78 rfl rfl rfl).trans ?_
              refine (s_ldcSw 82 mc_158 dX11_word_79 rfl mo_158 cn_11_274 sr_11_274 rfl).trans ?_
              refine (s_iviI 85 mc_158 dX11_word_82 rfl mo_158 mm_11_236 (by decide) ms_156 mi_156 mr_156 ma_156 mo_156 (by decide) (Nat.le_of_ble_eq_true rfl) rfl rfl (Nat.le_of_ble_eq_true rfl)).trans ?_
              refine gd_c ?_
              refine bI_c fun r7 h7 => ?_
              refine (s_if_eq 91 88 mc_158 dX11_word_85 rfl rfl).trans ?_
              refine ite_c ?_ ?_
              · skip
                refine (s_aload_n 92 mc_158 dX11_word_91 rfl rfl rfl).trans ?_
                refine (s_ldcSw 95 mc_158 dX11_word_92 rfl mo_158 cn_11_275 sr_11_275 rfl).trans ?_
                refine (s_iviI 98 mc_158 dX11_word_95 rfl mo_158 mm_11_236 (by decide) ms_156 mi_156 mr_156 ma_156 mo_156 (by decide) (Nat.le_of_ble_eq_true rfl) rfl rfl (Nat.le_of_ble_eq_true rfl)).trans ?_
                refine gd_c ?_
                refine bI_c fun r8 h8 => ?_
                refine (s_if_eq 104 101 mc_158 dX11_word_98 rfl rfl).trans ?_
                refine ite_c ?_ ?_
                · skip
                  refine (s_aload_n 105 mc_158 dX11_word_104 rfl rfl rfl).trans ?_
                  refine (s_ldcSw 108 mc_158 dX11_word_105 rfl mo_158 cn_11_276 sr_11_276 rfl).trans ?_
                  refine (s_iviI 111 mc_158 dX11_word_108 rfl mo_158 mm_11_236 (by decide) ms_156 mi_156 mr_156 ma_156 mo_156 (by decide) (Nat.le_of_ble_eq_true rfl) rfl rfl (Nat.le_of_ble_eq_true rfl)).trans ?_
                  refine gd_c ?_
                  refine bI_c fun r9 h9 => ?_
                  refine (s_if_eq 117 114 mc_158 dX11_word_111 rfl rfl).trans ?_
                  refine ite_c ?_ ?_
                  · skip
                    refine (s_aload_n 118 mc_158 dX11_word_117 rfl rfl rfl).trans ?_
                    refine (s_ldcSw 121 mc_158 dX11_word_118 rfl mo_158 cn_11_277 sr_11_277 rfl).trans ?_
                    refine (s_iviI 124 mc_158 dX11_word_121 rfl mo_158 mm_11_236 (by decide) ms_156 mi_156 mr_156 ma_156 mo_156 (by decide) (Nat.le_of_ble_eq_true rfl) rfl rfl (Nat.le_of_ble_eq_true rfl)).trans ?_
                    refine gd_c ?_
                    refine bI_c fun r10 h10 => ?_
                    refine (s_if_eq 129 127 mc_158 dX11_word_124 rfl rfl).trans ?_
                    refine ite_c ?_ ?_
                    · skip
                      refine (s_aload_n 130 mc_158 dX11_word_129 rfl rfl rfl).trans ?_
                      refine (s_ldcSw 133 mc_158 dX11_word_130 rfl mo_158 cn_11_279 sr_11_279 rfl).trans ?_
                      refine (s_iviI 136 mc_158 dX11_word_133 rfl mo_158 mm_11_236 (by decide) ms_156 mi_156 mr_156 ma_156 mo_156 (by decide) (Nat.le_of_ble_eq_true rfl) rfl rfl (Nat.le_of_ble_eq_true rfl)).trans ?_
                      refine gd_c ?_
                      refine bI_c fun r11 h11 => ?_
                      refine (s_if_eq 141 139 mc_158 dX11_word_136 rfl rfl).trans ?_
                      refine ite_c ?_ ?_
                      · skip
                        refine (s_aload_n 142 mc_158 dX11_word_141 rfl rfl rfl).trans ?_
                        refine (s_ldcSw 145 mc_158 dX11_word_142 rfl mo_158 cn_11_281 sr_11_281 rfl).trans ?_
                        refine (s_iviI 148 mc_158 dX11_word_145 rfl mo_158 mm_11_236 (by decide) ms_156 mi_156 mr_156 ma_156 mo_156 (by decide) (Nat.le_of_ble_eq_true rfl) rfl rfl (Nat.le_of_ble_eq_true rfl)).trans ?_
                        refine gd_c ?_
                        refine bI_c fun r12 h12 => ?_
                        refine (s_if_eq 153 151 mc_158 dX11_word_148 rfl rfl).trans ?_
                        refine ite_c ?_ ?_
                        · skip
                          refine (s_aload_n 154 mc_158 dX11_word_153 rfl rfl rfl).trans ?_
                          refine (s_ldcSw 157 mc_158 dX11_word_154 rfl mo_158 cn_11_283 sr_11_283 rfl).trans ?_
                          refine (s_iviI 160 mc_158 dX11_word_157 rfl mo_158 mm_11_236 (by decide) ms_156 mi_156 mr_156 ma_156 mo_156 (by decide) (Nat.le_of_ble_eq_true rfl) rfl rfl (Nat.le_of_ble_eq_true rfl)).trans ?_
                          refine gd_c ?_
                          refine bI_c fun r13 h13 => ?_
                          refine (s_if_eq 166 163 mc_158 dX11_word_160 rfl rfl).trans ?_
                          refine ite_c ?_ ?_
                          · skip
                            refine (s_aload_n 167 mc_158 dX11_word_166 rfl rfl rfl).trans ?_
                            refine (s_ldcSw 170 mc_158 dX11_word_167 rfl mo_158 cn_11_285 sr_11_285 rfl).trans ?_
                            refine (s_iviI 173 mc_158 dX11_word_170 rfl mo_158 mm_11_236 (by decide) ms_156 mi_156 mr_156 ma_156 mo_156 (by decide) (Nat.le_of_ble_eq_true rfl) rfl rfl (Nat.le_of_ble_eq_true rfl)).trans ?_
                            refine gd_c ?_
                            refine bI_c fun r14 h14 => ?_
                            refine (s_if_eq 179 176 mc_158 dX11_word_173 rfl rfl).trans ?_
                            refine ite_c ?_ ?_
                            · skip
                              refine (s_aload_n 180 mc_158 dX11_word_179 rfl rfl rfl).trans ?_
                              refine (s_ldcSw 183 mc_158 dX11_word_180 rfl mo_158 cn_11_287 sr_11_287 rfl).trans ?_
                              refine (s_iviI 186 mc_158 dX11_word_183 rfl mo_158 mm_11_236 (by decide) ms_156 mi_156 mr_156 ma_156 mo_156 (by decide) (Nat.le_of_ble_eq_true rfl) rfl rfl (Nat.le_of_ble_eq_true rfl)).trans ?_
                              refine gd_c ?_
                              refine bI_c fun r15 h15 => ?_
                              refine (s_if_eq 194 189 mc_158 dX11_word_186 rfl rfl).trans ?_
                              refine ite_c ?_ ?_
                              · skip
                                refine (s_aload_n 195 mc_158 dX11_word_194 rfl rfl rfl).trans ?_
                                refine (s_iviI 198 mc_158 dX11_word_195 rfl mo_158 mm_11_289 (by decide) ms_157 mi_157 mr_157 ma_157 mo_157 (by decide) (Nat.le_of_ble_eq_true rfl) rfl rfl (Nat.le_of_ble_eq_true rfl)).trans ?_
                                refine gd_c ?_
                                refine bI_c fun r16 h16 => ?_
                                exact s_iret mc_158 dX11_word_198 mt_158
                              · skip
                                refine (s_bipush 191 8 mc_158 dX11_word_189 rfl (by decide)).trans ?_
                                refine (s_goto 198 mc_158 dX11_word_191 rfl).trans ?_
                                exact s_iret mc_158 dX11_word_198 mt_158
                            · skip
                              refine (s_bipush 178 7 mc_158 dX11_word_176 rfl (by decide)).trans ?_
                              exact s_iret mc_158 dX11_word_178 mt_158
                          · skip
                            refine (s_bipush 165 6 mc_158 dX11_word_163 rfl (by decide)).trans ?_
                            exact s_iret mc_158 dX11_word_165 mt_158
                        · skip
                          refine (s_iconst 152 5 mc_158 dX11_word_151 rfl (by decide)).trans ?_
                          exact s_iret mc_158 dX11_word_152 mt_158
                      · skip
                        refine (s_iconst 140 4 mc_158 dX11_word_139 rfl (by decide)).trans ?_
                        exact s_iret mc_158 dX11_word_140 mt_158
                    · skip
                      refine (s_iconst 128 3 mc_158 dX11_word_127 rfl (by decide)).trans ?_
                      exact s_iret mc_158 dX11_word_128 mt_158
                  · skip
                    refine (s_bipush 116 28 mc_158 dX11_word_114 rfl (by decide)).trans ?_
                    exact s_iret mc_158 dX11_word_116 mt_158
                · skip
                  refine (s_bipush 103 27 mc_158 dX11_word_101 rfl (by decide)).trans ?_
                  exact s_iret mc_158 dX11_word_103 mt_158
              · skip
                refine (s_bipush 90 26 mc_158 dX11_word_88 rfl (by decide)).trans ?_
                exact s_iret mc_158 dX11_word_90 mt_158
            · skip
              refine (s_bipush 77 25 mc_158 dX11_word_75 rfl (by decide)).trans ?_
              exact s_iret mc_158 dX11_word_77 mt_158
          · skip
            refine (s_bipush 64 24 mc_158 dX11_word_62 rfl (by decide)).trans ?_
            exact s_iret mc_158 dX11_word_64 mt_158
        · skip
          refine (s_bipush 51 23 mc_158 dX11_word_49 rfl (by decide)).trans ?_
          exact s_iret mc_158 dX11_word_51 mt_158
      · skip
        refine (s_bipush 38 22 mc_158 dX11_word_36 rfl (by decide)).trans ?_
        exact s_iret mc_158 dX11_word_38 mt_158
    · skip
      refine (s_bipush 25 21 mc_158 dX11_word_23 rfl (by decide)).trans ?_
      exact s_iret mc_158 dX11_word_25 mt_158
  · skip
    refine (s_bipush 12 20 mc_158 dX11_word_10 rfl (by decide)).trans ?_
    exact s_iret mc_158 dX11_word_12 mt_158
/-- FiveLandsModel.next0()V -/
theorem k_159 {X : Ctx} {d : Nat} (x0 : Nat) (h : Hp) : K X (d + 1) 159 [.ref x0] h = sem (X, K X d) 159 0 [some (.ref x0), none, none] [] h := rfl
theorem b_159_0 {X : Ctx} {d : Nat} (x0 : Nat) (v1 : Option Value) (v2 : Option Value)  (h : Hp) : sem (X, K X d) 159 0 [some (.ref x0), v1, v2] [] h = gI h 11 x0 36 fun g1 => gd (hS h x0 = (12, 0)) (bI (K X d 153 [.ref x0, .int g1] h) fun r2 h1 => if r2 = 32 then gI h1 11 x0 36 fun g3 => fI h1 11 x0 36 (g3 + 1) fun h2 => sem (X, K X d) 159 0 [some (.ref x0), v1, v2] [] h2 else gI h1 11 x0 36 fun g4 => gd (hS h1 x0 = (12, 0)) (bI (K X d 153 [.ref x0, .int g4] h1) fun r5 h3 => if ¬ r5 = 10 then gI h3 11 x0 36 fun g6 => fI h3 11 x0 38 g6 fun h4 => gI h4 11 x0 36 fun g7 => gd (hS h4 x0 = (12, 0)) (bI (K X d 153 [.ref x0, .int g7] h4) fun r8 h5 => if ¬ r8 = (-1) then bI (K X d 154 [.int r8] h5) fun r9 h6 => if r9 = 0 then bI (K X d 155 [.int r8] h6) fun r10 h7 => if r10 = 0 then gI h7 11 x0 36 fun g11 => fI h7 11 x0 36 (g11 + 1) fun h8 => if r8 = 59 then sem (X, K X d) 159 291 [some (.ref x0), some (.int r8), v2] [.int 1] h8 else if r8 = 43 then sem (X, K X d) 159 291 [some (.ref x0), some (.int r8), v2] [.int 1] h8 else if r8 = 45 then sem (X, K X d) 159 291 [some (.ref x0), some (.int r8), v2] [.int 1] h8 else if r8 = 42 then sem (X, K X d) 159 291 [some (.ref x0), some (.int r8), v2] [.int 1] h8 else if r8 = 47 then sem (X, K X d) 159 291 [some (.ref x0), some (.int r8), v2] [.int 1] h8 else if r8 = 40 then sem (X, K X d) 159 291 [some (.ref x0), some (.int r8), v2] [.int 1] h8 else if r8 = 41 then sem (X, K X d) 159 291 [some (.ref x0), some (.int r8), v2] [.int 1] h8 else if r8 = 60 then sem (X, K X d) 159 291 [some (.ref x0), some (.int r8), v2] [.int 1] h8 else if r8 = 61 then sem (X, K X d) 159 291 [some (.ref x0), some (.int r8), v2] [.int 1] h8 else if ¬ r8 = 62 then sem (X, K X d) 159 291 [some (.ref x0), some (.int r8), v2] [.int 0] h8 else sem (X, K X d) 159 291 [some (.ref x0), some (.int r8), v2] [.int 1] h8 else fI h7 11 x0 39 0 fun h9 => sem (X, K X d) 159 126 [some (.ref x0), some (.int r8), v2] [] h9 else sem (X, K X d) 159 76 [some (.ref x0), some (.int r8), v2] [] h6 else fI h5 11 x0 37 0 fun h10 => some (none, h10)) else gI h3 11 x0 36 fun g12 => fI h3 11 x0 36 (g12 + 1) fun h11 => sem (X, K X d) 159 0 [some (.ref x0), v1, v2] [] h11)) := by
  refine (s_aload_n 1 mc_159 dX11_next0_0 rfl rfl rfl).trans ?_
  refine (s_aload_n 2 mc_159 dX11_next0_1 rfl rfl rfl).trans ?_
  refine (s_getfI 5 mc_159 dX11_next0_2 rfl mo_159 fs_11_218 ff_11_218 (Or.inl rfl)).trans ?_
  refine gI_c fun g1 => ?_
  refine (s_iviI 8 mc_159 dX11_next0_5 rfl mo_159 mm_11_292 (by decide) ms_153 mi_153 mr_153 ma_153 mo_153 (by decide) (Nat.le_of_ble_eq_true rfl) rfl rfl (Nat.le_of_ble_eq_true rfl)).trans ?_
  refine gd_c ?_
  refine bI_c fun r2 h1 => ?_
  refine (s_bipush 10 32 mc_159 dX11_next0_8 rfl (by decide)).trans ?_
  refine (s_icmp_eq 26 13 mc_159 dX11_next0_10 rfl rfl).trans ?_
  refine ite_c ?_ ?_
  · skip
    refine (s_aload_n 27 mc_159 dX11_next0_26 rfl rfl rfl).trans ?_
    refine (s_dup 28 mc_159 dX11_next0_27 rfl rfl).trans ?_
    refine (s_getfI 31 mc_159 dX11_next0_28 rfl mo_159 fs_11_218 ff_11_218 (Or.inl rfl)).trans ?_
    refine gI_c fun g3 => ?_
    refine (s_iconst 32 1 mc_159 dX11_next0_31 rfl (by decide)).trans ?_
    refine (s_iadd 33 mc_159 dX11_next0_32 rfl).trans ?_
    refine (s_putfI 36 mc_159 dX11_next0_33 rfl mo_159 ff_11_218 rfl (Or.inl rfl)).trans ?_
    refine fI_c fun h2 => ?_
    refine (s_goto 0 mc_159 dX11_next0_36 rfl).trans ?_
    rfl
  · skip
    refine (s_aload_n 14 mc_159 dX11_next0_13 rfl rfl rfl).trans ?_
    refine (s_aload_n 15 mc_159 dX11_next0_14 rfl rfl rfl).trans ?_
    refine (s_getfI 18 mc_159 dX11_next0_15 rfl mo_159 fs_11_218 ff_11_218 (Or.inl rfl)).trans ?_
    refine gI_c fun g4 => ?_
    refine (s_iviI 21 mc_159 dX11_next0_18 rfl mo_159 mm_11_292 (by decide) ms_153 mi_153 mr_153 ma_153 mo_153 (by decide) (Nat.le_of_ble_eq_true rfl) rfl rfl (Nat.le_of_ble_eq_true rfl)).trans ?_
    refine gd_c ?_
    refine bI_c fun r5 h3 => ?_
    refine (s_bipush 23 10 mc_159 dX11_next0_21 rfl (by decide)).trans ?_
    refine (s_icmp_ne 39 26 mc_159 dX11_next0_23 rfl rfl).trans ?_
    refine ite_c ?_ ?_
    · skip
      refine (s_aload_n 40 mc_159 dX11_next0_39 rfl rfl rfl).trans ?_
      refine (s_aload_n 41 mc_159 dX11_next0_40 rfl rfl rfl).trans ?_
      refine (s_getfI 44 mc_159 dX11_next0_41 rfl mo_159 fs_11_218 ff_11_218 (Or.inl rfl)).trans ?_
      refine gI_c fun g6 => ?_
      refine (s_putfI 47 mc_159 dX11_next0_44 rfl mo_159 ff_11_221 rfl (Or.inl rfl)).trans ?_
      refine fI_c fun h4 => ?_
      refine (s_aload_n 48 mc_159 dX11_next0_47 rfl rfl rfl).trans ?_
      refine (s_aload_n 49 mc_159 dX11_next0_48 rfl rfl rfl).trans ?_
      refine (s_getfI 52 mc_159 dX11_next0_49 rfl mo_159 fs_11_218 ff_11_218 (Or.inl rfl)).trans ?_
      refine gI_c fun g7 => ?_
      refine (s_iviI 55 mc_159 dX11_next0_52 rfl mo_159 mm_11_292 (by decide) ms_153 mi_153 mr_153 ma_153 mo_153 (by decide) (Nat.le_of_ble_eq_true rfl) rfl rfl (Nat.le_of_ble_eq_true rfl)).trans ?_
      refine gd_c ?_
      refine bI_c fun r8 h5 => ?_
      refine (s_istore_n 56 mc_159 dX11_next0_55 rfl rfl (Nat.le_of_ble_eq_true rfl) rfl).trans ?_
      refine (s_iload_n 57 mc_159 dX11_next0_56 rfl rfl rfl).trans ?_
      refine (s_iconst 58 (-1) mc_159 dX11_next0_57 rfl (by decide)).trans ?_
      refine (s_icmp_ne 69 61 mc_159 dX11_next0_58 rfl rfl).trans ?_
      refine ite_c ?_ ?_
      · skip
        refine (s_iload_n 70 mc_159 dX11_next0_69 rfl rfl rfl).trans ?_
        refine (s_istI 73 mc_159 dX11_next0_70 rfl mo_159 mm_11_299 (by decide) ms_154 mr_154 ma_154 (Nat.le_of_ble_eq_true rfl) rfl rfl (Nat.le_of_ble_eq_true rfl)).trans ?_
        refine bI_c fun r9 h6 => ?_
        refine (s_if_eq 114 76 mc_159 dX11_next0_73 rfl rfl).trans ?_
        refine ite_c ?_ ?_
        · skip
          refine (s_iload_n 115 mc_159 dX11_next0_114 rfl rfl rfl).trans ?_
          refine (s_istI 118 mc_159 dX11_next0_115 rfl mo_159 mm_11_305 (by decide) ms_155 mr_155 ma_155 (Nat.le_of_ble_eq_true rfl) rfl rfl (Nat.le_of_ble_eq_true rfl)).trans ?_
          refine bI_c fun r10 h7 => ?_
          refine (s_if_eq 216 121 mc_159 dX11_next0_118 rfl rfl).trans ?_
          refine ite_c ?_ ?_
          · skip
            refine (s_aload_n 217 mc_159 dX11_next0_216 rfl rfl rfl).trans ?_
            refine (s_dup 218 mc_159 dX11_next0_217 rfl rfl).trans ?_
            refine (s_getfI 221 mc_159 dX11_next0_218 rfl mo_159 fs_11_218 ff_11_218 (Or.inl rfl)).trans ?_
            refine gI_c fun g11 => ?_
            refine (s_iconst 222 1 mc_159 dX11_next0_221 rfl (by decide)).trans ?_
            refine (s_iadd 223 mc_159 dX11_next0_222 rfl).trans ?_
            refine (s_putfI 226 mc_159 dX11_next0_223 rfl mo_159 ff_11_218 rfl (Or.inl rfl)).trans ?_
            refine fI_c fun h8 => ?_
            refine (s_iload_n 227 mc_159 dX11_next0_226 rfl rfl rfl).trans ?_
            refine (s_bipush 229 59 mc_159 dX11_next0_227 rfl (by decide)).trans ?_
            refine (s_icmp_eq 286 232 mc_159 dX11_next0_229 rfl rfl).trans ?_
            refine ite_c ?_ ?_
            · skip
              refine (s_iconst 287 1 mc_159 dX11_next0_286 rfl (by decide)).trans ?_
              refine (s_goto 291 mc_159 dX11_next0_287 rfl).trans ?_
              rfl
            · skip
              refine (s_iload_n 233 mc_159 dX11_next0_232 rfl rfl rfl).trans ?_
              refine (s_bipush 235 43 mc_159 dX11_next0_233 rfl (by decide)).trans ?_
              refine (s_icmp_eq 286 238 mc_159 dX11_next0_235 rfl rfl).trans ?_
              refine ite_c ?_ ?_
              · skip
                refine (s_iconst 287 1 mc_159 dX11_next0_286 rfl (by decide)).trans ?_
                refine (s_goto 291 mc_159 dX11_next0_287 rfl).trans ?_
                rfl
              · skip
                refine (s_iload_n 239 mc_159 dX11_next0_238 rfl rfl rfl).trans ?_
                refine (s_bipush 241 45 mc_159 dX11_next0_239 rfl (by decide)).trans ?_
                refine (s_icmp_eq 286 244 mc_159 dX11_next0_241 rfl rfl).trans ?_
                refine ite_c ?_ ?_
                · skip
                  refine (s_iconst 287 1 mc_159 dX11_next0_286 rfl (by decide)).trans ?_
                  refine (s_goto 291 mc_159 dX11_next0_287 rfl).trans ?_
                  rfl
                · skip
                  refine (s_iload_n 245 mc_159 dX11_next0_244 rfl rfl rfl).trans ?_
                  refine (s_bipush 247 42 mc_159 dX11_next0_245 rfl (by decide)).trans ?_
                  refine (s_icmp_eq 286 250 mc_159 dX11_next0_247 rfl rfl).trans ?_
                  refine ite_c ?_ ?_
                  · skip
                    refine (s_iconst 287 1 mc_159 dX11_next0_286 rfl (by decide)).trans ?_
                    refine (s_goto 291 mc_159 dX11_next0_287 rfl).trans ?_
                    rfl
                  · skip
                    refine (s_iload_n 251 mc_159 dX11_next0_250 rfl rfl rfl).trans ?_
                    refine (s_bipush 253 47 mc_159 dX11_next0_251 rfl (by decide)).trans ?_
                    refine (s_icmp_eq 286 256 mc_159 dX11_next0_253 rfl rfl).trans ?_
                    refine ite_c ?_ ?_
                    · skip
                      refine (s_iconst 287 1 mc_159 dX11_next0_286 rfl (by decide)).trans ?_
                      refine (s_goto 291 mc_159 dX11_next0_287 rfl).trans ?_
                      rfl
                    · skip
                      refine (s_iload_n 257 mc_159 dX11_next0_256 rfl rfl rfl).trans ?_
                      refine (s_bipush 259 40 mc_159 dX11_next0_257 rfl (by decide)).trans ?_
                      refine (s_icmp_eq 286 262 mc_159 dX11_next0_259 rfl rfl).trans ?_
                      refine ite_c ?_ ?_
                      · skip
                        refine (s_iconst 287 1 mc_159 dX11_next0_286 rfl (by decide)).trans ?_
                        refine (s_goto 291 mc_159 dX11_next0_287 rfl).trans ?_
                        rfl
                      · skip
                        refine (s_iload_n 263 mc_159 dX11_next0_262 rfl rfl rfl).trans ?_
                        refine (s_bipush 265 41 mc_159 dX11_next0_263 rfl (by decide)).trans ?_
                        refine (s_icmp_eq 286 268 mc_159 dX11_next0_265 rfl rfl).trans ?_
                        refine ite_c ?_ ?_
                        · skip
                          refine (s_iconst 287 1 mc_159 dX11_next0_286 rfl (by decide)).trans ?_
                          refine (s_goto 291 mc_159 dX11_next0_287 rfl).trans ?_
                          rfl
                        · skip
                          refine (s_iload_n 269 mc_159 dX11_next0_268 rfl rfl rfl).trans ?_
                          refine (s_bipush 271 60 mc_159 dX11_next0_269 rfl (by decide)).trans ?_
                          refine (s_icmp_eq 286 274 mc_159 dX11_next0_271 rfl rfl).trans ?_
                          refine ite_c ?_ ?_
                          · skip
                            refine (s_iconst 287 1 mc_159 dX11_next0_286 rfl (by decide)).trans ?_
                            refine (s_goto 291 mc_159 dX11_next0_287 rfl).trans ?_
                            rfl
                          · skip
                            refine (s_iload_n 275 mc_159 dX11_next0_274 rfl rfl rfl).trans ?_
                            refine (s_bipush 277 61 mc_159 dX11_next0_275 rfl (by decide)).trans ?_
                            refine (s_icmp_eq 286 280 mc_159 dX11_next0_277 rfl rfl).trans ?_
                            refine ite_c ?_ ?_
                            · skip
                              refine (s_iconst 287 1 mc_159 dX11_next0_286 rfl (by decide)).trans ?_
                              refine (s_goto 291 mc_159 dX11_next0_287 rfl).trans ?_
                              rfl
                            · skip
                              refine (s_iload_n 281 mc_159 dX11_next0_280 rfl rfl rfl).trans ?_
                              refine (s_bipush 283 62 mc_159 dX11_next0_281 rfl (by decide)).trans ?_
                              refine (s_icmp_ne 290 286 mc_159 dX11_next0_283 rfl rfl).trans ?_
                              refine ite_c ?_ ?_
                              · skip
                                refine (s_iconst 291 0 mc_159 dX11_next0_290 rfl (by decide)).trans ?_
                                rfl
                              · skip
                                refine (s_iconst 287 1 mc_159 dX11_next0_286 rfl (by decide)).trans ?_
                                refine (s_goto 291 mc_159 dX11_next0_287 rfl).trans ?_
                                rfl
          · skip
            refine (s_aload_n 122 mc_159 dX11_next0_121 rfl rfl rfl).trans ?_
            refine (s_iconst 123 0 mc_159 dX11_next0_122 rfl (by decide)).trans ?_
            refine (s_putfI 126 mc_159 dX11_next0_123 rfl mo_159 ff_11_308 rfl (Or.inl rfl)).trans ?_
            refine fI_c fun h9 => ?_
            rfl
        · skip
          rfl
      · skip
        refine (s_aload_n 62 mc_159 dX11_next0_61 rfl rfl rfl).trans ?_
        refine (s_iconst 63 0 mc_159 dX11_next0_62 rfl (by decide)).trans ?_
        refine (s_putfI 66 mc_159 dX11_next0_63 rfl mo_159 ff_11_296 rfl (Or.inl rfl)).trans ?_
        refine fI_c fun h10 => ?_
        refine (s_goto 308 mc_159 dX11_next0_66 rfl).trans ?_
        exact s_vret mc_159 dX11_next0_308 mt_159
    · skip
      refine (s_aload_n 27 mc_159 dX11_next0_26 rfl rfl rfl).trans ?_
      refine (s_dup 28 mc_159 dX11_next0_27 rfl rfl).trans ?_
      refine (s_getfI 31 mc_159 dX11_next0_28 rfl mo_159 fs_11_218 ff_11_218 (Or.inl rfl)).trans ?_
      refine gI_c fun g12 => ?_
      refine (s_iconst 32 1 mc_159 dX11_next0_31 rfl (by decide)).trans ?_
      refine (s_iadd 33 mc_159 dX11_next0_32 rfl).trans ?_
      refine (s_putfI 36 mc_159 dX11_next0_33 rfl mo_159 ff_11_218 rfl (Or.inl rfl)).trans ?_
      refine fI_c fun h11 => ?_
      refine (s_goto 0 mc_159 dX11_next0_36 rfl).trans ?_
      rfl
theorem b_159_76 {X : Ctx} {d : Nat} (x0 : Nat) (v1 : Option Value) (v2 : Option Value)  (h : Hp) : sem (X, K X d) 159 76 [some (.ref x0), v1, v2] [] h = gI h 11 x0 36 fun g1 => gd (hS h x0 = (12, 0)) (bI (K X d 153 [.ref x0, .int g1] h) fun r2 h1 => bI (K X d 154 [.int r2] h1) fun r3 h2 => if r3 = 0 then gd (hS h2 x0 = (12, 0)) (bI (K X d 158 [.ref x0] h2) fun r4 h3 => fI h3 11 x0 37 r4 fun h4 => some (none, h4)) else gI h2 11 x0 36 fun g5 => fI h2 11 x0 36 (g5 + 1) fun h5 => sem (X, K X d) 159 76 [some (.ref x0), v1, v2] [] h5) := by
  refine (s_aload_n 77 mc_159 dX11_next0_76 rfl rfl rfl).trans ?_
  refine (s_aload_n 78 mc_159 dX11_next0_77 rfl rfl rfl).trans ?_
  refine (s_getfI 81 mc_159 dX11_next0_78 rfl mo_159 fs_11_218 ff_11_218 (Or.inl rfl)).trans ?_
  refine gI_c fun g1 => ?_
  refine (s_iviI 84 mc_159 dX11_next0_81 rfl mo_159 mm_11_292 (by decide) ms_153 mi_153 mr_153 ma_153 mo_153 (by decide) (Nat.le_of_ble_eq_true rfl) rfl rfl (Nat.le_of_ble_eq_true rfl)).trans ?_
  refine gd_c ?_
  refine bI_c fun r2 h1 => ?_
  refine (s_istI 87 mc_159 dX11_next0_84 rfl mo_159 mm_11_299 (by decide) ms_154 mr_154 ma_154 (Nat.le_of_ble_eq_true rfl) rfl rfl (Nat.le_of_ble_eq_true rfl)).trans ?_
  refine bI_c fun r3 h2 => ?_
  refine (s_if_eq 103 90 mc_159 dX11_next0_87 rfl rfl).trans ?_
  refine ite_c ?_ ?_
  · skip
    refine (s_aload_n 104 mc_159 dX11_next0_103 rfl rfl rfl).trans ?_
    refine (s_aload_n 105 mc_159 dX11_next0_104 rfl rfl rfl).trans ?_
    refine (s_iviI 108 mc_159 dX11_next0_105 rfl mo_159 mm_11_302 (by decide) ms_158 mi_158 mr_158 ma_158 mo_158 (by decide) (Nat.le_of_ble_eq_true rfl) rfl rfl (Nat.le_of_ble_eq_true rfl)).trans ?_
    refine gd_c ?_
    refine bI_c fun r4 h3 => ?_
    refine (s_putfI 111 mc_159 dX11_next0_108 rfl mo_159 ff_11_296 rfl (Or.inl rfl)).trans ?_
    refine fI_c fun h4 => ?_
    refine (s_goto 308 mc_159 dX11_next0_111 rfl).trans ?_
    exact s_vret mc_159 dX11_next0_308 mt_159
  · skip
    refine (s_aload_n 91 mc_159 dX11_next0_90 rfl rfl rfl).trans ?_
    refine (s_dup 92 mc_159 dX11_next0_91 rfl rfl).trans ?_
    refine (s_getfI 95 mc_159 dX11_next0_92 rfl mo_159 fs_11_218 ff_11_218 (Or.inl rfl)).trans ?_
    refine gI_c fun g5 => ?_
    refine (s_iconst 96 1 mc_159 dX11_next0_95 rfl (by decide)).trans ?_
    refine (s_iadd 97 mc_159 dX11_next0_96 rfl).trans ?_
    refine (s_putfI 100 mc_159 dX11_next0_97 rfl mo_159 ff_11_218 rfl (Or.inl rfl)).trans ?_
    refine fI_c fun h5 => ?_
    refine (s_goto 76 mc_159 dX11_next0_100 rfl).trans ?_
    rfl
theorem b_159_126 {X : Ctx} {d : Nat} (x0 : Nat) (v1 : Option Value) (v2 : Option Value)  (h : Hp) : sem (X, K X d) 159 126 [some (.ref x0), v1, v2] [] h = gI h 11 x0 36 fun g1 => gd (hS h x0 = (12, 0)) (bI (K X d 153 [.ref x0, .int g1] h) fun r2 h1 => bI (K X d 155 [.int r2] h1) fun r3 h2 => if r3 = 0 then gI h2 11 x0 36 fun g4 => gI h2 11 x0 38 fun g5 => if 7 ≤ (g4 - g5) then fI h2 11 x0 37 1 fun h3 => some (none, h3) else fI h2 11 x0 37 2 fun h4 => some (none, h4) else gI h2 11 x0 36 fun g6 => gI h2 11 x0 38 fun g7 => if (g7 + 6) ≤ g6 then gI h2 11 x0 36 fun g8 => fI h2 11 x0 36 (g8 + 1) fun h5 => sem (X, K X d) 159 126 [some (.ref x0), v1, v2] [] h5 else gI h2 11 x0 39 fun g9 => gI h2 11 x0 36 fun g10 => gd (hS h2 x0 = (12, 0)) (bI (K X d 153 [.ref x0, .int g10] h2) fun r11 h6 => fI h6 11 x0 39 (((10 * g9) + r11) - 48) fun h7 => gI h7 11 x0 36 fun g12 => fI h7 11 x0 36 (g12 + 1) fun h8 => sem (X, K X d) 159 126 [some (.ref x0), v1, v2] [] h8)) := by
  refine (s_aload_n 127 mc_159 dX11_next0_126 rfl rfl rfl).trans ?_
  refine (s_aload_n 128 mc_159 dX11_next0_127 rfl rfl rfl).trans ?_
  refine (s_getfI 131 mc_159 dX11_next0_128 rfl mo_159 fs_11_218 ff_11_218 (Or.inl rfl)).trans ?_
  refine gI_c fun g1 => ?_
  refine (s_iviI 134 mc_159 dX11_next0_131 rfl mo_159 mm_11_292 (by decide) ms_153 mi_153 mr_153 ma_153 mo_153 (by decide) (Nat.le_of_ble_eq_true rfl) rfl rfl (Nat.le_of_ble_eq_true rfl)).trans ?_
  refine gd_c ?_
  refine bI_c fun r2 h1 => ?_
  refine (s_istI 137 mc_159 dX11_next0_134 rfl mo_159 mm_11_305 (by decide) ms_155 mr_155 ma_155 (Nat.le_of_ble_eq_true rfl) rfl rfl (Nat.le_of_ble_eq_true rfl)).trans ?_
  refine bI_c fun r3 h2 => ?_
  refine (s_if_eq 190 140 mc_159 dX11_next0_137 rfl rfl).trans ?_
  refine ite_c ?_ ?_
  · skip
    refine (s_aload_n 191 mc_159 dX11_next0_190 rfl rfl rfl).trans ?_
    refine (s_aload_n 192 mc_159 dX11_next0_191 rfl rfl rfl).trans ?_
    refine (s_getfI 195 mc_159 dX11_next0_192 rfl mo_159 fs_11_218 ff_11_218 (Or.inl rfl)).trans ?_
    refine gI_c fun g4 => ?_
    refine (s_aload_n 196 mc_159 dX11_next0_195 rfl rfl rfl).trans ?_
    refine (s_getfI 199 mc_159 dX11_next0_196 rfl mo_159 fs_11_221 ff_11_221 (Or.inl rfl)).trans ?_
    refine gI_c fun g5 => ?_
    refine (s_isub 200 mc_159 dX11_next0_199 rfl).trans ?_
    refine (s_bipush 202 7 mc_159 dX11_next0_200 rfl (by decide)).trans ?_
    refine (s_icmp_ge 209 205 mc_159 dX11_next0_202 rfl rfl).trans ?_
    refine ite_c ?_ ?_
    · skip
      refine (s_iconst 210 1 mc_159 dX11_next0_209 rfl (by decide)).trans ?_
      refine (s_putfI 213 mc_159 dX11_next0_210 rfl mo_159 ff_11_296 rfl (Or.inl rfl)).trans ?_
      refine fI_c fun h3 => ?_
      refine (s_goto 308 mc_159 dX11_next0_213 rfl).trans ?_
      exact s_vret mc_159 dX11_next0_308 mt_159
    · skip
      refine (s_iconst 206 2 mc_159 dX11_next0_205 rfl (by decide)).trans ?_
      refine (s_goto 210 mc_159 dX11_next0_206 rfl).trans ?_
      refine (s_putfI 213 mc_159 dX11_next0_210 rfl mo_159 ff_11_296 rfl (Or.inl rfl)).trans ?_
      refine fI_c fun h4 => ?_
      refine (s_goto 308 mc_159 dX11_next0_213 rfl).trans ?_
      exact s_vret mc_159 dX11_next0_308 mt_159
  · skip
    refine (s_aload_n 141 mc_159 dX11_next0_140 rfl rfl rfl).trans ?_
    refine (s_getfI 144 mc_159 dX11_next0_141 rfl mo_159 fs_11_218 ff_11_218 (Or.inl rfl)).trans ?_
    refine gI_c fun g6 => ?_
    refine (s_aload_n 145 mc_159 dX11_next0_144 rfl rfl rfl).trans ?_
    refine (s_getfI 148 mc_159 dX11_next0_145 rfl mo_159 fs_11_221 ff_11_221 (Or.inl rfl)).trans ?_
    refine gI_c fun g7 => ?_
    refine (s_bipush 150 6 mc_159 dX11_next0_148 rfl (by decide)).trans ?_
    refine (s_iadd 151 mc_159 dX11_next0_150 rfl).trans ?_
    refine (s_icmp_ge 177 154 mc_159 dX11_next0_151 rfl rfl).trans ?_
    refine ite_c ?_ ?_
    · skip
      refine (s_aload_n 178 mc_159 dX11_next0_177 rfl rfl rfl).trans ?_
      refine (s_dup 179 mc_159 dX11_next0_178 rfl rfl).trans ?_
      refine (s_getfI 182 mc_159 dX11_next0_179 rfl mo_159 fs_11_218 ff_11_218 (Or.inl rfl)).trans ?_
      refine gI_c fun g8 => ?_
      refine (s_iconst 183 1 mc_159 dX11_next0_182 rfl (by decide)).trans ?_
      refine (s_iadd 184 mc_159 dX11_next0_183 rfl).trans ?_
      refine (s_putfI 187 mc_159 dX11_next0_184 rfl mo_159 ff_11_218 rfl (Or.inl rfl)).trans ?_
      refine fI_c fun h5 => ?_
      refine (s_goto 126 mc_159 dX11_next0_187 rfl).trans ?_
      rfl
    · skip
      refine (s_aload_n 155 mc_159 dX11_next0_154 rfl rfl rfl).trans ?_
      refine (s_bipush 157 10 mc_159 dX11_next0_155 rfl (by decide)).trans ?_
      refine (s_aload_n 158 mc_159 dX11_next0_157 rfl rfl rfl).trans ?_
      refine (s_getfI 161 mc_159 dX11_next0_158 rfl mo_159 fs_11_308 ff_11_308 (Or.inl rfl)).trans ?_
      refine gI_c fun g9 => ?_
      refine (s_imul 162 mc_159 dX11_next0_161 rfl).trans ?_
      refine (s_aload_n 163 mc_159 dX11_next0_162 rfl rfl rfl).trans ?_
      refine (s_aload_n 164 mc_159 dX11_next0_163 rfl rfl rfl).trans ?_
      refine (s_getfI 167 mc_159 dX11_next0_164 rfl mo_159 fs_11_218 ff_11_218 (Or.inl rfl)).trans ?_
      refine gI_c fun g10 => ?_
      refine (s_iviI 170 mc_159 dX11_next0_167 rfl mo_159 mm_11_292 (by decide) ms_153 mi_153 mr_153 ma_153 mo_153 (by decide) (Nat.le_of_ble_eq_true rfl) rfl rfl (Nat.le_of_ble_eq_true rfl)).trans ?_
      refine gd_c ?_
      refine bI_c fun r11 h6 => ?_
      refine (s_iadd 171 mc_159 dX11_next0_170 rfl).trans ?_
      refine (s_bipush 173 48 mc_159 dX11_next0_171 rfl (by decide)).trans ?_
      refine (s_isub 174 mc_159 dX11_next0_173 rfl).trans ?_
      refine (s_putfI 177 mc_159 dX11_next0_174 rfl mo_159 ff_11_308 rfl (Or.inl rfl)).trans ?_
      refine fI_c fun h7 => ?_
      refine (s_aload_n 178 mc_159 dX11_next0_177 rfl rfl rfl).trans ?_
      refine (s_dup 179 mc_159 dX11_next0_178 rfl rfl).trans ?_
      refine (s_getfI 182 mc_159 dX11_next0_179 rfl mo_159 fs_11_218 ff_11_218 (Or.inl rfl)).trans ?_
      refine gI_c fun g12 => ?_
      refine (s_iconst 183 1 mc_159 dX11_next0_182 rfl (by decide)).trans ?_
      refine (s_iadd 184 mc_159 dX11_next0_183 rfl).trans ?_
      refine (s_putfI 187 mc_159 dX11_next0_184 rfl mo_159 ff_11_218 rfl (Or.inl rfl)).trans ?_
      refine fI_c fun h8 => ?_
      refine (s_goto 126 mc_159 dX11_next0_187 rfl).trans ?_
      rfl
theorem b_159_291 {X : Ctx} {d : Nat} (x0 : Nat) (x1 : Int32) (v2 : Option Value) (s0 : Int32) (h : Hp) : sem (X, K X d) 159 291 [some (.ref x0), some (.int x1), v2] [.int s0] h = if s0 = 0 then fI h 11 x0 37 1 fun h1 => some (none, h1) else fI h 11 x0 37 (100 + x1) fun h2 => some (none, h2) := by
  refine (s_istore_n 292 mc_159 dX11_next0_291 rfl rfl (Nat.le_of_ble_eq_true rfl) rfl).trans ?_
  refine (s_aload_n 293 mc_159 dX11_next0_292 rfl rfl rfl).trans ?_
  refine (s_iload_n 294 mc_159 dX11_next0_293 rfl rfl rfl).trans ?_
  refine (s_if_eq 304 297 mc_159 dX11_next0_294 rfl rfl).trans ?_
  refine ite_c ?_ ?_
  · skip
    refine (s_iconst 305 1 mc_159 dX11_next0_304 rfl (by decide)).trans ?_
    refine (s_putfI 308 mc_159 dX11_next0_305 rfl mo_159 ff_11_296 rfl (Or.inl rfl)).trans ?_
    refine fI_c fun h1 => ?_
    exact s_vret mc_159 dX11_next0_308 mt_159
  · skip
    refine (s_bipush 299 100 mc_159 dX11_next0_297 rfl (by decide)).trans ?_
    refine (s_iload_n 300 mc_159 dX11_next0_299 rfl rfl rfl).trans ?_
    refine (s_iadd 301 mc_159 dX11_next0_300 rfl).trans ?_
    refine (s_goto 305 mc_159 dX11_next0_301 rfl).trans ?_
    refine (s_putfI 308 mc_159 dX11_next0_305 rfl mo_159 ff_11_296 rfl (Or.inl rfl)).trans ?_
    refine fI_c fun h2 => ?_
    exact s_vret mc_159 dX11_next0_308 mt_159
/-- FiveLandsModel.bad(I)Z -/
theorem k_160 {X : Ctx} {d : Nat} (x0 : Nat) (x1 : Int32) (h : Hp) : K X (d + 1) 160 [.ref x0, .int x1] h = fI h 11 x0 40 x1 fun h1 => gI h1 11 x0 38 fun g1 => fI h1 11 x0 41 g1 fun h2 => some (some (.int 0), h2) := by
  show sem (X, K X d) 160 0 [some (.ref x0), some (.int x1)] [] h = _
  refine (s_aload_n 1 mc_160 dX11_bad_0 rfl rfl rfl).trans ?_
  refine (s_iload_n 2 mc_160 dX11_bad_1 rfl rfl rfl).trans ?_
  refine (s_putfI 5 mc_160 dX11_bad_2 rfl mo_160 ff_11_311 rfl (Or.inl rfl)).trans ?_
  refine fI_c fun h1 => ?_
  refine (s_aload_n 6 mc_160 dX11_bad_5 rfl rfl rfl).trans ?_
  refine (s_aload_n 7 mc_160 dX11_bad_6 rfl rfl rfl).trans ?_
  refine (s_getfI 10 mc_160 dX11_bad_7 rfl mo_160 fs_11_221 ff_11_221 (Or.inl rfl)).trans ?_
  refine gI_c fun g1 => ?_
  refine (s_putfI 13 mc_160 dX11_bad_10 rfl mo_160 ff_11_314 rfl (Or.inl rfl)).trans ?_
  refine fI_c fun h2 => ?_
  refine (s_iconst 14 0 mc_160 dX11_bad_13 rfl (by decide)).trans ?_
  exact s_zret0 mc_160 dX11_bad_14 mt_160
/-- FiveLandsModel.need(I)Z -/
theorem k_161 {X : Ctx} {d : Nat} (x0 : Nat) (x1 : Int32) (h : Hp) : K X (d + 1) 161 [.ref x0, .int x1] h = gI h 11 x0 37 fun g1 => if g1 = x1 then gd (hS h x0 = (12, 0)) (bV (K X d 159 [.ref x0] h) fun h1 => some (some (.int 1), h1)) else gd (hS h x0 = (12, 0)) (bI (K X d 160 [.ref x0, .int 1] h) fun r2 h2 => gd (okN .boolean r2) (some (some (.int r2), h2))) := by
  show sem (X, K X d) 161 0 [some (.ref x0), some (.int x1)] [] h = _
  refine (s_aload_n 1 mc_161 dX11_need_0 rfl rfl rfl).trans ?_
  refine (s_getfI 4 mc_161 dX11_need_1 rfl mo_161 fs_11_296 ff_11_296 (Or.inl rfl)).trans ?_
  refine gI_c fun g1 => ?_
  refine (s_iload_n 5 mc_161 dX11_need_4 rfl rfl rfl).trans ?_
  refine (s_icmp_eq 14 8 mc_161 dX11_need_5 rfl rfl).trans ?_
  refine ite_c ?_ ?_
  · skip
    refine (s_aload_n 15 mc_161 dX11_need_14 rfl rfl rfl).trans ?_
    refine (s_iviV 18 mc_161 dX11_need_15 rfl mo_161 mm_11_320 (by decide) ms_159 mi_159 mr_159 ma_159 mo_159 (by decide) (Nat.le_of_ble_eq_true rfl) rfl rfl (Nat.le_of_ble_eq_true rfl)).trans ?_
    refine gd_c ?_
    refine bV_c fun h1 => ?_
    refine (s_iconst 19 1 mc_161 dX11_need_18 rfl (by decide)).trans ?_
    exact s_zret1 mc_161 dX11_need_19 mt_161
  · skip
    refine (s_aload_n 9 mc_161 dX11_need_8 rfl rfl rfl).trans ?_
    refine (s_iconst 10 1 mc_161 dX11_need_9 rfl (by decide)).trans ?_
    refine (s_iviI 13 mc_161 dX11_need_10 rfl mo_161 mm_11_317 (by decide) ms_160 mi_160 mr_160 ma_160 mo_160 (by decide) (Nat.le_of_ble_eq_true rfl) rfl rfl (Nat.le_of_ble_eq_true rfl)).trans ?_
    refine gd_c ?_
    refine bI_c fun r2 h2 => ?_
    exact s_zret mc_161 dX11_need_13 mt_161
/-- FiveLandsModel.number(II)Z -/
theorem k_162 {X : Ctx} {d : Nat} (x0 : Nat) (x1 : Int32) (x2 : Int32) (h : Hp) : K X (d + 1) 162 [.ref x0, .int x1, .int x2] h = gI h 11 x0 37 fun g1 => if g1 = 2 then gI h 11 x0 39 fun g2 => bI (K X d 142 [.int g2, .int x1, .int x2] h) fun r3 h1 => if ¬ r3 = 0 then gd (hS h1 x0 = (12, 0)) (bV (K X d 159 [.ref x0] h1) fun h2 => some (some (.int 1), h2)) else gd (hS h1 x0 = (12, 0)) (bI (K X d 160 [.ref x0, .int 2] h1) fun r4 h3 => gd (okN .boolean r4) (some (some (.int r4), h3))) else gd (hS h x0 = (12, 0)) (bI (K X d 160 [.ref x0, .int 1] h) fun r5 h4 => gd (okN .boolean r5) (some (some (.int r5), h4))) := by
  show sem (X, K X d) 162 0 [some (.ref x0), some (.int x1), some (.int x2)] [] h = _
  refine (s_aload_n 1 mc_162 dX11_number_0 rfl rfl rfl).trans ?_
  refine (s_getfI 4 mc_162 dX11_number_1 rfl mo_162 fs_11_296 ff_11_296 (Or.inl rfl)).trans ?_
  refine gI_c fun g1 => ?_
  refine (s_iconst 5 2 mc_162 dX11_number_4 rfl (by decide)).trans ?_
  refine (s_icmp_eq 14 8 mc_162 dX11_number_5 rfl rfl).trans ?_
  refine ite_c ?_ ?_
  · skip
    refine (s_aload_n 15 mc_162 dX11_number_14 rfl rfl rfl).trans ?_
    refine (s_getfI 18 mc_162 dX11_number_15 rfl mo_162 fs_11_308 ff_11_308 (Or.inl rfl)).trans ?_
    refine gI_c fun g2 => ?_
    refine (s_iload_n 19 mc_162 dX11_number_18 rfl rfl rfl).trans ?_
    refine (s_iload_n 20 mc_162 dX11_number_19 rfl rfl rfl).trans ?_
    refine (s_istI 23 mc_162 dX11_number_20 rfl mo_162 mm_11_1 (by decide) ms_142 mr_142 ma_142 (Nat.le_of_ble_eq_true rfl) rfl rfl (Nat.le_of_ble_eq_true rfl)).trans ?_
    refine bI_c fun r3 h1 => ?_
    refine (s_if_ne 32 26 mc_162 dX11_number_23 rfl rfl).trans ?_
    refine ite_c ?_ ?_
    · skip
      refine (s_aload_n 33 mc_162 dX11_number_32 rfl rfl rfl).trans ?_
      refine (s_iviV 36 mc_162 dX11_number_33 rfl mo_162 mm_11_320 (by decide) ms_159 mi_159 mr_159 ma_159 mo_159 (by decide) (Nat.le_of_ble_eq_true rfl) rfl rfl (Nat.le_of_ble_eq_true rfl)).trans ?_
      refine gd_c ?_
      refine bV_c fun h2 => ?_
      refine (s_iconst 37 1 mc_162 dX11_number_36 rfl (by decide)).trans ?_
      exact s_zret1 mc_162 dX11_number_37 mt_162
    · skip
      refine (s_aload_n 27 mc_162 dX11_number_26 rfl rfl rfl).trans ?_
      refine (s_iconst 28 2 mc_162 dX11_number_27 rfl (by decide)).trans ?_
      refine (s_iviI 31 mc_162 dX11_number_28 rfl mo_162 mm_11_317 (by decide) ms_160 mi_160 mr_160 ma_160 mo_160 (by decide) (Nat.le_of_ble_eq_true rfl) rfl rfl (Nat.le_of_ble_eq_true rfl)).trans ?_
      refine gd_c ?_
      refine bI_c fun r4 h3 => ?_
      exact s_zret mc_162 dX11_number_31 mt_162
  · skip
    refine (s_aload_n 9 mc_162 dX11_number_8 rfl rfl rfl).trans ?_
    refine (s_iconst 10 1 mc_162 dX11_number_9 rfl (by decide)).trans ?_
    refine (s_iviI 13 mc_162 dX11_number_10 rfl mo_162 mm_11_317 (by decide) ms_160 mi_160 mr_160 ma_160 mo_160 (by decide) (Nat.le_of_ble_eq_true rfl) rfl rfl (Nat.le_of_ble_eq_true rfl)).trans ?_
    refine gd_c ?_
    refine bI_c fun r5 h4 => ?_
    exact s_zret mc_162 dX11_number_13 mt_162
/-- FiveLandsModel.lay(II)V -/
theorem k_163 {X : Ctx} {d : Nat} (x0 : Nat) (x1 : Int32) (x2 : Int32) (h : Hp) : K X (d + 1) 163 [.ref x0, .int x1, .int x2] h = gR h 11 x0 15 fun g1 => gI h 11 x0 33 fun g2 => wI h g1 (7320 + (2 * g2)) x1 fun h1 => gR h1 11 x0 15 fun g3 => gI h1 11 x0 33 fun g4 => wI h1 g3 ((7320 + (2 * g4)) + 1) x2 fun h2 => gI h2 11 x0 33 fun g5 => fI h2 11 x0 33 (g5 + 1) fun h3 => some (none, h3) := by
  show sem (X, K X d) 163 0 [some (.ref x0), some (.int x1), some (.int x2)] [] h = _
  refine (s_aload_n 1 mc_163 dX11_lay_0 rfl rfl rfl).trans ?_
  refine (s_getfR 4 mc_163 dX11_lay_1 rfl mo_163 fs_11_59 ff_11_59 rfl).trans ?_
  refine gR_c fun g1 => ?_
  refine (s_sipush 7 7320 mc_163 dX11_lay_4 rfl (by decide)).trans ?_
  refine (s_iconst 8 2 mc_163 dX11_lay_7 rfl (by decide)).trans ?_
  refine (s_aload_n 9 mc_163 dX11_lay_8 rfl rfl rfl).trans ?_
  refine (s_getfI 12 mc_163 dX11_lay_9 rfl mo_163 fs_11_323 ff_11_323 (Or.inl rfl)).trans ?_
  refine gI_c fun g2 => ?_
  refine (s_imul 13 mc_163 dX11_lay_12 rfl).trans ?_
  refine (s_iadd 14 mc_163 dX11_lay_13 rfl).trans ?_
  refine (s_iload_n 15 mc_163 dX11_lay_14 rfl rfl rfl).trans ?_
  refine (s_iastore 16 mc_163 dX11_lay_15 rfl).trans ?_
  refine wI_c fun h1 => ?_
  refine (s_aload_n 17 mc_163 dX11_lay_16 rfl rfl rfl).trans ?_
  refine (s_getfR 20 mc_163 dX11_lay_17 rfl mo_163 fs_11_59 ff_11_59 rfl).trans ?_
  refine gR_c fun g3 => ?_
  refine (s_sipush 23 7320 mc_163 dX11_lay_20 rfl (by decide)).trans ?_
  refine (s_iconst 24 2 mc_163 dX11_lay_23 rfl (by decide)).trans ?_
  refine (s_aload_n 25 mc_163 dX11_lay_24 rfl rfl rfl).trans ?_
  refine (s_getfI 28 mc_163 dX11_lay_25 rfl mo_163 fs_11_323 ff_11_323 (Or.inl rfl)).trans ?_
  refine gI_c fun g4 => ?_
  refine (s_imul 29 mc_163 dX11_lay_28 rfl).trans ?_
  refine (s_iadd 30 mc_163 dX11_lay_29 rfl).trans ?_
  refine (s_iconst 31 1 mc_163 dX11_lay_30 rfl (by decide)).trans ?_
  refine (s_iadd 32 mc_163 dX11_lay_31 rfl).trans ?_
  refine (s_iload_n 33 mc_163 dX11_lay_32 rfl rfl rfl).trans ?_
  refine (s_iastore 34 mc_163 dX11_lay_33 rfl).trans ?_
  refine wI_c fun h2 => ?_
  refine (s_aload_n 35 mc_163 dX11_lay_34 rfl rfl rfl).trans ?_
  refine (s_dup 36 mc_163 dX11_lay_35 rfl rfl).trans ?_
  refine (s_getfI 39 mc_163 dX11_lay_36 rfl mo_163 fs_11_323 ff_11_323 (Or.inl rfl)).trans ?_
  refine gI_c fun g5 => ?_
  refine (s_iconst 40 1 mc_163 dX11_lay_39 rfl (by decide)).trans ?_
  refine (s_iadd 41 mc_163 dX11_lay_40 rfl).trans ?_
  refine (s_putfI 44 mc_163 dX11_lay_41 rfl mo_163 ff_11_323 rfl (Or.inl rfl)).trans ?_
  refine fI_c fun h3 => ?_
  exact s_vret mc_163 dX11_lay_44 mt_163
/-- FiveLandsModel.opens()Z -/
theorem k_164 {X : Ctx} {d : Nat} (x0 : Nat) (h : Hp) : K X (d + 1) 164 [.ref x0] h = gI h 11 x0 43 fun g1 => if ¬ g1 = 8 then gI h 11 x0 43 fun g2 => fI h 11 x0 43 (g2 + 1) fun h1 => gd (hS h1 x0 = (12, 0)) (bV (K X d 159 [.ref x0] h1) fun h2 => some (some (.int 1), h2)) else gd (hS h x0 = (12, 0)) (bI (K X d 160 [.ref x0, .int 3] h) fun r3 h3 => gd (okN .boolean r3) (some (some (.int r3), h3))) := by
  show sem (X, K X d) 164 0 [some (.ref x0)] [] h = _
  refine (s_aload_n 1 mc_164 dX11_opens_0 rfl rfl rfl).trans ?_
  refine (s_getfI 4 mc_164 dX11_opens_1 rfl mo_164 fs_11_326 ff_11_326 (Or.inl rfl)).trans ?_
  refine gI_c fun g1 => ?_
  refine (s_bipush 6 8 mc_164 dX11_opens_4 rfl (by decide)).trans ?_
  refine (s_icmp_ne 15 9 mc_164 dX11_opens_6 rfl rfl).trans ?_
  refine ite_c ?_ ?_
  · skip
    refine (s_aload_n 16 mc_164 dX11_opens_15 rfl rfl rfl).trans ?_
    refine (s_dup 17 mc_164 dX11_opens_16 rfl rfl).trans ?_
    refine (s_getfI 20 mc_164 dX11_opens_17 rfl mo_164 fs_11_326 ff_11_326 (Or.inl rfl)).trans ?_
    refine gI_c fun g2 => ?_
    refine (s_iconst 21 1 mc_164 dX11_opens_20 rfl (by decide)).trans ?_
    refine (s_iadd 22 mc_164 dX11_opens_21 rfl).trans ?_
    refine (s_putfI 25 mc_164 dX11_opens_22 rfl mo_164 ff_11_326 rfl (Or.inl rfl)).trans ?_
    refine fI_c fun h1 => ?_
    refine (s_aload_n 26 mc_164 dX11_opens_25 rfl rfl rfl).trans ?_
    refine (s_iviV 29 mc_164 dX11_opens_26 rfl mo_164 mm_11_320 (by decide) ms_159 mi_159 mr_159 ma_159 mo_159 (by decide) (Nat.le_of_ble_eq_true rfl) rfl rfl (Nat.le_of_ble_eq_true rfl)).trans ?_
    refine gd_c ?_
    refine bV_c fun h2 => ?_
    refine (s_iconst 30 1 mc_164 dX11_opens_29 rfl (by decide)).trans ?_
    exact s_zret1 mc_164 dX11_opens_30 mt_164
  · skip
    refine (s_aload_n 10 mc_164 dX11_opens_9 rfl rfl rfl).trans ?_
    refine (s_iconst 11 3 mc_164 dX11_opens_10 rfl (by decide)).trans ?_
    refine (s_iviI 14 mc_164 dX11_opens_11 rfl mo_164 mm_11_317 (by decide) ms_160 mi_160 mr_160 ma_160 mo_160 (by decide) (Nat.le_of_ble_eq_true rfl) rfl rfl (Nat.le_of_ble_eq_true rfl)).trans ?_
    refine gd_c ?_
    refine bI_c fun r3 h3 => ?_
    exact s_zret mc_164 dX11_opens_14 mt_164
/-- FiveLandsModel.sumUp()Z -/
theorem k_165 {X : Ctx} {d : Nat} (x0 : Nat) (h : Hp) : K X (d + 1) 165 [.ref x0] h = gd (hS h x0 = (12, 0)) (bI (K X d 166 [.ref x0] h) fun r1 h1 => if ¬ r1 = 0 then sem (X, K X d) 165 9 [some (.ref x0), none] [] h1 else some (some (.int 0), h1)) := by
  show sem (X, K X d) 165 0 [some (.ref x0), none] [] h = _
  refine (s_aload_n 1 mc_165 dX11_sumUp_0 rfl rfl rfl).trans ?_
  refine (s_iviI 4 mc_165 dX11_sumUp_1 rfl mo_165 mm_11_329 (by decide) ms_166 mi_166 mr_166 ma_166 mo_166 (by decide) (Nat.le_of_ble_eq_true rfl) rfl rfl (Nat.le_of_ble_eq_true rfl)).trans ?_
  refine gd_c ?_
  refine bI_c fun r1 h1 => ?_
  refine (s_if_ne 9 7 mc_165 dX11_sumUp_4 rfl rfl).trans ?_
  refine ite_c ?_ ?_
  · skip
    rfl
  · skip
    refine (s_iconst 8 0 mc_165 dX11_sumUp_7 rfl (by decide)).trans ?_
    exact s_zret0 mc_165 dX11_sumUp_8 mt_165
theorem b_165_9 {X : Ctx} {d : Nat} (x0 : Nat) (v1 : Option Value)  (h : Hp) : sem (X, K X d) 165 9 [some (.ref x0), v1] [] h = gI h 11 x0 37 fun g1 => if g1 = 143 then gI h 11 x0 37 fun g2 => if ¬ g2 = 143 then sem (X, K X d) 165 46 [some (.ref x0), v1] [.int 10] h else sem (X, K X d) 165 46 [some (.ref x0), v1] [.int 9] h else gI h 11 x0 37 fun g3 => if ¬ g3 = 145 then some (some (.int 1), h) else gI h 11 x0 37 fun g4 => if ¬ g4 = 143 then sem (X, K X d) 165 46 [some (.ref x0), v1] [.int 10] h else sem (X, K X d) 165 46 [some (.ref x0), v1] [.int 9] h := by
  refine (s_aload_n 10 mc_165 dX11_sumUp_9 rfl rfl rfl).trans ?_
  refine (s_getfI 13 mc_165 dX11_sumUp_10 rfl mo_165 fs_11_296 ff_11_296 (Or.inl rfl)).trans ?_
  refine gI_c fun g1 => ?_
  refine (s_sipush 16 143 mc_165 dX11_sumUp_13 rfl (by decide)).trans ?_
  refine (s_icmp_eq 29 19 mc_165 dX11_sumUp_16 rfl rfl).trans ?_
  refine ite_c ?_ ?_
  · skip
    refine (s_aload_n 30 mc_165 dX11_sumUp_29 rfl rfl rfl).trans ?_
    refine (s_getfI 33 mc_165 dX11_sumUp_30 rfl mo_165 fs_11_296 ff_11_296 (Or.inl rfl)).trans ?_
    refine gI_c fun g2 => ?_
    refine (s_sipush 36 143 mc_165 dX11_sumUp_33 rfl (by decide)).trans ?_
    refine (s_icmp_ne 44 39 mc_165 dX11_sumUp_36 rfl rfl).trans ?_
    refine ite_c ?_ ?_
    · skip
      refine (s_bipush 46 10 mc_165 dX11_sumUp_44 rfl (by decide)).trans ?_
      rfl
    · skip
      refine (s_bipush 41 9 mc_165 dX11_sumUp_39 rfl (by decide)).trans ?_
      refine (s_goto 46 mc_165 dX11_sumUp_41 rfl).trans ?_
      rfl
  · skip
    refine (s_aload_n 20 mc_165 dX11_sumUp_19 rfl rfl rfl).trans ?_
    refine (s_getfI 23 mc_165 dX11_sumUp_20 rfl mo_165 fs_11_296 ff_11_296 (Or.inl rfl)).trans ?_
    refine gI_c fun g3 => ?_
    refine (s_sipush 26 145 mc_165 dX11_sumUp_23 rfl (by decide)).trans ?_
    refine (s_icmp_ne 69 29 mc_165 dX11_sumUp_26 rfl rfl).trans ?_
    refine ite_c ?_ ?_
    · skip
      refine (s_iconst 70 1 mc_165 dX11_sumUp_69 rfl (by decide)).trans ?_
      exact s_zret1 mc_165 dX11_sumUp_70 mt_165
    · skip
      refine (s_aload_n 30 mc_165 dX11_sumUp_29 rfl rfl rfl).trans ?_
      refine (s_getfI 33 mc_165 dX11_sumUp_30 rfl mo_165 fs_11_296 ff_11_296 (Or.inl rfl)).trans ?_
      refine gI_c fun g4 => ?_
      refine (s_sipush 36 143 mc_165 dX11_sumUp_33 rfl (by decide)).trans ?_
      refine (s_icmp_ne 44 39 mc_165 dX11_sumUp_36 rfl rfl).trans ?_
      refine ite_c ?_ ?_
      · skip
        refine (s_bipush 46 10 mc_165 dX11_sumUp_44 rfl (by decide)).trans ?_
        rfl
      · skip
        refine (s_bipush 41 9 mc_165 dX11_sumUp_39 rfl (by decide)).trans ?_
        refine (s_goto 46 mc_165 dX11_sumUp_41 rfl).trans ?_
        rfl
theorem b_165_46 {X : Ctx} {d : Nat} (x0 : Nat) (v1 : Option Value) (s0 : Int32) (h : Hp) : sem (X, K X d) 165 46 [some (.ref x0), v1] [.int s0] h = gd (hS h x0 = (12, 0)) (bV (K X d 159 [.ref x0] h) fun h1 => gd (hS h1 x0 = (12, 0)) (bI (K X d 166 [.ref x0] h1) fun r1 h2 => if ¬ r1 = 0 then gd (hS h2 x0 = (12, 0)) (bV (K X d 163 [.ref x0, .int s0, .int 0] h2) fun h3 => sem (X, K X d) 165 9 [some (.ref x0), some (.int s0)] [] h3) else some (some (.int 0), h2))) := by
  refine (s_istore_n 47 mc_165 dX11_sumUp_46 rfl rfl (Nat.le_of_ble_eq_true rfl) rfl).trans ?_
  refine (s_aload_n 48 mc_165 dX11_sumUp_47 rfl rfl rfl).trans ?_
  refine (s_iviV 51 mc_165 dX11_sumUp_48 rfl mo_165 mm_11_320 (by decide) ms_159 mi_159 mr_159 ma_159 mo_159 (by decide) (Nat.le_of_ble_eq_true rfl) rfl rfl (Nat.le_of_ble_eq_true rfl)).trans ?_
  refine gd_c ?_
  refine bV_c fun h1 => ?_
  refine (s_aload_n 52 mc_165 dX11_sumUp_51 rfl rfl rfl).trans ?_
  refine (s_iviI 55 mc_165 dX11_sumUp_52 rfl mo_165 mm_11_329 (by decide) ms_166 mi_166 mr_166 ma_166 mo_166 (by decide) (Nat.le_of_ble_eq_true rfl) rfl rfl (Nat.le_of_ble_eq_true rfl)).trans ?_
  refine gd_c ?_
  refine bI_c fun r1 h2 => ?_
  refine (s_if_ne 60 58 mc_165 dX11_sumUp_55 rfl rfl).trans ?_
  refine ite_c ?_ ?_
  · skip
    refine (s_aload_n 61 mc_165 dX11_sumUp_60 rfl rfl rfl).trans ?_
    refine (s_iload_n 62 mc_165 dX11_sumUp_61 rfl rfl rfl).trans ?_
    refine (s_iconst 63 0 mc_165 dX11_sumUp_62 rfl (by decide)).trans ?_
    refine (s_iviV 66 mc_165 dX11_sumUp_63 rfl mo_165 mm_11_333 (by decide) ms_163 mi_163 mr_163 ma_163 mo_163 (by decide) (Nat.le_of_ble_eq_true rfl) rfl rfl (Nat.le_of_ble_eq_true rfl)).trans ?_
    refine gd_c ?_
    refine bV_c fun h3 => ?_
    refine (s_goto 9 mc_165 dX11_sumUp_66 rfl).trans ?_
    rfl
  · skip
    refine (s_iconst 59 0 mc_165 dX11_sumUp_58 rfl (by decide)).trans ?_
    exact s_zret0 mc_165 dX11_sumUp_59 mt_165
/-- FiveLandsModel.product()Z -/
theorem k_166 {X : Ctx} {d : Nat} (x0 : Nat) (h : Hp) : K X (d + 1) 166 [.ref x0] h = gd (hS h x0 = (12, 0)) (bI (K X d 167 [.ref x0] h) fun r1 h1 => if ¬ r1 = 0 then sem (X, K X d) 166 9 [some (.ref x0), none, none] [] h1 else some (some (.int 0), h1)) := by
  show sem (X, K X d) 166 0 [some (.ref x0), none, none] [] h = _
  refine (s_aload_n 1 mc_166 dX11_product_0 rfl rfl rfl).trans ?_
  refine (s_iviI 4 mc_166 dX11_product_1 rfl mo_166 mm_11_337 (by decide) ms_167 mi_167 mr_167 ma_167 mo_167 (by decide) (Nat.le_of_ble_eq_true rfl) rfl rfl (Nat.le_of_ble_eq_true rfl)).trans ?_
  refine gd_c ?_
  refine bI_c fun r1 h1 => ?_
  refine (s_if_ne 9 7 mc_166 dX11_product_4 rfl rfl).trans ?_
  refine ite_c ?_ ?_
  · skip
    rfl
  · skip
    refine (s_iconst 8 0 mc_166 dX11_product_7 rfl (by decide)).trans ?_
    exact s_zret0 mc_166 dX11_product_8 mt_166
theorem b_166_9 {X : Ctx} {d : Nat} (x0 : Nat) (v1 : Option Value) (v2 : Option Value)  (h : Hp) : sem (X, K X d) 166 9 [some (.ref x0), v1, v2] [] h = gI h 11 x0 37 fun g1 => if g1 = 142 then gI h 11 x0 37 fun g2 => if ¬ g2 = 147 then sem (X, K X d) 166 44 [some (.ref x0), v1, v2] [.int 0] h else sem (X, K X d) 166 44 [some (.ref x0), v1, v2] [.int 1] h else gI h 11 x0 37 fun g3 => if ¬ g3 = 147 then some (some (.int 1), h) else gI h 11 x0 37 fun g4 => if ¬ g4 = 147 then sem (X, K X d) 166 44 [some (.ref x0), v1, v2] [.int 0] h else sem (X, K X d) 166 44 [some (.ref x0), v1, v2] [.int 1] h := by
  refine (s_aload_n 10 mc_166 dX11_product_9 rfl rfl rfl).trans ?_
  refine (s_getfI 13 mc_166 dX11_product_10 rfl mo_166 fs_11_296 ff_11_296 (Or.inl rfl)).trans ?_
  refine gI_c fun g1 => ?_
  refine (s_sipush 16 142 mc_166 dX11_product_13 rfl (by decide)).trans ?_
  refine (s_icmp_eq 29 19 mc_166 dX11_product_16 rfl rfl).trans ?_
  refine ite_c ?_ ?_
  · skip
    refine (s_aload_n 30 mc_166 dX11_product_29 rfl rfl rfl).trans ?_
    refine (s_getfI 33 mc_166 dX11_product_30 rfl mo_166 fs_11_296 ff_11_296 (Or.inl rfl)).trans ?_
    refine gI_c fun g2 => ?_
    refine (s_sipush 36 147 mc_166 dX11_product_33 rfl (by decide)).trans ?_
    refine (s_icmp_ne 43 39 mc_166 dX11_product_36 rfl rfl).trans ?_
    refine ite_c ?_ ?_
    · skip
      refine (s_iconst 44 0 mc_166 dX11_product_43 rfl (by decide)).trans ?_
      rfl
    · skip
      refine (s_iconst 40 1 mc_166 dX11_product_39 rfl (by decide)).trans ?_
      refine (s_goto 44 mc_166 dX11_product_40 rfl).trans ?_
      rfl
  · skip
    refine (s_aload_n 20 mc_166 dX11_product_19 rfl rfl rfl).trans ?_
    refine (s_getfI 23 mc_166 dX11_product_20 rfl mo_166 fs_11_296 ff_11_296 (Or.inl rfl)).trans ?_
    refine gI_c fun g3 => ?_
    refine (s_sipush 26 147 mc_166 dX11_product_23 rfl (by decide)).trans ?_
    refine (s_icmp_ne 99 29 mc_166 dX11_product_26 rfl rfl).trans ?_
    refine ite_c ?_ ?_
    · skip
      refine (s_iconst 100 1 mc_166 dX11_product_99 rfl (by decide)).trans ?_
      exact s_zret1 mc_166 dX11_product_100 mt_166
    · skip
      refine (s_aload_n 30 mc_166 dX11_product_29 rfl rfl rfl).trans ?_
      refine (s_getfI 33 mc_166 dX11_product_30 rfl mo_166 fs_11_296 ff_11_296 (Or.inl rfl)).trans ?_
      refine gI_c fun g4 => ?_
      refine (s_sipush 36 147 mc_166 dX11_product_33 rfl (by decide)).trans ?_
      refine (s_icmp_ne 43 39 mc_166 dX11_product_36 rfl rfl).trans ?_
      refine ite_c ?_ ?_
      · skip
        refine (s_iconst 44 0 mc_166 dX11_product_43 rfl (by decide)).trans ?_
        rfl
      · skip
        refine (s_iconst 40 1 mc_166 dX11_product_39 rfl (by decide)).trans ?_
        refine (s_goto 44 mc_166 dX11_product_40 rfl).trans ?_
        rfl
theorem b_166_44 {X : Ctx} {d : Nat} (x0 : Nat) (v1 : Option Value) (v2 : Option Value) (s0 : Int32) (h : Hp) : sem (X, K X d) 166 44 [some (.ref x0), v1, v2] [.int s0] h = gd (hS h x0 = (12, 0)) (bV (K X d 159 [.ref x0] h) fun h1 => if s0 = 0 then gd (hS h1 x0 = (12, 0)) (bI (K X d 167 [.ref x0] h1) fun r1 h2 => if ¬ r1 = 0 then gd (hS h2 x0 = (12, 0)) (bV (K X d 163 [.ref x0, .int 11, .int 0] h2) fun h3 => sem (X, K X d) 166 9 [some (.ref x0), some (.int s0), v2] [] h3) else some (some (.int 0), h2)) else gI h1 11 x0 39 fun g2 => gd (hS h1 x0 = (12, 0)) (bI (K X d 162 [.ref x0, .int 1, .int 999999] h1) fun r3 h4 => if ¬ r3 = 0 then gd (hS h4 x0 = (12, 0)) (bV (K X d 163 [.ref x0, .int 12, .int g2] h4) fun h5 => sem (X, K X d) 166 9 [some (.ref x0), some (.int s0), some (.int g2)] [] h5) else some (some (.int 0), h4))) := by
  refine (s_istore_n 45 mc_166 dX11_product_44 rfl rfl (Nat.le_of_ble_eq_true rfl) rfl).trans ?_
  refine (s_aload_n 46 mc_166 dX11_product_45 rfl rfl rfl).trans ?_
  refine (s_iviV 49 mc_166 dX11_product_46 rfl mo_166 mm_11_320 (by decide) ms_159 mi_159 mr_159 ma_159 mo_159 (by decide) (Nat.le_of_ble_eq_true rfl) rfl rfl (Nat.le_of_ble_eq_true rfl)).trans ?_
  refine gd_c ?_
  refine bV_c fun h1 => ?_
  refine (s_iload_n 50 mc_166 dX11_product_49 rfl rfl rfl).trans ?_
  refine (s_if_eq 80 53 mc_166 dX11_product_50 rfl rfl).trans ?_
  refine ite_c ?_ ?_
  · skip
    refine (s_aload_n 81 mc_166 dX11_product_80 rfl rfl rfl).trans ?_
    refine (s_iviI 84 mc_166 dX11_product_81 rfl mo_166 mm_11_337 (by decide) ms_167 mi_167 mr_167 ma_167 mo_167 (by decide) (Nat.le_of_ble_eq_true rfl) rfl rfl (Nat.le_of_ble_eq_true rfl)).trans ?_
    refine gd_c ?_
    refine bI_c fun r1 h2 => ?_
    refine (s_if_ne 89 87 mc_166 dX11_product_84 rfl rfl).trans ?_
    refine ite_c ?_ ?_
    · skip
      refine (s_aload_n 90 mc_166 dX11_product_89 rfl rfl rfl).trans ?_
      refine (s_bipush 92 11 mc_166 dX11_product_90 rfl (by decide)).trans ?_
      refine (s_iconst 93 0 mc_166 dX11_product_92 rfl (by decide)).trans ?_
      refine (s_iviV 96 mc_166 dX11_product_93 rfl mo_166 mm_11_333 (by decide) ms_163 mi_163 mr_163 ma_163 mo_163 (by decide) (Nat.le_of_ble_eq_true rfl) rfl rfl (Nat.le_of_ble_eq_true rfl)).trans ?_
      refine gd_c ?_
      refine bV_c fun h3 => ?_
      refine (s_goto 9 mc_166 dX11_product_96 rfl).trans ?_
      rfl
    · skip
      refine (s_iconst 88 0 mc_166 dX11_product_87 rfl (by decide)).trans ?_
      exact s_zret0 mc_166 dX11_product_88 mt_166
  · skip
    refine (s_aload_n 54 mc_166 dX11_product_53 rfl rfl rfl).trans ?_
    refine (s_getfI 57 mc_166 dX11_product_54 rfl mo_166 fs_11_308 ff_11_308 (Or.inl rfl)).trans ?_
    refine gI_c fun g2 => ?_
    refine (s_istore_n 58 mc_166 dX11_product_57 rfl rfl (Nat.le_of_ble_eq_true rfl) rfl).trans ?_
    refine (s_aload_n 59 mc_166 dX11_product_58 rfl rfl rfl).trans ?_
    refine (s_iconst 60 1 mc_166 dX11_product_59 rfl (by decide)).trans ?_
    refine (s_ldc 62 999999 mc_166 dX11_product_60 rfl mo_166 cs_11_214 (by decide)).trans ?_
    refine (s_iviI 65 mc_166 dX11_product_62 rfl mo_166 mm_11_340 (by decide) ms_162 mi_162 mr_162 ma_162 mo_162 (by decide) (Nat.le_of_ble_eq_true rfl) rfl rfl (Nat.le_of_ble_eq_true rfl)).trans ?_
    refine gd_c ?_
    refine bI_c fun r3 h4 => ?_
    refine (s_if_ne 70 68 mc_166 dX11_product_65 rfl rfl).trans ?_
    refine ite_c ?_ ?_
    · skip
      refine (s_aload_n 71 mc_166 dX11_product_70 rfl rfl rfl).trans ?_
      refine (s_bipush 73 12 mc_166 dX11_product_71 rfl (by decide)).trans ?_
      refine (s_iload_n 74 mc_166 dX11_product_73 rfl rfl rfl).trans ?_
      refine (s_iviV 77 mc_166 dX11_product_74 rfl mo_166 mm_11_333 (by decide) ms_163 mi_163 mr_163 ma_163 mo_163 (by decide) (Nat.le_of_ble_eq_true rfl) rfl rfl (Nat.le_of_ble_eq_true rfl)).trans ?_
      refine gd_c ?_
      refine bV_c fun h5 => ?_
      refine (s_goto 96 mc_166 dX11_product_77 rfl).trans ?_
      refine (s_goto 9 mc_166 dX11_product_96 rfl).trans ?_
      rfl
    · skip
      refine (s_iconst 69 0 mc_166 dX11_product_68 rfl (by decide)).trans ?_
      exact s_zret0 mc_166 dX11_product_69 mt_166
/-- FiveLandsModel.unit()Z -/
theorem k_167 {X : Ctx} {d : Nat} (x0 : Nat) (h : Hp) : K X (d + 1) 167 [.ref x0] h = gI h 11 x0 37 fun g1 => bI (K X d 142 [.int g1, .int 61, .int 68] h) fun r2 h1 => gI h1 11 x0 37 fun g3 => if g3 = 2 then sem (X, K X d) 167 30 [some (.ref x0), some (.int r2)] [] h1 else if ¬ r2 = 0 then sem (X, K X d) 167 30 [some (.ref x0), some (.int r2)] [] h1 else gd (hS h1 x0 = (12, 0)) (bI (K X d 160 [.ref x0, .int 1] h1) fun r4 h2 => gd (okN .boolean r4) (some (some (.int r4), h2))) := by
  show sem (X, K X d) 167 0 [some (.ref x0), none] [] h = _
  refine (s_aload_n 1 mc_167 dX11_unit_0 rfl rfl rfl).trans ?_
  refine (s_getfI 4 mc_167 dX11_unit_1 rfl mo_167 fs_11_296 ff_11_296 (Or.inl rfl)).trans ?_
  refine gI_c fun g1 => ?_
  refine (s_bipush 6 61 mc_167 dX11_unit_4 rfl (by decide)).trans ?_
  refine (s_bipush 8 68 mc_167 dX11_unit_6 rfl (by decide)).trans ?_
  refine (s_istI 11 mc_167 dX11_unit_8 rfl mo_167 mm_11_1 (by decide) ms_142 mr_142 ma_142 (Nat.le_of_ble_eq_true rfl) rfl rfl (Nat.le_of_ble_eq_true rfl)).trans ?_
  refine bI_c fun r2 h1 => ?_
  refine (s_istore_n 12 mc_167 dX11_unit_11 rfl rfl (Nat.le_of_ble_eq_true rfl) rfl).trans ?_
  refine (s_aload_n 13 mc_167 dX11_unit_12 rfl rfl rfl).trans ?_
  refine (s_getfI 16 mc_167 dX11_unit_13 rfl mo_167 fs_11_296 ff_11_296 (Or.inl rfl)).trans ?_
  refine gI_c fun g3 => ?_
  refine (s_iconst 17 2 mc_167 dX11_unit_16 rfl (by decide)).trans ?_
  refine (s_icmp_eq 30 20 mc_167 dX11_unit_17 rfl rfl).trans ?_
  refine ite_c ?_ ?_
  · skip
    rfl
  · skip
    refine (s_iload_n 21 mc_167 dX11_unit_20 rfl rfl rfl).trans ?_
    refine (s_if_ne 30 24 mc_167 dX11_unit_21 rfl rfl).trans ?_
    refine ite_c ?_ ?_
    · skip
      rfl
    · skip
      refine (s_aload_n 25 mc_167 dX11_unit_24 rfl rfl rfl).trans ?_
      refine (s_iconst 26 1 mc_167 dX11_unit_25 rfl (by decide)).trans ?_
      refine (s_iviI 29 mc_167 dX11_unit_26 rfl mo_167 mm_11_317 (by decide) ms_160 mi_160 mr_160 ma_160 mo_160 (by decide) (Nat.le_of_ble_eq_true rfl) rfl rfl (Nat.le_of_ble_eq_true rfl)).trans ?_
      refine gd_c ?_
      refine bI_c fun r4 h2 => ?_
      exact s_zret mc_167 dX11_unit_29 mt_167
theorem b_167_30 {X : Ctx} {d : Nat} (x0 : Nat) (x1 : Int32)  (h : Hp) : sem (X, K X d) 167 30 [some (.ref x0), some (.int x1)] [] h = if x1 = 0 then gI h 11 x0 39 fun g1 => gd (hS h x0 = (12, 0)) (bV (K X d 163 [.ref x0, .int 0, .int g1] h) fun h1 => gd (hS h1 x0 = (12, 0)) (bV (K X d 159 [.ref x0] h1) fun h2 => some (some (.int 1), h2))) else gI h 11 x0 37 fun g2 => gI h 11 x0 39 fun g3 => gd (hS h x0 = (12, 0)) (bV (K X d 163 [.ref x0, .int (g2 - 60), .int g3] h) fun h3 => gd (hS h3 x0 = (12, 0)) (bV (K X d 159 [.ref x0] h3) fun h4 => some (some (.int 1), h4))) := by
  refine (s_aload_n 31 mc_167 dX11_unit_30 rfl rfl rfl).trans ?_
  refine (s_iload_n 32 mc_167 dX11_unit_31 rfl rfl rfl).trans ?_
  refine (s_if_eq 45 35 mc_167 dX11_unit_32 rfl rfl).trans ?_
  refine ite_c ?_ ?_
  · skip
    refine (s_iconst 46 0 mc_167 dX11_unit_45 rfl (by decide)).trans ?_
    refine (s_aload_n 47 mc_167 dX11_unit_46 rfl rfl rfl).trans ?_
    refine (s_getfI 50 mc_167 dX11_unit_47 rfl mo_167 fs_11_308 ff_11_308 (Or.inl rfl)).trans ?_
    refine gI_c fun g1 => ?_
    refine (s_iviV 53 mc_167 dX11_unit_50 rfl mo_167 mm_11_333 (by decide) ms_163 mi_163 mr_163 ma_163 mo_163 (by decide) (Nat.le_of_ble_eq_true rfl) rfl rfl (Nat.le_of_ble_eq_true rfl)).trans ?_
    refine gd_c ?_
    refine bV_c fun h1 => ?_
    refine (s_aload_n 54 mc_167 dX11_unit_53 rfl rfl rfl).trans ?_
    refine (s_iviV 57 mc_167 dX11_unit_54 rfl mo_167 mm_11_320 (by decide) ms_159 mi_159 mr_159 ma_159 mo_159 (by decide) (Nat.le_of_ble_eq_true rfl) rfl rfl (Nat.le_of_ble_eq_true rfl)).trans ?_
    refine gd_c ?_
    refine bV_c fun h2 => ?_
    refine (s_iconst 58 1 mc_167 dX11_unit_57 rfl (by decide)).trans ?_
    exact s_zret1 mc_167 dX11_unit_58 mt_167
  · skip
    refine (s_aload_n 36 mc_167 dX11_unit_35 rfl rfl rfl).trans ?_
    refine (s_getfI 39 mc_167 dX11_unit_36 rfl mo_167 fs_11_296 ff_11_296 (Or.inl rfl)).trans ?_
    refine gI_c fun g2 => ?_
    refine (s_bipush 41 60 mc_167 dX11_unit_39 rfl (by decide)).trans ?_
    refine (s_isub 42 mc_167 dX11_unit_41 rfl).trans ?_
    refine (s_goto 46 mc_167 dX11_unit_42 rfl).trans ?_
    refine (s_aload_n 47 mc_167 dX11_unit_46 rfl rfl rfl).trans ?_
    refine (s_getfI 50 mc_167 dX11_unit_47 rfl mo_167 fs_11_308 ff_11_308 (Or.inl rfl)).trans ?_
    refine gI_c fun g3 => ?_
    refine (s_iviV 53 mc_167 dX11_unit_50 rfl mo_167 mm_11_333 (by decide) ms_163 mi_163 mr_163 ma_163 mo_163 (by decide) (Nat.le_of_ble_eq_true rfl) rfl rfl (Nat.le_of_ble_eq_true rfl)).trans ?_
    refine gd_c ?_
    refine bV_c fun h3 => ?_
    refine (s_aload_n 54 mc_167 dX11_unit_53 rfl rfl rfl).trans ?_
    refine (s_iviV 57 mc_167 dX11_unit_54 rfl mo_167 mm_11_320 (by decide) ms_159 mi_159 mr_159 ma_159 mo_159 (by decide) (Nat.le_of_ble_eq_true rfl) rfl rfl (Nat.le_of_ble_eq_true rfl)).trans ?_
    refine gd_c ?_
    refine bV_c fun h4 => ?_
    refine (s_iconst 58 1 mc_167 dX11_unit_57 rfl (by decide)).trans ?_
    exact s_zret1 mc_167 dX11_unit_58 mt_167
/-- FiveLandsModel.any()Z -/
theorem k_168 {X : Ctx} {d : Nat} (x0 : Nat) (h : Hp) : K X (d + 1) 168 [.ref x0] h = gd (hS h x0 = (12, 0)) (bI (K X d 169 [.ref x0] h) fun r1 h1 => if ¬ r1 = 0 then sem (X, K X d) 168 9 [some (.ref x0)] [] h1 else some (some (.int 0), h1)) := by
  show sem (X, K X d) 168 0 [some (.ref x0)] [] h = _
  refine (s_aload_n 1 mc_168 dX11_any_0 rfl rfl rfl).trans ?_
  refine (s_iviI 4 mc_168 dX11_any_1 rfl mo_168 mm_11_344 (by decide) ms_169 mi_169 mr_169 ma_169 mo_169 (by decide) (Nat.le_of_ble_eq_true rfl) rfl rfl (Nat.le_of_ble_eq_true rfl)).trans ?_
  refine gd_c ?_
  refine bI_c fun r1 h1 => ?_
  refine (s_if_ne 9 7 mc_168 dX11_any_4 rfl rfl).trans ?_
  refine ite_c ?_ ?_
  · skip
    rfl
  · skip
    refine (s_iconst 8 0 mc_168 dX11_any_7 rfl (by decide)).trans ?_
    exact s_zret0 mc_168 dX11_any_8 mt_168
theorem b_168_9 {X : Ctx} {d : Nat} (x0 : Nat)  (h : Hp) : sem (X, K X d) 168 9 [some (.ref x0)] [] h = gI h 11 x0 37 fun g1 => if ¬ g1 = 4 then some (some (.int 1), h) else gd (hS h x0 = (12, 0)) (bV (K X d 159 [.ref x0] h) fun h1 => gd (hS h1 x0 = (12, 0)) (bI (K X d 169 [.ref x0] h1) fun r2 h2 => if ¬ r2 = 0 then gd (hS h2 x0 = (12, 0)) (bV (K X d 163 [.ref x0, .int 18, .int 0] h2) fun h3 => sem (X, K X d) 168 9 [some (.ref x0)] [] h3) else some (some (.int 0), h2))) := by
  refine (s_aload_n 10 mc_168 dX11_any_9 rfl rfl rfl).trans ?_
  refine (s_getfI 13 mc_168 dX11_any_10 rfl mo_168 fs_11_296 ff_11_296 (Or.inl rfl)).trans ?_
  refine gI_c fun g1 => ?_
  refine (s_iconst 14 4 mc_168 dX11_any_13 rfl (by decide)).trans ?_
  refine (s_icmp_ne 40 17 mc_168 dX11_any_14 rfl rfl).trans ?_
  refine ite_c ?_ ?_
  · skip
    refine (s_iconst 41 1 mc_168 dX11_any_40 rfl (by decide)).trans ?_
    exact s_zret1 mc_168 dX11_any_41 mt_168
  · skip
    refine (s_aload_n 18 mc_168 dX11_any_17 rfl rfl rfl).trans ?_
    refine (s_iviV 21 mc_168 dX11_any_18 rfl mo_168 mm_11_320 (by decide) ms_159 mi_159 mr_159 ma_159 mo_159 (by decide) (Nat.le_of_ble_eq_true rfl) rfl rfl (Nat.le_of_ble_eq_true rfl)).trans ?_
    refine gd_c ?_
    refine bV_c fun h1 => ?_
    refine (s_aload_n 22 mc_168 dX11_any_21 rfl rfl rfl).trans ?_
    refine (s_iviI 25 mc_168 dX11_any_22 rfl mo_168 mm_11_344 (by decide) ms_169 mi_169 mr_169 ma_169 mo_169 (by decide) (Nat.le_of_ble_eq_true rfl) rfl rfl (Nat.le_of_ble_eq_true rfl)).trans ?_
    refine gd_c ?_
    refine bI_c fun r2 h2 => ?_
    refine (s_if_ne 30 28 mc_168 dX11_any_25 rfl rfl).trans ?_
    refine ite_c ?_ ?_
    · skip
      refine (s_aload_n 31 mc_168 dX11_any_30 rfl rfl rfl).trans ?_
      refine (s_bipush 33 18 mc_168 dX11_any_31 rfl (by decide)).trans ?_
      refine (s_iconst 34 0 mc_168 dX11_any_33 rfl (by decide)).trans ?_
      refine (s_iviV 37 mc_168 dX11_any_34 rfl mo_168 mm_11_333 (by decide) ms_163 mi_163 mr_163 ma_163 mo_163 (by decide) (Nat.le_of_ble_eq_true rfl) rfl rfl (Nat.le_of_ble_eq_true rfl)).trans ?_
      refine gd_c ?_
      refine bV_c fun h3 => ?_
      refine (s_goto 9 mc_168 dX11_any_37 rfl).trans ?_
      rfl
    · skip
      refine (s_iconst 29 0 mc_168 dX11_any_28 rfl (by decide)).trans ?_
      exact s_zret0 mc_168 dX11_any_29 mt_168
/-- FiveLandsModel.every()Z -/
theorem k_169 {X : Ctx} {d : Nat} (x0 : Nat) (h : Hp) : K X (d + 1) 169 [.ref x0] h = gd (hS h x0 = (12, 0)) (bI (K X d 170 [.ref x0] h) fun r1 h1 => if ¬ r1 = 0 then sem (X, K X d) 169 9 [some (.ref x0)] [] h1 else some (some (.int 0), h1)) := by
  show sem (X, K X d) 169 0 [some (.ref x0)] [] h = _
  refine (s_aload_n 1 mc_169 dX11_every_0 rfl rfl rfl).trans ?_
  refine (s_iviI 4 mc_169 dX11_every_1 rfl mo_169 mm_11_347 (by decide) ms_170 mi_170 mr_170 ma_170 mo_170 (by decide) (Nat.le_of_ble_eq_true rfl) rfl rfl (Nat.le_of_ble_eq_true rfl)).trans ?_
  refine gd_c ?_
  refine bI_c fun r1 h1 => ?_
  refine (s_if_ne 9 7 mc_169 dX11_every_4 rfl rfl).trans ?_
  refine ite_c ?_ ?_
  · skip
    rfl
  · skip
    refine (s_iconst 8 0 mc_169 dX11_every_7 rfl (by decide)).trans ?_
    exact s_zret0 mc_169 dX11_every_8 mt_169
theorem b_169_9 {X : Ctx} {d : Nat} (x0 : Nat)  (h : Hp) : sem (X, K X d) 169 9 [some (.ref x0)] [] h = gI h 11 x0 37 fun g1 => if ¬ g1 = 5 then some (some (.int 1), h) else gd (hS h x0 = (12, 0)) (bV (K X d 159 [.ref x0] h) fun h1 => gd (hS h1 x0 = (12, 0)) (bI (K X d 170 [.ref x0] h1) fun r2 h2 => if ¬ r2 = 0 then gd (hS h2 x0 = (12, 0)) (bV (K X d 163 [.ref x0, .int 17, .int 0] h2) fun h3 => sem (X, K X d) 169 9 [some (.ref x0)] [] h3) else some (some (.int 0), h2))) := by
  refine (s_aload_n 10 mc_169 dX11_every_9 rfl rfl rfl).trans ?_
  refine (s_getfI 13 mc_169 dX11_every_10 rfl mo_169 fs_11_296 ff_11_296 (Or.inl rfl)).trans ?_
  refine gI_c fun g1 => ?_
  refine (s_iconst 14 5 mc_169 dX11_every_13 rfl (by decide)).trans ?_
  refine (s_icmp_ne 40 17 mc_169 dX11_every_14 rfl rfl).trans ?_
  refine ite_c ?_ ?_
  · skip
    refine (s_iconst 41 1 mc_169 dX11_every_40 rfl (by decide)).trans ?_
    exact s_zret1 mc_169 dX11_every_41 mt_169
  · skip
    refine (s_aload_n 18 mc_169 dX11_every_17 rfl rfl rfl).trans ?_
    refine (s_iviV 21 mc_169 dX11_every_18 rfl mo_169 mm_11_320 (by decide) ms_159 mi_159 mr_159 ma_159 mo_159 (by decide) (Nat.le_of_ble_eq_true rfl) rfl rfl (Nat.le_of_ble_eq_true rfl)).trans ?_
    refine gd_c ?_
    refine bV_c fun h1 => ?_
    refine (s_aload_n 22 mc_169 dX11_every_21 rfl rfl rfl).trans ?_
    refine (s_iviI 25 mc_169 dX11_every_22 rfl mo_169 mm_11_347 (by decide) ms_170 mi_170 mr_170 ma_170 mo_170 (by decide) (Nat.le_of_ble_eq_true rfl) rfl rfl (Nat.le_of_ble_eq_true rfl)).trans ?_
    refine gd_c ?_
    refine bI_c fun r2 h2 => ?_
    refine (s_if_ne 30 28 mc_169 dX11_every_25 rfl rfl).trans ?_
    refine ite_c ?_ ?_
    · skip
      refine (s_aload_n 31 mc_169 dX11_every_30 rfl rfl rfl).trans ?_
      refine (s_bipush 33 17 mc_169 dX11_every_31 rfl (by decide)).trans ?_
      refine (s_iconst 34 0 mc_169 dX11_every_33 rfl (by decide)).trans ?_
      refine (s_iviV 37 mc_169 dX11_every_34 rfl mo_169 mm_11_333 (by decide) ms_163 mi_163 mr_163 ma_163 mo_163 (by decide) (Nat.le_of_ble_eq_true rfl) rfl rfl (Nat.le_of_ble_eq_true rfl)).trans ?_
      refine gd_c ?_
      refine bV_c fun h3 => ?_
      refine (s_goto 9 mc_169 dX11_every_37 rfl).trans ?_
      rfl
    · skip
      refine (s_iconst 29 0 mc_169 dX11_every_28 rfl (by decide)).trans ?_
      exact s_zret0 mc_169 dX11_every_29 mt_169
/-- FiveLandsModel.one()Z -/
theorem k_170 {X : Ctx} {d : Nat} (x0 : Nat) (h : Hp) : K X (d + 1) 170 [.ref x0] h = gI h 11 x0 37 fun g1 => if ¬ g1 = 6 then gI h 11 x0 37 fun g2 => if ¬ g2 = 140 then gd (hS h x0 = (12, 0)) (bI (K X d 165 [.ref x0] h) fun r3 h1 => if ¬ r3 = 0 then gI h1 11 x0 37 fun g4 => if ¬ g4 = 160 then gI h1 11 x0 37 fun g5 => if ¬ g5 = 161 then gI h1 11 x0 37 fun g6 => if ¬ g6 = 162 then sem (X, K X d) 170 147 [some (.ref x0), none] [.int (-1)] h1 else sem (X, K X d) 170 147 [some (.ref x0), none] [.int 15] h1 else sem (X, K X d) 170 147 [some (.ref x0), none] [.int 14] h1 else sem (X, K X d) 170 147 [some (.ref x0), none] [.int 13] h1 else some (some (.int 0), h1)) else gd (hS h x0 = (12, 0)) (bI (K X d 164 [.ref x0] h) fun r7 h2 => if r7 = 0 then some (some (.int 0), h2) else gd (hS h2 x0 = (12, 0)) (bI (K X d 168 [.ref x0] h2) fun r8 h3 => if r8 = 0 then some (some (.int 0), h3) else gd (hS h3 x0 = (12, 0)) (bI (K X d 161 [.ref x0, .int 141] h3) fun r9 h4 => if ¬ r9 = 0 then gI h4 11 x0 43 fun g10 => fI h4 11 x0 43 (g10 - 1) fun h5 => some (some (.int 1), h5) else some (some (.int 0), h4)))) else gd (hS h x0 = (12, 0)) (bI (K X d 164 [.ref x0] h) fun r11 h6 => if r11 = 0 then some (some (.int 0), h6) else gd (hS h6 x0 = (12, 0)) (bI (K X d 170 [.ref x0] h6) fun r12 h7 => if ¬ r12 = 0 then gI h7 11 x0 43 fun g13 => fI h7 11 x0 43 (g13 - 1) fun h8 => gd (hS h8 x0 = (12, 0)) (bV (K X d 163 [.ref x0, .int 16, .int 0] h8) fun h9 => some (some (.int 1), h9)) else some (some (.int 0), h7))) := by
  show sem (X, K X d) 170 0 [some (.ref x0), none] [] h = _
  refine (s_aload_n 1 mc_170 dX11_one_0 rfl rfl rfl).trans ?_
  refine (s_getfI 4 mc_170 dX11_one_1 rfl mo_170 fs_11_296 ff_11_296 (Or.inl rfl)).trans ?_
  refine gI_c fun g1 => ?_
  refine (s_bipush 6 6 mc_170 dX11_one_4 rfl (by decide)).trans ?_
  refine (s_icmp_ne 44 9 mc_170 dX11_one_6 rfl rfl).trans ?_
  refine ite_c ?_ ?_
  · skip
    refine (s_aload_n 45 mc_170 dX11_one_44 rfl rfl rfl).trans ?_
    refine (s_getfI 48 mc_170 dX11_one_45 rfl mo_170 fs_11_296 ff_11_296 (Or.inl rfl)).trans ?_
    refine gI_c fun g2 => ?_
    refine (s_sipush 51 140 mc_170 dX11_one_48 rfl (by decide)).trans ?_
    refine (s_icmp_ne 92 54 mc_170 dX11_one_51 rfl rfl).trans ?_
    refine ite_c ?_ ?_
    · skip
      refine (s_aload_n 93 mc_170 dX11_one_92 rfl rfl rfl).trans ?_
      refine (s_iviI 96 mc_170 dX11_one_93 rfl mo_170 mm_11_359 (by decide) ms_165 mi_165 mr_165 ma_165 mo_165 (by decide) (Nat.le_of_ble_eq_true rfl) rfl rfl (Nat.le_of_ble_eq_true rfl)).trans ?_
      refine gd_c ?_
      refine bI_c fun r3 h1 => ?_
      refine (s_if_ne 101 99 mc_170 dX11_one_96 rfl rfl).trans ?_
      refine ite_c ?_ ?_
      · skip
        refine (s_aload_n 102 mc_170 dX11_one_101 rfl rfl rfl).trans ?_
        refine (s_getfI 105 mc_170 dX11_one_102 rfl mo_170 fs_11_296 ff_11_296 (Or.inl rfl)).trans ?_
        refine gI_c fun g4 => ?_
        refine (s_sipush 108 160 mc_170 dX11_one_105 rfl (by decide)).trans ?_
        refine (s_icmp_ne 116 111 mc_170 dX11_one_108 rfl rfl).trans ?_
        refine ite_c ?_ ?_
        · skip
          refine (s_aload_n 117 mc_170 dX11_one_116 rfl rfl rfl).trans ?_
          refine (s_getfI 120 mc_170 dX11_one_117 rfl mo_170 fs_11_296 ff_11_296 (Or.inl rfl)).trans ?_
          refine gI_c fun g5 => ?_
          refine (s_sipush 123 161 mc_170 dX11_one_120 rfl (by decide)).trans ?_
          refine (s_icmp_ne 131 126 mc_170 dX11_one_123 rfl rfl).trans ?_
          refine ite_c ?_ ?_
          · skip
            refine (s_aload_n 132 mc_170 dX11_one_131 rfl rfl rfl).trans ?_
            refine (s_getfI 135 mc_170 dX11_one_132 rfl mo_170 fs_11_296 ff_11_296 (Or.inl rfl)).trans ?_
            refine gI_c fun g6 => ?_
            refine (s_sipush 138 162 mc_170 dX11_one_135 rfl (by decide)).trans ?_
            refine (s_icmp_ne 146 141 mc_170 dX11_one_138 rfl rfl).trans ?_
            refine ite_c ?_ ?_
            · skip
              refine (s_iconst 147 (-1) mc_170 dX11_one_146 rfl (by decide)).trans ?_
              rfl
            · skip
              refine (s_bipush 143 15 mc_170 dX11_one_141 rfl (by decide)).trans ?_
              refine (s_goto 147 mc_170 dX11_one_143 rfl).trans ?_
              rfl
          · skip
            refine (s_bipush 128 14 mc_170 dX11_one_126 rfl (by decide)).trans ?_
            refine (s_goto 147 mc_170 dX11_one_128 rfl).trans ?_
            rfl
        · skip
          refine (s_bipush 113 13 mc_170 dX11_one_111 rfl (by decide)).trans ?_
          refine (s_goto 147 mc_170 dX11_one_113 rfl).trans ?_
          rfl
      · skip
        refine (s_iconst 100 0 mc_170 dX11_one_99 rfl (by decide)).trans ?_
        exact s_zret0 mc_170 dX11_one_100 mt_170
    · skip
      refine (s_aload_n 55 mc_170 dX11_one_54 rfl rfl rfl).trans ?_
      refine (s_iviI 58 mc_170 dX11_one_55 rfl mo_170 mm_11_350 (by decide) ms_164 mi_164 mr_164 ma_164 mo_164 (by decide) (Nat.le_of_ble_eq_true rfl) rfl rfl (Nat.le_of_ble_eq_true rfl)).trans ?_
      refine gd_c ?_
      refine bI_c fun r7 h2 => ?_
      refine (s_if_eq 78 61 mc_170 dX11_one_58 rfl rfl).trans ?_
      refine ite_c ?_ ?_
      · skip
        refine (s_iconst 79 0 mc_170 dX11_one_78 rfl (by decide)).trans ?_
        exact s_zret0 mc_170 dX11_one_79 mt_170
      · skip
        refine (s_aload_n 62 mc_170 dX11_one_61 rfl rfl rfl).trans ?_
        refine (s_iviI 65 mc_170 dX11_one_62 rfl mo_170 mm_11_353 (by decide) ms_168 mi_168 mr_168 ma_168 mo_168 (by decide) (Nat.le_of_ble_eq_true rfl) rfl rfl (Nat.le_of_ble_eq_true rfl)).trans ?_
        refine gd_c ?_
        refine bI_c fun r8 h3 => ?_
        refine (s_if_eq 78 68 mc_170 dX11_one_65 rfl rfl).trans ?_
        refine ite_c ?_ ?_
        · skip
          refine (s_iconst 79 0 mc_170 dX11_one_78 rfl (by decide)).trans ?_
          exact s_zret0 mc_170 dX11_one_79 mt_170
        · skip
          refine (s_aload_n 69 mc_170 dX11_one_68 rfl rfl rfl).trans ?_
          refine (s_sipush 72 141 mc_170 dX11_one_69 rfl (by decide)).trans ?_
          refine (s_iviI 75 mc_170 dX11_one_72 rfl mo_170 mm_11_356 (by decide) ms_161 mi_161 mr_161 ma_161 mo_161 (by decide) (Nat.le_of_ble_eq_true rfl) rfl rfl (Nat.le_of_ble_eq_true rfl)).trans ?_
          refine gd_c ?_
          refine bI_c fun r9 h4 => ?_
          refine (s_if_ne 80 78 mc_170 dX11_one_75 rfl rfl).trans ?_
          refine ite_c ?_ ?_
          · skip
            refine (s_aload_n 81 mc_170 dX11_one_80 rfl rfl rfl).trans ?_
            refine (s_dup 82 mc_170 dX11_one_81 rfl rfl).trans ?_
            refine (s_getfI 85 mc_170 dX11_one_82 rfl mo_170 fs_11_326 ff_11_326 (Or.inl rfl)).trans ?_
            refine gI_c fun g10 => ?_
            refine (s_iconst 86 1 mc_170 dX11_one_85 rfl (by decide)).trans ?_
            refine (s_isub 87 mc_170 dX11_one_86 rfl).trans ?_
            refine (s_putfI 90 mc_170 dX11_one_87 rfl mo_170 ff_11_326 rfl (Or.inl rfl)).trans ?_
            refine fI_c fun h5 => ?_
            refine (s_iconst 91 1 mc_170 dX11_one_90 rfl (by decide)).trans ?_
            exact s_zret1 mc_170 dX11_one_91 mt_170
          · skip
            refine (s_iconst 79 0 mc_170 dX11_one_78 rfl (by decide)).trans ?_
            exact s_zret0 mc_170 dX11_one_79 mt_170
  · skip
    refine (s_aload_n 10 mc_170 dX11_one_9 rfl rfl rfl).trans ?_
    refine (s_iviI 13 mc_170 dX11_one_10 rfl mo_170 mm_11_350 (by decide) ms_164 mi_164 mr_164 ma_164 mo_164 (by decide) (Nat.le_of_ble_eq_true rfl) rfl rfl (Nat.le_of_ble_eq_true rfl)).trans ?_
    refine gd_c ?_
    refine bI_c fun r11 h6 => ?_
    refine (s_if_eq 23 16 mc_170 dX11_one_13 rfl rfl).trans ?_
    refine ite_c ?_ ?_
    · skip
      refine (s_iconst 24 0 mc_170 dX11_one_23 rfl (by decide)).trans ?_
      exact s_zret0 mc_170 dX11_one_24 mt_170
    · skip
      refine (s_aload_n 17 mc_170 dX11_one_16 rfl rfl rfl).trans ?_
      refine (s_iviI 20 mc_170 dX11_one_17 rfl mo_170 mm_11_347 (by decide) ms_170 mi_170 mr_170 ma_170 mo_170 (by decide) (Nat.le_of_ble_eq_true rfl) rfl rfl (Nat.le_of_ble_eq_true rfl)).trans ?_
      refine gd_c ?_
      refine bI_c fun r12 h7 => ?_
      refine (s_if_ne 25 23 mc_170 dX11_one_20 rfl rfl).trans ?_
      refine ite_c ?_ ?_
      · skip
        refine (s_aload_n 26 mc_170 dX11_one_25 rfl rfl rfl).trans ?_
        refine (s_dup 27 mc_170 dX11_one_26 rfl rfl).trans ?_
        refine (s_getfI 30 mc_170 dX11_one_27 rfl mo_170 fs_11_326 ff_11_326 (Or.inl rfl)).trans ?_
        refine gI_c fun g13 => ?_
        refine (s_iconst 31 1 mc_170 dX11_one_30 rfl (by decide)).trans ?_
        refine (s_isub 32 mc_170 dX11_one_31 rfl).trans ?_
        refine (s_putfI 35 mc_170 dX11_one_32 rfl mo_170 ff_11_326 rfl (Or.inl rfl)).trans ?_
        refine fI_c fun h8 => ?_
        refine (s_aload_n 36 mc_170 dX11_one_35 rfl rfl rfl).trans ?_
        refine (s_bipush 38 16 mc_170 dX11_one_36 rfl (by decide)).trans ?_
        refine (s_iconst 39 0 mc_170 dX11_one_38 rfl (by decide)).trans ?_
        refine (s_iviV 42 mc_170 dX11_one_39 rfl mo_170 mm_11_333 (by decide) ms_163 mi_163 mr_163 ma_163 mo_163 (by decide) (Nat.le_of_ble_eq_true rfl) rfl rfl (Nat.le_of_ble_eq_true rfl)).trans ?_
        refine gd_c ?_
        refine bV_c fun h9 => ?_
        refine (s_iconst 43 1 mc_170 dX11_one_42 rfl (by decide)).trans ?_
        exact s_zret1 mc_170 dX11_one_43 mt_170
      · skip
        refine (s_iconst 24 0 mc_170 dX11_one_23 rfl (by decide)).trans ?_
        exact s_zret0 mc_170 dX11_one_24 mt_170
theorem b_170_147 {X : Ctx} {d : Nat} (x0 : Nat) (v1 : Option Value) (s0 : Int32) (h : Hp) : sem (X, K X d) 170 147 [some (.ref x0), v1] [.int s0] h = if ¬ s0 = (-1) then gd (hS h x0 = (12, 0)) (bV (K X d 159 [.ref x0] h) fun h1 => gd (hS h1 x0 = (12, 0)) (bI (K X d 165 [.ref x0] h1) fun r1 h2 => if ¬ r1 = 0 then gd (hS h2 x0 = (12, 0)) (bV (K X d 163 [.ref x0, .int s0, .int 0] h2) fun h3 => some (some (.int 1), h3)) else some (some (.int 0), h2))) else gd (hS h x0 = (12, 0)) (bI (K X d 160 [.ref x0, .int 1] h) fun r2 h4 => gd (okN .boolean r2) (some (some (.int r2), h4))) := by
  refine (s_istore_n 148 mc_170 dX11_one_147 rfl rfl (Nat.le_of_ble_eq_true rfl) rfl).trans ?_
  refine (s_iload_n 149 mc_170 dX11_one_148 rfl rfl rfl).trans ?_
  refine (s_iconst 150 (-1) mc_170 dX11_one_149 rfl (by decide)).trans ?_
  refine (s_icmp_ne 159 153 mc_170 dX11_one_150 rfl rfl).trans ?_
  refine ite_c ?_ ?_
  · skip
    refine (s_aload_n 160 mc_170 dX11_one_159 rfl rfl rfl).trans ?_
    refine (s_iviV 163 mc_170 dX11_one_160 rfl mo_170 mm_11_320 (by decide) ms_159 mi_159 mr_159 ma_159 mo_159 (by decide) (Nat.le_of_ble_eq_true rfl) rfl rfl (Nat.le_of_ble_eq_true rfl)).trans ?_
    refine gd_c ?_
    refine bV_c fun h1 => ?_
    refine (s_aload_n 164 mc_170 dX11_one_163 rfl rfl rfl).trans ?_
    refine (s_iviI 167 mc_170 dX11_one_164 rfl mo_170 mm_11_359 (by decide) ms_165 mi_165 mr_165 ma_165 mo_165 (by decide) (Nat.le_of_ble_eq_true rfl) rfl rfl (Nat.le_of_ble_eq_true rfl)).trans ?_
    refine gd_c ?_
    refine bI_c fun r1 h2 => ?_
    refine (s_if_ne 172 170 mc_170 dX11_one_167 rfl rfl).trans ?_
    refine ite_c ?_ ?_
    · skip
      refine (s_aload_n 173 mc_170 dX11_one_172 rfl rfl rfl).trans ?_
      refine (s_iload_n 174 mc_170 dX11_one_173 rfl rfl rfl).trans ?_
      refine (s_iconst 175 0 mc_170 dX11_one_174 rfl (by decide)).trans ?_
      refine (s_iviV 178 mc_170 dX11_one_175 rfl mo_170 mm_11_333 (by decide) ms_163 mi_163 mr_163 ma_163 mo_163 (by decide) (Nat.le_of_ble_eq_true rfl) rfl rfl (Nat.le_of_ble_eq_true rfl)).trans ?_
      refine gd_c ?_
      refine bV_c fun h3 => ?_
      refine (s_iconst 179 1 mc_170 dX11_one_178 rfl (by decide)).trans ?_
      exact s_zret1 mc_170 dX11_one_179 mt_170
    · skip
      refine (s_iconst 171 0 mc_170 dX11_one_170 rfl (by decide)).trans ?_
      exact s_zret0 mc_170 dX11_one_171 mt_170
  · skip
    refine (s_aload_n 154 mc_170 dX11_one_153 rfl rfl rfl).trans ?_
    refine (s_iconst 155 1 mc_170 dX11_one_154 rfl (by decide)).trans ?_
    refine (s_iviI 158 mc_170 dX11_one_155 rfl mo_170 mm_11_317 (by decide) ms_160 mi_160 mr_160 ma_160 mo_160 (by decide) (Nat.le_of_ble_eq_true rfl) rfl rfl (Nat.le_of_ble_eq_true rfl)).trans ?_
    refine gd_c ?_
    refine bI_c fun r2 h4 => ?_
    exact s_zret mc_170 dX11_one_158 mt_170
/-- FiveLandsModel.aKind()Z -/
theorem k_171 {X : Ctx} {d : Nat} (x0 : Nat) (h : Hp) : K X (d + 1) 171 [.ref x0] h = gI h 11 x0 37 fun g1 => bI (K X d 142 [.int g1, .int 40, .int 45] h) fun r2 h1 => if ¬ r2 = 0 then gd (hS h1 x0 = (12, 0)) (bV (K X d 159 [.ref x0] h1) fun h2 => some (some (.int 1), h2)) else gd (hS h1 x0 = (12, 0)) (bI (K X d 160 [.ref x0, .int 1] h1) fun r3 h3 => gd (okN .boolean r3) (some (some (.int r3), h3))) := by
  show sem (X, K X d) 171 0 [some (.ref x0)] [] h = _
  refine (s_aload_n 1 mc_171 dX11_aKind_0 rfl rfl rfl).trans ?_
  refine (s_getfI 4 mc_171 dX11_aKind_1 rfl mo_171 fs_11_296 ff_11_296 (Or.inl rfl)).trans ?_
  refine gI_c fun g1 => ?_
  refine (s_bipush 6 40 mc_171 dX11_aKind_4 rfl (by decide)).trans ?_
  refine (s_bipush 8 45 mc_171 dX11_aKind_6 rfl (by decide)).trans ?_
  refine (s_istI 11 mc_171 dX11_aKind_8 rfl mo_171 mm_11_1 (by decide) ms_142 mr_142 ma_142 (Nat.le_of_ble_eq_true rfl) rfl rfl (Nat.le_of_ble_eq_true rfl)).trans ?_
  refine bI_c fun r2 h1 => ?_
  refine (s_if_ne 20 14 mc_171 dX11_aKind_11 rfl rfl).trans ?_
  refine ite_c ?_ ?_
  · skip
    refine (s_aload_n 21 mc_171 dX11_aKind_20 rfl rfl rfl).trans ?_
    refine (s_iviV 24 mc_171 dX11_aKind_21 rfl mo_171 mm_11_320 (by decide) ms_159 mi_159 mr_159 ma_159 mo_159 (by decide) (Nat.le_of_ble_eq_true rfl) rfl rfl (Nat.le_of_ble_eq_true rfl)).trans ?_
    refine gd_c ?_
    refine bV_c fun h2 => ?_
    refine (s_iconst 25 1 mc_171 dX11_aKind_24 rfl (by decide)).trans ?_
    exact s_zret1 mc_171 dX11_aKind_25 mt_171
  · skip
    refine (s_aload_n 15 mc_171 dX11_aKind_14 rfl rfl rfl).trans ?_
    refine (s_iconst 16 1 mc_171 dX11_aKind_15 rfl (by decide)).trans ?_
    refine (s_iviI 19 mc_171 dX11_aKind_16 rfl mo_171 mm_11_317 (by decide) ms_160 mi_160 mr_160 ma_160 mo_160 (by decide) (Nat.le_of_ble_eq_true rfl) rfl rfl (Nat.le_of_ble_eq_true rfl)).trans ?_
    refine gd_c ?_
    refine bI_c fun r3 h3 => ?_
    exact s_zret mc_171 dX11_aKind_19 mt_171
/-- FiveLandsModel.aRule(I)Z -/
theorem k_172 {X : Ctx} {d : Nat} (x0 : Nat) (x1 : Int32) (h : Hp) : K X (d + 1) 172 [.ref x0, .int x1] h = gI h 11 x0 34 fun g1 => gR h 11 x0 10 fun g2 => wI h g2 (120 + g1) x1 fun h1 => gR h1 11 x0 11 fun g3 => gI h1 11 x0 37 fun g4 => wI h1 g3 (120 + g1) (g4 - 40) fun h2 => if ¬ x1 = 1 then sem (X, K X d) 172 42 [some (.ref x0), some (.int x1), some (.int (120 + g1)), none] [] h2 else gd (hS h2 x0 = (12, 0)) (bI (K X d 171 [.ref x0] h2) fun r5 h3 => if ¬ r5 = 0 then sem (X, K X d) 172 42 [some (.ref x0), some (.int x1), some (.int (120 + g1)), none] [] h3 else some (some (.int 0), h3)) := by
  show sem (X, K X d) 172 0 [some (.ref x0), some (.int x1), none, none] [] h = _
  refine (s_bipush 2 120 mc_172 dX11_aRule_0 rfl (by decide)).trans ?_
  refine (s_aload_n 3 mc_172 dX11_aRule_2 rfl rfl rfl).trans ?_
  refine (s_getfI 6 mc_172 dX11_aRule_3 rfl mo_172 fs_11_362 ff_11_362 (Or.inl rfl)).trans ?_
  refine gI_c fun g1 => ?_
  refine (s_iadd 7 mc_172 dX11_aRule_6 rfl).trans ?_
  refine (s_istore_n 8 mc_172 dX11_aRule_7 rfl rfl (Nat.le_of_ble_eq_true rfl) rfl).trans ?_
  refine (s_aload_n 9 mc_172 dX11_aRule_8 rfl rfl rfl).trans ?_
  refine (s_getfR 12 mc_172 dX11_aRule_9 rfl mo_172 fs_11_44 ff_11_44 rfl).trans ?_
  refine gR_c fun g2 => ?_
  refine (s_iload_n 13 mc_172 dX11_aRule_12 rfl rfl rfl).trans ?_
  refine (s_iload_n 14 mc_172 dX11_aRule_13 rfl rfl rfl).trans ?_
  refine (s_iastore 15 mc_172 dX11_aRule_14 rfl).trans ?_
  refine wI_c fun h1 => ?_
  refine (s_aload_n 16 mc_172 dX11_aRule_15 rfl rfl rfl).trans ?_
  refine (s_getfR 19 mc_172 dX11_aRule_16 rfl mo_172 fs_11_47 ff_11_47 rfl).trans ?_
  refine gR_c fun g3 => ?_
  refine (s_iload_n 20 mc_172 dX11_aRule_19 rfl rfl rfl).trans ?_
  refine (s_aload_n 21 mc_172 dX11_aRule_20 rfl rfl rfl).trans ?_
  refine (s_getfI 24 mc_172 dX11_aRule_21 rfl mo_172 fs_11_296 ff_11_296 (Or.inl rfl)).trans ?_
  refine gI_c fun g4 => ?_
  refine (s_bipush 26 40 mc_172 dX11_aRule_24 rfl (by decide)).trans ?_
  refine (s_isub 27 mc_172 dX11_aRule_26 rfl).trans ?_
  refine (s_iastore 28 mc_172 dX11_aRule_27 rfl).trans ?_
  refine wI_c fun h2 => ?_
  refine (s_iload_n 29 mc_172 dX11_aRule_28 rfl rfl rfl).trans ?_
  refine (s_iconst 30 1 mc_172 dX11_aRule_29 rfl (by decide)).trans ?_
  refine (s_icmp_ne 42 33 mc_172 dX11_aRule_30 rfl rfl).trans ?_
  refine ite_c ?_ ?_
  · skip
    rfl
  · skip
    refine (s_aload_n 34 mc_172 dX11_aRule_33 rfl rfl rfl).trans ?_
    refine (s_iviI 37 mc_172 dX11_aRule_34 rfl mo_172 mm_11_365 (by decide) ms_171 mi_171 mr_171 ma_171 mo_171 (by decide) (Nat.le_of_ble_eq_true rfl) rfl rfl (Nat.le_of_ble_eq_true rfl)).trans ?_
    refine gd_c ?_
    refine bI_c fun r5 h3 => ?_
    refine (s_if_ne 42 40 mc_172 dX11_aRule_37 rfl rfl).trans ?_
    refine ite_c ?_ ?_
    · skip
      rfl
    · skip
      refine (s_iconst 41 0 mc_172 dX11_aRule_40 rfl (by decide)).trans ?_
      exact s_zret0 mc_172 dX11_aRule_41 mt_172
theorem b_172_42 {X : Ctx} {d : Nat} (x0 : Nat) (x1 : Int32) (x2 : Int32) (v3 : Option Value)  (h : Hp) : sem (X, K X d) 172 42 [some (.ref x0), some (.int x1), some (.int x2), v3] [] h = gR h 11 x0 12 fun g1 => gI h 11 x0 33 fun g2 => wI h g1 x2 g2 fun h1 => if ¬ x1 = 1 then sem (X, K X d) 172 66 [some (.ref x0), some (.int x1), some (.int x2), v3] [] h1 else gd (hS h1 x0 = (12, 0)) (bI (K X d 165 [.ref x0] h1) fun r3 h2 => if ¬ r3 = 0 then sem (X, K X d) 172 66 [some (.ref x0), some (.int x1), some (.int x2), v3] [] h2 else some (some (.int 0), h2)) := by
  refine (s_aload_n 43 mc_172 dX11_aRule_42 rfl rfl rfl).trans ?_
  refine (s_getfR 46 mc_172 dX11_aRule_43 rfl mo_172 fs_11_50 ff_11_50 rfl).trans ?_
  refine gR_c fun g1 => ?_
  refine (s_iload_n 47 mc_172 dX11_aRule_46 rfl rfl rfl).trans ?_
  refine (s_aload_n 48 mc_172 dX11_aRule_47 rfl rfl rfl).trans ?_
  refine (s_getfI 51 mc_172 dX11_aRule_48 rfl mo_172 fs_11_323 ff_11_323 (Or.inl rfl)).trans ?_
  refine gI_c fun g2 => ?_
  refine (s_iastore 52 mc_172 dX11_aRule_51 rfl).trans ?_
  refine wI_c fun h1 => ?_
  refine (s_iload_n 53 mc_172 dX11_aRule_52 rfl rfl rfl).trans ?_
  refine (s_iconst 54 1 mc_172 dX11_aRule_53 rfl (by decide)).trans ?_
  refine (s_icmp_ne 66 57 mc_172 dX11_aRule_54 rfl rfl).trans ?_
  refine ite_c ?_ ?_
  · skip
    rfl
  · skip
    refine (s_aload_n 58 mc_172 dX11_aRule_57 rfl rfl rfl).trans ?_
    refine (s_iviI 61 mc_172 dX11_aRule_58 rfl mo_172 mm_11_359 (by decide) ms_165 mi_165 mr_165 ma_165 mo_165 (by decide) (Nat.le_of_ble_eq_true rfl) rfl rfl (Nat.le_of_ble_eq_true rfl)).trans ?_
    refine gd_c ?_
    refine bI_c fun r3 h2 => ?_
    refine (s_if_ne 66 64 mc_172 dX11_aRule_61 rfl rfl).trans ?_
    refine ite_c ?_ ?_
    · skip
      rfl
    · skip
      refine (s_iconst 65 0 mc_172 dX11_aRule_64 rfl (by decide)).trans ?_
      exact s_zret0 mc_172 dX11_aRule_65 mt_172
theorem b_172_66 {X : Ctx} {d : Nat} (x0 : Nat) (x1 : Int32) (x2 : Int32) (v3 : Option Value)  (h : Hp) : sem (X, K X d) 172 66 [some (.ref x0), some (.int x1), some (.int x2), v3] [] h = gR h 11 x0 13 fun g1 => gI h 11 x0 33 fun g2 => wI h g1 x2 g2 fun h1 => gR h1 11 x0 14 fun g3 => gI h1 11 x0 33 fun g4 => wI h1 g3 x2 g4 fun h2 => if ¬ x1 = 0 then sem (X, K X d) 172 95 [some (.ref x0), some (.int x1), some (.int x2), v3] [.int 0] h2 else sem (X, K X d) 172 95 [some (.ref x0), some (.int x1), some (.int x2), v3] [.int 1] h2 := by
  refine (s_aload_n 67 mc_172 dX11_aRule_66 rfl rfl rfl).trans ?_
  refine (s_getfR 70 mc_172 dX11_aRule_67 rfl mo_172 fs_11_53 ff_11_53 rfl).trans ?_
  refine gR_c fun g1 => ?_
  refine (s_iload_n 71 mc_172 dX11_aRule_70 rfl rfl rfl).trans ?_
  refine (s_aload_n 72 mc_172 dX11_aRule_71 rfl rfl rfl).trans ?_
  refine (s_getfI 75 mc_172 dX11_aRule_72 rfl mo_172 fs_11_323 ff_11_323 (Or.inl rfl)).trans ?_
  refine gI_c fun g2 => ?_
  refine (s_iastore 76 mc_172 dX11_aRule_75 rfl).trans ?_
  refine wI_c fun h1 => ?_
  refine (s_aload_n 77 mc_172 dX11_aRule_76 rfl rfl rfl).trans ?_
  refine (s_getfR 80 mc_172 dX11_aRule_77 rfl mo_172 fs_11_56 ff_11_56 rfl).trans ?_
  refine gR_c fun g3 => ?_
  refine (s_iload_n 81 mc_172 dX11_aRule_80 rfl rfl rfl).trans ?_
  refine (s_aload_n 82 mc_172 dX11_aRule_81 rfl rfl rfl).trans ?_
  refine (s_getfI 85 mc_172 dX11_aRule_82 rfl mo_172 fs_11_323 ff_11_323 (Or.inl rfl)).trans ?_
  refine gI_c fun g4 => ?_
  refine (s_iastore 86 mc_172 dX11_aRule_85 rfl).trans ?_
  refine wI_c fun h2 => ?_
  refine (s_iload_n 87 mc_172 dX11_aRule_86 rfl rfl rfl).trans ?_
  refine (s_if_ne 94 90 mc_172 dX11_aRule_87 rfl rfl).trans ?_
  refine ite_c ?_ ?_
  · skip
    refine (s_iconst 95 0 mc_172 dX11_aRule_94 rfl (by decide)).trans ?_
    rfl
  · skip
    refine (s_iconst 91 1 mc_172 dX11_aRule_90 rfl (by decide)).trans ?_
    refine (s_goto 95 mc_172 dX11_aRule_91 rfl).trans ?_
    rfl
theorem b_172_95 {X : Ctx} {d : Nat} (x0 : Nat) (x1 : Int32) (v2 : Option Value) (v3 : Option Value) (s0 : Int32) (h : Hp) : sem (X, K X d) 172 95 [some (.ref x0), some (.int x1), v2, v3] [.int s0] h = if ¬ x1 = 1 then sem (X, K X d) 172 115 [some (.ref x0), some (.int x1), v2, some (.int s0)] [] h else gI h 11 x0 37 fun g1 => if ¬ g1 = 3 then sem (X, K X d) 172 115 [some (.ref x0), some (.int x1), v2, some (.int s0)] [] h else gd (hS h x0 = (12, 0)) (bV (K X d 159 [.ref x0] h) fun h1 => sem (X, K X d) 172 115 [some (.ref x0), some (.int x1), v2, some (.int 1)] [] h1) := by
  refine (s_istore_n 96 mc_172 dX11_aRule_95 rfl rfl (Nat.le_of_ble_eq_true rfl) rfl).trans ?_
  refine (s_iload_n 97 mc_172 dX11_aRule_96 rfl rfl rfl).trans ?_
  refine (s_iconst 98 1 mc_172 dX11_aRule_97 rfl (by decide)).trans ?_
  refine (s_icmp_ne 115 101 mc_172 dX11_aRule_98 rfl rfl).trans ?_
  refine ite_c ?_ ?_
  · skip
    rfl
  · skip
    refine (s_aload_n 102 mc_172 dX11_aRule_101 rfl rfl rfl).trans ?_
    refine (s_getfI 105 mc_172 dX11_aRule_102 rfl mo_172 fs_11_296 ff_11_296 (Or.inl rfl)).trans ?_
    refine gI_c fun g1 => ?_
    refine (s_iconst 106 3 mc_172 dX11_aRule_105 rfl (by decide)).trans ?_
    refine (s_icmp_ne 115 109 mc_172 dX11_aRule_106 rfl rfl).trans ?_
    refine ite_c ?_ ?_
    · skip
      rfl
    · skip
      refine (s_aload_n 110 mc_172 dX11_aRule_109 rfl rfl rfl).trans ?_
      refine (s_iviV 113 mc_172 dX11_aRule_110 rfl mo_172 mm_11_320 (by decide) ms_159 mi_159 mr_159 ma_159 mo_159 (by decide) (Nat.le_of_ble_eq_true rfl) rfl rfl (Nat.le_of_ble_eq_true rfl)).trans ?_
      refine gd_c ?_
      refine bV_c fun h1 => ?_
      refine (s_iconst 114 1 mc_172 dX11_aRule_113 rfl (by decide)).trans ?_
      refine (s_istore_n 115 mc_172 dX11_aRule_114 rfl rfl (Nat.le_of_ble_eq_true rfl) rfl).trans ?_
      rfl
theorem b_172_115 {X : Ctx} {d : Nat} (x0 : Nat) (v1 : Option Value) (x2 : Int32) (x3 : Int32)  (h : Hp) : sem (X, K X d) 172 115 [some (.ref x0), v1, some (.int x2), some (.int x3)] [] h = if ¬ x3 = 0 then gd (hS h x0 = (12, 0)) (bI (K X d 168 [.ref x0] h) fun r1 h1 => if ¬ r1 = 0 then gR h1 11 x0 14 fun g2 => gI h1 11 x0 33 fun g3 => wI h1 g2 x2 g3 fun h2 => some (some (.int 1), h2) else some (some (.int 0), h1)) else some (some (.int 1), h) := by
  refine (s_iload_n 116 mc_172 dX11_aRule_115 rfl rfl rfl).trans ?_
  refine (s_if_ne 121 119 mc_172 dX11_aRule_116 rfl rfl).trans ?_
  refine ite_c ?_ ?_
  · skip
    refine (s_aload_n 122 mc_172 dX11_aRule_121 rfl rfl rfl).trans ?_
    refine (s_iviI 125 mc_172 dX11_aRule_122 rfl mo_172 mm_11_353 (by decide) ms_168 mi_168 mr_168 ma_168 mo_168 (by decide) (Nat.le_of_ble_eq_true rfl) rfl rfl (Nat.le_of_ble_eq_true rfl)).trans ?_
    refine gd_c ?_
    refine bI_c fun r1 h1 => ?_
    refine (s_if_ne 130 128 mc_172 dX11_aRule_125 rfl rfl).trans ?_
    refine ite_c ?_ ?_
    · skip
      refine (s_aload_n 131 mc_172 dX11_aRule_130 rfl rfl rfl).trans ?_
      refine (s_getfR 134 mc_172 dX11_aRule_131 rfl mo_172 fs_11_56 ff_11_56 rfl).trans ?_
      refine gR_c fun g2 => ?_
      refine (s_iload_n 135 mc_172 dX11_aRule_134 rfl rfl rfl).trans ?_
      refine (s_aload_n 136 mc_172 dX11_aRule_135 rfl rfl rfl).trans ?_
      refine (s_getfI 139 mc_172 dX11_aRule_136 rfl mo_172 fs_11_323 ff_11_323 (Or.inl rfl)).trans ?_
      refine gI_c fun g3 => ?_
      refine (s_iastore 140 mc_172 dX11_aRule_139 rfl).trans ?_
      refine wI_c fun h2 => ?_
      refine (s_iconst 141 1 mc_172 dX11_aRule_140 rfl (by decide)).trans ?_
      exact s_zret1 mc_172 dX11_aRule_141 mt_172
    · skip
      refine (s_iconst 129 0 mc_172 dX11_aRule_128 rfl (by decide)).trans ?_
      exact s_zret0 mc_172 dX11_aRule_129 mt_172
  · skip
    refine (s_iconst 120 1 mc_172 dX11_aRule_119 rfl (by decide)).trans ?_
    exact s_zret1 mc_172 dX11_aRule_120 mt_172
/-- FiveLandsModel.aStep()Z -/
theorem k_173 {X : Ctx} {d : Nat} (x0 : Nat) (h : Hp) : K X (d + 1) 173 [.ref x0] h = gR h 11 x0 17 fun g1 => aI X h g1 6 fun g2 => gI h 11 x0 39 fun g3 => gR h 11 x0 17 fun g4 => aI X h g4 6 fun g5 => if ¬ g5 = 0 then gR h 11 x0 18 fun g6 => aI X h g6 ((120 + g2) - 1) fun g7 => sem (X, K X d) 173 41 [some (.ref x0), some (.int (120 + g2)), some (.int g3)] [.int (g7 + 1), .ref x0] h else sem (X, K X d) 173 41 [some (.ref x0), some (.int (120 + g2)), some (.int g3)] [.int 0, .ref x0] h := by
  show sem (X, K X d) 173 0 [some (.ref x0), none, none] [] h = _
  refine (s_bipush 2 120 mc_173 dX11_aStep_0 rfl (by decide)).trans ?_
  refine (s_aload_n 3 mc_173 dX11_aStep_2 rfl rfl rfl).trans ?_
  refine (s_getfR 6 mc_173 dX11_aStep_3 rfl mo_173 fs_11_65 ff_11_65 rfl).trans ?_
  refine gR_c fun g1 => ?_
  refine (s_bipush 8 6 mc_173 dX11_aStep_6 rfl (by decide)).trans ?_
  refine (s_iaload 9 mc_173 dX11_aStep_8 rfl).trans ?_
  refine aI_c fun g2 => ?_
  refine (s_iadd 10 mc_173 dX11_aStep_9 rfl).trans ?_
  refine (s_istore_n 11 mc_173 dX11_aStep_10 rfl rfl (Nat.le_of_ble_eq_true rfl) rfl).trans ?_
  refine (s_aload_n 12 mc_173 dX11_aStep_11 rfl rfl rfl).trans ?_
  refine (s_getfI 15 mc_173 dX11_aStep_12 rfl mo_173 fs_11_308 ff_11_308 (Or.inl rfl)).trans ?_
  refine gI_c fun g3 => ?_
  refine (s_istore_n 16 mc_173 dX11_aStep_15 rfl rfl (Nat.le_of_ble_eq_true rfl) rfl).trans ?_
  refine (s_aload_n 17 mc_173 dX11_aStep_16 rfl rfl rfl).trans ?_
  refine (s_aload_n 18 mc_173 dX11_aStep_17 rfl rfl rfl).trans ?_
  refine (s_getfR 21 mc_173 dX11_aStep_18 rfl mo_173 fs_11_65 ff_11_65 rfl).trans ?_
  refine gR_c fun g4 => ?_
  refine (s_bipush 23 6 mc_173 dX11_aStep_21 rfl (by decide)).trans ?_
  refine (s_iaload 24 mc_173 dX11_aStep_23 rfl).trans ?_
  refine aI_c fun g5 => ?_
  refine (s_if_ne 31 27 mc_173 dX11_aStep_24 rfl rfl).trans ?_
  refine ite_c ?_ ?_
  · skip
    refine (s_aload_n 32 mc_173 dX11_aStep_31 rfl rfl rfl).trans ?_
    refine (s_getfR 35 mc_173 dX11_aStep_32 rfl mo_173 fs_11_68 ff_11_68 rfl).trans ?_
    refine gR_c fun g6 => ?_
    refine (s_iload_n 36 mc_173 dX11_aStep_35 rfl rfl rfl).trans ?_
    refine (s_iconst 37 1 mc_173 dX11_aStep_36 rfl (by decide)).trans ?_
    refine (s_isub 38 mc_173 dX11_aStep_37 rfl).trans ?_
    refine (s_iaload 39 mc_173 dX11_aStep_38 rfl).trans ?_
    refine aI_c fun g7 => ?_
    refine (s_iconst 40 1 mc_173 dX11_aStep_39 rfl (by decide)).trans ?_
    refine (s_iadd 41 mc_173 dX11_aStep_40 rfl).trans ?_
    rfl
  · skip
    refine (s_iconst 28 0 mc_173 dX11_aStep_27 rfl (by decide)).trans ?_
    refine (s_goto 41 mc_173 dX11_aStep_28 rfl).trans ?_
    rfl
theorem b_173_41 {X : Ctx} {d : Nat} (x0 : Nat) (x1 : Int32) (x2 : Int32) (s0 : Nat) (s1 : Int32) (h : Hp) : sem (X, K X d) 173 41 [some (.ref x0), some (.int x1), some (.int x2)] [.int s1, .ref s0] h = gd (hS h s0 = (12, 0)) (bI (K X d 162 [.ref s0, .int s1, .int 999999] h) fun r1 h1 => if ¬ r1 = 0 then gR h1 11 x0 18 fun g2 => wI h1 g2 x1 x2 fun h2 => gI h2 11 x0 39 fun g3 => gd (hS h2 x0 = (12, 0)) (bI (K X d 162 [.ref x0, .int 0, .int 100] h2) fun r4 h3 => if ¬ r4 = 0 then gR h3 11 x0 19 fun g5 => wI h3 g5 x1 g3 fun h4 => gR h4 11 x0 17 fun g6 => aI X h4 g6 6 fun g7 => wI h4 g6 6 (g7 + 1) fun h5 => some (some (.int 1), h5) else some (some (.int 0), h3)) else some (some (.int 0), h1)) := by
  refine (s_ldc 43 999999 mc_173 dX11_aStep_41 rfl mo_173 cs_11_214 (by decide)).trans ?_
  refine (s_iviI 46 mc_173 dX11_aStep_43 rfl mo_173 mm_11_340 (by decide) ms_162 mi_162 mr_162 ma_162 mo_162 (by decide) (Nat.le_of_ble_eq_true rfl) rfl rfl (Nat.le_of_ble_eq_true rfl)).trans ?_
  refine gd_c ?_
  refine bI_c fun r1 h1 => ?_
  refine (s_if_ne 51 49 mc_173 dX11_aStep_46 rfl rfl).trans ?_
  refine ite_c ?_ ?_
  · skip
    refine (s_aload_n 52 mc_173 dX11_aStep_51 rfl rfl rfl).trans ?_
    refine (s_getfR 55 mc_173 dX11_aStep_52 rfl mo_173 fs_11_68 ff_11_68 rfl).trans ?_
    refine gR_c fun g2 => ?_
    refine (s_iload_n 56 mc_173 dX11_aStep_55 rfl rfl rfl).trans ?_
    refine (s_iload_n 57 mc_173 dX11_aStep_56 rfl rfl rfl).trans ?_
    refine (s_iastore 58 mc_173 dX11_aStep_57 rfl).trans ?_
    refine wI_c fun h2 => ?_
    refine (s_aload_n 59 mc_173 dX11_aStep_58 rfl rfl rfl).trans ?_
    refine (s_getfI 62 mc_173 dX11_aStep_59 rfl mo_173 fs_11_308 ff_11_308 (Or.inl rfl)).trans ?_
    refine gI_c fun g3 => ?_
    refine (s_istore_n 63 mc_173 dX11_aStep_62 rfl rfl (Nat.le_of_ble_eq_true rfl) rfl).trans ?_
    refine (s_aload_n 64 mc_173 dX11_aStep_63 rfl rfl rfl).trans ?_
    refine (s_iconst 65 0 mc_173 dX11_aStep_64 rfl (by decide)).trans ?_
    refine (s_bipush 67 100 mc_173 dX11_aStep_65 rfl (by decide)).trans ?_
    refine (s_iviI 70 mc_173 dX11_aStep_67 rfl mo_173 mm_11_340 (by decide) ms_162 mi_162 mr_162 ma_162 mo_162 (by decide) (Nat.le_of_ble_eq_true rfl) rfl rfl (Nat.le_of_ble_eq_true rfl)).trans ?_
    refine gd_c ?_
    refine bI_c fun r4 h3 => ?_
    refine (s_if_ne 75 73 mc_173 dX11_aStep_70 rfl rfl).trans ?_
    refine ite_c ?_ ?_
    · skip
      refine (s_aload_n 76 mc_173 dX11_aStep_75 rfl rfl rfl).trans ?_
      refine (s_getfR 79 mc_173 dX11_aStep_76 rfl mo_173 fs_11_71 ff_11_71 rfl).trans ?_
      refine gR_c fun g5 => ?_
      refine (s_iload_n 80 mc_173 dX11_aStep_79 rfl rfl rfl).trans ?_
      refine (s_iload_n 81 mc_173 dX11_aStep_80 rfl rfl rfl).trans ?_
      refine (s_iastore 82 mc_173 dX11_aStep_81 rfl).trans ?_
      refine wI_c fun h4 => ?_
      refine (s_aload_n 83 mc_173 dX11_aStep_82 rfl rfl rfl).trans ?_
      refine (s_getfR 86 mc_173 dX11_aStep_83 rfl mo_173 fs_11_65 ff_11_65 rfl).trans ?_
      refine gR_c fun g6 => ?_
      refine (s_bipush 88 6 mc_173 dX11_aStep_86 rfl (by decide)).trans ?_
      refine (s_dup2 89 mc_173 dX11_aStep_88 rfl rfl rfl).trans ?_
      refine (s_iaload 90 mc_173 dX11_aStep_89 rfl).trans ?_
      refine aI_c fun g7 => ?_
      refine (s_iconst 91 1 mc_173 dX11_aStep_90 rfl (by decide)).trans ?_
      refine (s_iadd 92 mc_173 dX11_aStep_91 rfl).trans ?_
      refine (s_iastore 93 mc_173 dX11_aStep_92 rfl).trans ?_
      refine wI_c fun h5 => ?_
      refine (s_iconst 94 1 mc_173 dX11_aStep_93 rfl (by decide)).trans ?_
      exact s_zret1 mc_173 dX11_aStep_94 mt_173
    · skip
      refine (s_iconst 74 0 mc_173 dX11_aStep_73 rfl (by decide)).trans ?_
      exact s_zret0 mc_173 dX11_aStep_74 mt_173
  · skip
    refine (s_iconst 50 0 mc_173 dX11_aStep_49 rfl (by decide)).trans ?_
    exact s_zret0 mc_173 dX11_aStep_50 mt_173
/-- FiveLandsModel.relief()I -/
theorem k_174 {X : Ctx} {d : Nat} (x0 : Nat) (h : Hp) : K X (d + 1) 174 [.ref x0] h = gI h 11 x0 37 fun g1 => if ¬ g1 = 7 then sem (X, K X d) 174 20 [some (.ref x0), none] [] h else gI h 11 x0 45 fun g2 => if ¬ g2 = 0 then sem (X, K X d) 174 20 [some (.ref x0), none] [] h else sem (X, K X d) 174 47 [some (.ref x0), none] [.int 0] h := by
  show sem (X, K X d) 174 0 [some (.ref x0), none] [] h = _
  refine (s_aload_n 1 mc_174 dX11_relief_0 rfl rfl rfl).trans ?_
  refine (s_getfI 4 mc_174 dX11_relief_1 rfl mo_174 fs_11_296 ff_11_296 (Or.inl rfl)).trans ?_
  refine gI_c fun g1 => ?_
  refine (s_bipush 6 7 mc_174 dX11_relief_4 rfl (by decide)).trans ?_
  refine (s_icmp_ne 20 9 mc_174 dX11_relief_6 rfl rfl).trans ?_
  refine ite_c ?_ ?_
  · skip
    rfl
  · skip
    refine (s_aload_n 10 mc_174 dX11_relief_9 rfl rfl rfl).trans ?_
    refine (s_getfI 13 mc_174 dX11_relief_10 rfl mo_174 fs_11_368 ff_11_368 (Or.inr rfl)).trans ?_
    refine gI_c fun g2 => ?_
    refine (s_if_ne 20 16 mc_174 dX11_relief_13 rfl rfl).trans ?_
    refine ite_c ?_ ?_
    · skip
      rfl
    · skip
      refine (s_iconst 17 0 mc_174 dX11_relief_16 rfl (by decide)).trans ?_
      refine (s_goto 47 mc_174 dX11_relief_17 rfl).trans ?_
      rfl
theorem b_174_20 {X : Ctx} {d : Nat} (x0 : Nat) (v1 : Option Value)  (h : Hp) : sem (X, K X d) 174 20 [some (.ref x0), v1] [] h = gI h 11 x0 37 fun g1 => if ¬ g1 = 8 then gI h 11 x0 37 fun g2 => if ¬ g2 = 22 then sem (X, K X d) 174 47 [some (.ref x0), v1] [.int (-1)] h else sem (X, K X d) 174 47 [some (.ref x0), v1] [.int 2] h else sem (X, K X d) 174 47 [some (.ref x0), v1] [.int 1] h := by
  refine (s_aload_n 21 mc_174 dX11_relief_20 rfl rfl rfl).trans ?_
  refine (s_getfI 24 mc_174 dX11_relief_21 rfl mo_174 fs_11_296 ff_11_296 (Or.inl rfl)).trans ?_
  refine gI_c fun g1 => ?_
  refine (s_bipush 26 8 mc_174 dX11_relief_24 rfl (by decide)).trans ?_
  refine (s_icmp_ne 33 29 mc_174 dX11_relief_26 rfl rfl).trans ?_
  refine ite_c ?_ ?_
  · skip
    refine (s_aload_n 34 mc_174 dX11_relief_33 rfl rfl rfl).trans ?_
    refine (s_getfI 37 mc_174 dX11_relief_34 rfl mo_174 fs_11_296 ff_11_296 (Or.inl rfl)).trans ?_
    refine gI_c fun g2 => ?_
    refine (s_bipush 39 22 mc_174 dX11_relief_37 rfl (by decide)).trans ?_
    refine (s_icmp_ne 46 42 mc_174 dX11_relief_39 rfl rfl).trans ?_
    refine ite_c ?_ ?_
    · skip
      refine (s_iconst 47 (-1) mc_174 dX11_relief_46 rfl (by decide)).trans ?_
      rfl
    · skip
      refine (s_iconst 43 2 mc_174 dX11_relief_42 rfl (by decide)).trans ?_
      refine (s_goto 47 mc_174 dX11_relief_43 rfl).trans ?_
      rfl
  · skip
    refine (s_iconst 30 1 mc_174 dX11_relief_29 rfl (by decide)).trans ?_
    refine (s_goto 47 mc_174 dX11_relief_30 rfl).trans ?_
    rfl
theorem b_174_47 {X : Ctx} {d : Nat} (x0 : Nat) (v1 : Option Value) (s0 : Int32) (h : Hp) : sem (X, K X d) 174 47 [some (.ref x0), v1] [.int s0] h = if ¬ s0 = (-1) then gd (hS h x0 = (12, 0)) (bV (K X d 159 [.ref x0] h) fun h1 => some (some (.int s0), h1)) else gd (hS h x0 = (12, 0)) (bI (K X d 160 [.ref x0, .int 1] h) fun r1 h2 => some (some (.int s0), h2)) := by
  refine (s_istore_n 48 mc_174 dX11_relief_47 rfl rfl (Nat.le_of_ble_eq_true rfl) rfl).trans ?_
  refine (s_iload_n 49 mc_174 dX11_relief_48 rfl rfl rfl).trans ?_
  refine (s_iconst 50 (-1) mc_174 dX11_relief_49 rfl (by decide)).trans ?_
  refine (s_icmp_ne 62 53 mc_174 dX11_relief_50 rfl rfl).trans ?_
  refine ite_c ?_ ?_
  · skip
    refine (s_aload_n 63 mc_174 dX11_relief_62 rfl rfl rfl).trans ?_
    refine (s_iviV 66 mc_174 dX11_relief_63 rfl mo_174 mm_11_320 (by decide) ms_159 mi_159 mr_159 ma_159 mo_159 (by decide) (Nat.le_of_ble_eq_true rfl) rfl rfl (Nat.le_of_ble_eq_true rfl)).trans ?_
    refine gd_c ?_
    refine bV_c fun h1 => ?_
    refine (s_iload_n 67 mc_174 dX11_relief_66 rfl rfl rfl).trans ?_
    exact s_iret mc_174 dX11_relief_67 mt_174
  · skip
    refine (s_aload_n 54 mc_174 dX11_relief_53 rfl rfl rfl).trans ?_
    refine (s_iconst 55 1 mc_174 dX11_relief_54 rfl (by decide)).trans ?_
    refine (s_iviI 58 mc_174 dX11_relief_55 rfl mo_174 mm_11_317 (by decide) ms_160 mi_160 mr_160 ma_160 mo_160 (by decide) (Nat.le_of_ble_eq_true rfl) rfl rfl (Nat.le_of_ble_eq_true rfl)).trans ?_
    refine gd_c ?_
    refine bI_c fun r1 h2 => ?_
    refine (s_pop 59 mc_174 dX11_relief_58 rfl rfl).trans ?_
    refine (s_goto 66 mc_174 dX11_relief_59 rfl).trans ?_
    refine (s_iload_n 67 mc_174 dX11_relief_66 rfl rfl rfl).trans ?_
    exact s_iret mc_174 dX11_relief_67 mt_174
/-- FiveLandsModel.lawLine()Z -/
theorem k_175 {X : Ctx} {d : Nat} (x0 : Nat) (h : Hp) : K X (d + 1) 175 [.ref x0] h = gI h 11 x0 37 fun g1 => bI (K X d 142 [.int g1, .int 20, .int 24] h) fun r2 h1 => if ¬ r2 = 0 then gI h1 11 x0 37 fun g3 => gI h1 11 x0 34 fun g4 => if g4 = 20 then gd (hS h1 x0 = (12, 0)) (bI (K X d 160 [.ref x0, .int 3] h1) fun r5 h2 => gd (okN .boolean r5) (some (some (.int r5), h2))) else if ¬ (g3 - 20) = 2 then sem (X, K X d) 175 52 [some (.ref x0), some (.int (g3 - 20)), none] [] h1 else gR h1 11 x0 21 fun g6 => aZ h1 g6 6 fun g7 => if ¬ g7 = 0 then gd (hS h1 x0 = (12, 0)) (bI (K X d 160 [.ref x0, .int 3] h1) fun r8 h3 => gd (okN .boolean r8) (some (some (.int r8), h3))) else sem (X, K X d) 175 52 [some (.ref x0), some (.int (g3 - 20)), none] [] h1 else gd (hS h1 x0 = (12, 0)) (bI (K X d 160 [.ref x0, .int 1] h1) fun r9 h4 => gd (okN .boolean r9) (some (some (.int r9), h4))) := by
  show sem (X, K X d) 175 0 [some (.ref x0), none, none] [] h = _
  refine (s_aload_n 1 mc_175 dX11_lawLine_0 rfl rfl rfl).trans ?_
  refine (s_getfI 4 mc_175 dX11_lawLine_1 rfl mo_175 fs_11_296 ff_11_296 (Or.inl rfl)).trans ?_
  refine gI_c fun g1 => ?_
  refine (s_bipush 6 20 mc_175 dX11_lawLine_4 rfl (by decide)).trans ?_
  refine (s_bipush 8 24 mc_175 dX11_lawLine_6 rfl (by decide)).trans ?_
  refine (s_istI 11 mc_175 dX11_lawLine_8 rfl mo_175 mm_11_1 (by decide) ms_142 mr_142 ma_142 (Nat.le_of_ble_eq_true rfl) rfl rfl (Nat.le_of_ble_eq_true rfl)).trans ?_
  refine bI_c fun r2 h1 => ?_
  refine (s_if_ne 20 14 mc_175 dX11_lawLine_11 rfl rfl).trans ?_
  refine ite_c ?_ ?_
  · skip
    refine (s_aload_n 21 mc_175 dX11_lawLine_20 rfl rfl rfl).trans ?_
    refine (s_getfI 24 mc_175 dX11_lawLine_21 rfl mo_175 fs_11_296 ff_11_296 (Or.inl rfl)).trans ?_
    refine gI_c fun g3 => ?_
    refine (s_bipush 26 20 mc_175 dX11_lawLine_24 rfl (by decide)).trans ?_
    refine (s_isub 27 mc_175 dX11_lawLine_26 rfl).trans ?_
    refine (s_istore_n 28 mc_175 dX11_lawLine_27 rfl rfl (Nat.le_of_ble_eq_true rfl) rfl).trans ?_
    refine (s_aload_n 29 mc_175 dX11_lawLine_28 rfl rfl rfl).trans ?_
    refine (s_getfI 32 mc_175 dX11_lawLine_29 rfl mo_175 fs_11_362 ff_11_362 (Or.inl rfl)).trans ?_
    refine gI_c fun g4 => ?_
    refine (s_bipush 34 20 mc_175 dX11_lawLine_32 rfl (by decide)).trans ?_
    refine (s_icmp_eq 67 37 mc_175 dX11_lawLine_34 rfl rfl).trans ?_
    refine ite_c ?_ ?_
    · skip
      refine (s_aload_n 68 mc_175 dX11_lawLine_67 rfl rfl rfl).trans ?_
      refine (s_iconst 69 3 mc_175 dX11_lawLine_68 rfl (by decide)).trans ?_
      refine (s_iviI 72 mc_175 dX11_lawLine_69 rfl mo_175 mm_11_317 (by decide) ms_160 mi_160 mr_160 ma_160 mo_160 (by decide) (Nat.le_of_ble_eq_true rfl) rfl rfl (Nat.le_of_ble_eq_true rfl)).trans ?_
      refine gd_c ?_
      refine bI_c fun r5 h2 => ?_
      exact s_zret mc_175 dX11_lawLine_72 mt_175
    · skip
      refine (s_iload_n 38 mc_175 dX11_lawLine_37 rfl rfl rfl).trans ?_
      refine (s_iconst 39 2 mc_175 dX11_lawLine_38 rfl (by decide)).trans ?_
      refine (s_icmp_ne 52 42 mc_175 dX11_lawLine_39 rfl rfl).trans ?_
      refine ite_c ?_ ?_
      · skip
        rfl
      · skip
        refine (s_aload_n 43 mc_175 dX11_lawLine_42 rfl rfl rfl).trans ?_
        refine (s_getfR 46 mc_175 dX11_lawLine_43 rfl mo_175 fs_11_77 ff_11_77 rfl).trans ?_
        refine gR_c fun g6 => ?_
        refine (s_bipush 48 6 mc_175 dX11_lawLine_46 rfl (by decide)).trans ?_
        refine (s_baload 49 mc_175 dX11_lawLine_48 rfl).trans ?_
        refine aZ_c fun g7 => ?_
        refine (s_if_ne 67 52 mc_175 dX11_lawLine_49 rfl rfl).trans ?_
        refine ite_c ?_ ?_
        · skip
          refine (s_aload_n 68 mc_175 dX11_lawLine_67 rfl rfl rfl).trans ?_
          refine (s_iconst 69 3 mc_175 dX11_lawLine_68 rfl (by decide)).trans ?_
          refine (s_iviI 72 mc_175 dX11_lawLine_69 rfl mo_175 mm_11_317 (by decide) ms_160 mi_160 mr_160 ma_160 mo_160 (by decide) (Nat.le_of_ble_eq_true rfl) rfl rfl (Nat.le_of_ble_eq_true rfl)).trans ?_
          refine gd_c ?_
          refine bI_c fun r8 h3 => ?_
          exact s_zret mc_175 dX11_lawLine_72 mt_175
        · skip
          rfl
  · skip
    refine (s_aload_n 15 mc_175 dX11_lawLine_14 rfl rfl rfl).trans ?_
    refine (s_iconst 16 1 mc_175 dX11_lawLine_15 rfl (by decide)).trans ?_
    refine (s_iviI 19 mc_175 dX11_lawLine_16 rfl mo_175 mm_11_317 (by decide) ms_160 mi_160 mr_160 ma_160 mo_160 (by decide) (Nat.le_of_ble_eq_true rfl) rfl rfl (Nat.le_of_ble_eq_true rfl)).trans ?_
    refine gd_c ?_
    refine bI_c fun r9 h4 => ?_
    exact s_zret mc_175 dX11_lawLine_19 mt_175
theorem b_175_52 {X : Ctx} {d : Nat} (x0 : Nat) (x1 : Int32) (v2 : Option Value)  (h : Hp) : sem (X, K X d) 175 52 [some (.ref x0), some (.int x1), v2] [] h = if ¬ x1 = 4 then sem (X, K X d) 175 73 [some (.ref x0), some (.int x1), v2] [] h else gR h 11 x0 22 fun g1 => aZ h g1 6 fun g2 => if g2 = 0 then sem (X, K X d) 175 73 [some (.ref x0), some (.int x1), v2] [] h else gd (hS h x0 = (12, 0)) (bI (K X d 160 [.ref x0, .int 3] h) fun r3 h1 => gd (okN .boolean r3) (some (some (.int r3), h1))) := by
  refine (s_iload_n 53 mc_175 dX11_lawLine_52 rfl rfl rfl).trans ?_
  refine (s_iconst 54 4 mc_175 dX11_lawLine_53 rfl (by decide)).trans ?_
  refine (s_icmp_ne 73 57 mc_175 dX11_lawLine_54 rfl rfl).trans ?_
  refine ite_c ?_ ?_
  · skip
    rfl
  · skip
    refine (s_aload_n 58 mc_175 dX11_lawLine_57 rfl rfl rfl).trans ?_
    refine (s_getfR 61 mc_175 dX11_lawLine_58 rfl mo_175 fs_11_81 ff_11_81 rfl).trans ?_
    refine gR_c fun g1 => ?_
    refine (s_bipush 63 6 mc_175 dX11_lawLine_61 rfl (by decide)).trans ?_
    refine (s_baload 64 mc_175 dX11_lawLine_63 rfl).trans ?_
    refine aZ_c fun g2 => ?_
    refine (s_if_eq 73 67 mc_175 dX11_lawLine_64 rfl rfl).trans ?_
    refine ite_c ?_ ?_
    · skip
      rfl
    · skip
      refine (s_aload_n 68 mc_175 dX11_lawLine_67 rfl rfl rfl).trans ?_
      refine (s_iconst 69 3 mc_175 dX11_lawLine_68 rfl (by decide)).trans ?_
      refine (s_iviI 72 mc_175 dX11_lawLine_69 rfl mo_175 mm_11_317 (by decide) ms_160 mi_160 mr_160 ma_160 mo_160 (by decide) (Nat.le_of_ble_eq_true rfl) rfl rfl (Nat.le_of_ble_eq_true rfl)).trans ?_
      refine gd_c ?_
      refine bI_c fun r3 h1 => ?_
      exact s_zret mc_175 dX11_lawLine_72 mt_175
theorem b_175_73 {X : Ctx} {d : Nat} (x0 : Nat) (x1 : Int32) (v2 : Option Value)  (h : Hp) : sem (X, K X d) 175 73 [some (.ref x0), some (.int x1), v2] [] h = fI h 11 x0 43 0 fun h1 => gd (hS h1 x0 = (12, 0)) (bV (K X d 159 [.ref x0] h1) fun h2 => gR h2 11 x0 10 fun g1 => gI h2 11 x0 34 fun g2 => wI h2 g1 (120 + g2) x1 fun h3 => gI h3 11 x0 39 fun g3 => if 2 ≤ x1 then sem (X, K X d) 175 115 [some (.ref x0), some (.int x1), some (.int g3)] [] h3 else gd (hS h3 x0 = (12, 0)) (bI (K X d 172 [.ref x0, .int x1] h3) fun r4 h4 => if ¬ r4 = 0 then sem (X, K X d) 175 115 [some (.ref x0), some (.int x1), some (.int g3)] [] h4 else some (some (.int 0), h4))) := by
  refine (s_aload_n 74 mc_175 dX11_lawLine_73 rfl rfl rfl).trans ?_
  refine (s_iconst 75 0 mc_175 dX11_lawLine_74 rfl (by decide)).trans ?_
  refine (s_putfI 78 mc_175 dX11_lawLine_75 rfl mo_175 ff_11_326 rfl (Or.inl rfl)).trans ?_
  refine fI_c fun h1 => ?_
  refine (s_aload_n 79 mc_175 dX11_lawLine_78 rfl rfl rfl).trans ?_
  refine (s_iviV 82 mc_175 dX11_lawLine_79 rfl mo_175 mm_11_320 (by decide) ms_159 mi_159 mr_159 ma_159 mo_159 (by decide) (Nat.le_of_ble_eq_true rfl) rfl rfl (Nat.le_of_ble_eq_true rfl)).trans ?_
  refine gd_c ?_
  refine bV_c fun h2 => ?_
  refine (s_aload_n 83 mc_175 dX11_lawLine_82 rfl rfl rfl).trans ?_
  refine (s_getfR 86 mc_175 dX11_lawLine_83 rfl mo_175 fs_11_44 ff_11_44 rfl).trans ?_
  refine gR_c fun g1 => ?_
  refine (s_bipush 88 120 mc_175 dX11_lawLine_86 rfl (by decide)).trans ?_
  refine (s_aload_n 89 mc_175 dX11_lawLine_88 rfl rfl rfl).trans ?_
  refine (s_getfI 92 mc_175 dX11_lawLine_89 rfl mo_175 fs_11_362 ff_11_362 (Or.inl rfl)).trans ?_
  refine gI_c fun g2 => ?_
  refine (s_iadd 93 mc_175 dX11_lawLine_92 rfl).trans ?_
  refine (s_iload_n 94 mc_175 dX11_lawLine_93 rfl rfl rfl).trans ?_
  refine (s_iastore 95 mc_175 dX11_lawLine_94 rfl).trans ?_
  refine wI_c fun h3 => ?_
  refine (s_aload_n 96 mc_175 dX11_lawLine_95 rfl rfl rfl).trans ?_
  refine (s_getfI 99 mc_175 dX11_lawLine_96 rfl mo_175 fs_11_308 ff_11_308 (Or.inl rfl)).trans ?_
  refine gI_c fun g3 => ?_
  refine (s_istore_n 100 mc_175 dX11_lawLine_99 rfl rfl (Nat.le_of_ble_eq_true rfl) rfl).trans ?_
  refine (s_iload_n 101 mc_175 dX11_lawLine_100 rfl rfl rfl).trans ?_
  refine (s_iconst 102 2 mc_175 dX11_lawLine_101 rfl (by decide)).trans ?_
  refine (s_icmp_ge 115 105 mc_175 dX11_lawLine_102 rfl rfl).trans ?_
  refine ite_c ?_ ?_
  · skip
    rfl
  · skip
    refine (s_aload_n 106 mc_175 dX11_lawLine_105 rfl rfl rfl).trans ?_
    refine (s_iload_n 107 mc_175 dX11_lawLine_106 rfl rfl rfl).trans ?_
    refine (s_iviI 110 mc_175 dX11_lawLine_107 rfl mo_175 mm_11_372 (by decide) ms_172 mi_172 mr_172 ma_172 mo_172 (by decide) (Nat.le_of_ble_eq_true rfl) rfl rfl (Nat.le_of_ble_eq_true rfl)).trans ?_
    refine gd_c ?_
    refine bI_c fun r4 h4 => ?_
    refine (s_if_ne 115 113 mc_175 dX11_lawLine_110 rfl rfl).trans ?_
    refine ite_c ?_ ?_
    · skip
      rfl
    · skip
      refine (s_iconst 114 0 mc_175 dX11_lawLine_113 rfl (by decide)).trans ?_
      exact s_zret0 mc_175 dX11_lawLine_114 mt_175
theorem b_175_115 {X : Ctx} {d : Nat} (x0 : Nat) (x1 : Int32) (x2 : Int32)  (h : Hp) : sem (X, K X d) 175 115 [some (.ref x0), some (.int x1), some (.int x2)] [] h = if ¬ x1 = 2 then if ¬ x1 = 3 then sem (X, K X d) 175 162 [some (.ref x0), some (.int x1), some (.int x2)] [] h else gd (hS h x0 = (12, 0)) (bI (K X d 173 [.ref x0] h) fun r1 h1 => if ¬ r1 = 0 then sem (X, K X d) 175 162 [some (.ref x0), some (.int x1), some (.int x2)] [] h1 else some (some (.int 0), h1)) else gd (hS h x0 = (12, 0)) (bI (K X d 162 [.ref x0, .int 0, .int 999999] h) fun r2 h2 => if ¬ r2 = 0 then gR h2 11 x0 21 fun g3 => wZ h2 g3 6 1 fun h3 => gR h3 11 x0 16 fun g4 => wI h3 g4 6 x2 fun h4 => if ¬ x1 = 3 then sem (X, K X d) 175 162 [some (.ref x0), some (.int x1), some (.int x2)] [] h4 else gd (hS h4 x0 = (12, 0)) (bI (K X d 173 [.ref x0] h4) fun r5 h5 => if ¬ r5 = 0 then sem (X, K X d) 175 162 [some (.ref x0), some (.int x1), some (.int x2)] [] h5 else some (some (.int 0), h5)) else some (some (.int 0), h2)) := by
  refine (s_iload_n 116 mc_175 dX11_lawLine_115 rfl rfl rfl).trans ?_
  refine (s_iconst 117 2 mc_175 dX11_lawLine_116 rfl (by decide)).trans ?_
  refine (s_icmp_ne 148 120 mc_175 dX11_lawLine_117 rfl rfl).trans ?_
  refine ite_c ?_ ?_
  · skip
    refine (s_iload_n 149 mc_175 dX11_lawLine_148 rfl rfl rfl).trans ?_
    refine (s_iconst 150 3 mc_175 dX11_lawLine_149 rfl (by decide)).trans ?_
    refine (s_icmp_ne 162 153 mc_175 dX11_lawLine_150 rfl rfl).trans ?_
    refine ite_c ?_ ?_
    · skip
      rfl
    · skip
      refine (s_aload_n 154 mc_175 dX11_lawLine_153 rfl rfl rfl).trans ?_
      refine (s_iviI 157 mc_175 dX11_lawLine_154 rfl mo_175 mm_11_375 (by decide) ms_173 mi_173 mr_173 ma_173 mo_173 (by decide) (Nat.le_of_ble_eq_true rfl) rfl rfl (Nat.le_of_ble_eq_true rfl)).trans ?_
      refine gd_c ?_
      refine bI_c fun r1 h1 => ?_
      refine (s_if_ne 162 160 mc_175 dX11_lawLine_157 rfl rfl).trans ?_
      refine ite_c ?_ ?_
      · skip
        rfl
      · skip
        refine (s_iconst 161 0 mc_175 dX11_lawLine_160 rfl (by decide)).trans ?_
        exact s_zret0 mc_175 dX11_lawLine_161 mt_175
  · skip
    refine (s_aload_n 121 mc_175 dX11_lawLine_120 rfl rfl rfl).trans ?_
    refine (s_iconst 122 0 mc_175 dX11_lawLine_121 rfl (by decide)).trans ?_
    refine (s_ldc 124 999999 mc_175 dX11_lawLine_122 rfl mo_175 cs_11_214 (by decide)).trans ?_
    refine (s_iviI 127 mc_175 dX11_lawLine_124 rfl mo_175 mm_11_340 (by decide) ms_162 mi_162 mr_162 ma_162 mo_162 (by decide) (Nat.le_of_ble_eq_true rfl) rfl rfl (Nat.le_of_ble_eq_true rfl)).trans ?_
    refine gd_c ?_
    refine bI_c fun r2 h2 => ?_
    refine (s_if_ne 132 130 mc_175 dX11_lawLine_127 rfl rfl).trans ?_
    refine ite_c ?_ ?_
    · skip
      refine (s_aload_n 133 mc_175 dX11_lawLine_132 rfl rfl rfl).trans ?_
      refine (s_getfR 136 mc_175 dX11_lawLine_133 rfl mo_175 fs_11_77 ff_11_77 rfl).trans ?_
      refine gR_c fun g3 => ?_
      refine (s_bipush 138 6 mc_175 dX11_lawLine_136 rfl (by decide)).trans ?_
      refine (s_iconst 139 1 mc_175 dX11_lawLine_138 rfl (by decide)).trans ?_
      refine (s_bastore 140 mc_175 dX11_lawLine_139 rfl).trans ?_
      refine wZ_c fun h3 => ?_
      refine (s_aload_n 141 mc_175 dX11_lawLine_140 rfl rfl rfl).trans ?_
      refine (s_getfR 144 mc_175 dX11_lawLine_141 rfl mo_175 fs_11_62 ff_11_62 rfl).trans ?_
      refine gR_c fun g4 => ?_
      refine (s_bipush 146 6 mc_175 dX11_lawLine_144 rfl (by decide)).trans ?_
      refine (s_iload_n 147 mc_175 dX11_lawLine_146 rfl rfl rfl).trans ?_
      refine (s_iastore 148 mc_175 dX11_lawLine_147 rfl).trans ?_
      refine wI_c fun h4 => ?_
      refine (s_iload_n 149 mc_175 dX11_lawLine_148 rfl rfl rfl).trans ?_
      refine (s_iconst 150 3 mc_175 dX11_lawLine_149 rfl (by decide)).trans ?_
      refine (s_icmp_ne 162 153 mc_175 dX11_lawLine_150 rfl rfl).trans ?_
      refine ite_c ?_ ?_
      · skip
        rfl
      · skip
        refine (s_aload_n 154 mc_175 dX11_lawLine_153 rfl rfl rfl).trans ?_
        refine (s_iviI 157 mc_175 dX11_lawLine_154 rfl mo_175 mm_11_375 (by decide) ms_173 mi_173 mr_173 ma_173 mo_173 (by decide) (Nat.le_of_ble_eq_true rfl) rfl rfl (Nat.le_of_ble_eq_true rfl)).trans ?_
        refine gd_c ?_
        refine bI_c fun r5 h5 => ?_
        refine (s_if_ne 162 160 mc_175 dX11_lawLine_157 rfl rfl).trans ?_
        refine ite_c ?_ ?_
        · skip
          rfl
        · skip
          refine (s_iconst 161 0 mc_175 dX11_lawLine_160 rfl (by decide)).trans ?_
          exact s_zret0 mc_175 dX11_lawLine_161 mt_175
    · skip
      refine (s_iconst 131 0 mc_175 dX11_lawLine_130 rfl (by decide)).trans ?_
      exact s_zret0 mc_175 dX11_lawLine_131 mt_175
theorem b_175_162 {X : Ctx} {d : Nat} (x0 : Nat) (x1 : Int32) (v2 : Option Value)  (h : Hp) : sem (X, K X d) 175 162 [some (.ref x0), some (.int x1), v2] [] h = if ¬ x1 = 4 then gI h 11 x0 34 fun g1 => fI h 11 x0 34 (g1 + 1) fun h1 => gd (hS h1 x0 = (12, 0)) (bI (K X d 161 [.ref x0, .int 159] h1) fun r2 h2 => gd (okN .boolean r2) (some (some (.int r2), h2))) else gR h 11 x0 22 fun g3 => wZ h g3 6 1 fun h3 => gR h3 11 x0 20 fun g4 => gd (hS h3 x0 = (12, 0)) (bI (K X d 174 [.ref x0] h3) fun r5 h4 => wI h4 g4 6 r5 fun h5 => gR h5 11 x0 20 fun g6 => aI X h5 g6 6 fun g7 => if ¬ g7 = (-1) then gI h5 11 x0 34 fun g8 => fI h5 11 x0 34 (g8 + 1) fun h6 => gd (hS h6 x0 = (12, 0)) (bI (K X d 161 [.ref x0, .int 159] h6) fun r9 h7 => gd (okN .boolean r9) (some (some (.int r9), h7))) else some (some (.int 0), h5)) := by
  refine (s_iload_n 163 mc_175 dX11_lawLine_162 rfl rfl rfl).trans ?_
  refine (s_iconst 164 4 mc_175 dX11_lawLine_163 rfl (by decide)).trans ?_
  refine (s_icmp_ne 199 167 mc_175 dX11_lawLine_164 rfl rfl).trans ?_
  refine ite_c ?_ ?_
  · skip
    refine (s_aload_n 200 mc_175 dX11_lawLine_199 rfl rfl rfl).trans ?_
    refine (s_dup 201 mc_175 dX11_lawLine_200 rfl rfl).trans ?_
    refine (s_getfI 204 mc_175 dX11_lawLine_201 rfl mo_175 fs_11_362 ff_11_362 (Or.inl rfl)).trans ?_
    refine gI_c fun g1 => ?_
    refine (s_iconst 205 1 mc_175 dX11_lawLine_204 rfl (by decide)).trans ?_
    refine (s_iadd 206 mc_175 dX11_lawLine_205 rfl).trans ?_
    refine (s_putfI 209 mc_175 dX11_lawLine_206 rfl mo_175 ff_11_362 rfl (Or.inl rfl)).trans ?_
    refine fI_c fun h1 => ?_
    refine (s_aload_n 210 mc_175 dX11_lawLine_209 rfl rfl rfl).trans ?_
    refine (s_sipush 213 159 mc_175 dX11_lawLine_210 rfl (by decide)).trans ?_
    refine (s_iviI 216 mc_175 dX11_lawLine_213 rfl mo_175 mm_11_356 (by decide) ms_161 mi_161 mr_161 ma_161 mo_161 (by decide) (Nat.le_of_ble_eq_true rfl) rfl rfl (Nat.le_of_ble_eq_true rfl)).trans ?_
    refine gd_c ?_
    refine bI_c fun r2 h2 => ?_
    exact s_zret mc_175 dX11_lawLine_216 mt_175
  · skip
    refine (s_aload_n 168 mc_175 dX11_lawLine_167 rfl rfl rfl).trans ?_
    refine (s_getfR 171 mc_175 dX11_lawLine_168 rfl mo_175 fs_11_81 ff_11_81 rfl).trans ?_
    refine gR_c fun g3 => ?_
    refine (s_bipush 173 6 mc_175 dX11_lawLine_171 rfl (by decide)).trans ?_
    refine (s_iconst 174 1 mc_175 dX11_lawLine_173 rfl (by decide)).trans ?_
    refine (s_bastore 175 mc_175 dX11_lawLine_174 rfl).trans ?_
    refine wZ_c fun h3 => ?_
    refine (s_aload_n 176 mc_175 dX11_lawLine_175 rfl rfl rfl).trans ?_
    refine (s_getfR 179 mc_175 dX11_lawLine_176 rfl mo_175 fs_11_74 ff_11_74 rfl).trans ?_
    refine gR_c fun g4 => ?_
    refine (s_bipush 181 6 mc_175 dX11_lawLine_179 rfl (by decide)).trans ?_
    refine (s_aload_n 182 mc_175 dX11_lawLine_181 rfl rfl rfl).trans ?_
    refine (s_iviI 185 mc_175 dX11_lawLine_182 rfl mo_175 mm_11_378 (by decide) ms_174 mi_174 mr_174 ma_174 mo_174 (by decide) (Nat.le_of_ble_eq_true rfl) rfl rfl (Nat.le_of_ble_eq_true rfl)).trans ?_
    refine gd_c ?_
    refine bI_c fun r5 h4 => ?_
    refine (s_iastore 186 mc_175 dX11_lawLine_185 rfl).trans ?_
    refine wI_c fun h5 => ?_
    refine (s_aload_n 187 mc_175 dX11_lawLine_186 rfl rfl rfl).trans ?_
    refine (s_getfR 190 mc_175 dX11_lawLine_187 rfl mo_175 fs_11_74 ff_11_74 rfl).trans ?_
    refine gR_c fun g6 => ?_
    refine (s_bipush 192 6 mc_175 dX11_lawLine_190 rfl (by decide)).trans ?_
    refine (s_iaload 193 mc_175 dX11_lawLine_192 rfl).trans ?_
    refine aI_c fun g7 => ?_
    refine (s_iconst 194 (-1) mc_175 dX11_lawLine_193 rfl (by decide)).trans ?_
    refine (s_icmp_ne 199 197 mc_175 dX11_lawLine_194 rfl rfl).trans ?_
    refine ite_c ?_ ?_
    · skip
      refine (s_aload_n 200 mc_175 dX11_lawLine_199 rfl rfl rfl).trans ?_
      refine (s_dup 201 mc_175 dX11_lawLine_200 rfl rfl).trans ?_
      refine (s_getfI 204 mc_175 dX11_lawLine_201 rfl mo_175 fs_11_362 ff_11_362 (Or.inl rfl)).trans ?_
      refine gI_c fun g8 => ?_
      refine (s_iconst 205 1 mc_175 dX11_lawLine_204 rfl (by decide)).trans ?_
      refine (s_iadd 206 mc_175 dX11_lawLine_205 rfl).trans ?_
      refine (s_putfI 209 mc_175 dX11_lawLine_206 rfl mo_175 ff_11_362 rfl (Or.inl rfl)).trans ?_
      refine fI_c fun h6 => ?_
      refine (s_aload_n 210 mc_175 dX11_lawLine_209 rfl rfl rfl).trans ?_
      refine (s_sipush 213 159 mc_175 dX11_lawLine_210 rfl (by decide)).trans ?_
      refine (s_iviI 216 mc_175 dX11_lawLine_213 rfl mo_175 mm_11_356 (by decide) ms_161 mi_161 mr_161 ma_161 mo_161 (by decide) (Nat.le_of_ble_eq_true rfl) rfl rfl (Nat.le_of_ble_eq_true rfl)).trans ?_
      refine gd_c ?_
      refine bI_c fun r9 h7 => ?_
      exact s_zret mc_175 dX11_lawLine_216 mt_175
    · skip
      refine (s_iconst 198 0 mc_175 dX11_lawLine_197 rfl (by decide)).trans ?_
      exact s_zret0 mc_175 dX11_lawLine_198 mt_175
/-- FiveLandsModel.ofKind(I)Z -/
theorem k_176 {X : Ctx} {d : Nat} (x0 : Nat) (x1 : Int32) (h : Hp) : K X (d + 1) 176 [.ref x0, .int x1] h = gI h 11 x0 37 fun g1 => bI (K X d 142 [.int (g1 - 40), .int 0, .int 5] h) fun r2 h1 => if r2 = 0 then sem (X, K X d) 176 60 [some (.ref x0), some (.int x1), some (.int (g1 - 40)), none] [.int 0] h1 else if ¬ x1 = 6 then gR h1 11 x0 27 fun g3 => aI X h1 g3 (216 + (g1 - 40)) fun g4 => if g4 = (-1) then sem (X, K X d) 176 60 [some (.ref x0), some (.int x1), some (.int (g1 - 40)), none] [.int 0] h1 else sem (X, K X d) 176 60 [some (.ref x0), some (.int x1), some (.int (g1 - 40)), none] [.int 1] h1 else gR h1 11 x0 26 fun g5 => aI X h1 g5 36 fun g6 => if ¬ ((g6 >>> ((g1 - 40) &&& 31)) &&& 1) = 1 then sem (X, K X d) 176 60 [some (.ref x0), some (.int x1), some (.int (g1 - 40)), none] [.int 0] h1 else sem (X, K X d) 176 60 [some (.ref x0), some (.int x1), some (.int (g1 - 40)), none] [.int 1] h1 := by
  show sem (X, K X d) 176 0 [some (.ref x0), some (.int x1), none, none] [] h = _
  refine (s_aload_n 1 mc_176 dX11_ofKind_0 rfl rfl rfl).trans ?_
  refine (s_getfI 4 mc_176 dX11_ofKind_1 rfl mo_176 fs_11_296 ff_11_296 (Or.inl rfl)).trans ?_
  refine gI_c fun g1 => ?_
  refine (s_bipush 6 40 mc_176 dX11_ofKind_4 rfl (by decide)).trans ?_
  refine (s_isub 7 mc_176 dX11_ofKind_6 rfl).trans ?_
  refine (s_istore_n 8 mc_176 dX11_ofKind_7 rfl rfl (Nat.le_of_ble_eq_true rfl) rfl).trans ?_
  refine (s_iload_n 9 mc_176 dX11_ofKind_8 rfl rfl rfl).trans ?_
  refine (s_iconst 10 0 mc_176 dX11_ofKind_9 rfl (by decide)).trans ?_
  refine (s_iconst 11 5 mc_176 dX11_ofKind_10 rfl (by decide)).trans ?_
  refine (s_istI 14 mc_176 dX11_ofKind_11 rfl mo_176 mm_11_1 (by decide) ms_142 mr_142 ma_142 (Nat.le_of_ble_eq_true rfl) rfl rfl (Nat.le_of_ble_eq_true rfl)).trans ?_
  refine bI_c fun r2 h1 => ?_
  refine (s_if_eq 59 17 mc_176 dX11_ofKind_14 rfl rfl).trans ?_
  refine ite_c ?_ ?_
  · skip
    refine (s_iconst 60 0 mc_176 dX11_ofKind_59 rfl (by decide)).trans ?_
    rfl
  · skip
    refine (s_iload_n 18 mc_176 dX11_ofKind_17 rfl rfl rfl).trans ?_
    refine (s_bipush 20 6 mc_176 dX11_ofKind_18 rfl (by decide)).trans ?_
    refine (s_icmp_ne 41 23 mc_176 dX11_ofKind_20 rfl rfl).trans ?_
    refine ite_c ?_ ?_
    · skip
      refine (s_aload_n 42 mc_176 dX11_ofKind_41 rfl rfl rfl).trans ?_
      refine (s_getfR 45 mc_176 dX11_ofKind_42 rfl mo_176 fs_11_96 ff_11_96 rfl).trans ?_
      refine gR_c fun g3 => ?_
      refine (s_sipush 48 216 mc_176 dX11_ofKind_45 rfl (by decide)).trans ?_
      refine (s_iload_n 49 mc_176 dX11_ofKind_48 rfl rfl rfl).trans ?_
      refine (s_iadd 50 mc_176 dX11_ofKind_49 rfl).trans ?_
      refine (s_iaload 51 mc_176 dX11_ofKind_50 rfl).trans ?_
      refine aI_c fun g4 => ?_
      refine (s_iconst 52 (-1) mc_176 dX11_ofKind_51 rfl (by decide)).trans ?_
      refine (s_icmp_eq 59 55 mc_176 dX11_ofKind_52 rfl rfl).trans ?_
      refine ite_c ?_ ?_
      · skip
        refine (s_iconst 60 0 mc_176 dX11_ofKind_59 rfl (by decide)).trans ?_
        rfl
      · skip
        refine (s_iconst 56 1 mc_176 dX11_ofKind_55 rfl (by decide)).trans ?_
        refine (s_goto 60 mc_176 dX11_ofKind_56 rfl).trans ?_
        rfl
    · skip
      refine (s_aload_n 24 mc_176 dX11_ofKind_23 rfl rfl rfl).trans ?_
      refine (s_getfR 27 mc_176 dX11_ofKind_24 rfl mo_176 fs_11_93 ff_11_93 rfl).trans ?_
      refine gR_c fun g5 => ?_
      refine (s_bipush 29 36 mc_176 dX11_ofKind_27 rfl (by decide)).trans ?_
      refine (s_iaload 30 mc_176 dX11_ofKind_29 rfl).trans ?_
      refine aI_c fun g6 => ?_
      refine (s_iload_n 31 mc_176 dX11_ofKind_30 rfl rfl rfl).trans ?_
      refine (s_ishr 32 mc_176 dX11_ofKind_31 rfl).trans ?_
      refine (s_iconst 33 1 mc_176 dX11_ofKind_32 rfl (by decide)).trans ?_
      refine (s_iand 34 mc_176 dX11_ofKind_33 rfl).trans ?_
      refine (s_iconst 35 1 mc_176 dX11_ofKind_34 rfl (by decide)).trans ?_
      refine (s_icmp_ne 59 38 mc_176 dX11_ofKind_35 rfl rfl).trans ?_
      refine ite_c ?_ ?_
      · skip
        refine (s_iconst 60 0 mc_176 dX11_ofKind_59 rfl (by decide)).trans ?_
        rfl
      · skip
        refine (s_goto 55 mc_176 dX11_ofKind_38 rfl).trans ?_
        refine (s_iconst 56 1 mc_176 dX11_ofKind_55 rfl (by decide)).trans ?_
        refine (s_goto 60 mc_176 dX11_ofKind_56 rfl).trans ?_
        rfl
theorem b_176_60 {X : Ctx} {d : Nat} (x0 : Nat) (x1 : Int32) (x2 : Int32) (v3 : Option Value) (s0 : Int32) (h : Hp) : sem (X, K X d) 176 60 [some (.ref x0), some (.int x1), some (.int x2), v3] [.int s0] h = if s0 = 0 then gd (hS h x0 = (12, 0)) (bI (K X d 171 [.ref x0] h) fun r1 h1 => if ¬ r1 = 0 then if ¬ x1 = 6 then gR h1 11 x0 27 fun g2 => gI h1 11 x0 39 fun g3 => wI h1 g2 (216 + x2) g3 fun h2 => gd (hS h2 x0 = (12, 0)) (bI (K X d 162 [.ref x0, .int 0, .int 100] h2) fun r4 h3 => gd (okN .boolean r4) (some (some (.int r4), h3))) else gR h1 11 x0 26 fun g5 => aI X h1 g5 36 fun g6 => wI h1 g5 36 (g6 ||| (1 <<< (x2 &&& 31))) fun h4 => some (some (.int 1), h4) else some (some (.int 0), h1)) else gd (hS h x0 = (12, 0)) (bI (K X d 160 [.ref x0, .int 3] h) fun r7 h5 => gd (okN .boolean r7) (some (some (.int r7), h5))) := by
  refine (s_istore_n 61 mc_176 dX11_ofKind_60 rfl rfl (Nat.le_of_ble_eq_true rfl) rfl).trans ?_
  refine (s_iload_n 62 mc_176 dX11_ofKind_61 rfl rfl rfl).trans ?_
  refine (s_if_eq 71 65 mc_176 dX11_ofKind_62 rfl rfl).trans ?_
  refine ite_c ?_ ?_
  · skip
    refine (s_aload_n 72 mc_176 dX11_ofKind_71 rfl rfl rfl).trans ?_
    refine (s_iviI 75 mc_176 dX11_ofKind_72 rfl mo_176 mm_11_365 (by decide) ms_171 mi_171 mr_171 ma_171 mo_171 (by decide) (Nat.le_of_ble_eq_true rfl) rfl rfl (Nat.le_of_ble_eq_true rfl)).trans ?_
    refine gd_c ?_
    refine bI_c fun r1 h1 => ?_
    refine (s_if_ne 80 78 mc_176 dX11_ofKind_75 rfl rfl).trans ?_
    refine ite_c ?_ ?_
    · skip
      refine (s_iload_n 81 mc_176 dX11_ofKind_80 rfl rfl rfl).trans ?_
      refine (s_bipush 83 6 mc_176 dX11_ofKind_81 rfl (by decide)).trans ?_
      refine (s_icmp_ne 101 86 mc_176 dX11_ofKind_83 rfl rfl).trans ?_
      refine ite_c ?_ ?_
      · skip
        refine (s_aload_n 102 mc_176 dX11_ofKind_101 rfl rfl rfl).trans ?_
        refine (s_getfR 105 mc_176 dX11_ofKind_102 rfl mo_176 fs_11_96 ff_11_96 rfl).trans ?_
        refine gR_c fun g2 => ?_
        refine (s_sipush 108 216 mc_176 dX11_ofKind_105 rfl (by decide)).trans ?_
        refine (s_iload_n 109 mc_176 dX11_ofKind_108 rfl rfl rfl).trans ?_
        refine (s_iadd 110 mc_176 dX11_ofKind_109 rfl).trans ?_
        refine (s_aload_n 111 mc_176 dX11_ofKind_110 rfl rfl rfl).trans ?_
        refine (s_getfI 114 mc_176 dX11_ofKind_111 rfl mo_176 fs_11_308 ff_11_308 (Or.inl rfl)).trans ?_
        refine gI_c fun g3 => ?_
        refine (s_iastore 115 mc_176 dX11_ofKind_114 rfl).trans ?_
        refine wI_c fun h2 => ?_
        refine (s_aload_n 116 mc_176 dX11_ofKind_115 rfl rfl rfl).trans ?_
        refine (s_iconst 117 0 mc_176 dX11_ofKind_116 rfl (by decide)).trans ?_
        refine (s_bipush 119 100 mc_176 dX11_ofKind_117 rfl (by decide)).trans ?_
        refine (s_iviI 122 mc_176 dX11_ofKind_119 rfl mo_176 mm_11_340 (by decide) ms_162 mi_162 mr_162 ma_162 mo_162 (by decide) (Nat.le_of_ble_eq_true rfl) rfl rfl (Nat.le_of_ble_eq_true rfl)).trans ?_
        refine gd_c ?_
        refine bI_c fun r4 h3 => ?_
        exact s_zret mc_176 dX11_ofKind_122 mt_176
      · skip
        refine (s_aload_n 87 mc_176 dX11_ofKind_86 rfl rfl rfl).trans ?_
        refine (s_getfR 90 mc_176 dX11_ofKind_87 rfl mo_176 fs_11_93 ff_11_93 rfl).trans ?_
        refine gR_c fun g5 => ?_
        refine (s_bipush 92 36 mc_176 dX11_ofKind_90 rfl (by decide)).trans ?_
        refine (s_dup2 93 mc_176 dX11_ofKind_92 rfl rfl rfl).trans ?_
        refine (s_iaload 94 mc_176 dX11_ofKind_93 rfl).trans ?_
        refine aI_c fun g6 => ?_
        refine (s_iconst 95 1 mc_176 dX11_ofKind_94 rfl (by decide)).trans ?_
        refine (s_iload_n 96 mc_176 dX11_ofKind_95 rfl rfl rfl).trans ?_
        refine (s_ishl 97 mc_176 dX11_ofKind_96 rfl).trans ?_
        refine (s_ior 98 mc_176 dX11_ofKind_97 rfl).trans ?_
        refine (s_iastore 99 mc_176 dX11_ofKind_98 rfl).trans ?_
        refine wI_c fun h4 => ?_
        refine (s_iconst 100 1 mc_176 dX11_ofKind_99 rfl (by decide)).trans ?_
        exact s_zret1 mc_176 dX11_ofKind_100 mt_176
    · skip
      refine (s_iconst 79 0 mc_176 dX11_ofKind_78 rfl (by decide)).trans ?_
      exact s_zret0 mc_176 dX11_ofKind_79 mt_176
  · skip
    refine (s_aload_n 66 mc_176 dX11_ofKind_65 rfl rfl rfl).trans ?_
    refine (s_iconst 67 3 mc_176 dX11_ofKind_66 rfl (by decide)).trans ?_
    refine (s_iviI 70 mc_176 dX11_ofKind_67 rfl mo_176 mm_11_317 (by decide) ms_160 mi_160 mr_160 ma_160 mo_160 (by decide) (Nat.le_of_ble_eq_true rfl) rfl rfl (Nat.le_of_ble_eq_true rfl)).trans ?_
    refine gd_c ?_
    refine bI_c fun r7 h5 => ?_
    exact s_zret mc_176 dX11_ofKind_70 mt_176
/-- FiveLandsModel.pactLine()Z -/
theorem k_177 {X : Ctx} {d : Nat} (x0 : Nat) (h : Hp) : K X (d + 1) 177 [.ref x0] h = gI h 11 x0 37 fun g1 => bI (K X d 142 [.int g1, .int 24, .int 28] h) fun r2 h1 => if ¬ r2 = 0 then gI h1 11 x0 37 fun g3 => gI h1 11 x0 34 fun g4 => if g4 = 20 then gd (hS h1 x0 = (12, 0)) (bI (K X d 160 [.ref x0, .int 3] h1) fun r5 h2 => gd (okN .boolean r5) (some (some (.int r5), h2))) else if ¬ (g3 - 20) = 4 then sem (X, K X d) 177 53 [some (.ref x0), some (.int (g3 - 20))] [] h1 else gR h1 11 x0 28 fun g6 => aI X h1 g6 36 fun g7 => if ¬ g7 = (-1) then gd (hS h1 x0 = (12, 0)) (bI (K X d 160 [.ref x0, .int 3] h1) fun r8 h3 => gd (okN .boolean r8) (some (some (.int r8), h3))) else sem (X, K X d) 177 53 [some (.ref x0), some (.int (g3 - 20))] [] h1 else gd (hS h1 x0 = (12, 0)) (bI (K X d 160 [.ref x0, .int 1] h1) fun r9 h4 => gd (okN .boolean r9) (some (some (.int r9), h4))) := by
  show sem (X, K X d) 177 0 [some (.ref x0), none] [] h = _
  refine (s_aload_n 1 mc_177 dX11_pactLine_0 rfl rfl rfl).trans ?_
  refine (s_getfI 4 mc_177 dX11_pactLine_1 rfl mo_177 fs_11_296 ff_11_296 (Or.inl rfl)).trans ?_
  refine gI_c fun g1 => ?_
  refine (s_bipush 6 24 mc_177 dX11_pactLine_4 rfl (by decide)).trans ?_
  refine (s_bipush 8 28 mc_177 dX11_pactLine_6 rfl (by decide)).trans ?_
  refine (s_istI 11 mc_177 dX11_pactLine_8 rfl mo_177 mm_11_1 (by decide) ms_142 mr_142 ma_142 (Nat.le_of_ble_eq_true rfl) rfl rfl (Nat.le_of_ble_eq_true rfl)).trans ?_
  refine bI_c fun r2 h1 => ?_
  refine (s_if_ne 20 14 mc_177 dX11_pactLine_11 rfl rfl).trans ?_
  refine ite_c ?_ ?_
  · skip
    refine (s_aload_n 21 mc_177 dX11_pactLine_20 rfl rfl rfl).trans ?_
    refine (s_getfI 24 mc_177 dX11_pactLine_21 rfl mo_177 fs_11_296 ff_11_296 (Or.inl rfl)).trans ?_
    refine gI_c fun g3 => ?_
    refine (s_bipush 26 20 mc_177 dX11_pactLine_24 rfl (by decide)).trans ?_
    refine (s_isub 27 mc_177 dX11_pactLine_26 rfl).trans ?_
    refine (s_istore_n 28 mc_177 dX11_pactLine_27 rfl rfl (Nat.le_of_ble_eq_true rfl) rfl).trans ?_
    refine (s_aload_n 29 mc_177 dX11_pactLine_28 rfl rfl rfl).trans ?_
    refine (s_getfI 32 mc_177 dX11_pactLine_29 rfl mo_177 fs_11_362 ff_11_362 (Or.inl rfl)).trans ?_
    refine gI_c fun g4 => ?_
    refine (s_bipush 34 20 mc_177 dX11_pactLine_32 rfl (by decide)).trans ?_
    refine (s_icmp_eq 69 37 mc_177 dX11_pactLine_34 rfl rfl).trans ?_
    refine ite_c ?_ ?_
    · skip
      refine (s_aload_n 70 mc_177 dX11_pactLine_69 rfl rfl rfl).trans ?_
      refine (s_iconst 71 3 mc_177 dX11_pactLine_70 rfl (by decide)).trans ?_
      refine (s_iviI 74 mc_177 dX11_pactLine_71 rfl mo_177 mm_11_317 (by decide) ms_160 mi_160 mr_160 ma_160 mo_160 (by decide) (Nat.le_of_ble_eq_true rfl) rfl rfl (Nat.le_of_ble_eq_true rfl)).trans ?_
      refine gd_c ?_
      refine bI_c fun r5 h2 => ?_
      exact s_zret mc_177 dX11_pactLine_74 mt_177
    · skip
      refine (s_iload_n 38 mc_177 dX11_pactLine_37 rfl rfl rfl).trans ?_
      refine (s_iconst 39 4 mc_177 dX11_pactLine_38 rfl (by decide)).trans ?_
      refine (s_icmp_ne 53 42 mc_177 dX11_pactLine_39 rfl rfl).trans ?_
      refine ite_c ?_ ?_
      · skip
        rfl
      · skip
        refine (s_aload_n 43 mc_177 dX11_pactLine_42 rfl rfl rfl).trans ?_
        refine (s_getfR 46 mc_177 dX11_pactLine_43 rfl mo_177 fs_11_99 ff_11_99 rfl).trans ?_
        refine gR_c fun g6 => ?_
        refine (s_bipush 48 36 mc_177 dX11_pactLine_46 rfl (by decide)).trans ?_
        refine (s_iaload 49 mc_177 dX11_pactLine_48 rfl).trans ?_
        refine aI_c fun g7 => ?_
        refine (s_iconst 50 (-1) mc_177 dX11_pactLine_49 rfl (by decide)).trans ?_
        refine (s_icmp_ne 69 53 mc_177 dX11_pactLine_50 rfl rfl).trans ?_
        refine ite_c ?_ ?_
        · skip
          refine (s_aload_n 70 mc_177 dX11_pactLine_69 rfl rfl rfl).trans ?_
          refine (s_iconst 71 3 mc_177 dX11_pactLine_70 rfl (by decide)).trans ?_
          refine (s_iviI 74 mc_177 dX11_pactLine_71 rfl mo_177 mm_11_317 (by decide) ms_160 mi_160 mr_160 ma_160 mo_160 (by decide) (Nat.le_of_ble_eq_true rfl) rfl rfl (Nat.le_of_ble_eq_true rfl)).trans ?_
          refine gd_c ?_
          refine bI_c fun r8 h3 => ?_
          exact s_zret mc_177 dX11_pactLine_74 mt_177
        · skip
          rfl
  · skip
    refine (s_aload_n 15 mc_177 dX11_pactLine_14 rfl rfl rfl).trans ?_
    refine (s_iconst 16 1 mc_177 dX11_pactLine_15 rfl (by decide)).trans ?_
    refine (s_iviI 19 mc_177 dX11_pactLine_16 rfl mo_177 mm_11_317 (by decide) ms_160 mi_160 mr_160 ma_160 mo_160 (by decide) (Nat.le_of_ble_eq_true rfl) rfl rfl (Nat.le_of_ble_eq_true rfl)).trans ?_
    refine gd_c ?_
    refine bI_c fun r9 h4 => ?_
    exact s_zret mc_177 dX11_pactLine_19 mt_177
theorem b_177_53 {X : Ctx} {d : Nat} (x0 : Nat) (x1 : Int32)  (h : Hp) : sem (X, K X d) 177 53 [some (.ref x0), some (.int x1)] [] h = if ¬ x1 = 8 then sem (X, K X d) 177 75 [some (.ref x0), some (.int x1)] [] h else gR h 11 x0 29 fun g1 => aZ h g1 36 fun g2 => if g2 = 0 then sem (X, K X d) 177 75 [some (.ref x0), some (.int x1)] [] h else gd (hS h x0 = (12, 0)) (bI (K X d 160 [.ref x0, .int 3] h) fun r3 h1 => gd (okN .boolean r3) (some (some (.int r3), h1))) := by
  refine (s_iload_n 54 mc_177 dX11_pactLine_53 rfl rfl rfl).trans ?_
  refine (s_bipush 56 8 mc_177 dX11_pactLine_54 rfl (by decide)).trans ?_
  refine (s_icmp_ne 75 59 mc_177 dX11_pactLine_56 rfl rfl).trans ?_
  refine ite_c ?_ ?_
  · skip
    rfl
  · skip
    refine (s_aload_n 60 mc_177 dX11_pactLine_59 rfl rfl rfl).trans ?_
    refine (s_getfR 63 mc_177 dX11_pactLine_60 rfl mo_177 fs_11_102 ff_11_102 rfl).trans ?_
    refine gR_c fun g1 => ?_
    refine (s_bipush 65 36 mc_177 dX11_pactLine_63 rfl (by decide)).trans ?_
    refine (s_baload 66 mc_177 dX11_pactLine_65 rfl).trans ?_
    refine aZ_c fun g2 => ?_
    refine (s_if_eq 75 69 mc_177 dX11_pactLine_66 rfl rfl).trans ?_
    refine ite_c ?_ ?_
    · skip
      rfl
    · skip
      refine (s_aload_n 70 mc_177 dX11_pactLine_69 rfl rfl rfl).trans ?_
      refine (s_iconst 71 3 mc_177 dX11_pactLine_70 rfl (by decide)).trans ?_
      refine (s_iviI 74 mc_177 dX11_pactLine_71 rfl mo_177 mm_11_317 (by decide) ms_160 mi_160 mr_160 ma_160 mo_160 (by decide) (Nat.le_of_ble_eq_true rfl) rfl rfl (Nat.le_of_ble_eq_true rfl)).trans ?_
      refine gd_c ?_
      refine bI_c fun r3 h1 => ?_
      exact s_zret mc_177 dX11_pactLine_74 mt_177
theorem b_177_75 {X : Ctx} {d : Nat} (x0 : Nat) (x1 : Int32)  (h : Hp) : sem (X, K X d) 177 75 [some (.ref x0), some (.int x1)] [] h = gd (hS h x0 = (12, 0)) (bV (K X d 159 [.ref x0] h) fun h1 => if ¬ x1 = 5 then sem (X, K X d) 177 142 [some (.ref x0), some (.int x1)] [] h1 else gI h1 11 x0 37 fun g1 => bI (K X d 142 [.int g1, .int 61, .int 64] h1) fun r2 h2 => if ¬ r2 = 0 then gR h2 11 x0 25 fun g3 => gR h2 11 x0 24 fun g4 => aI X h2 g4 36 fun g5 => gI h2 11 x0 37 fun g6 => wI h2 g3 (720 + g5) (g6 - 60) fun h3 => gR h3 11 x0 24 fun g7 => aI X h3 g7 36 fun g8 => wI h3 g7 36 (g8 + 1) fun h4 => gd (hS h4 x0 = (12, 0)) (bV (K X d 159 [.ref x0] h4) fun h5 => sem (X, K X d) 177 142 [some (.ref x0), some (.int x1)] [] h5) else gd (hS h2 x0 = (12, 0)) (bI (K X d 160 [.ref x0, .int 1] h2) fun r9 h6 => gd (okN .boolean r9) (some (some (.int r9), h6)))) := by
  refine (s_aload_n 76 mc_177 dX11_pactLine_75 rfl rfl rfl).trans ?_
  refine (s_iviV 79 mc_177 dX11_pactLine_76 rfl mo_177 mm_11_320 (by decide) ms_159 mi_159 mr_159 ma_159 mo_159 (by decide) (Nat.le_of_ble_eq_true rfl) rfl rfl (Nat.le_of_ble_eq_true rfl)).trans ?_
  refine gd_c ?_
  refine bV_c fun h1 => ?_
  refine (s_iload_n 80 mc_177 dX11_pactLine_79 rfl rfl rfl).trans ?_
  refine (s_iconst 81 5 mc_177 dX11_pactLine_80 rfl (by decide)).trans ?_
  refine (s_icmp_ne 142 84 mc_177 dX11_pactLine_81 rfl rfl).trans ?_
  refine ite_c ?_ ?_
  · skip
    rfl
  · skip
    refine (s_aload_n 85 mc_177 dX11_pactLine_84 rfl rfl rfl).trans ?_
    refine (s_getfI 88 mc_177 dX11_pactLine_85 rfl mo_177 fs_11_296 ff_11_296 (Or.inl rfl)).trans ?_
    refine gI_c fun g1 => ?_
    refine (s_bipush 90 61 mc_177 dX11_pactLine_88 rfl (by decide)).trans ?_
    refine (s_bipush 92 64 mc_177 dX11_pactLine_90 rfl (by decide)).trans ?_
    refine (s_istI 95 mc_177 dX11_pactLine_92 rfl mo_177 mm_11_1 (by decide) ms_142 mr_142 ma_142 (Nat.le_of_ble_eq_true rfl) rfl rfl (Nat.le_of_ble_eq_true rfl)).trans ?_
    refine bI_c fun r2 h2 => ?_
    refine (s_if_ne 104 98 mc_177 dX11_pactLine_95 rfl rfl).trans ?_
    refine ite_c ?_ ?_
    · skip
      refine (s_aload_n 105 mc_177 dX11_pactLine_104 rfl rfl rfl).trans ?_
      refine (s_getfR 108 mc_177 dX11_pactLine_105 rfl mo_177 fs_11_90 ff_11_90 rfl).trans ?_
      refine gR_c fun g3 => ?_
      refine (s_sipush 111 720 mc_177 dX11_pactLine_108 rfl (by decide)).trans ?_
      refine (s_aload_n 112 mc_177 dX11_pactLine_111 rfl rfl rfl).trans ?_
      refine (s_getfR 115 mc_177 dX11_pactLine_112 rfl mo_177 fs_11_87 ff_11_87 rfl).trans ?_
      refine gR_c fun g4 => ?_
      refine (s_bipush 117 36 mc_177 dX11_pactLine_115 rfl (by decide)).trans ?_
      refine (s_iaload 118 mc_177 dX11_pactLine_117 rfl).trans ?_
      refine aI_c fun g5 => ?_
      refine (s_iadd 119 mc_177 dX11_pactLine_118 rfl).trans ?_
      refine (s_aload_n 120 mc_177 dX11_pactLine_119 rfl rfl rfl).trans ?_
      refine (s_getfI 123 mc_177 dX11_pactLine_120 rfl mo_177 fs_11_296 ff_11_296 (Or.inl rfl)).trans ?_
      refine gI_c fun g6 => ?_
      refine (s_bipush 125 60 mc_177 dX11_pactLine_123 rfl (by decide)).trans ?_
      refine (s_isub 126 mc_177 dX11_pactLine_125 rfl).trans ?_
      refine (s_iastore 127 mc_177 dX11_pactLine_126 rfl).trans ?_
      refine wI_c fun h3 => ?_
      refine (s_aload_n 128 mc_177 dX11_pactLine_127 rfl rfl rfl).trans ?_
      refine (s_getfR 131 mc_177 dX11_pactLine_128 rfl mo_177 fs_11_87 ff_11_87 rfl).trans ?_
      refine gR_c fun g7 => ?_
      refine (s_bipush 133 36 mc_177 dX11_pactLine_131 rfl (by decide)).trans ?_
      refine (s_dup2 134 mc_177 dX11_pactLine_133 rfl rfl rfl).trans ?_
      refine (s_iaload 135 mc_177 dX11_pactLine_134 rfl).trans ?_
      refine aI_c fun g8 => ?_
      refine (s_iconst 136 1 mc_177 dX11_pactLine_135 rfl (by decide)).trans ?_
      refine (s_iadd 137 mc_177 dX11_pactLine_136 rfl).trans ?_
      refine (s_iastore 138 mc_177 dX11_pactLine_137 rfl).trans ?_
      refine wI_c fun h4 => ?_
      refine (s_aload_n 139 mc_177 dX11_pactLine_138 rfl rfl rfl).trans ?_
      refine (s_iviV 142 mc_177 dX11_pactLine_139 rfl mo_177 mm_11_320 (by decide) ms_159 mi_159 mr_159 ma_159 mo_159 (by decide) (Nat.le_of_ble_eq_true rfl) rfl rfl (Nat.le_of_ble_eq_true rfl)).trans ?_
      refine gd_c ?_
      refine bV_c fun h5 => ?_
      rfl
    · skip
      refine (s_aload_n 99 mc_177 dX11_pactLine_98 rfl rfl rfl).trans ?_
      refine (s_iconst 100 1 mc_177 dX11_pactLine_99 rfl (by decide)).trans ?_
      refine (s_iviI 103 mc_177 dX11_pactLine_100 rfl mo_177 mm_11_317 (by decide) ms_160 mi_160 mr_160 ma_160 mo_160 (by decide) (Nat.le_of_ble_eq_true rfl) rfl rfl (Nat.le_of_ble_eq_true rfl)).trans ?_
      refine gd_c ?_
      refine bI_c fun r9 h6 => ?_
      exact s_zret mc_177 dX11_pactLine_103 mt_177
theorem b_177_142 {X : Ctx} {d : Nat} (x0 : Nat) (x1 : Int32)  (h : Hp) : sem (X, K X d) 177 142 [some (.ref x0), some (.int x1)] [] h = if x1 = 6 then gd (hS h x0 = (12, 0)) (bI (K X d 176 [.ref x0, .int x1] h) fun r1 h1 => if ¬ r1 = 0 then sem (X, K X d) 177 164 [some (.ref x0), some (.int x1)] [] h1 else some (some (.int 0), h1)) else if ¬ x1 = 7 then sem (X, K X d) 177 164 [some (.ref x0), some (.int x1)] [] h else gd (hS h x0 = (12, 0)) (bI (K X d 176 [.ref x0, .int x1] h) fun r2 h2 => if ¬ r2 = 0 then sem (X, K X d) 177 164 [some (.ref x0), some (.int x1)] [] h2 else some (some (.int 0), h2)) := by
  refine (s_iload_n 143 mc_177 dX11_pactLine_142 rfl rfl rfl).trans ?_
  refine (s_bipush 145 6 mc_177 dX11_pactLine_143 rfl (by decide)).trans ?_
  refine (s_icmp_eq 154 148 mc_177 dX11_pactLine_145 rfl rfl).trans ?_
  refine ite_c ?_ ?_
  · skip
    refine (s_aload_n 155 mc_177 dX11_pactLine_154 rfl rfl rfl).trans ?_
    refine (s_iload_n 156 mc_177 dX11_pactLine_155 rfl rfl rfl).trans ?_
    refine (s_iviI 159 mc_177 dX11_pactLine_156 rfl mo_177 mm_11_380 (by decide) ms_176 mi_176 mr_176 ma_176 mo_176 (by decide) (Nat.le_of_ble_eq_true rfl) rfl rfl (Nat.le_of_ble_eq_true rfl)).trans ?_
    refine gd_c ?_
    refine bI_c fun r1 h1 => ?_
    refine (s_if_ne 164 162 mc_177 dX11_pactLine_159 rfl rfl).trans ?_
    refine ite_c ?_ ?_
    · skip
      rfl
    · skip
      refine (s_iconst 163 0 mc_177 dX11_pactLine_162 rfl (by decide)).trans ?_
      exact s_zret0 mc_177 dX11_pactLine_163 mt_177
  · skip
    refine (s_iload_n 149 mc_177 dX11_pactLine_148 rfl rfl rfl).trans ?_
    refine (s_bipush 151 7 mc_177 dX11_pactLine_149 rfl (by decide)).trans ?_
    refine (s_icmp_ne 164 154 mc_177 dX11_pactLine_151 rfl rfl).trans ?_
    refine ite_c ?_ ?_
    · skip
      rfl
    · skip
      refine (s_aload_n 155 mc_177 dX11_pactLine_154 rfl rfl rfl).trans ?_
      refine (s_iload_n 156 mc_177 dX11_pactLine_155 rfl rfl rfl).trans ?_
      refine (s_iviI 159 mc_177 dX11_pactLine_156 rfl mo_177 mm_11_380 (by decide) ms_176 mi_176 mr_176 ma_176 mo_176 (by decide) (Nat.le_of_ble_eq_true rfl) rfl rfl (Nat.le_of_ble_eq_true rfl)).trans ?_
      refine gd_c ?_
      refine bI_c fun r2 h2 => ?_
      refine (s_if_ne 164 162 mc_177 dX11_pactLine_159 rfl rfl).trans ?_
      refine ite_c ?_ ?_
      · skip
        rfl
      · skip
        refine (s_iconst 163 0 mc_177 dX11_pactLine_162 rfl (by decide)).trans ?_
        exact s_zret0 mc_177 dX11_pactLine_163 mt_177
theorem b_177_164 {X : Ctx} {d : Nat} (x0 : Nat) (x1 : Int32)  (h : Hp) : sem (X, K X d) 177 164 [some (.ref x0), some (.int x1)] [] h = if ¬ x1 = 4 then sem (X, K X d) 177 193 [some (.ref x0), some (.int x1)] [] h else gR h 11 x0 28 fun g1 => gd (hS h x0 = (12, 0)) (bI (K X d 174 [.ref x0] h) fun r2 h1 => wI h1 g1 36 r2 fun h2 => gR h2 11 x0 28 fun g3 => aI X h2 g3 36 fun g4 => if ¬ g4 = (-1) then sem (X, K X d) 177 193 [some (.ref x0), some (.int x1)] [] h2 else some (some (.int 0), h2)) := by
  refine (s_iload_n 165 mc_177 dX11_pactLine_164 rfl rfl rfl).trans ?_
  refine (s_iconst 166 4 mc_177 dX11_pactLine_165 rfl (by decide)).trans ?_
  refine (s_icmp_ne 193 169 mc_177 dX11_pactLine_166 rfl rfl).trans ?_
  refine ite_c ?_ ?_
  · skip
    rfl
  · skip
    refine (s_aload_n 170 mc_177 dX11_pactLine_169 rfl rfl rfl).trans ?_
    refine (s_getfR 173 mc_177 dX11_pactLine_170 rfl mo_177 fs_11_99 ff_11_99 rfl).trans ?_
    refine gR_c fun g1 => ?_
    refine (s_bipush 175 36 mc_177 dX11_pactLine_173 rfl (by decide)).trans ?_
    refine (s_aload_n 176 mc_177 dX11_pactLine_175 rfl rfl rfl).trans ?_
    refine (s_iviI 179 mc_177 dX11_pactLine_176 rfl mo_177 mm_11_378 (by decide) ms_174 mi_174 mr_174 ma_174 mo_174 (by decide) (Nat.le_of_ble_eq_true rfl) rfl rfl (Nat.le_of_ble_eq_true rfl)).trans ?_
    refine gd_c ?_
    refine bI_c fun r2 h1 => ?_
    refine (s_iastore 180 mc_177 dX11_pactLine_179 rfl).trans ?_
    refine wI_c fun h2 => ?_
    refine (s_aload_n 181 mc_177 dX11_pactLine_180 rfl rfl rfl).trans ?_
    refine (s_getfR 184 mc_177 dX11_pactLine_181 rfl mo_177 fs_11_99 ff_11_99 rfl).trans ?_
    refine gR_c fun g3 => ?_
    refine (s_bipush 186 36 mc_177 dX11_pactLine_184 rfl (by decide)).trans ?_
    refine (s_iaload 187 mc_177 dX11_pactLine_186 rfl).trans ?_
    refine aI_c fun g4 => ?_
    refine (s_iconst 188 (-1) mc_177 dX11_pactLine_187 rfl (by decide)).trans ?_
    refine (s_icmp_ne 193 191 mc_177 dX11_pactLine_188 rfl rfl).trans ?_
    refine ite_c ?_ ?_
    · skip
      rfl
    · skip
      refine (s_iconst 192 0 mc_177 dX11_pactLine_191 rfl (by decide)).trans ?_
      exact s_zret0 mc_177 dX11_pactLine_192 mt_177
theorem b_177_193 {X : Ctx} {d : Nat} (x0 : Nat) (x1 : Int32)  (h : Hp) : sem (X, K X d) 177 193 [some (.ref x0), some (.int x1)] [] h = if ¬ x1 = 8 then gI h 11 x0 34 fun g1 => fI h 11 x0 34 (g1 + 1) fun h1 => gd (hS h1 x0 = (12, 0)) (bI (K X d 161 [.ref x0, .int 159] h1) fun r2 h2 => gd (okN .boolean r2) (some (some (.int r2), h2))) else gR h 11 x0 29 fun g3 => wZ h g3 36 1 fun h3 => gI h3 11 x0 34 fun g4 => fI h3 11 x0 34 (g4 + 1) fun h4 => gd (hS h4 x0 = (12, 0)) (bI (K X d 161 [.ref x0, .int 159] h4) fun r5 h5 => gd (okN .boolean r5) (some (some (.int r5), h5))) := by
  refine (s_iload_n 194 mc_177 dX11_pactLine_193 rfl rfl rfl).trans ?_
  refine (s_bipush 196 8 mc_177 dX11_pactLine_194 rfl (by decide)).trans ?_
  refine (s_icmp_ne 207 199 mc_177 dX11_pactLine_196 rfl rfl).trans ?_
  refine ite_c ?_ ?_
  · skip
    refine (s_aload_n 208 mc_177 dX11_pactLine_207 rfl rfl rfl).trans ?_
    refine (s_dup 209 mc_177 dX11_pactLine_208 rfl rfl).trans ?_
    refine (s_getfI 212 mc_177 dX11_pactLine_209 rfl mo_177 fs_11_362 ff_11_362 (Or.inl rfl)).trans ?_
    refine gI_c fun g1 => ?_
    refine (s_iconst 213 1 mc_177 dX11_pactLine_212 rfl (by decide)).trans ?_
    refine (s_iadd 214 mc_177 dX11_pactLine_213 rfl).trans ?_
    refine (s_putfI 217 mc_177 dX11_pactLine_214 rfl mo_177 ff_11_362 rfl (Or.inl rfl)).trans ?_
    refine fI_c fun h1 => ?_
    refine (s_aload_n 218 mc_177 dX11_pactLine_217 rfl rfl rfl).trans ?_
    refine (s_sipush 221 159 mc_177 dX11_pactLine_218 rfl (by decide)).trans ?_
    refine (s_iviI 224 mc_177 dX11_pactLine_221 rfl mo_177 mm_11_356 (by decide) ms_161 mi_161 mr_161 ma_161 mo_161 (by decide) (Nat.le_of_ble_eq_true rfl) rfl rfl (Nat.le_of_ble_eq_true rfl)).trans ?_
    refine gd_c ?_
    refine bI_c fun r2 h2 => ?_
    exact s_zret mc_177 dX11_pactLine_224 mt_177
  · skip
    refine (s_aload_n 200 mc_177 dX11_pactLine_199 rfl rfl rfl).trans ?_
    refine (s_getfR 203 mc_177 dX11_pactLine_200 rfl mo_177 fs_11_102 ff_11_102 rfl).trans ?_
    refine gR_c fun g3 => ?_
    refine (s_bipush 205 36 mc_177 dX11_pactLine_203 rfl (by decide)).trans ?_
    refine (s_iconst 206 1 mc_177 dX11_pactLine_205 rfl (by decide)).trans ?_
    refine (s_bastore 207 mc_177 dX11_pactLine_206 rfl).trans ?_
    refine wZ_c fun h3 => ?_
    refine (s_aload_n 208 mc_177 dX11_pactLine_207 rfl rfl rfl).trans ?_
    refine (s_dup 209 mc_177 dX11_pactLine_208 rfl rfl).trans ?_
    refine (s_getfI 212 mc_177 dX11_pactLine_209 rfl mo_177 fs_11_362 ff_11_362 (Or.inl rfl)).trans ?_
    refine gI_c fun g4 => ?_
    refine (s_iconst 213 1 mc_177 dX11_pactLine_212 rfl (by decide)).trans ?_
    refine (s_iadd 214 mc_177 dX11_pactLine_213 rfl).trans ?_
    refine (s_putfI 217 mc_177 dX11_pactLine_214 rfl mo_177 ff_11_362 rfl (Or.inl rfl)).trans ?_
    refine fI_c fun h4 => ?_
    refine (s_aload_n 218 mc_177 dX11_pactLine_217 rfl rfl rfl).trans ?_
    refine (s_sipush 221 159 mc_177 dX11_pactLine_218 rfl (by decide)).trans ?_
    refine (s_iviI 224 mc_177 dX11_pactLine_221 rfl mo_177 mm_11_356 (by decide) ms_161 mi_161 mr_161 ma_161 mo_161 (by decide) (Nat.le_of_ble_eq_true rfl) rfl rfl (Nat.le_of_ble_eq_true rfl)).trans ?_
    refine gd_c ?_
    refine bI_c fun r5 h5 => ?_
    exact s_zret mc_177 dX11_pactLine_224 mt_177
/-- FiveLandsModel.empties()V -/
theorem k_178 {X : Ctx} {d : Nat} (x0 : Nat) (h : Hp) : K X (d + 1) 178 [.ref x0] h = fI h 11 x0 33 0 fun h1 => fI h1 11 x0 34 0 fun h2 => gR h2 11 x0 17 fun g1 => wI h2 g1 6 0 fun h3 => gR h3 11 x0 21 fun g2 => wZ h3 g2 6 0 fun h4 => gR h4 11 x0 22 fun g3 => wZ h4 g3 6 0 fun h5 => gR h5 11 x0 16 fun g4 => wI h5 g4 6 0 fun h6 => gR h6 11 x0 20 fun g5 => wI h6 g5 6 0 fun h7 => gd (hS h7 x0 = (12, 0)) (bV (K X d 179 [.ref x0, .int 36] h7) fun h8 => some (none, h8)) := by
  show sem (X, K X d) 178 0 [some (.ref x0)] [] h = _
  refine (s_aload_n 1 mc_178 dX11_empties_0 rfl rfl rfl).trans ?_
  refine (s_iconst 2 0 mc_178 dX11_empties_1 rfl (by decide)).trans ?_
  refine (s_putfI 5 mc_178 dX11_empties_2 rfl mo_178 ff_11_323 rfl (Or.inl rfl)).trans ?_
  refine fI_c fun h1 => ?_
  refine (s_aload_n 6 mc_178 dX11_empties_5 rfl rfl rfl).trans ?_
  refine (s_iconst 7 0 mc_178 dX11_empties_6 rfl (by decide)).trans ?_
  refine (s_putfI 10 mc_178 dX11_empties_7 rfl mo_178 ff_11_362 rfl (Or.inl rfl)).trans ?_
  refine fI_c fun h2 => ?_
  refine (s_aload_n 11 mc_178 dX11_empties_10 rfl rfl rfl).trans ?_
  refine (s_getfR 14 mc_178 dX11_empties_11 rfl mo_178 fs_11_65 ff_11_65 rfl).trans ?_
  refine gR_c fun g1 => ?_
  refine (s_bipush 16 6 mc_178 dX11_empties_14 rfl (by decide)).trans ?_
  refine (s_iconst 17 0 mc_178 dX11_empties_16 rfl (by decide)).trans ?_
  refine (s_iastore 18 mc_178 dX11_empties_17 rfl).trans ?_
  refine wI_c fun h3 => ?_
  refine (s_aload_n 19 mc_178 dX11_empties_18 rfl rfl rfl).trans ?_
  refine (s_getfR 22 mc_178 dX11_empties_19 rfl mo_178 fs_11_77 ff_11_77 rfl).trans ?_
  refine gR_c fun g2 => ?_
  refine (s_bipush 24 6 mc_178 dX11_empties_22 rfl (by decide)).trans ?_
  refine (s_iconst 25 0 mc_178 dX11_empties_24 rfl (by decide)).trans ?_
  refine (s_bastore 26 mc_178 dX11_empties_25 rfl).trans ?_
  refine wZ_c fun h4 => ?_
  refine (s_aload_n 27 mc_178 dX11_empties_26 rfl rfl rfl).trans ?_
  refine (s_getfR 30 mc_178 dX11_empties_27 rfl mo_178 fs_11_81 ff_11_81 rfl).trans ?_
  refine gR_c fun g3 => ?_
  refine (s_bipush 32 6 mc_178 dX11_empties_30 rfl (by decide)).trans ?_
  refine (s_iconst 33 0 mc_178 dX11_empties_32 rfl (by decide)).trans ?_
  refine (s_bastore 34 mc_178 dX11_empties_33 rfl).trans ?_
  refine wZ_c fun h5 => ?_
  refine (s_aload_n 35 mc_178 dX11_empties_34 rfl rfl rfl).trans ?_
  refine (s_getfR 38 mc_178 dX11_empties_35 rfl mo_178 fs_11_62 ff_11_62 rfl).trans ?_
  refine gR_c fun g4 => ?_
  refine (s_bipush 40 6 mc_178 dX11_empties_38 rfl (by decide)).trans ?_
  refine (s_iconst 41 0 mc_178 dX11_empties_40 rfl (by decide)).trans ?_
  refine (s_iastore 42 mc_178 dX11_empties_41 rfl).trans ?_
  refine wI_c fun h6 => ?_
  refine (s_aload_n 43 mc_178 dX11_empties_42 rfl rfl rfl).trans ?_
  refine (s_getfR 46 mc_178 dX11_empties_43 rfl mo_178 fs_11_74 ff_11_74 rfl).trans ?_
  refine gR_c fun g5 => ?_
  refine (s_bipush 48 6 mc_178 dX11_empties_46 rfl (by decide)).trans ?_
  refine (s_iconst 49 0 mc_178 dX11_empties_48 rfl (by decide)).trans ?_
  refine (s_iastore 50 mc_178 dX11_empties_49 rfl).trans ?_
  refine wI_c fun h7 => ?_
  refine (s_aload_n 51 mc_178 dX11_empties_50 rfl rfl rfl).trans ?_
  refine (s_bipush 53 36 mc_178 dX11_empties_51 rfl (by decide)).trans ?_
  refine (s_iviV 56 mc_178 dX11_empties_53 rfl mo_178 mm_11_118 (by decide) ms_179 mi_179 mr_179 ma_179 mo_179 (by decide) (Nat.le_of_ble_eq_true rfl) rfl rfl (Nat.le_of_ble_eq_true rfl)).trans ?_
  refine gd_c ?_
  refine bV_c fun h8 => ?_
  exact s_vret mc_178 dX11_empties_56 mt_178
/-- FiveLandsModel.clearsPact(I)V -/
theorem k_179 {X : Ctx} {d : Nat} (x0 : Nat) (x1 : Int32) (h : Hp) : K X (d + 1) 179 [.ref x0, .int x1] h = gR h 11 x0 24 fun g1 => wI h g1 x1 0 fun h1 => gR h1 11 x0 26 fun g2 => wI h1 g2 x1 0 fun h2 => gR h2 11 x0 28 fun g3 => wI h2 g3 x1 (-1) fun h3 => gR h3 11 x0 29 fun g4 => wZ h3 g4 x1 0 fun h4 => sem (X, K X d) 179 30 [some (.ref x0), some (.int x1), some (.int 0)] [] h4 := by
  show sem (X, K X d) 179 0 [some (.ref x0), some (.int x1), none] [] h = _
  refine (s_aload_n 1 mc_179 dX11_clearsPact_0 rfl rfl rfl).trans ?_
  refine (s_getfR 4 mc_179 dX11_clearsPact_1 rfl mo_179 fs_11_87 ff_11_87 rfl).trans ?_
  refine gR_c fun g1 => ?_
  refine (s_iload_n 5 mc_179 dX11_clearsPact_4 rfl rfl rfl).trans ?_
  refine (s_iconst 6 0 mc_179 dX11_clearsPact_5 rfl (by decide)).trans ?_
  refine (s_iastore 7 mc_179 dX11_clearsPact_6 rfl).trans ?_
  refine wI_c fun h1 => ?_
  refine (s_aload_n 8 mc_179 dX11_clearsPact_7 rfl rfl rfl).trans ?_
  refine (s_getfR 11 mc_179 dX11_clearsPact_8 rfl mo_179 fs_11_93 ff_11_93 rfl).trans ?_
  refine gR_c fun g2 => ?_
  refine (s_iload_n 12 mc_179 dX11_clearsPact_11 rfl rfl rfl).trans ?_
  refine (s_iconst 13 0 mc_179 dX11_clearsPact_12 rfl (by decide)).trans ?_
  refine (s_iastore 14 mc_179 dX11_clearsPact_13 rfl).trans ?_
  refine wI_c fun h2 => ?_
  refine (s_aload_n 15 mc_179 dX11_clearsPact_14 rfl rfl rfl).trans ?_
  refine (s_getfR 18 mc_179 dX11_clearsPact_15 rfl mo_179 fs_11_99 ff_11_99 rfl).trans ?_
  refine gR_c fun g3 => ?_
  refine (s_iload_n 19 mc_179 dX11_clearsPact_18 rfl rfl rfl).trans ?_
  refine (s_iconst 20 (-1) mc_179 dX11_clearsPact_19 rfl (by decide)).trans ?_
  refine (s_iastore 21 mc_179 dX11_clearsPact_20 rfl).trans ?_
  refine wI_c fun h3 => ?_
  refine (s_aload_n 22 mc_179 dX11_clearsPact_21 rfl rfl rfl).trans ?_
  refine (s_getfR 25 mc_179 dX11_clearsPact_22 rfl mo_179 fs_11_102 ff_11_102 rfl).trans ?_
  refine gR_c fun g4 => ?_
  refine (s_iload_n 26 mc_179 dX11_clearsPact_25 rfl rfl rfl).trans ?_
  refine (s_iconst 27 0 mc_179 dX11_clearsPact_26 rfl (by decide)).trans ?_
  refine (s_bastore 28 mc_179 dX11_clearsPact_27 rfl).trans ?_
  refine wZ_c fun h4 => ?_
  refine (s_iconst 29 0 mc_179 dX11_clearsPact_28 rfl (by decide)).trans ?_
  refine (s_istore_n 30 mc_179 dX11_clearsPact_29 rfl rfl (Nat.le_of_ble_eq_true rfl) rfl).trans ?_
  rfl
theorem b_179_30 {X : Ctx} {d : Nat} (x0 : Nat) (x1 : Int32) (x2 : Int32)  (h : Hp) : sem (X, K X d) 179 30 [some (.ref x0), some (.int x1), some (.int x2)] [] h = if 6 ≤ x2 then some (none, h) else gR h 11 x0 27 fun g1 => wI h g1 ((6 * x1) + x2) (-1) fun h1 => sem (X, K X d) 179 30 [some (.ref x0), some (.int x1), some (.int (x2 + 1))] [] h1 := by
  refine (s_iload_n 31 mc_179 dX11_clearsPact_30 rfl rfl rfl).trans ?_
  refine (s_bipush 33 6 mc_179 dX11_clearsPact_31 rfl (by decide)).trans ?_
  refine (s_icmp_ge 54 36 mc_179 dX11_clearsPact_33 rfl rfl).trans ?_
  refine ite_c ?_ ?_
  · skip
    exact s_vret mc_179 dX11_clearsPact_54 mt_179
  · skip
    refine (s_aload_n 37 mc_179 dX11_clearsPact_36 rfl rfl rfl).trans ?_
    refine (s_getfR 40 mc_179 dX11_clearsPact_37 rfl mo_179 fs_11_96 ff_11_96 rfl).trans ?_
    refine gR_c fun g1 => ?_
    refine (s_bipush 42 6 mc_179 dX11_clearsPact_40 rfl (by decide)).trans ?_
    refine (s_iload_n 43 mc_179 dX11_clearsPact_42 rfl rfl rfl).trans ?_
    refine (s_imul 44 mc_179 dX11_clearsPact_43 rfl).trans ?_
    refine (s_iload_n 45 mc_179 dX11_clearsPact_44 rfl rfl rfl).trans ?_
    refine (s_iadd 46 mc_179 dX11_clearsPact_45 rfl).trans ?_
    refine (s_iconst 47 (-1) mc_179 dX11_clearsPact_46 rfl (by decide)).trans ?_
    refine (s_iastore 48 mc_179 dX11_clearsPact_47 rfl).trans ?_
    refine wI_c fun h1 => ?_
    refine (s_iinc 1 51 mc_179 dX11_clearsPact_48 rfl rfl (Nat.le_of_ble_eq_true rfl) (by decide) rfl).trans ?_
    refine (s_goto 30 mc_179 dX11_clearsPact_51 rfl).trans ?_
    rfl
/-- FiveLandsModel.keepsLaw(I)V -/
theorem k_180 {X : Ctx} {d : Nat} (x0 : Nat) (x1 : Int32) (h : Hp) : K X (d + 1) 180 [.ref x0, .int x1] h = gR h 11 x0 9 fun g1 => gI h 11 x0 34 fun g2 => wI h g1 x1 g2 fun h1 => gR h1 11 x0 17 fun g3 => gR h1 11 x0 17 fun g4 => aI X h1 g4 6 fun g5 => wI h1 g3 x1 g5 fun h2 => gR h2 11 x0 16 fun g6 => gR h2 11 x0 16 fun g7 => aI X h2 g7 6 fun g8 => wI h2 g6 x1 g8 fun h3 => gR h3 11 x0 20 fun g9 => gR h3 11 x0 20 fun g10 => aI X h3 g10 6 fun g11 => wI h3 g9 x1 g11 fun h4 => sem (X, K X d) 180 51 [some (.ref x0), some (.int x1), some (.int 0), none, none] [] h4 := by
  show sem (X, K X d) 180 0 [some (.ref x0), some (.int x1), none, none, none] [] h = _
  refine (s_aload_n 1 mc_180 dX11_keepsLaw_0 rfl rfl rfl).trans ?_
  refine (s_getfR 4 mc_180 dX11_keepsLaw_1 rfl mo_180 fs_11_41 ff_11_41 rfl).trans ?_
  refine gR_c fun g1 => ?_
  refine (s_iload_n 5 mc_180 dX11_keepsLaw_4 rfl rfl rfl).trans ?_
  refine (s_aload_n 6 mc_180 dX11_keepsLaw_5 rfl rfl rfl).trans ?_
  refine (s_getfI 9 mc_180 dX11_keepsLaw_6 rfl mo_180 fs_11_362 ff_11_362 (Or.inl rfl)).trans ?_
  refine gI_c fun g2 => ?_
  refine (s_iastore 10 mc_180 dX11_keepsLaw_9 rfl).trans ?_
  refine wI_c fun h1 => ?_
  refine (s_aload_n 11 mc_180 dX11_keepsLaw_10 rfl rfl rfl).trans ?_
  refine (s_getfR 14 mc_180 dX11_keepsLaw_11 rfl mo_180 fs_11_65 ff_11_65 rfl).trans ?_
  refine gR_c fun g3 => ?_
  refine (s_iload_n 15 mc_180 dX11_keepsLaw_14 rfl rfl rfl).trans ?_
  refine (s_aload_n 16 mc_180 dX11_keepsLaw_15 rfl rfl rfl).trans ?_
  refine (s_getfR 19 mc_180 dX11_keepsLaw_16 rfl mo_180 fs_11_65 ff_11_65 rfl).trans ?_
  refine gR_c fun g4 => ?_
  refine (s_bipush 21 6 mc_180 dX11_keepsLaw_19 rfl (by decide)).trans ?_
  refine (s_iaload 22 mc_180 dX11_keepsLaw_21 rfl).trans ?_
  refine aI_c fun g5 => ?_
  refine (s_iastore 23 mc_180 dX11_keepsLaw_22 rfl).trans ?_
  refine wI_c fun h2 => ?_
  refine (s_aload_n 24 mc_180 dX11_keepsLaw_23 rfl rfl rfl).trans ?_
  refine (s_getfR 27 mc_180 dX11_keepsLaw_24 rfl mo_180 fs_11_62 ff_11_62 rfl).trans ?_
  refine gR_c fun g6 => ?_
  refine (s_iload_n 28 mc_180 dX11_keepsLaw_27 rfl rfl rfl).trans ?_
  refine (s_aload_n 29 mc_180 dX11_keepsLaw_28 rfl rfl rfl).trans ?_
  refine (s_getfR 32 mc_180 dX11_keepsLaw_29 rfl mo_180 fs_11_62 ff_11_62 rfl).trans ?_
  refine gR_c fun g7 => ?_
  refine (s_bipush 34 6 mc_180 dX11_keepsLaw_32 rfl (by decide)).trans ?_
  refine (s_iaload 35 mc_180 dX11_keepsLaw_34 rfl).trans ?_
  refine aI_c fun g8 => ?_
  refine (s_iastore 36 mc_180 dX11_keepsLaw_35 rfl).trans ?_
  refine wI_c fun h3 => ?_
  refine (s_aload_n 37 mc_180 dX11_keepsLaw_36 rfl rfl rfl).trans ?_
  refine (s_getfR 40 mc_180 dX11_keepsLaw_37 rfl mo_180 fs_11_74 ff_11_74 rfl).trans ?_
  refine gR_c fun g9 => ?_
  refine (s_iload_n 41 mc_180 dX11_keepsLaw_40 rfl rfl rfl).trans ?_
  refine (s_aload_n 42 mc_180 dX11_keepsLaw_41 rfl rfl rfl).trans ?_
  refine (s_getfR 45 mc_180 dX11_keepsLaw_42 rfl mo_180 fs_11_74 ff_11_74 rfl).trans ?_
  refine gR_c fun g10 => ?_
  refine (s_bipush 47 6 mc_180 dX11_keepsLaw_45 rfl (by decide)).trans ?_
  refine (s_iaload 48 mc_180 dX11_keepsLaw_47 rfl).trans ?_
  refine aI_c fun g11 => ?_
  refine (s_iastore 49 mc_180 dX11_keepsLaw_48 rfl).trans ?_
  refine wI_c fun h4 => ?_
  refine (s_iconst 50 0 mc_180 dX11_keepsLaw_49 rfl (by decide)).trans ?_
  refine (s_istore_n 51 mc_180 dX11_keepsLaw_50 rfl rfl (Nat.le_of_ble_eq_true rfl) rfl).trans ?_
  rfl
theorem b_180_51 {X : Ctx} {d : Nat} (x0 : Nat) (x1 : Int32) (x2 : Int32) (v3 : Option Value) (v4 : Option Value)  (h : Hp) : sem (X, K X d) 180 51 [some (.ref x0), some (.int x1), some (.int x2), v3, v4] [] h = if 20 ≤ x2 then sem (X, K X d) 180 169 [some (.ref x0), some (.int x1), some (.int 0), v3, v4] [] h else gR h 11 x0 10 fun g1 => gR h 11 x0 10 fun g2 => aI X h g2 (120 + x2) fun g3 => wI h g1 ((20 * x1) + x2) g3 fun h1 => gR h1 11 x0 11 fun g4 => gR h1 11 x0 11 fun g5 => aI X h1 g5 (120 + x2) fun g6 => wI h1 g4 ((20 * x1) + x2) g6 fun h2 => gR h2 11 x0 12 fun g7 => gR h2 11 x0 12 fun g8 => aI X h2 g8 (120 + x2) fun g9 => wI h2 g7 ((20 * x1) + x2) g9 fun h3 => gR h3 11 x0 13 fun g10 => gR h3 11 x0 13 fun g11 => aI X h3 g11 (120 + x2) fun g12 => wI h3 g10 ((20 * x1) + x2) g12 fun h4 => gR h4 11 x0 14 fun g13 => gR h4 11 x0 14 fun g14 => aI X h4 g14 (120 + x2) fun g15 => wI h4 g13 ((20 * x1) + x2) g15 fun h5 => gR h5 11 x0 18 fun g16 => gR h5 11 x0 18 fun g17 => aI X h5 g17 (120 + x2) fun g18 => wI h5 g16 ((20 * x1) + x2) g18 fun h6 => gR h6 11 x0 19 fun g19 => gR h6 11 x0 19 fun g20 => aI X h6 g20 (120 + x2) fun g21 => wI h6 g19 ((20 * x1) + x2) g21 fun h7 => sem (X, K X d) 180 51 [some (.ref x0), some (.int x1), some (.int (x2 + 1)), some (.int ((20 * x1) + x2)), some (.int (120 + x2))] [] h7 := by
  refine (s_iload_n 52 mc_180 dX11_keepsLaw_51 rfl rfl rfl).trans ?_
  refine (s_bipush 54 20 mc_180 dX11_keepsLaw_52 rfl (by decide)).trans ?_
  refine (s_icmp_ge 167 57 mc_180 dX11_keepsLaw_54 rfl rfl).trans ?_
  refine ite_c ?_ ?_
  · skip
    refine (s_iconst 168 0 mc_180 dX11_keepsLaw_167 rfl (by decide)).trans ?_
    refine (s_istore_n 169 mc_180 dX11_keepsLaw_168 rfl rfl (Nat.le_of_ble_eq_true rfl) rfl).trans ?_
    rfl
  · skip
    refine (s_bipush 59 20 mc_180 dX11_keepsLaw_57 rfl (by decide)).trans ?_
    refine (s_iload_n 60 mc_180 dX11_keepsLaw_59 rfl rfl rfl).trans ?_
    refine (s_imul 61 mc_180 dX11_keepsLaw_60 rfl).trans ?_
    refine (s_iload_n 62 mc_180 dX11_keepsLaw_61 rfl rfl rfl).trans ?_
    refine (s_iadd 63 mc_180 dX11_keepsLaw_62 rfl).trans ?_
    refine (s_istore_n 64 mc_180 dX11_keepsLaw_63 rfl rfl (Nat.le_of_ble_eq_true rfl) rfl).trans ?_
    refine (s_bipush 66 120 mc_180 dX11_keepsLaw_64 rfl (by decide)).trans ?_
    refine (s_iload_n 67 mc_180 dX11_keepsLaw_66 rfl rfl rfl).trans ?_
    refine (s_iadd 68 mc_180 dX11_keepsLaw_67 rfl).trans ?_
    refine (s_istore 70 mc_180 dX11_keepsLaw_68 rfl (Nat.le_of_ble_eq_true rfl) rfl).trans ?_
    refine (s_aload_n 71 mc_180 dX11_keepsLaw_70 rfl rfl rfl).trans ?_
    refine (s_getfR 74 mc_180 dX11_keepsLaw_71 rfl mo_180 fs_11_44 ff_11_44 rfl).trans ?_
    refine gR_c fun g1 => ?_
    refine (s_iload_n 75 mc_180 dX11_keepsLaw_74 rfl rfl rfl).trans ?_
    refine (s_aload_n 76 mc_180 dX11_keepsLaw_75 rfl rfl rfl).trans ?_
    refine (s_getfR 79 mc_180 dX11_keepsLaw_76 rfl mo_180 fs_11_44 ff_11_44 rfl).trans ?_
    refine gR_c fun g2 => ?_
    refine (s_iload 81 mc_180 dX11_keepsLaw_79 rfl rfl).trans ?_
    refine (s_iaload 82 mc_180 dX11_keepsLaw_81 rfl).trans ?_
    refine aI_c fun g3 => ?_
    refine (s_iastore 83 mc_180 dX11_keepsLaw_82 rfl).trans ?_
    refine wI_c fun h1 => ?_
    refine (s_aload_n 84 mc_180 dX11_keepsLaw_83 rfl rfl rfl).trans ?_
    refine (s_getfR 87 mc_180 dX11_keepsLaw_84 rfl mo_180 fs_11_47 ff_11_47 rfl).trans ?_
    refine gR_c fun g4 => ?_
    refine (s_iload_n 88 mc_180 dX11_keepsLaw_87 rfl rfl rfl).trans ?_
    refine (s_aload_n 89 mc_180 dX11_keepsLaw_88 rfl rfl rfl).trans ?_
    refine (s_getfR 92 mc_180 dX11_keepsLaw_89 rfl mo_180 fs_11_47 ff_11_47 rfl).trans ?_
    refine gR_c fun g5 => ?_
    refine (s_iload 94 mc_180 dX11_keepsLaw_92 rfl rfl).trans ?_
    refine (s_iaload 95 mc_180 dX11_keepsLaw_94 rfl).trans ?_
    refine aI_c fun g6 => ?_
    refine (s_iastore 96 mc_180 dX11_keepsLaw_95 rfl).trans ?_
    refine wI_c fun h2 => ?_
    refine (s_aload_n 97 mc_180 dX11_keepsLaw_96 rfl rfl rfl).trans ?_
    refine (s_getfR 100 mc_180 dX11_keepsLaw_97 rfl mo_180 fs_11_50 ff_11_50 rfl).trans ?_
    refine gR_c fun g7 => ?_
    refine (s_iload_n 101 mc_180 dX11_keepsLaw_100 rfl rfl rfl).trans ?_
    refine (s_aload_n 102 mc_180 dX11_keepsLaw_101 rfl rfl rfl).trans ?_
    refine (s_getfR 105 mc_180 dX11_keepsLaw_102 rfl mo_180 fs_11_50 ff_11_50 rfl).trans ?_
    refine gR_c fun g8 => ?_
    refine (s_iload 107 mc_180 dX11_keepsLaw_105 rfl rfl).trans ?_
    refine (s_iaload 108 mc_180 dX11_keepsLaw_107 rfl).trans ?_
    refine aI_c fun g9 => ?_
    refine (s_iastore 109 mc_180 dX11_keepsLaw_108 rfl).trans ?_
    refine wI_c fun h3 => ?_
    refine (s_aload_n 110 mc_180 dX11_keepsLaw_109 rfl rfl rfl).trans ?_
    refine (s_getfR 113 mc_180 dX11_keepsLaw_110 rfl mo_180 fs_11_53 ff_11_53 rfl).trans ?_
    refine gR_c fun g10 => ?_
    refine (s_iload_n 114 mc_180 dX11_keepsLaw_113 rfl rfl rfl).trans ?_
    refine (s_aload_n 115 mc_180 dX11_keepsLaw_114 rfl rfl rfl).trans ?_
    refine (s_getfR 118 mc_180 dX11_keepsLaw_115 rfl mo_180 fs_11_53 ff_11_53 rfl).trans ?_
    refine gR_c fun g11 => ?_
    refine (s_iload 120 mc_180 dX11_keepsLaw_118 rfl rfl).trans ?_
    refine (s_iaload 121 mc_180 dX11_keepsLaw_120 rfl).trans ?_
    refine aI_c fun g12 => ?_
    refine (s_iastore 122 mc_180 dX11_keepsLaw_121 rfl).trans ?_
    refine wI_c fun h4 => ?_
    refine (s_aload_n 123 mc_180 dX11_keepsLaw_122 rfl rfl rfl).trans ?_
    refine (s_getfR 126 mc_180 dX11_keepsLaw_123 rfl mo_180 fs_11_56 ff_11_56 rfl).trans ?_
    refine gR_c fun g13 => ?_
    refine (s_iload_n 127 mc_180 dX11_keepsLaw_126 rfl rfl rfl).trans ?_
    refine (s_aload_n 128 mc_180 dX11_keepsLaw_127 rfl rfl rfl).trans ?_
    refine (s_getfR 131 mc_180 dX11_keepsLaw_128 rfl mo_180 fs_11_56 ff_11_56 rfl).trans ?_
    refine gR_c fun g14 => ?_
    refine (s_iload 133 mc_180 dX11_keepsLaw_131 rfl rfl).trans ?_
    refine (s_iaload 134 mc_180 dX11_keepsLaw_133 rfl).trans ?_
    refine aI_c fun g15 => ?_
    refine (s_iastore 135 mc_180 dX11_keepsLaw_134 rfl).trans ?_
    refine wI_c fun h5 => ?_
    refine (s_aload_n 136 mc_180 dX11_keepsLaw_135 rfl rfl rfl).trans ?_
    refine (s_getfR 139 mc_180 dX11_keepsLaw_136 rfl mo_180 fs_11_68 ff_11_68 rfl).trans ?_
    refine gR_c fun g16 => ?_
    refine (s_iload_n 140 mc_180 dX11_keepsLaw_139 rfl rfl rfl).trans ?_
    refine (s_aload_n 141 mc_180 dX11_keepsLaw_140 rfl rfl rfl).trans ?_
    refine (s_getfR 144 mc_180 dX11_keepsLaw_141 rfl mo_180 fs_11_68 ff_11_68 rfl).trans ?_
    refine gR_c fun g17 => ?_
    refine (s_iload 146 mc_180 dX11_keepsLaw_144 rfl rfl).trans ?_
    refine (s_iaload 147 mc_180 dX11_keepsLaw_146 rfl).trans ?_
    refine aI_c fun g18 => ?_
    refine (s_iastore 148 mc_180 dX11_keepsLaw_147 rfl).trans ?_
    refine wI_c fun h6 => ?_
    refine (s_aload_n 149 mc_180 dX11_keepsLaw_148 rfl rfl rfl).trans ?_
    refine (s_getfR 152 mc_180 dX11_keepsLaw_149 rfl mo_180 fs_11_71 ff_11_71 rfl).trans ?_
    refine gR_c fun g19 => ?_
    refine (s_iload_n 153 mc_180 dX11_keepsLaw_152 rfl rfl rfl).trans ?_
    refine (s_aload_n 154 mc_180 dX11_keepsLaw_153 rfl rfl rfl).trans ?_
    refine (s_getfR 157 mc_180 dX11_keepsLaw_154 rfl mo_180 fs_11_71 ff_11_71 rfl).trans ?_
    refine gR_c fun g20 => ?_
    refine (s_iload 159 mc_180 dX11_keepsLaw_157 rfl rfl).trans ?_
    refine (s_iaload 160 mc_180 dX11_keepsLaw_159 rfl).trans ?_
    refine aI_c fun g21 => ?_
    refine (s_iastore 161 mc_180 dX11_keepsLaw_160 rfl).trans ?_
    refine wI_c fun h7 => ?_
    refine (s_iinc 1 164 mc_180 dX11_keepsLaw_161 rfl rfl (Nat.le_of_ble_eq_true rfl) (by decide) rfl).trans ?_
    refine (s_goto 51 mc_180 dX11_keepsLaw_164 rfl).trans ?_
    rfl
theorem b_180_169 {X : Ctx} {d : Nat} (x0 : Nat) (x1 : Int32) (x2 : Int32) (v3 : Option Value) (v4 : Option Value)  (h : Hp) : sem (X, K X d) 180 169 [some (.ref x0), some (.int x1), some (.int x2), v3, v4] [] h = gI h 11 x0 33 fun g1 => if (2 * g1) ≤ x2 then some (none, h) else gR h 11 x0 15 fun g2 => gR h 11 x0 15 fun g3 => aI X h g3 (7320 + x2) fun g4 => wI h g2 ((1220 * x1) + x2) g4 fun h1 => sem (X, K X d) 180 169 [some (.ref x0), some (.int x1), some (.int (x2 + 1)), v3, v4] [] h1 := by
  refine (s_iload_n 170 mc_180 dX11_keepsLaw_169 rfl rfl rfl).trans ?_
  refine (s_iconst 171 2 mc_180 dX11_keepsLaw_170 rfl (by decide)).trans ?_
  refine (s_aload_n 172 mc_180 dX11_keepsLaw_171 rfl rfl rfl).trans ?_
  refine (s_getfI 175 mc_180 dX11_keepsLaw_172 rfl mo_180 fs_11_323 ff_11_323 (Or.inl rfl)).trans ?_
  refine gI_c fun g1 => ?_
  refine (s_imul 176 mc_180 dX11_keepsLaw_175 rfl).trans ?_
  refine (s_icmp_ge 207 179 mc_180 dX11_keepsLaw_176 rfl rfl).trans ?_
  refine ite_c ?_ ?_
  · skip
    exact s_vret mc_180 dX11_keepsLaw_207 mt_180
  · skip
    refine (s_aload_n 180 mc_180 dX11_keepsLaw_179 rfl rfl rfl).trans ?_
    refine (s_getfR 183 mc_180 dX11_keepsLaw_180 rfl mo_180 fs_11_59 ff_11_59 rfl).trans ?_
    refine gR_c fun g2 => ?_
    refine (s_sipush 186 1220 mc_180 dX11_keepsLaw_183 rfl (by decide)).trans ?_
    refine (s_iload_n 187 mc_180 dX11_keepsLaw_186 rfl rfl rfl).trans ?_
    refine (s_imul 188 mc_180 dX11_keepsLaw_187 rfl).trans ?_
    refine (s_iload_n 189 mc_180 dX11_keepsLaw_188 rfl rfl rfl).trans ?_
    refine (s_iadd 190 mc_180 dX11_keepsLaw_189 rfl).trans ?_
    refine (s_aload_n 191 mc_180 dX11_keepsLaw_190 rfl rfl rfl).trans ?_
    refine (s_getfR 194 mc_180 dX11_keepsLaw_191 rfl mo_180 fs_11_59 ff_11_59 rfl).trans ?_
    refine gR_c fun g3 => ?_
    refine (s_sipush 197 7320 mc_180 dX11_keepsLaw_194 rfl (by decide)).trans ?_
    refine (s_iload_n 198 mc_180 dX11_keepsLaw_197 rfl rfl rfl).trans ?_
    refine (s_iadd 199 mc_180 dX11_keepsLaw_198 rfl).trans ?_
    refine (s_iaload 200 mc_180 dX11_keepsLaw_199 rfl).trans ?_
    refine aI_c fun g4 => ?_
    refine (s_iastore 201 mc_180 dX11_keepsLaw_200 rfl).trans ?_
    refine wI_c fun h1 => ?_
    refine (s_iinc 1 204 mc_180 dX11_keepsLaw_201 rfl rfl (Nat.le_of_ble_eq_true rfl) (by decide) rfl).trans ?_
    refine (s_goto 169 mc_180 dX11_keepsLaw_204 rfl).trans ?_
    rfl
/-- FiveLandsModel.keepsPact(I)V -/
theorem k_181 {X : Ctx} {d : Nat} (x0 : Nat) (x1 : Int32) (h : Hp) : K X (d + 1) 181 [.ref x0, .int x1] h = gR h 11 x0 24 fun g1 => gR h 11 x0 24 fun g2 => aI X h g2 36 fun g3 => wI h g1 x1 g3 fun h1 => gR h1 11 x0 26 fun g4 => gR h1 11 x0 26 fun g5 => aI X h1 g5 36 fun g6 => wI h1 g4 x1 g6 fun h2 => gR h2 11 x0 28 fun g7 => gR h2 11 x0 28 fun g8 => aI X h2 g8 36 fun g9 => wI h2 g7 x1 g9 fun h3 => gR h3 11 x0 29 fun g10 => gR h3 11 x0 29 fun g11 => aZ h3 g11 36 fun g12 => wZ h3 g10 x1 g12 fun h4 => sem (X, K X d) 181 54 [some (.ref x0), some (.int x1), some (.int 0)] [] h4 := by
  show sem (X, K X d) 181 0 [some (.ref x0), some (.int x1), none] [] h = _
  refine (s_aload_n 1 mc_181 dX11_keepsPact_0 rfl rfl rfl).trans ?_
  refine (s_getfR 4 mc_181 dX11_keepsPact_1 rfl mo_181 fs_11_87 ff_11_87 rfl).trans ?_
  refine gR_c fun g1 => ?_
  refine (s_iload_n 5 mc_181 dX11_keepsPact_4 rfl rfl rfl).trans ?_
  refine (s_aload_n 6 mc_181 dX11_keepsPact_5 rfl rfl rfl).trans ?_
  refine (s_getfR 9 mc_181 dX11_keepsPact_6 rfl mo_181 fs_11_87 ff_11_87 rfl).trans ?_
  refine gR_c fun g2 => ?_
  refine (s_bipush 11 36 mc_181 dX11_keepsPact_9 rfl (by decide)).trans ?_
  refine (s_iaload 12 mc_181 dX11_keepsPact_11 rfl).trans ?_
  refine aI_c fun g3 => ?_
  refine (s_iastore 13 mc_181 dX11_keepsPact_12 rfl).trans ?_
  refine wI_c fun h1 => ?_
  refine (s_aload_n 14 mc_181 dX11_keepsPact_13 rfl rfl rfl).trans ?_
  refine (s_getfR 17 mc_181 dX11_keepsPact_14 rfl mo_181 fs_11_93 ff_11_93 rfl).trans ?_
  refine gR_c fun g4 => ?_
  refine (s_iload_n 18 mc_181 dX11_keepsPact_17 rfl rfl rfl).trans ?_
  refine (s_aload_n 19 mc_181 dX11_keepsPact_18 rfl rfl rfl).trans ?_
  refine (s_getfR 22 mc_181 dX11_keepsPact_19 rfl mo_181 fs_11_93 ff_11_93 rfl).trans ?_
  refine gR_c fun g5 => ?_
  refine (s_bipush 24 36 mc_181 dX11_keepsPact_22 rfl (by decide)).trans ?_
  refine (s_iaload 25 mc_181 dX11_keepsPact_24 rfl).trans ?_
  refine aI_c fun g6 => ?_
  refine (s_iastore 26 mc_181 dX11_keepsPact_25 rfl).trans ?_
  refine wI_c fun h2 => ?_
  refine (s_aload_n 27 mc_181 dX11_keepsPact_26 rfl rfl rfl).trans ?_
  refine (s_getfR 30 mc_181 dX11_keepsPact_27 rfl mo_181 fs_11_99 ff_11_99 rfl).trans ?_
  refine gR_c fun g7 => ?_
  refine (s_iload_n 31 mc_181 dX11_keepsPact_30 rfl rfl rfl).trans ?_
  refine (s_aload_n 32 mc_181 dX11_keepsPact_31 rfl rfl rfl).trans ?_
  refine (s_getfR 35 mc_181 dX11_keepsPact_32 rfl mo_181 fs_11_99 ff_11_99 rfl).trans ?_
  refine gR_c fun g8 => ?_
  refine (s_bipush 37 36 mc_181 dX11_keepsPact_35 rfl (by decide)).trans ?_
  refine (s_iaload 38 mc_181 dX11_keepsPact_37 rfl).trans ?_
  refine aI_c fun g9 => ?_
  refine (s_iastore 39 mc_181 dX11_keepsPact_38 rfl).trans ?_
  refine wI_c fun h3 => ?_
  refine (s_aload_n 40 mc_181 dX11_keepsPact_39 rfl rfl rfl).trans ?_
  refine (s_getfR 43 mc_181 dX11_keepsPact_40 rfl mo_181 fs_11_102 ff_11_102 rfl).trans ?_
  refine gR_c fun g10 => ?_
  refine (s_iload_n 44 mc_181 dX11_keepsPact_43 rfl rfl rfl).trans ?_
  refine (s_aload_n 45 mc_181 dX11_keepsPact_44 rfl rfl rfl).trans ?_
  refine (s_getfR 48 mc_181 dX11_keepsPact_45 rfl mo_181 fs_11_102 ff_11_102 rfl).trans ?_
  refine gR_c fun g11 => ?_
  refine (s_bipush 50 36 mc_181 dX11_keepsPact_48 rfl (by decide)).trans ?_
  refine (s_baload 51 mc_181 dX11_keepsPact_50 rfl).trans ?_
  refine aZ_c fun g12 => ?_
  refine (s_bastore 52 mc_181 dX11_keepsPact_51 rfl).trans ?_
  refine wZ_c fun h4 => ?_
  refine (s_iconst 53 0 mc_181 dX11_keepsPact_52 rfl (by decide)).trans ?_
  refine (s_istore_n 54 mc_181 dX11_keepsPact_53 rfl rfl (Nat.le_of_ble_eq_true rfl) rfl).trans ?_
  rfl
theorem b_181_54 {X : Ctx} {d : Nat} (x0 : Nat) (x1 : Int32) (x2 : Int32)  (h : Hp) : sem (X, K X d) 181 54 [some (.ref x0), some (.int x1), some (.int x2)] [] h = if 6 ≤ x2 then sem (X, K X d) 181 89 [some (.ref x0), some (.int x1), some (.int 0)] [] h else gR h 11 x0 27 fun g1 => gR h 11 x0 27 fun g2 => aI X h g2 (216 + x2) fun g3 => wI h g1 ((6 * x1) + x2) g3 fun h1 => sem (X, K X d) 181 54 [some (.ref x0), some (.int x1), some (.int (x2 + 1))] [] h1 := by
  refine (s_iload_n 55 mc_181 dX11_keepsPact_54 rfl rfl rfl).trans ?_
  refine (s_bipush 57 6 mc_181 dX11_keepsPact_55 rfl (by decide)).trans ?_
  refine (s_icmp_ge 87 60 mc_181 dX11_keepsPact_57 rfl rfl).trans ?_
  refine ite_c ?_ ?_
  · skip
    refine (s_iconst 88 0 mc_181 dX11_keepsPact_87 rfl (by decide)).trans ?_
    refine (s_istore_n 89 mc_181 dX11_keepsPact_88 rfl rfl (Nat.le_of_ble_eq_true rfl) rfl).trans ?_
    rfl
  · skip
    refine (s_aload_n 61 mc_181 dX11_keepsPact_60 rfl rfl rfl).trans ?_
    refine (s_getfR 64 mc_181 dX11_keepsPact_61 rfl mo_181 fs_11_96 ff_11_96 rfl).trans ?_
    refine gR_c fun g1 => ?_
    refine (s_bipush 66 6 mc_181 dX11_keepsPact_64 rfl (by decide)).trans ?_
    refine (s_iload_n 67 mc_181 dX11_keepsPact_66 rfl rfl rfl).trans ?_
    refine (s_imul 68 mc_181 dX11_keepsPact_67 rfl).trans ?_
    refine (s_iload_n 69 mc_181 dX11_keepsPact_68 rfl rfl rfl).trans ?_
    refine (s_iadd 70 mc_181 dX11_keepsPact_69 rfl).trans ?_
    refine (s_aload_n 71 mc_181 dX11_keepsPact_70 rfl rfl rfl).trans ?_
    refine (s_getfR 74 mc_181 dX11_keepsPact_71 rfl mo_181 fs_11_96 ff_11_96 rfl).trans ?_
    refine gR_c fun g2 => ?_
    refine (s_sipush 77 216 mc_181 dX11_keepsPact_74 rfl (by decide)).trans ?_
    refine (s_iload_n 78 mc_181 dX11_keepsPact_77 rfl rfl rfl).trans ?_
    refine (s_iadd 79 mc_181 dX11_keepsPact_78 rfl).trans ?_
    refine (s_iaload 80 mc_181 dX11_keepsPact_79 rfl).trans ?_
    refine aI_c fun g3 => ?_
    refine (s_iastore 81 mc_181 dX11_keepsPact_80 rfl).trans ?_
    refine wI_c fun h1 => ?_
    refine (s_iinc 1 84 mc_181 dX11_keepsPact_81 rfl rfl (Nat.le_of_ble_eq_true rfl) (by decide) rfl).trans ?_
    refine (s_goto 54 mc_181 dX11_keepsPact_84 rfl).trans ?_
    rfl
theorem b_181_89 {X : Ctx} {d : Nat} (x0 : Nat) (x1 : Int32) (x2 : Int32)  (h : Hp) : sem (X, K X d) 181 89 [some (.ref x0), some (.int x1), some (.int x2)] [] h = if 20 ≤ x2 then some (none, h) else gR h 11 x0 25 fun g1 => gR h 11 x0 25 fun g2 => aI X h g2 (720 + x2) fun g3 => wI h g1 ((20 * x1) + x2) g3 fun h1 => sem (X, K X d) 181 89 [some (.ref x0), some (.int x1), some (.int (x2 + 1))] [] h1 := by
  refine (s_iload_n 90 mc_181 dX11_keepsPact_89 rfl rfl rfl).trans ?_
  refine (s_bipush 92 20 mc_181 dX11_keepsPact_90 rfl (by decide)).trans ?_
  refine (s_icmp_ge 122 95 mc_181 dX11_keepsPact_92 rfl rfl).trans ?_
  refine ite_c ?_ ?_
  · skip
    exact s_vret mc_181 dX11_keepsPact_122 mt_181
  · skip
    refine (s_aload_n 96 mc_181 dX11_keepsPact_95 rfl rfl rfl).trans ?_
    refine (s_getfR 99 mc_181 dX11_keepsPact_96 rfl mo_181 fs_11_90 ff_11_90 rfl).trans ?_
    refine gR_c fun g1 => ?_
    refine (s_bipush 101 20 mc_181 dX11_keepsPact_99 rfl (by decide)).trans ?_
    refine (s_iload_n 102 mc_181 dX11_keepsPact_101 rfl rfl rfl).trans ?_
    refine (s_imul 103 mc_181 dX11_keepsPact_102 rfl).trans ?_
    refine (s_iload_n 104 mc_181 dX11_keepsPact_103 rfl rfl rfl).trans ?_
    refine (s_iadd 105 mc_181 dX11_keepsPact_104 rfl).trans ?_
    refine (s_aload_n 106 mc_181 dX11_keepsPact_105 rfl rfl rfl).trans ?_
    refine (s_getfR 109 mc_181 dX11_keepsPact_106 rfl mo_181 fs_11_90 ff_11_90 rfl).trans ?_
    refine gR_c fun g2 => ?_
    refine (s_sipush 112 720 mc_181 dX11_keepsPact_109 rfl (by decide)).trans ?_
    refine (s_iload_n 113 mc_181 dX11_keepsPact_112 rfl rfl rfl).trans ?_
    refine (s_iadd 114 mc_181 dX11_keepsPact_113 rfl).trans ?_
    refine (s_iaload 115 mc_181 dX11_keepsPact_114 rfl).trans ?_
    refine aI_c fun g3 => ?_
    refine (s_iastore 116 mc_181 dX11_keepsPact_115 rfl).trans ?_
    refine wI_c fun h1 => ?_
    refine (s_iinc 1 119 mc_181 dX11_keepsPact_116 rfl rfl (Nat.le_of_ble_eq_true rfl) (by decide) rfl).trans ?_
    refine (s_goto 89 mc_181 dX11_keepsPact_119 rfl).trans ?_
    rfl
/-- FiveLandsModel.text(II)I -/
theorem k_182 {X : Ctx} {d : Nat} (x0 : Nat) (x1 : Int32) (x2 : Int32) (h : Hp) : K X (d + 1) 182 [.ref x0, .int x1, .int x2] h = fI h 11 x0 40 0 fun h1 => bI (K X d 144 [.int x1] h1) fun r1 h2 => if r1 = 0 then fI h2 11 x0 35 0 fun h3 => fI h3 11 x0 42 0 fun h4 => fI h4 11 x0 44 (-1) fun h5 => some (some (.int (-1)), h5) else if x2 = (-1) then sem (X, K X d) 182 45 [some (.ref x0), some (.int x1), some (.int x2), none] [] h2 else bI (K X d 142 [.int x2, .int (x1 + 1), .int 5] h2) fun r2 h6 => if ¬ r2 = 0 then sem (X, K X d) 182 45 [some (.ref x0), some (.int x1), some (.int x2), none] [] h6 else fI h6 11 x0 35 0 fun h7 => fI h7 11 x0 42 0 fun h8 => fI h8 11 x0 44 (-1) fun h9 => some (some (.int (-1)), h9) := by
  show sem (X, K X d) 182 0 [some (.ref x0), some (.int x1), some (.int x2), none] [] h = _
  refine (s_aload_n 1 mc_182 dX11_text_0 rfl rfl rfl).trans ?_
  refine (s_iconst 2 0 mc_182 dX11_text_1 rfl (by decide)).trans ?_
  refine (s_putfI 5 mc_182 dX11_text_2 rfl mo_182 ff_11_311 rfl (Or.inl rfl)).trans ?_
  refine fI_c fun h1 => ?_
  refine (s_iload_n 6 mc_182 dX11_text_5 rfl rfl rfl).trans ?_
  refine (s_istI 9 mc_182 dX11_text_6 rfl mo_182 mm_11_211 (by decide) ms_144 mr_144 ma_144 (Nat.le_of_ble_eq_true rfl) rfl rfl (Nat.le_of_ble_eq_true rfl)).trans ?_
  refine bI_c fun r1 h2 => ?_
  refine (s_if_eq 28 12 mc_182 dX11_text_9 rfl rfl).trans ?_
  refine ite_c ?_ ?_
  · skip
    refine (s_aload_n 29 mc_182 dX11_text_28 rfl rfl rfl).trans ?_
    refine (s_iconst 30 0 mc_182 dX11_text_29 rfl (by decide)).trans ?_
    refine (s_putfI 33 mc_182 dX11_text_30 rfl mo_182 ff_11_215 rfl (Or.inl rfl)).trans ?_
    refine fI_c fun h3 => ?_
    refine (s_aload_n 34 mc_182 dX11_text_33 rfl rfl rfl).trans ?_
    refine (s_iconst 35 0 mc_182 dX11_text_34 rfl (by decide)).trans ?_
    refine (s_putfI 38 mc_182 dX11_text_35 rfl mo_182 ff_11_383 rfl (Or.inl rfl)).trans ?_
    refine fI_c fun h4 => ?_
    refine (s_aload_n 39 mc_182 dX11_text_38 rfl rfl rfl).trans ?_
    refine (s_iconst 40 (-1) mc_182 dX11_text_39 rfl (by decide)).trans ?_
    refine (s_putfI 43 mc_182 dX11_text_40 rfl mo_182 ff_11_114 rfl (Or.inl rfl)).trans ?_
    refine fI_c fun h5 => ?_
    refine (s_iconst 44 (-1) mc_182 dX11_text_43 rfl (by decide)).trans ?_
    exact s_iret mc_182 dX11_text_44 mt_182
  · skip
    refine (s_iload_n 13 mc_182 dX11_text_12 rfl rfl rfl).trans ?_
    refine (s_iconst 14 (-1) mc_182 dX11_text_13 rfl (by decide)).trans ?_
    refine (s_icmp_eq 45 17 mc_182 dX11_text_14 rfl rfl).trans ?_
    refine ite_c ?_ ?_
    · skip
      rfl
    · skip
      refine (s_iload_n 18 mc_182 dX11_text_17 rfl rfl rfl).trans ?_
      refine (s_iload_n 19 mc_182 dX11_text_18 rfl rfl rfl).trans ?_
      refine (s_iconst 20 1 mc_182 dX11_text_19 rfl (by decide)).trans ?_
      refine (s_iadd 21 mc_182 dX11_text_20 rfl).trans ?_
      refine (s_iconst 22 5 mc_182 dX11_text_21 rfl (by decide)).trans ?_
      refine (s_istI 25 mc_182 dX11_text_22 rfl mo_182 mm_11_1 (by decide) ms_142 mr_142 ma_142 (Nat.le_of_ble_eq_true rfl) rfl rfl (Nat.le_of_ble_eq_true rfl)).trans ?_
      refine bI_c fun r2 h6 => ?_
      refine (s_if_ne 45 28 mc_182 dX11_text_25 rfl rfl).trans ?_
      refine ite_c ?_ ?_
      · skip
        rfl
      · skip
        refine (s_aload_n 29 mc_182 dX11_text_28 rfl rfl rfl).trans ?_
        refine (s_iconst 30 0 mc_182 dX11_text_29 rfl (by decide)).trans ?_
        refine (s_putfI 33 mc_182 dX11_text_30 rfl mo_182 ff_11_215 rfl (Or.inl rfl)).trans ?_
        refine fI_c fun h7 => ?_
        refine (s_aload_n 34 mc_182 dX11_text_33 rfl rfl rfl).trans ?_
        refine (s_iconst 35 0 mc_182 dX11_text_34 rfl (by decide)).trans ?_
        refine (s_putfI 38 mc_182 dX11_text_35 rfl mo_182 ff_11_383 rfl (Or.inl rfl)).trans ?_
        refine fI_c fun h8 => ?_
        refine (s_aload_n 39 mc_182 dX11_text_38 rfl rfl rfl).trans ?_
        refine (s_iconst 40 (-1) mc_182 dX11_text_39 rfl (by decide)).trans ?_
        refine (s_putfI 43 mc_182 dX11_text_40 rfl mo_182 ff_11_114 rfl (Or.inl rfl)).trans ?_
        refine fI_c fun h9 => ?_
        refine (s_iconst 44 (-1) mc_182 dX11_text_43 rfl (by decide)).trans ?_
        exact s_iret mc_182 dX11_text_44 mt_182
theorem b_182_45 {X : Ctx} {d : Nat} (x0 : Nat) (v1 : Option Value) (x2 : Int32) (v3 : Option Value)  (h : Hp) : sem (X, K X d) 182 45 [some (.ref x0), v1, some (.int x2), v3] [] h = if x2 = (-1) then fZ h 11 x0 45 0 fun h1 => fI h1 11 x0 36 0 fun h2 => gd (hS h2 x0 = (12, 0)) (bV (K X d 178 [.ref x0] h2) fun h3 => gd (hS h3 x0 = (12, 0)) (bV (K X d 159 [.ref x0] h3) fun h4 => sem (X, K X d) 182 74 [some (.ref x0), v1, some (.int x2), some (.int 1)] [] h4)) else fZ h 11 x0 45 1 fun h5 => fI h5 11 x0 36 0 fun h6 => gd (hS h6 x0 = (12, 0)) (bV (K X d 178 [.ref x0] h6) fun h7 => gd (hS h7 x0 = (12, 0)) (bV (K X d 159 [.ref x0] h7) fun h8 => sem (X, K X d) 182 74 [some (.ref x0), v1, some (.int x2), some (.int 1)] [] h8)) := by
  refine (s_aload_n 46 mc_182 dX11_text_45 rfl rfl rfl).trans ?_
  refine (s_iload_n 47 mc_182 dX11_text_46 rfl rfl rfl).trans ?_
  refine (s_iconst 48 (-1) mc_182 dX11_text_47 rfl (by decide)).trans ?_
  refine (s_icmp_eq 55 51 mc_182 dX11_text_48 rfl rfl).trans ?_
  refine ite_c ?_ ?_
  · skip
    refine (s_iconst 56 0 mc_182 dX11_text_55 rfl (by decide)).trans ?_
    refine (s_putfZ 59 mc_182 dX11_text_56 rfl mo_182 ff_11_368 rfl (Or.inl rfl)).trans ?_
    refine fZ_c fun h1 => ?_
    refine (s_aload_n 60 mc_182 dX11_text_59 rfl rfl rfl).trans ?_
    refine (s_iconst 61 0 mc_182 dX11_text_60 rfl (by decide)).trans ?_
    refine (s_putfI 64 mc_182 dX11_text_61 rfl mo_182 ff_11_218 rfl (Or.inl rfl)).trans ?_
    refine fI_c fun h2 => ?_
    refine (s_aload_n 65 mc_182 dX11_text_64 rfl rfl rfl).trans ?_
    refine (s_iviV 68 mc_182 dX11_text_65 rfl mo_182 mm_11_386 (by decide) ms_178 mi_178 mr_178 ma_178 mo_178 (by decide) (Nat.le_of_ble_eq_true rfl) rfl rfl (Nat.le_of_ble_eq_true rfl)).trans ?_
    refine gd_c ?_
    refine bV_c fun h3 => ?_
    refine (s_aload_n 69 mc_182 dX11_text_68 rfl rfl rfl).trans ?_
    refine (s_iviV 72 mc_182 dX11_text_69 rfl mo_182 mm_11_320 (by decide) ms_159 mi_159 mr_159 ma_159 mo_159 (by decide) (Nat.le_of_ble_eq_true rfl) rfl rfl (Nat.le_of_ble_eq_true rfl)).trans ?_
    refine gd_c ?_
    refine bV_c fun h4 => ?_
    refine (s_iconst 73 1 mc_182 dX11_text_72 rfl (by decide)).trans ?_
    refine (s_istore_n 74 mc_182 dX11_text_73 rfl rfl (Nat.le_of_ble_eq_true rfl) rfl).trans ?_
    rfl
  · skip
    refine (s_iconst 52 1 mc_182 dX11_text_51 rfl (by decide)).trans ?_
    refine (s_goto 56 mc_182 dX11_text_52 rfl).trans ?_
    refine (s_putfZ 59 mc_182 dX11_text_56 rfl mo_182 ff_11_368 rfl (Or.inl rfl)).trans ?_
    refine fZ_c fun h5 => ?_
    refine (s_aload_n 60 mc_182 dX11_text_59 rfl rfl rfl).trans ?_
    refine (s_iconst 61 0 mc_182 dX11_text_60 rfl (by decide)).trans ?_
    refine (s_putfI 64 mc_182 dX11_text_61 rfl mo_182 ff_11_218 rfl (Or.inl rfl)).trans ?_
    refine fI_c fun h6 => ?_
    refine (s_aload_n 65 mc_182 dX11_text_64 rfl rfl rfl).trans ?_
    refine (s_iviV 68 mc_182 dX11_text_65 rfl mo_182 mm_11_386 (by decide) ms_178 mi_178 mr_178 ma_178 mo_178 (by decide) (Nat.le_of_ble_eq_true rfl) rfl rfl (Nat.le_of_ble_eq_true rfl)).trans ?_
    refine gd_c ?_
    refine bV_c fun h7 => ?_
    refine (s_aload_n 69 mc_182 dX11_text_68 rfl rfl rfl).trans ?_
    refine (s_iviV 72 mc_182 dX11_text_69 rfl mo_182 mm_11_320 (by decide) ms_159 mi_159 mr_159 ma_159 mo_159 (by decide) (Nat.le_of_ble_eq_true rfl) rfl rfl (Nat.le_of_ble_eq_true rfl)).trans ?_
    refine gd_c ?_
    refine bV_c fun h8 => ?_
    refine (s_iconst 73 1 mc_182 dX11_text_72 rfl (by decide)).trans ?_
    refine (s_istore_n 74 mc_182 dX11_text_73 rfl rfl (Nat.le_of_ble_eq_true rfl) rfl).trans ?_
    rfl
theorem b_182_74 {X : Ctx} {d : Nat} (x0 : Nat) (v1 : Option Value) (v2 : Option Value) (x3 : Int32)  (h : Hp) : sem (X, K X d) 182 74 [some (.ref x0), v1, v2, some (.int x3)] [] h = if x3 = 0 then sem (X, K X d) 182 107 [some (.ref x0), v1, v2, some (.int x3)] [] h else gI h 11 x0 37 fun g1 => if g1 = 0 then sem (X, K X d) 182 107 [some (.ref x0), v1, v2, some (.int x3)] [] h else gI h 11 x0 45 fun g2 => if g2 = 0 then gd (hS h x0 = (12, 0)) (bI (K X d 175 [.ref x0] h) fun r3 h1 => sem (X, K X d) 182 74 [some (.ref x0), v1, v2, some (.int r3)] [] h1) else gd (hS h x0 = (12, 0)) (bI (K X d 177 [.ref x0] h) fun r4 h2 => sem (X, K X d) 182 74 [some (.ref x0), v1, v2, some (.int r4)] [] h2) := by
  refine (s_iload_n 75 mc_182 dX11_text_74 rfl rfl rfl).trans ?_
  refine (s_if_eq 107 78 mc_182 dX11_text_75 rfl rfl).trans ?_
  refine ite_c ?_ ?_
  · skip
    rfl
  · skip
    refine (s_aload_n 79 mc_182 dX11_text_78 rfl rfl rfl).trans ?_
    refine (s_getfI 82 mc_182 dX11_text_79 rfl mo_182 fs_11_296 ff_11_296 (Or.inl rfl)).trans ?_
    refine gI_c fun g1 => ?_
    refine (s_if_eq 107 85 mc_182 dX11_text_82 rfl rfl).trans ?_
    refine ite_c ?_ ?_
    · skip
      rfl
    · skip
      refine (s_aload_n 86 mc_182 dX11_text_85 rfl rfl rfl).trans ?_
      refine (s_getfI 89 mc_182 dX11_text_86 rfl mo_182 fs_11_368 ff_11_368 (Or.inr rfl)).trans ?_
      refine gI_c fun g2 => ?_
      refine (s_if_eq 99 92 mc_182 dX11_text_89 rfl rfl).trans ?_
      refine ite_c ?_ ?_
      · skip
        refine (s_aload_n 100 mc_182 dX11_text_99 rfl rfl rfl).trans ?_
        refine (s_iviI 103 mc_182 dX11_text_100 rfl mo_182 mm_11_392 (by decide) ms_175 mi_175 mr_175 ma_175 mo_175 (by decide) (Nat.le_of_ble_eq_true rfl) rfl rfl (Nat.le_of_ble_eq_true rfl)).trans ?_
        refine gd_c ?_
        refine bI_c fun r3 h1 => ?_
        refine (s_istore_n 104 mc_182 dX11_text_103 rfl rfl (Nat.le_of_ble_eq_true rfl) rfl).trans ?_
        refine (s_goto 74 mc_182 dX11_text_104 rfl).trans ?_
        rfl
      · skip
        refine (s_aload_n 93 mc_182 dX11_text_92 rfl rfl rfl).trans ?_
        refine (s_iviI 96 mc_182 dX11_text_93 rfl mo_182 mm_11_389 (by decide) ms_177 mi_177 mr_177 ma_177 mo_177 (by decide) (Nat.le_of_ble_eq_true rfl) rfl rfl (Nat.le_of_ble_eq_true rfl)).trans ?_
        refine gd_c ?_
        refine bI_c fun r4 h2 => ?_
        refine (s_goto 103 mc_182 dX11_text_96 rfl).trans ?_
        refine (s_istore_n 104 mc_182 dX11_text_103 rfl rfl (Nat.le_of_ble_eq_true rfl) rfl).trans ?_
        refine (s_goto 74 mc_182 dX11_text_104 rfl).trans ?_
        rfl
theorem b_182_107 {X : Ctx} {d : Nat} (x0 : Nat) (v1 : Option Value) (v2 : Option Value) (x3 : Int32)  (h : Hp) : sem (X, K X d) 182 107 [some (.ref x0), v1, v2, some (.int x3)] [] h = fI h 11 x0 35 0 fun h1 => gI h1 11 x0 40 fun g1 => fI h1 11 x0 42 g1 fun h2 => if x3 = 0 then gI h2 11 x0 41 fun g2 => sem (X, K X d) 182 133 [some (.ref x0), v1, v2, some (.int x3)] [.int g2, .ref x0] h2 else sem (X, K X d) 182 133 [some (.ref x0), v1, v2, some (.int x3)] [.int (-1), .ref x0] h2 := by
  refine (s_aload_n 108 mc_182 dX11_text_107 rfl rfl rfl).trans ?_
  refine (s_iconst 109 0 mc_182 dX11_text_108 rfl (by decide)).trans ?_
  refine (s_putfI 112 mc_182 dX11_text_109 rfl mo_182 ff_11_215 rfl (Or.inl rfl)).trans ?_
  refine fI_c fun h1 => ?_
  refine (s_aload_n 113 mc_182 dX11_text_112 rfl rfl rfl).trans ?_
  refine (s_aload_n 114 mc_182 dX11_text_113 rfl rfl rfl).trans ?_
  refine (s_getfI 117 mc_182 dX11_text_114 rfl mo_182 fs_11_311 ff_11_311 (Or.inl rfl)).trans ?_
  refine gI_c fun g1 => ?_
  refine (s_putfI 120 mc_182 dX11_text_117 rfl mo_182 ff_11_383 rfl (Or.inl rfl)).trans ?_
  refine fI_c fun h2 => ?_
  refine (s_aload_n 121 mc_182 dX11_text_120 rfl rfl rfl).trans ?_
  refine (s_iload_n 122 mc_182 dX11_text_121 rfl rfl rfl).trans ?_
  refine (s_if_eq 129 125 mc_182 dX11_text_122 rfl rfl).trans ?_
  refine ite_c ?_ ?_
  · skip
    refine (s_aload_n 130 mc_182 dX11_text_129 rfl rfl rfl).trans ?_
    refine (s_getfI 133 mc_182 dX11_text_130 rfl mo_182 fs_11_314 ff_11_314 (Or.inl rfl)).trans ?_
    refine gI_c fun g2 => ?_
    rfl
  · skip
    refine (s_iconst 126 (-1) mc_182 dX11_text_125 rfl (by decide)).trans ?_
    refine (s_goto 133 mc_182 dX11_text_126 rfl).trans ?_
    rfl
theorem b_182_133 {X : Ctx} {d : Nat} (x0 : Nat) (x1 : Int32) (x2 : Int32) (x3 : Int32) (s0 : Nat) (s1 : Int32) (h : Hp) : sem (X, K X d) 182 133 [some (.ref x0), some (.int x1), some (.int x2), some (.int x3)] [.int s1, .ref s0] h = fI h 11 s0 44 s1 fun h1 => if ¬ x3 = 0 then gI h1 11 x0 45 fun g1 => if g1 = 0 then gd (hS h1 x0 = (12, 0)) (bV (K X d 180 [.ref x0, .int x1] h1) fun h2 => gI h2 11 x0 34 fun g2 => some (some (.int g2), h2)) else gd (hS h1 x0 = (12, 0)) (bV (K X d 181 [.ref x0, .int ((6 * x1) + x2)] h1) fun h3 => gI h3 11 x0 34 fun g3 => some (some (.int g3), h3)) else some (some (.int (-1)), h1) := by
  refine (s_putfI 136 mc_182 dX11_text_133 rfl mo_182 ff_11_114 rfl (Or.inl rfl)).trans ?_
  refine fI_c fun h1 => ?_
  refine (s_iload_n 137 mc_182 dX11_text_136 rfl rfl rfl).trans ?_
  refine (s_if_ne 142 140 mc_182 dX11_text_137 rfl rfl).trans ?_
  refine ite_c ?_ ?_
  · skip
    refine (s_aload_n 143 mc_182 dX11_text_142 rfl rfl rfl).trans ?_
    refine (s_getfI 146 mc_182 dX11_text_143 rfl mo_182 fs_11_368 ff_11_368 (Or.inr rfl)).trans ?_
    refine gI_c fun g1 => ?_
    refine (s_if_eq 162 149 mc_182 dX11_text_146 rfl rfl).trans ?_
    refine ite_c ?_ ?_
    · skip
      refine (s_aload_n 163 mc_182 dX11_text_162 rfl rfl rfl).trans ?_
      refine (s_iload_n 164 mc_182 dX11_text_163 rfl rfl rfl).trans ?_
      refine (s_iviV 167 mc_182 dX11_text_164 rfl mo_182 mm_11_398 (by decide) ms_180 mi_180 mr_180 ma_180 mo_180 (by decide) (Nat.le_of_ble_eq_true rfl) rfl rfl (Nat.le_of_ble_eq_true rfl)).trans ?_
      refine gd_c ?_
      refine bV_c fun h2 => ?_
      refine (s_aload_n 168 mc_182 dX11_text_167 rfl rfl rfl).trans ?_
      refine (s_getfI 171 mc_182 dX11_text_168 rfl mo_182 fs_11_362 ff_11_362 (Or.inl rfl)).trans ?_
      refine gI_c fun g2 => ?_
      exact s_iret mc_182 dX11_text_171 mt_182
    · skip
      refine (s_aload_n 150 mc_182 dX11_text_149 rfl rfl rfl).trans ?_
      refine (s_bipush 152 6 mc_182 dX11_text_150 rfl (by decide)).trans ?_
      refine (s_iload_n 153 mc_182 dX11_text_152 rfl rfl rfl).trans ?_
      refine (s_imul 154 mc_182 dX11_text_153 rfl).trans ?_
      refine (s_iload_n 155 mc_182 dX11_text_154 rfl rfl rfl).trans ?_
      refine (s_iadd 156 mc_182 dX11_text_155 rfl).trans ?_
      refine (s_iviV 159 mc_182 dX11_text_156 rfl mo_182 mm_11_395 (by decide) ms_181 mi_181 mr_181 ma_181 mo_181 (by decide) (Nat.le_of_ble_eq_true rfl) rfl rfl (Nat.le_of_ble_eq_true rfl)).trans ?_
      refine gd_c ?_
      refine bV_c fun h3 => ?_
      refine (s_goto 167 mc_182 dX11_text_159 rfl).trans ?_
      refine (s_aload_n 168 mc_182 dX11_text_167 rfl rfl rfl).trans ?_
      refine (s_getfI 171 mc_182 dX11_text_168 rfl mo_182 fs_11_362 ff_11_362 (Or.inl rfl)).trans ?_
      refine gI_c fun g3 => ?_
      exact s_iret mc_182 dX11_text_171 mt_182
  · skip
    refine (s_iconst 141 (-1) mc_182 dX11_text_140 rfl (by decide)).trans ?_
    exact s_iret mc_182 dX11_text_141 mt_182
/-- FiveLandsModel.fault(I)I -/
theorem k_183 {X : Ctx} {d : Nat} (x0 : Nat) (x1 : Int32) (h : Hp) : K X (d + 1) 183 [.ref x0, .int x1] h = if ¬ x1 = 0 then if ¬ x1 = 1 then some (some (.int (-1)), h) else gI h 11 x0 44 fun g1 => some (some (.int g1), h) else gI h 11 x0 42 fun g2 => some (some (.int g2), h) := by
  show sem (X, K X d) 183 0 [some (.ref x0), some (.int x1)] [] h = _
  refine (s_iload_n 1 mc_183 dX11_fault_0 rfl rfl rfl).trans ?_
  refine (s_if_ne 11 4 mc_183 dX11_fault_1 rfl rfl).trans ?_
  refine ite_c ?_ ?_
  · skip
    refine (s_iload_n 12 mc_183 dX11_fault_11 rfl rfl rfl).trans ?_
    refine (s_iconst 13 1 mc_183 dX11_fault_12 rfl (by decide)).trans ?_
    refine (s_icmp_ne 23 16 mc_183 dX11_fault_13 rfl rfl).trans ?_
    refine ite_c ?_ ?_
    · skip
      refine (s_iconst 24 (-1) mc_183 dX11_fault_23 rfl (by decide)).trans ?_
      exact s_iret mc_183 dX11_fault_24 mt_183
    · skip
      refine (s_aload_n 17 mc_183 dX11_fault_16 rfl rfl rfl).trans ?_
      refine (s_getfI 20 mc_183 dX11_fault_17 rfl mo_183 fs_11_114 ff_11_114 (Or.inl rfl)).trans ?_
      refine gI_c fun g1 => ?_
      refine (s_goto 24 mc_183 dX11_fault_20 rfl).trans ?_
      exact s_iret mc_183 dX11_fault_24 mt_183
  · skip
    refine (s_aload_n 5 mc_183 dX11_fault_4 rfl rfl rfl).trans ?_
    refine (s_getfI 8 mc_183 dX11_fault_5 rfl mo_183 fs_11_383 ff_11_383 (Or.inl rfl)).trans ?_
    refine gI_c fun g2 => ?_
    refine (s_goto 24 mc_183 dX11_fault_8 rfl).trans ?_
    exact s_iret mc_183 dX11_fault_24 mt_183
/-- FiveLandsModel.both(III)I -/
theorem k_184 {X : Ctx} {d : Nat} (x0 : Int32) (x1 : Int32) (x2 : Int32) (h : Hp) : K X (d + 1) 184 [.int x0, .int x1, .int x2] h = sem (X, K X d) 184 (tsw 9 [52, 56, 60, 101, 64, 75, 86, 101, 97] 101 x0) [some (.int x0), some (.int x1), some (.int x2)] [] h := by
  show sem (X, K X d) 184 0 [some (.int x0), some (.int x1), some (.int x2)] [] h = _
  refine (s_iload_n 1 mc_184 dX11_both_0 rfl rfl rfl).trans ?_
  refine (s_tsw [52, 56, 60, 101, 64, 75, 86, 101, 97] 101 mc_184 dX11_both_1 rfl rfl rfl).trans ?_
  rfl
theorem b_184_52 {X : Ctx} {d : Nat} (v0 : Option Value) (x1 : Int32) (x2 : Int32)  (h : Hp) : sem (X, K X d) 184 52 [v0, some (.int x1), some (.int x2)] [] h = some (some (.int (x1 + x2)), h) := by
  refine (s_iload_n 53 mc_184 dX11_both_52 rfl rfl rfl).trans ?_
  refine (s_iload_n 54 mc_184 dX11_both_53 rfl rfl rfl).trans ?_
  refine (s_iadd 55 mc_184 dX11_both_54 rfl).trans ?_
  exact s_iret mc_184 dX11_both_55 mt_184
theorem b_184_56 {X : Ctx} {d : Nat} (v0 : Option Value) (x1 : Int32) (x2 : Int32)  (h : Hp) : sem (X, K X d) 184 56 [v0, some (.int x1), some (.int x2)] [] h = some (some (.int (x1 - x2)), h) := by
  refine (s_iload_n 57 mc_184 dX11_both_56 rfl rfl rfl).trans ?_
  refine (s_iload_n 58 mc_184 dX11_both_57 rfl rfl rfl).trans ?_
  refine (s_isub 59 mc_184 dX11_both_58 rfl).trans ?_
  exact s_iret mc_184 dX11_both_59 mt_184
theorem b_184_60 {X : Ctx} {d : Nat} (v0 : Option Value) (x1 : Int32) (x2 : Int32)  (h : Hp) : sem (X, K X d) 184 60 [v0, some (.int x1), some (.int x2)] [] h = some (some (.int (x1 * x2)), h) := by
  refine (s_iload_n 61 mc_184 dX11_both_60 rfl rfl rfl).trans ?_
  refine (s_iload_n 62 mc_184 dX11_both_61 rfl rfl rfl).trans ?_
  refine (s_imul 63 mc_184 dX11_both_62 rfl).trans ?_
  exact s_iret mc_184 dX11_both_63 mt_184
theorem b_184_64 {X : Ctx} {d : Nat} (v0 : Option Value) (x1 : Int32) (x2 : Int32)  (h : Hp) : sem (X, K X d) 184 64 [v0, some (.int x1), some (.int x2)] [] h = if x2 ≤ x1 then some (some (.int 0), h) else some (some (.int 1), h) := by
  refine (s_iload_n 65 mc_184 dX11_both_64 rfl rfl rfl).trans ?_
  refine (s_iload_n 66 mc_184 dX11_both_65 rfl rfl rfl).trans ?_
  refine (s_icmp_ge 73 69 mc_184 dX11_both_66 rfl rfl).trans ?_
  refine ite_c ?_ ?_
  · skip
    refine (s_iconst 74 0 mc_184 dX11_both_73 rfl (by decide)).trans ?_
    exact s_iret mc_184 dX11_both_74 mt_184
  · skip
    refine (s_iconst 70 1 mc_184 dX11_both_69 rfl (by decide)).trans ?_
    refine (s_goto 74 mc_184 dX11_both_70 rfl).trans ?_
    exact s_iret mc_184 dX11_both_74 mt_184
theorem b_184_75 {X : Ctx} {d : Nat} (v0 : Option Value) (x1 : Int32) (x2 : Int32)  (h : Hp) : sem (X, K X d) 184 75 [v0, some (.int x1), some (.int x2)] [] h = if ¬ x1 = x2 then some (some (.int 0), h) else some (some (.int 1), h) := by
  refine (s_iload_n 76 mc_184 dX11_both_75 rfl rfl rfl).trans ?_
  refine (s_iload_n 77 mc_184 dX11_both_76 rfl rfl rfl).trans ?_
  refine (s_icmp_ne 84 80 mc_184 dX11_both_77 rfl rfl).trans ?_
  refine ite_c ?_ ?_
  · skip
    refine (s_iconst 85 0 mc_184 dX11_both_84 rfl (by decide)).trans ?_
    exact s_iret mc_184 dX11_both_85 mt_184
  · skip
    refine (s_iconst 81 1 mc_184 dX11_both_80 rfl (by decide)).trans ?_
    refine (s_goto 85 mc_184 dX11_both_81 rfl).trans ?_
    exact s_iret mc_184 dX11_both_85 mt_184
theorem b_184_86 {X : Ctx} {d : Nat} (v0 : Option Value) (x1 : Int32) (x2 : Int32)  (h : Hp) : sem (X, K X d) 184 86 [v0, some (.int x1), some (.int x2)] [] h = if x1 ≤ x2 then some (some (.int 0), h) else some (some (.int 1), h) := by
  refine (s_iload_n 87 mc_184 dX11_both_86 rfl rfl rfl).trans ?_
  refine (s_iload_n 88 mc_184 dX11_both_87 rfl rfl rfl).trans ?_
  refine (s_icmp_le 95 91 mc_184 dX11_both_88 rfl rfl).trans ?_
  refine ite_c ?_ ?_
  · skip
    refine (s_iconst 96 0 mc_184 dX11_both_95 rfl (by decide)).trans ?_
    exact s_iret mc_184 dX11_both_96 mt_184
  · skip
    refine (s_iconst 92 1 mc_184 dX11_both_91 rfl (by decide)).trans ?_
    refine (s_goto 96 mc_184 dX11_both_92 rfl).trans ?_
    exact s_iret mc_184 dX11_both_96 mt_184
theorem b_184_97 {X : Ctx} {d : Nat} (v0 : Option Value) (x1 : Int32) (x2 : Int32)  (h : Hp) : sem (X, K X d) 184 97 [v0, some (.int x1), some (.int x2)] [] h = some (some (.int (x1 &&& x2)), h) := by
  refine (s_iload_n 98 mc_184 dX11_both_97 rfl rfl rfl).trans ?_
  refine (s_iload_n 99 mc_184 dX11_both_98 rfl rfl rfl).trans ?_
  refine (s_iand 100 mc_184 dX11_both_99 rfl).trans ?_
  exact s_iret mc_184 dX11_both_100 mt_184
theorem b_184_101 {X : Ctx} {d : Nat} (v0 : Option Value) (x1 : Int32) (x2 : Int32)  (h : Hp) : sem (X, K X d) 184 101 [v0, some (.int x1), some (.int x2)] [] h = some (some (.int (x1 ||| x2)), h) := by
  refine (s_iload_n 102 mc_184 dX11_both_101 rfl rfl rfl).trans ?_
  refine (s_iload_n 103 mc_184 dX11_both_102 rfl rfl rfl).trans ?_
  refine (s_ior 104 mc_184 dX11_both_103 rfl).trans ?_
  exact s_iret mc_184 dX11_both_104 mt_184
/-- FiveLandsModel.comesTo(III)I -/
theorem k_185 {X : Ctx} {d : Nat} (x0 : Nat) (x1 : Int32) (x2 : Int32) (x3 : Int32) (h : Hp) : K X (d + 1) 185 [.ref x0, .int x1, .int x2, .int x3] h = sem (X, K X d) 185 6 [some (.ref x0), some (.int x1), some (.int x2), some (.int x3), some (.int 0), some (.int x2), none, none] [] h := by
  show sem (X, K X d) 185 0 [some (.ref x0), some (.int x1), some (.int x2), some (.int x3), none, none, none, none] [] h = _
  refine (s_iconst 1 0 mc_185 dX11_comesTo_0 rfl (by decide)).trans ?_
  refine (s_istore 3 mc_185 dX11_comesTo_1 rfl (Nat.le_of_ble_eq_true rfl) rfl).trans ?_
  refine (s_iload_n 4 mc_185 dX11_comesTo_3 rfl rfl rfl).trans ?_
  refine (s_istore 6 mc_185 dX11_comesTo_4 rfl (Nat.le_of_ble_eq_true rfl) rfl).trans ?_
  rfl
theorem b_185_6 {X : Ctx} {d : Nat} (x0 : Nat) (x1 : Int32) (v2 : Option Value) (x3 : Int32) (x4 : Int32) (x5 : Int32) (v6 : Option Value) (v7 : Option Value)  (h : Hp) : sem (X, K X d) 185 6 [some (.ref x0), some (.int x1), v2, some (.int x3), some (.int x4), some (.int x5), v6, v7] [] h = if x3 ≤ x5 then gR h 11 x0 31 fun g1 => aI X h g1 0 fun g2 => some (some (.int g2), h) else gR h 11 x0 15 fun g3 => aI X h g3 ((1220 * x1) + (2 * x5)) fun g4 => gR h 11 x0 15 fun g5 => aI X h g5 (((1220 * x1) + (2 * x5)) + 1) fun g6 => if 9 ≤ g4 then if ¬ g4 = 12 then if ¬ g4 = 16 then gR h 11 x0 31 fun g7 => gR h 11 x0 31 fun g8 => aI X h g8 ((x4 + (-1)) - 1) fun g9 => gR h 11 x0 31 fun g10 => aI X h g10 (x4 + (-1)) fun g11 => bI (K X d 184 [.int g4, .int g9, .int g11] h) fun r12 h1 => wI h1 g7 ((x4 + (-1)) - 1) r12 fun h2 => sem (X, K X d) 185 6 [some (.ref x0), some (.int x1), v2, some (.int x3), some (.int (x4 + (-1))), some (.int (x5 + 1)), some (.int g4), some (.int g6)] [] h2 else gR h 11 x0 31 fun g13 => gR h 11 x0 31 fun g14 => aI X h g14 (x4 - 1) fun g15 => wI h g13 (x4 - 1) (1 - g15) fun h3 => sem (X, K X d) 185 6 [some (.ref x0), some (.int x1), v2, some (.int x3), some (.int x4), some (.int (x5 + 1)), some (.int g4), some (.int g6)] [] h3 else gR h 11 x0 31 fun g16 => aI X h g16 (x4 - 1) fun g17 => gd (¬ g6 = 0) (wI h g16 (x4 - 1) (g17 / g6) fun h4 => sem (X, K X d) 185 6 [some (.ref x0), some (.int x1), v2, some (.int x3), some (.int x4), some (.int (x5 + 1)), some (.int g4), some (.int g6)] [] h4) else gR h 11 x0 31 fun g18 => if ¬ g4 = 0 then gR h 11 x0 32 fun g19 => aI X h g19 g4 fun g20 => wI h g18 x4 g20 fun h5 => sem (X, K X d) 185 6 [some (.ref x0), some (.int x1), v2, some (.int x3), some (.int (x4 + 1)), some (.int (x5 + 1)), some (.int g4), some (.int g6)] [] h5 else wI h g18 x4 g6 fun h6 => sem (X, K X d) 185 6 [some (.ref x0), some (.int x1), v2, some (.int x3), some (.int (x4 + 1)), some (.int (x5 + 1)), some (.int g4), some (.int g6)] [] h6 := by
  refine (s_iload 8 mc_185 dX11_comesTo_6 rfl rfl).trans ?_
  refine (s_iload_n 9 mc_185 dX11_comesTo_8 rfl rfl rfl).trans ?_
  refine (s_icmp_ge 178 12 mc_185 dX11_comesTo_9 rfl rfl).trans ?_
  refine ite_c ?_ ?_
  · skip
    refine (s_aload_n 179 mc_185 dX11_comesTo_178 rfl rfl rfl).trans ?_
    refine (s_getfR 182 mc_185 dX11_comesTo_179 rfl mo_185 fs_11_108 ff_11_108 rfl).trans ?_
    refine gR_c fun g1 => ?_
    refine (s_iconst 183 0 mc_185 dX11_comesTo_182 rfl (by decide)).trans ?_
    refine (s_iaload 184 mc_185 dX11_comesTo_183 rfl).trans ?_
    refine aI_c fun g2 => ?_
    exact s_iret mc_185 dX11_comesTo_184 mt_185
  · skip
    refine (s_aload_n 13 mc_185 dX11_comesTo_12 rfl rfl rfl).trans ?_
    refine (s_getfR 16 mc_185 dX11_comesTo_13 rfl mo_185 fs_11_59 ff_11_59 rfl).trans ?_
    refine gR_c fun g3 => ?_
    refine (s_sipush 19 1220 mc_185 dX11_comesTo_16 rfl (by decide)).trans ?_
    refine (s_iload_n 20 mc_185 dX11_comesTo_19 rfl rfl rfl).trans ?_
    refine (s_imul 21 mc_185 dX11_comesTo_20 rfl).trans ?_
    refine (s_iconst 22 2 mc_185 dX11_comesTo_21 rfl (by decide)).trans ?_
    refine (s_iload 24 mc_185 dX11_comesTo_22 rfl rfl).trans ?_
    refine (s_imul 25 mc_185 dX11_comesTo_24 rfl).trans ?_
    refine (s_iadd 26 mc_185 dX11_comesTo_25 rfl).trans ?_
    refine (s_iaload 27 mc_185 dX11_comesTo_26 rfl).trans ?_
    refine aI_c fun g4 => ?_
    refine (s_istore 29 mc_185 dX11_comesTo_27 rfl (Nat.le_of_ble_eq_true rfl) rfl).trans ?_
    refine (s_aload_n 30 mc_185 dX11_comesTo_29 rfl rfl rfl).trans ?_
    refine (s_getfR 33 mc_185 dX11_comesTo_30 rfl mo_185 fs_11_59 ff_11_59 rfl).trans ?_
    refine gR_c fun g5 => ?_
    refine (s_sipush 36 1220 mc_185 dX11_comesTo_33 rfl (by decide)).trans ?_
    refine (s_iload_n 37 mc_185 dX11_comesTo_36 rfl rfl rfl).trans ?_
    refine (s_imul 38 mc_185 dX11_comesTo_37 rfl).trans ?_
    refine (s_iconst 39 2 mc_185 dX11_comesTo_38 rfl (by decide)).trans ?_
    refine (s_iload 41 mc_185 dX11_comesTo_39 rfl rfl).trans ?_
    refine (s_imul 42 mc_185 dX11_comesTo_41 rfl).trans ?_
    refine (s_iadd 43 mc_185 dX11_comesTo_42 rfl).trans ?_
    refine (s_iconst 44 1 mc_185 dX11_comesTo_43 rfl (by decide)).trans ?_
    refine (s_iadd 45 mc_185 dX11_comesTo_44 rfl).trans ?_
    refine (s_iaload 46 mc_185 dX11_comesTo_45 rfl).trans ?_
    refine aI_c fun g6 => ?_
    refine (s_istore 48 mc_185 dX11_comesTo_46 rfl (Nat.le_of_ble_eq_true rfl) rfl).trans ?_
    refine (s_iload 50 mc_185 dX11_comesTo_48 rfl rfl).trans ?_
    refine (s_bipush 52 9 mc_185 dX11_comesTo_50 rfl (by decide)).trans ?_
    refine (s_icmp_ge 85 55 mc_185 dX11_comesTo_52 rfl rfl).trans ?_
    refine ite_c ?_ ?_
    · skip
      refine (s_iload 87 mc_185 dX11_comesTo_85 rfl rfl).trans ?_
      refine (s_bipush 89 12 mc_185 dX11_comesTo_87 rfl (by decide)).trans ?_
      refine (s_icmp_ne 109 92 mc_185 dX11_comesTo_89 rfl rfl).trans ?_
      refine ite_c ?_ ?_
      · skip
        refine (s_iload 111 mc_185 dX11_comesTo_109 rfl rfl).trans ?_
        refine (s_bipush 113 16 mc_185 dX11_comesTo_111 rfl (by decide)).trans ?_
        refine (s_icmp_ne 139 116 mc_185 dX11_comesTo_113 rfl rfl).trans ?_
        refine ite_c ?_ ?_
        · skip
          refine (s_iinc (-1) 142 mc_185 dX11_comesTo_139 rfl rfl (Nat.le_of_ble_eq_true rfl) (by decide) rfl).trans ?_
          refine (s_aload_n 143 mc_185 dX11_comesTo_142 rfl rfl rfl).trans ?_
          refine (s_getfR 146 mc_185 dX11_comesTo_143 rfl mo_185 fs_11_108 ff_11_108 rfl).trans ?_
          refine gR_c fun g7 => ?_
          refine (s_iload 148 mc_185 dX11_comesTo_146 rfl rfl).trans ?_
          refine (s_iconst 149 1 mc_185 dX11_comesTo_148 rfl (by decide)).trans ?_
          refine (s_isub 150 mc_185 dX11_comesTo_149 rfl).trans ?_
          refine (s_iload 152 mc_185 dX11_comesTo_150 rfl rfl).trans ?_
          refine (s_aload_n 153 mc_185 dX11_comesTo_152 rfl rfl rfl).trans ?_
          refine (s_getfR 156 mc_185 dX11_comesTo_153 rfl mo_185 fs_11_108 ff_11_108 rfl).trans ?_
          refine gR_c fun g8 => ?_
          refine (s_iload 158 mc_185 dX11_comesTo_156 rfl rfl).trans ?_
          refine (s_iconst 159 1 mc_185 dX11_comesTo_158 rfl (by decide)).trans ?_
          refine (s_isub 160 mc_185 dX11_comesTo_159 rfl).trans ?_
          refine (s_iaload 161 mc_185 dX11_comesTo_160 rfl).trans ?_
          refine aI_c fun g9 => ?_
          refine (s_aload_n 162 mc_185 dX11_comesTo_161 rfl rfl rfl).trans ?_
          refine (s_getfR 165 mc_185 dX11_comesTo_162 rfl mo_185 fs_11_108 ff_11_108 rfl).trans ?_
          refine gR_c fun g10 => ?_
          refine (s_iload 167 mc_185 dX11_comesTo_165 rfl rfl).trans ?_
          refine (s_iaload 168 mc_185 dX11_comesTo_167 rfl).trans ?_
          refine aI_c fun g11 => ?_
          refine (s_istI 171 mc_185 dX11_comesTo_168 rfl mo_185 mm_11_401 (by decide) ms_184 mr_184 ma_184 (Nat.le_of_ble_eq_true rfl) rfl rfl (Nat.le_of_ble_eq_true rfl)).trans ?_
          refine bI_c fun r12 h1 => ?_
          refine (s_iastore 172 mc_185 dX11_comesTo_171 rfl).trans ?_
          refine wI_c fun h2 => ?_
          refine (s_iinc 1 175 mc_185 dX11_comesTo_172 rfl rfl (Nat.le_of_ble_eq_true rfl) (by decide) rfl).trans ?_
          refine (s_goto 6 mc_185 dX11_comesTo_175 rfl).trans ?_
          rfl
        · skip
          refine (s_aload_n 117 mc_185 dX11_comesTo_116 rfl rfl rfl).trans ?_
          refine (s_getfR 120 mc_185 dX11_comesTo_117 rfl mo_185 fs_11_108 ff_11_108 rfl).trans ?_
          refine gR_c fun g13 => ?_
          refine (s_iload 122 mc_185 dX11_comesTo_120 rfl rfl).trans ?_
          refine (s_iconst 123 1 mc_185 dX11_comesTo_122 rfl (by decide)).trans ?_
          refine (s_isub 124 mc_185 dX11_comesTo_123 rfl).trans ?_
          refine (s_iconst 125 1 mc_185 dX11_comesTo_124 rfl (by decide)).trans ?_
          refine (s_aload_n 126 mc_185 dX11_comesTo_125 rfl rfl rfl).trans ?_
          refine (s_getfR 129 mc_185 dX11_comesTo_126 rfl mo_185 fs_11_108 ff_11_108 rfl).trans ?_
          refine gR_c fun g14 => ?_
          refine (s_iload 131 mc_185 dX11_comesTo_129 rfl rfl).trans ?_
          refine (s_iconst 132 1 mc_185 dX11_comesTo_131 rfl (by decide)).trans ?_
          refine (s_isub 133 mc_185 dX11_comesTo_132 rfl).trans ?_
          refine (s_iaload 134 mc_185 dX11_comesTo_133 rfl).trans ?_
          refine aI_c fun g15 => ?_
          refine (s_isub 135 mc_185 dX11_comesTo_134 rfl).trans ?_
          refine (s_iastore 136 mc_185 dX11_comesTo_135 rfl).trans ?_
          refine wI_c fun h3 => ?_
          refine (s_goto 172 mc_185 dX11_comesTo_136 rfl).trans ?_
          refine (s_iinc 1 175 mc_185 dX11_comesTo_172 rfl rfl (Nat.le_of_ble_eq_true rfl) (by decide) rfl).trans ?_
          refine (s_goto 6 mc_185 dX11_comesTo_175 rfl).trans ?_
          rfl
      · skip
        refine (s_aload_n 93 mc_185 dX11_comesTo_92 rfl rfl rfl).trans ?_
        refine (s_getfR 96 mc_185 dX11_comesTo_93 rfl mo_185 fs_11_108 ff_11_108 rfl).trans ?_
        refine gR_c fun g16 => ?_
        refine (s_iload 98 mc_185 dX11_comesTo_96 rfl rfl).trans ?_
        refine (s_iconst 99 1 mc_185 dX11_comesTo_98 rfl (by decide)).trans ?_
        refine (s_isub 100 mc_185 dX11_comesTo_99 rfl).trans ?_
        refine (s_dup2 101 mc_185 dX11_comesTo_100 rfl rfl rfl).trans ?_
        refine (s_iaload 102 mc_185 dX11_comesTo_101 rfl).trans ?_
        refine aI_c fun g17 => ?_
        refine (s_iload 104 mc_185 dX11_comesTo_102 rfl rfl).trans ?_
        refine (s_idiv 105 mc_185 dX11_comesTo_104 rfl).trans ?_
        refine gd_c ?_
        refine (s_iastore 106 mc_185 dX11_comesTo_105 rfl).trans ?_
        refine wI_c fun h4 => ?_
        refine (s_goto 172 mc_185 dX11_comesTo_106 rfl).trans ?_
        refine (s_iinc 1 175 mc_185 dX11_comesTo_172 rfl rfl (Nat.le_of_ble_eq_true rfl) (by decide) rfl).trans ?_
        refine (s_goto 6 mc_185 dX11_comesTo_175 rfl).trans ?_
        rfl
    · skip
      refine (s_aload_n 56 mc_185 dX11_comesTo_55 rfl rfl rfl).trans ?_
      refine (s_getfR 59 mc_185 dX11_comesTo_56 rfl mo_185 fs_11_108 ff_11_108 rfl).trans ?_
      refine gR_c fun g18 => ?_
      refine (s_iload 61 mc_185 dX11_comesTo_59 rfl rfl).trans ?_
      refine (s_iload 63 mc_185 dX11_comesTo_61 rfl rfl).trans ?_
      refine (s_if_ne 71 66 mc_185 dX11_comesTo_63 rfl rfl).trans ?_
      refine ite_c ?_ ?_
      · skip
        refine (s_aload_n 72 mc_185 dX11_comesTo_71 rfl rfl rfl).trans ?_
        refine (s_getfR 75 mc_185 dX11_comesTo_72 rfl mo_185 fs_11_111 ff_11_111 rfl).trans ?_
        refine gR_c fun g19 => ?_
        refine (s_iload 77 mc_185 dX11_comesTo_75 rfl rfl).trans ?_
        refine (s_iaload 78 mc_185 dX11_comesTo_77 rfl).trans ?_
        refine aI_c fun g20 => ?_
        refine (s_iastore 79 mc_185 dX11_comesTo_78 rfl).trans ?_
        refine wI_c fun h5 => ?_
        refine (s_iinc 1 82 mc_185 dX11_comesTo_79 rfl rfl (Nat.le_of_ble_eq_true rfl) (by decide) rfl).trans ?_
        refine (s_goto 172 mc_185 dX11_comesTo_82 rfl).trans ?_
        refine (s_iinc 1 175 mc_185 dX11_comesTo_172 rfl rfl (Nat.le_of_ble_eq_true rfl) (by decide) rfl).trans ?_
        refine (s_goto 6 mc_185 dX11_comesTo_175 rfl).trans ?_
        rfl
      · skip
        refine (s_iload 68 mc_185 dX11_comesTo_66 rfl rfl).trans ?_
        refine (s_goto 78 mc_185 dX11_comesTo_68 rfl).trans ?_
        refine (s_iastore 79 mc_185 dX11_comesTo_78 rfl).trans ?_
        refine wI_c fun h6 => ?_
        refine (s_iinc 1 82 mc_185 dX11_comesTo_79 rfl rfl (Nat.le_of_ble_eq_true rfl) (by decide) rfl).trans ?_
        refine (s_goto 172 mc_185 dX11_comesTo_82 rfl).trans ?_
        refine (s_iinc 1 175 mc_185 dX11_comesTo_172 rfl rfl (Nat.le_of_ble_eq_true rfl) (by decide) rfl).trans ?_
        refine (s_goto 6 mc_185 dX11_comesTo_175 rfl).trans ?_
        rfl
/-- FiveLandsModel.pact(II)I -/
theorem k_186 {X : Ctx} {d : Nat} (x0 : Int32) (x1 : Int32) (h : Hp) : K X (d + 1) 186 [.int x0, .int x1] h = if x1 ≤ x0 then some (some (.int ((6 * x1) + x0)), h) else some (some (.int ((6 * x0) + x1)), h) := by
  show sem (X, K X d) 186 0 [some (.int x0), some (.int x1)] [] h = _
  refine (s_iload_n 1 mc_186 dX11_pact_0 rfl rfl rfl).trans ?_
  refine (s_iload_n 2 mc_186 dX11_pact_1 rfl rfl rfl).trans ?_
  refine (s_icmp_ge 14 5 mc_186 dX11_pact_2 rfl rfl).trans ?_
  refine ite_c ?_ ?_
  · skip
    refine (s_bipush 16 6 mc_186 dX11_pact_14 rfl (by decide)).trans ?_
    refine (s_iload_n 17 mc_186 dX11_pact_16 rfl rfl rfl).trans ?_
    refine (s_imul 18 mc_186 dX11_pact_17 rfl).trans ?_
    refine (s_iload_n 19 mc_186 dX11_pact_18 rfl rfl rfl).trans ?_
    refine (s_iadd 20 mc_186 dX11_pact_19 rfl).trans ?_
    exact s_iret mc_186 dX11_pact_20 mt_186
  · skip
    refine (s_bipush 7 6 mc_186 dX11_pact_5 rfl (by decide)).trans ?_
    refine (s_iload_n 8 mc_186 dX11_pact_7 rfl rfl rfl).trans ?_
    refine (s_imul 9 mc_186 dX11_pact_8 rfl).trans ?_
    refine (s_iload_n 10 mc_186 dX11_pact_9 rfl rfl rfl).trans ?_
    refine (s_iadd 11 mc_186 dX11_pact_10 rfl).trans ?_
    refine (s_goto 20 mc_186 dX11_pact_11 rfl).trans ?_
    exact s_iret mc_186 dX11_pact_20 mt_186
/-- FiveLandsModel.laysPacts(I)V -/
theorem k_187 {X : Ctx} {d : Nat} (x0 : Nat) (x1 : Int32) (h : Hp) : K X (d + 1) 187 [.ref x0, .int x1] h = sem (X, K X d) 187 2 [some (.ref x0), some (.int x1), some (.int 0), none] [] h := by
  show sem (X, K X d) 187 0 [some (.ref x0), some (.int x1), none, none] [] h = _
  refine (s_iconst 1 0 mc_187 dX11_laysPacts_0 rfl (by decide)).trans ?_
  refine (s_istore_n 2 mc_187 dX11_laysPacts_1 rfl rfl (Nat.le_of_ble_eq_true rfl) rfl).trans ?_
  rfl
theorem b_187_2 {X : Ctx} {d : Nat} (x0 : Nat) (v1 : Option Value) (x2 : Int32) (v3 : Option Value)  (h : Hp) : sem (X, K X d) 187 2 [some (.ref x0), v1, some (.int x2), v3] [] h = if 36 ≤ x2 then sem (X, K X d) 187 88 [some (.ref x0), v1, some (.int 0), v3] [] h else gR h 11 x0 58 fun g1 => gR h 11 x0 26 fun g2 => aI X h g2 x2 fun g3 => wI h g1 x2 g3 fun h1 => gR h1 11 x0 60 fun g4 => gR h1 11 x0 28 fun g5 => aI X h1 g5 x2 fun g6 => wI h1 g4 x2 g6 fun h2 => gR h2 11 x0 61 fun g7 => gR h2 11 x0 29 fun g8 => aZ h2 g8 x2 fun g9 => wZ h2 g7 x2 g9 fun h3 => sem (X, K X d) 187 46 [some (.ref x0), v1, some (.int x2), some (.int 0)] [] h3 := by
  refine (s_iload_n 3 mc_187 dX11_laysPacts_2 rfl rfl rfl).trans ?_
  refine (s_bipush 5 36 mc_187 dX11_laysPacts_3 rfl (by decide)).trans ?_
  refine (s_icmp_ge 86 8 mc_187 dX11_laysPacts_5 rfl rfl).trans ?_
  refine ite_c ?_ ?_
  · skip
    refine (s_iconst 87 0 mc_187 dX11_laysPacts_86 rfl (by decide)).trans ?_
    refine (s_istore_n 88 mc_187 dX11_laysPacts_87 rfl rfl (Nat.le_of_ble_eq_true rfl) rfl).trans ?_
    rfl
  · skip
    refine (s_aload_n 9 mc_187 dX11_laysPacts_8 rfl rfl rfl).trans ?_
    refine (s_getfR 12 mc_187 dX11_laysPacts_9 rfl mo_187 fs_11_140 ff_11_140 rfl).trans ?_
    refine gR_c fun g1 => ?_
    refine (s_iload_n 13 mc_187 dX11_laysPacts_12 rfl rfl rfl).trans ?_
    refine (s_aload_n 14 mc_187 dX11_laysPacts_13 rfl rfl rfl).trans ?_
    refine (s_getfR 17 mc_187 dX11_laysPacts_14 rfl mo_187 fs_11_93 ff_11_93 rfl).trans ?_
    refine gR_c fun g2 => ?_
    refine (s_iload_n 18 mc_187 dX11_laysPacts_17 rfl rfl rfl).trans ?_
    refine (s_iaload 19 mc_187 dX11_laysPacts_18 rfl).trans ?_
    refine aI_c fun g3 => ?_
    refine (s_iastore 20 mc_187 dX11_laysPacts_19 rfl).trans ?_
    refine wI_c fun h1 => ?_
    refine (s_aload_n 21 mc_187 dX11_laysPacts_20 rfl rfl rfl).trans ?_
    refine (s_getfR 24 mc_187 dX11_laysPacts_21 rfl mo_187 fs_11_146 ff_11_146 rfl).trans ?_
    refine gR_c fun g4 => ?_
    refine (s_iload_n 25 mc_187 dX11_laysPacts_24 rfl rfl rfl).trans ?_
    refine (s_aload_n 26 mc_187 dX11_laysPacts_25 rfl rfl rfl).trans ?_
    refine (s_getfR 29 mc_187 dX11_laysPacts_26 rfl mo_187 fs_11_99 ff_11_99 rfl).trans ?_
    refine gR_c fun g5 => ?_
    refine (s_iload_n 30 mc_187 dX11_laysPacts_29 rfl rfl rfl).trans ?_
    refine (s_iaload 31 mc_187 dX11_laysPacts_30 rfl).trans ?_
    refine aI_c fun g6 => ?_
    refine (s_iastore 32 mc_187 dX11_laysPacts_31 rfl).trans ?_
    refine wI_c fun h2 => ?_
    refine (s_aload_n 33 mc_187 dX11_laysPacts_32 rfl rfl rfl).trans ?_
    refine (s_getfR 36 mc_187 dX11_laysPacts_33 rfl mo_187 fs_11_149 ff_11_149 rfl).trans ?_
    refine gR_c fun g7 => ?_
    refine (s_iload_n 37 mc_187 dX11_laysPacts_36 rfl rfl rfl).trans ?_
    refine (s_aload_n 38 mc_187 dX11_laysPacts_37 rfl rfl rfl).trans ?_
    refine (s_getfR 41 mc_187 dX11_laysPacts_38 rfl mo_187 fs_11_102 ff_11_102 rfl).trans ?_
    refine gR_c fun g8 => ?_
    refine (s_iload_n 42 mc_187 dX11_laysPacts_41 rfl rfl rfl).trans ?_
    refine (s_baload 43 mc_187 dX11_laysPacts_42 rfl).trans ?_
    refine aZ_c fun g9 => ?_
    refine (s_bastore 44 mc_187 dX11_laysPacts_43 rfl).trans ?_
    refine wZ_c fun h3 => ?_
    refine (s_iconst 45 0 mc_187 dX11_laysPacts_44 rfl (by decide)).trans ?_
    refine (s_istore_n 46 mc_187 dX11_laysPacts_45 rfl rfl (Nat.le_of_ble_eq_true rfl) rfl).trans ?_
    rfl
theorem b_187_46 {X : Ctx} {d : Nat} (x0 : Nat) (v1 : Option Value) (x2 : Int32) (x3 : Int32)  (h : Hp) : sem (X, K X d) 187 46 [some (.ref x0), v1, some (.int x2), some (.int x3)] [] h = if 6 ≤ x3 then sem (X, K X d) 187 2 [some (.ref x0), v1, some (.int (x2 + 1)), some (.int x3)] [] h else gR h 11 x0 59 fun g1 => gR h 11 x0 27 fun g2 => aI X h g2 ((6 * x2) + x3) fun g3 => wI h g1 ((6 * x2) + x3) g3 fun h1 => sem (X, K X d) 187 46 [some (.ref x0), v1, some (.int x2), some (.int (x3 + 1))] [] h1 := by
  refine (s_iload_n 47 mc_187 dX11_laysPacts_46 rfl rfl rfl).trans ?_
  refine (s_bipush 49 6 mc_187 dX11_laysPacts_47 rfl (by decide)).trans ?_
  refine (s_icmp_ge 80 52 mc_187 dX11_laysPacts_49 rfl rfl).trans ?_
  refine ite_c ?_ ?_
  · skip
    refine (s_iinc 1 83 mc_187 dX11_laysPacts_80 rfl rfl (Nat.le_of_ble_eq_true rfl) (by decide) rfl).trans ?_
    refine (s_goto 2 mc_187 dX11_laysPacts_83 rfl).trans ?_
    rfl
  · skip
    refine (s_aload_n 53 mc_187 dX11_laysPacts_52 rfl rfl rfl).trans ?_
    refine (s_getfR 56 mc_187 dX11_laysPacts_53 rfl mo_187 fs_11_143 ff_11_143 rfl).trans ?_
    refine gR_c fun g1 => ?_
    refine (s_bipush 58 6 mc_187 dX11_laysPacts_56 rfl (by decide)).trans ?_
    refine (s_iload_n 59 mc_187 dX11_laysPacts_58 rfl rfl rfl).trans ?_
    refine (s_imul 60 mc_187 dX11_laysPacts_59 rfl).trans ?_
    refine (s_iload_n 61 mc_187 dX11_laysPacts_60 rfl rfl rfl).trans ?_
    refine (s_iadd 62 mc_187 dX11_laysPacts_61 rfl).trans ?_
    refine (s_aload_n 63 mc_187 dX11_laysPacts_62 rfl rfl rfl).trans ?_
    refine (s_getfR 66 mc_187 dX11_laysPacts_63 rfl mo_187 fs_11_96 ff_11_96 rfl).trans ?_
    refine gR_c fun g2 => ?_
    refine (s_bipush 68 6 mc_187 dX11_laysPacts_66 rfl (by decide)).trans ?_
    refine (s_iload_n 69 mc_187 dX11_laysPacts_68 rfl rfl rfl).trans ?_
    refine (s_imul 70 mc_187 dX11_laysPacts_69 rfl).trans ?_
    refine (s_iload_n 71 mc_187 dX11_laysPacts_70 rfl rfl rfl).trans ?_
    refine (s_iadd 72 mc_187 dX11_laysPacts_71 rfl).trans ?_
    refine (s_iaload 73 mc_187 dX11_laysPacts_72 rfl).trans ?_
    refine aI_c fun g3 => ?_
    refine (s_iastore 74 mc_187 dX11_laysPacts_73 rfl).trans ?_
    refine wI_c fun h1 => ?_
    refine (s_iinc 1 77 mc_187 dX11_laysPacts_74 rfl rfl (Nat.le_of_ble_eq_true rfl) (by decide) rfl).trans ?_
    refine (s_goto 46 mc_187 dX11_laysPacts_77 rfl).trans ?_
    rfl
theorem b_187_88 {X : Ctx} {d : Nat} (x0 : Nat) (x1 : Int32) (x2 : Int32) (v3 : Option Value)  (h : Hp) : sem (X, K X d) 187 88 [some (.ref x0), some (.int x1), some (.int x2), v3] [] h = gI h 11 x0 77 fun g1 => if g1 ≤ x2 then some (none, h) else if ¬ ((x1 >>> (x2 &&& 31)) &&& 1) = 0 then gR h 11 x0 81 fun g2 => aI X h g2 x2 fun g3 => gR h 11 x0 82 fun g4 => aI X h g4 x2 fun g5 => if ¬ g5 = 0 then sem (X, K X d) 187 130 [some (.ref x0), some (.int x1), some (.int x2), some (.int g3)] [] h else gR h 11 x0 61 fun g6 => wZ h g6 g3 1 fun h1 => sem (X, K X d) 187 130 [some (.ref x0), some (.int x1), some (.int x2), some (.int g3)] [] h1 else sem (X, K X d) 187 88 [some (.ref x0), some (.int x1), some (.int (x2 + 1)), v3] [] h := by
  refine (s_iload_n 89 mc_187 dX11_laysPacts_88 rfl rfl rfl).trans ?_
  refine (s_aload_n 90 mc_187 dX11_laysPacts_89 rfl rfl rfl).trans ?_
  refine (s_getfI 93 mc_187 dX11_laysPacts_90 rfl mo_187 fs_11_405 ff_11_405 (Or.inl rfl)).trans ?_
  refine gI_c fun g1 => ?_
  refine (s_icmp_ge 221 96 mc_187 dX11_laysPacts_93 rfl rfl).trans ?_
  refine ite_c ?_ ?_
  · skip
    exact s_vret mc_187 dX11_laysPacts_221 mt_187
  · skip
    refine (s_iload_n 97 mc_187 dX11_laysPacts_96 rfl rfl rfl).trans ?_
    refine (s_iload_n 98 mc_187 dX11_laysPacts_97 rfl rfl rfl).trans ?_
    refine (s_ishr 99 mc_187 dX11_laysPacts_98 rfl).trans ?_
    refine (s_iconst 100 1 mc_187 dX11_laysPacts_99 rfl (by decide)).trans ?_
    refine (s_iand 101 mc_187 dX11_laysPacts_100 rfl).trans ?_
    refine (s_if_ne 107 104 mc_187 dX11_laysPacts_101 rfl rfl).trans ?_
    refine ite_c ?_ ?_
    · skip
      refine (s_aload_n 108 mc_187 dX11_laysPacts_107 rfl rfl rfl).trans ?_
      refine (s_getfR 111 mc_187 dX11_laysPacts_108 rfl mo_187 fs_11_186 ff_11_186 rfl).trans ?_
      refine gR_c fun g2 => ?_
      refine (s_iload_n 112 mc_187 dX11_laysPacts_111 rfl rfl rfl).trans ?_
      refine (s_iaload 113 mc_187 dX11_laysPacts_112 rfl).trans ?_
      refine aI_c fun g3 => ?_
      refine (s_istore_n 114 mc_187 dX11_laysPacts_113 rfl rfl (Nat.le_of_ble_eq_true rfl) rfl).trans ?_
      refine (s_aload_n 115 mc_187 dX11_laysPacts_114 rfl rfl rfl).trans ?_
      refine (s_getfR 118 mc_187 dX11_laysPacts_115 rfl mo_187 fs_11_189 ff_11_189 rfl).trans ?_
      refine gR_c fun g4 => ?_
      refine (s_iload_n 119 mc_187 dX11_laysPacts_118 rfl rfl rfl).trans ?_
      refine (s_iaload 120 mc_187 dX11_laysPacts_119 rfl).trans ?_
      refine aI_c fun g5 => ?_
      refine (s_if_ne 130 123 mc_187 dX11_laysPacts_120 rfl rfl).trans ?_
      refine ite_c ?_ ?_
      · skip
        rfl
      · skip
        refine (s_aload_n 124 mc_187 dX11_laysPacts_123 rfl rfl rfl).trans ?_
        refine (s_getfR 127 mc_187 dX11_laysPacts_124 rfl mo_187 fs_11_149 ff_11_149 rfl).trans ?_
        refine gR_c fun g6 => ?_
        refine (s_iload_n 128 mc_187 dX11_laysPacts_127 rfl rfl rfl).trans ?_
        refine (s_iconst 129 1 mc_187 dX11_laysPacts_128 rfl (by decide)).trans ?_
        refine (s_bastore 130 mc_187 dX11_laysPacts_129 rfl).trans ?_
        refine wZ_c fun h1 => ?_
        rfl
    · skip
      refine (s_goto 215 mc_187 dX11_laysPacts_104 rfl).trans ?_
      refine (s_iinc 1 218 mc_187 dX11_laysPacts_215 rfl rfl (Nat.le_of_ble_eq_true rfl) (by decide) rfl).trans ?_
      refine (s_goto 88 mc_187 dX11_laysPacts_218 rfl).trans ?_
      rfl
theorem b_187_130 {X : Ctx} {d : Nat} (x0 : Nat) (v1 : Option Value) (x2 : Int32) (x3 : Int32)  (h : Hp) : sem (X, K X d) 187 130 [some (.ref x0), v1, some (.int x2), some (.int x3)] [] h = gR h 11 x0 82 fun g1 => aI X h g1 x2 fun g2 => if ¬ g2 = 1 then sem (X, K X d) 187 157 [some (.ref x0), v1, some (.int x2), some (.int x3)] [] h else gR h 11 x0 58 fun g3 => aI X h g3 x3 fun g4 => gR h 11 x0 83 fun g5 => aI X h g5 x2 fun g6 => wI h g3 x3 (g4 ||| (1 <<< (g6 &&& 31))) fun h1 => sem (X, K X d) 187 157 [some (.ref x0), v1, some (.int x2), some (.int x3)] [] h1 := by
  refine (s_aload_n 131 mc_187 dX11_laysPacts_130 rfl rfl rfl).trans ?_
  refine (s_getfR 134 mc_187 dX11_laysPacts_131 rfl mo_187 fs_11_189 ff_11_189 rfl).trans ?_
  refine gR_c fun g1 => ?_
  refine (s_iload_n 135 mc_187 dX11_laysPacts_134 rfl rfl rfl).trans ?_
  refine (s_iaload 136 mc_187 dX11_laysPacts_135 rfl).trans ?_
  refine aI_c fun g2 => ?_
  refine (s_iconst 137 1 mc_187 dX11_laysPacts_136 rfl (by decide)).trans ?_
  refine (s_icmp_ne 157 140 mc_187 dX11_laysPacts_137 rfl rfl).trans ?_
  refine ite_c ?_ ?_
  · skip
    rfl
  · skip
    refine (s_aload_n 141 mc_187 dX11_laysPacts_140 rfl rfl rfl).trans ?_
    refine (s_getfR 144 mc_187 dX11_laysPacts_141 rfl mo_187 fs_11_140 ff_11_140 rfl).trans ?_
    refine gR_c fun g3 => ?_
    refine (s_iload_n 145 mc_187 dX11_laysPacts_144 rfl rfl rfl).trans ?_
    refine (s_dup2 146 mc_187 dX11_laysPacts_145 rfl rfl rfl).trans ?_
    refine (s_iaload 147 mc_187 dX11_laysPacts_146 rfl).trans ?_
    refine aI_c fun g4 => ?_
    refine (s_iconst 148 1 mc_187 dX11_laysPacts_147 rfl (by decide)).trans ?_
    refine (s_aload_n 149 mc_187 dX11_laysPacts_148 rfl rfl rfl).trans ?_
    refine (s_getfR 152 mc_187 dX11_laysPacts_149 rfl mo_187 fs_11_192 ff_11_192 rfl).trans ?_
    refine gR_c fun g5 => ?_
    refine (s_iload_n 153 mc_187 dX11_laysPacts_152 rfl rfl rfl).trans ?_
    refine (s_iaload 154 mc_187 dX11_laysPacts_153 rfl).trans ?_
    refine aI_c fun g6 => ?_
    refine (s_ishl 155 mc_187 dX11_laysPacts_154 rfl).trans ?_
    refine (s_ior 156 mc_187 dX11_laysPacts_155 rfl).trans ?_
    refine (s_iastore 157 mc_187 dX11_laysPacts_156 rfl).trans ?_
    refine wI_c fun h1 => ?_
    rfl
theorem b_187_157 {X : Ctx} {d : Nat} (x0 : Nat) (v1 : Option Value) (x2 : Int32) (x3 : Int32)  (h : Hp) : sem (X, K X d) 187 157 [some (.ref x0), v1, some (.int x2), some (.int x3)] [] h = gR h 11 x0 82 fun g1 => aI X h g1 x2 fun g2 => if ¬ g2 = 2 then sem (X, K X d) 187 184 [some (.ref x0), v1, some (.int x2), some (.int x3)] [] h else gR h 11 x0 59 fun g3 => gR h 11 x0 83 fun g4 => aI X h g4 x2 fun g5 => wI h g3 ((6 * x3) + g5) 0 fun h1 => sem (X, K X d) 187 184 [some (.ref x0), v1, some (.int x2), some (.int x3)] [] h1 := by
  refine (s_aload_n 158 mc_187 dX11_laysPacts_157 rfl rfl rfl).trans ?_
  refine (s_getfR 161 mc_187 dX11_laysPacts_158 rfl mo_187 fs_11_189 ff_11_189 rfl).trans ?_
  refine gR_c fun g1 => ?_
  refine (s_iload_n 162 mc_187 dX11_laysPacts_161 rfl rfl rfl).trans ?_
  refine (s_iaload 163 mc_187 dX11_laysPacts_162 rfl).trans ?_
  refine aI_c fun g2 => ?_
  refine (s_iconst 164 2 mc_187 dX11_laysPacts_163 rfl (by decide)).trans ?_
  refine (s_icmp_ne 184 167 mc_187 dX11_laysPacts_164 rfl rfl).trans ?_
  refine ite_c ?_ ?_
  · skip
    rfl
  · skip
    refine (s_aload_n 168 mc_187 dX11_laysPacts_167 rfl rfl rfl).trans ?_
    refine (s_getfR 171 mc_187 dX11_laysPacts_168 rfl mo_187 fs_11_143 ff_11_143 rfl).trans ?_
    refine gR_c fun g3 => ?_
    refine (s_bipush 173 6 mc_187 dX11_laysPacts_171 rfl (by decide)).trans ?_
    refine (s_iload_n 174 mc_187 dX11_laysPacts_173 rfl rfl rfl).trans ?_
    refine (s_imul 175 mc_187 dX11_laysPacts_174 rfl).trans ?_
    refine (s_aload_n 176 mc_187 dX11_laysPacts_175 rfl rfl rfl).trans ?_
    refine (s_getfR 179 mc_187 dX11_laysPacts_176 rfl mo_187 fs_11_192 ff_11_192 rfl).trans ?_
    refine gR_c fun g4 => ?_
    refine (s_iload_n 180 mc_187 dX11_laysPacts_179 rfl rfl rfl).trans ?_
    refine (s_iaload 181 mc_187 dX11_laysPacts_180 rfl).trans ?_
    refine aI_c fun g5 => ?_
    refine (s_iadd 182 mc_187 dX11_laysPacts_181 rfl).trans ?_
    refine (s_iconst 183 0 mc_187 dX11_laysPacts_182 rfl (by decide)).trans ?_
    refine (s_iastore 184 mc_187 dX11_laysPacts_183 rfl).trans ?_
    refine wI_c fun h1 => ?_
    rfl
theorem b_187_184 {X : Ctx} {d : Nat} (x0 : Nat) (v1 : Option Value) (x2 : Int32) (x3 : Int32)  (h : Hp) : sem (X, K X d) 187 184 [some (.ref x0), v1, some (.int x2), some (.int x3)] [] h = gR h 11 x0 82 fun g1 => aI X h g1 x2 fun g2 => if g2 ≤ 2 then sem (X, K X d) 187 88 [some (.ref x0), v1, some (.int (x2 + 1)), some (.int x3)] [] h else gR h 11 x0 60 fun g3 => gR h 11 x0 82 fun g4 => aI X h g4 x2 fun g5 => if ¬ g5 = 3 then wI h g3 x3 2 fun h1 => sem (X, K X d) 187 88 [some (.ref x0), v1, some (.int (x2 + 1)), some (.int x3)] [] h1 else wI h g3 x3 1 fun h2 => sem (X, K X d) 187 88 [some (.ref x0), v1, some (.int (x2 + 1)), some (.int x3)] [] h2 := by
  refine (s_aload_n 185 mc_187 dX11_laysPacts_184 rfl rfl rfl).trans ?_
  refine (s_getfR 188 mc_187 dX11_laysPacts_185 rfl mo_187 fs_11_189 ff_11_189 rfl).trans ?_
  refine gR_c fun g1 => ?_
  refine (s_iload_n 189 mc_187 dX11_laysPacts_188 rfl rfl rfl).trans ?_
  refine (s_iaload 190 mc_187 dX11_laysPacts_189 rfl).trans ?_
  refine aI_c fun g2 => ?_
  refine (s_iconst 191 2 mc_187 dX11_laysPacts_190 rfl (by decide)).trans ?_
  refine (s_icmp_le 215 194 mc_187 dX11_laysPacts_191 rfl rfl).trans ?_
  refine ite_c ?_ ?_
  · skip
    refine (s_iinc 1 218 mc_187 dX11_laysPacts_215 rfl rfl (Nat.le_of_ble_eq_true rfl) (by decide) rfl).trans ?_
    refine (s_goto 88 mc_187 dX11_laysPacts_218 rfl).trans ?_
    rfl
  · skip
    refine (s_aload_n 195 mc_187 dX11_laysPacts_194 rfl rfl rfl).trans ?_
    refine (s_getfR 198 mc_187 dX11_laysPacts_195 rfl mo_187 fs_11_146 ff_11_146 rfl).trans ?_
    refine gR_c fun g3 => ?_
    refine (s_iload_n 199 mc_187 dX11_laysPacts_198 rfl rfl rfl).trans ?_
    refine (s_aload_n 200 mc_187 dX11_laysPacts_199 rfl rfl rfl).trans ?_
    refine (s_getfR 203 mc_187 dX11_laysPacts_200 rfl mo_187 fs_11_189 ff_11_189 rfl).trans ?_
    refine gR_c fun g4 => ?_
    refine (s_iload_n 204 mc_187 dX11_laysPacts_203 rfl rfl rfl).trans ?_
    refine (s_iaload 205 mc_187 dX11_laysPacts_204 rfl).trans ?_
    refine aI_c fun g5 => ?_
    refine (s_iconst 206 3 mc_187 dX11_laysPacts_205 rfl (by decide)).trans ?_
    refine (s_icmp_ne 213 209 mc_187 dX11_laysPacts_206 rfl rfl).trans ?_
    refine ite_c ?_ ?_
    · skip
      refine (s_iconst 214 2 mc_187 dX11_laysPacts_213 rfl (by decide)).trans ?_
      refine (s_iastore 215 mc_187 dX11_laysPacts_214 rfl).trans ?_
      refine wI_c fun h1 => ?_
      refine (s_iinc 1 218 mc_187 dX11_laysPacts_215 rfl rfl (Nat.le_of_ble_eq_true rfl) (by decide) rfl).trans ?_
      refine (s_goto 88 mc_187 dX11_laysPacts_218 rfl).trans ?_
      rfl
    · skip
      refine (s_iconst 210 1 mc_187 dX11_laysPacts_209 rfl (by decide)).trans ?_
      refine (s_goto 214 mc_187 dX11_laysPacts_210 rfl).trans ?_
      refine (s_iastore 215 mc_187 dX11_laysPacts_214 rfl).trans ?_
      refine wI_c fun h2 => ?_
      refine (s_iinc 1 218 mc_187 dX11_laysPacts_215 rfl rfl (Nat.le_of_ble_eq_true rfl) (by decide) rfl).trans ?_
      refine (s_goto 88 mc_187 dX11_laysPacts_218 rfl).trans ?_
      rfl
