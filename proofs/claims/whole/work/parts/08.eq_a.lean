/-- FiveLands$Claims.<init>()V -/
theorem k_0 {X : Ctx} {d : Nat} (x0 : Nat) (h : Hp) : K X (d + 1) 0 [.ref x0] h = letH (hN h) (alc h (50, 10) 10) fun a1 h1 => fR h1 0 x0 0 a1 fun h2 => letH (hN h2) (alc h2 (50, 10) 10) fun a3 h3 => fR h3 0 x0 1 a3 fun h4 => letH (hN h4) (alc h4 (50, 10) 10) fun a5 h5 => fR h5 0 x0 2 a5 fun h6 => letH (hN h6) (alc h6 (51, 10) 10) fun a7 h7 => fR h7 0 x0 3 a7 fun h8 => some (none, h8) := by
  show sem (X, K X d) 0 0 [some (.ref x0)] [] h = _
  refine (s_aload_n 1 mc_0 dX0_init_0 rfl rfl rfl).trans ?_
  refine (s_obj 4 mc_0 dX0_init_1 rfl mo_0 mm_0_3 mq_0 (Nat.le_of_ble_eq_true rfl)).trans ?_
  refine (s_aload_n 5 mc_0 dX0_init_4 rfl rfl rfl).trans ?_
  refine (s_bipush 7 10 mc_0 dX0_init_5 rfl (by decide)).trans ?_
  refine (s_newI 9 mc_0 dX0_init_7 rfl mq_0 (by decide) rfl (by decide)).trans ?_
  refine letH_i (F := fun a1 h1 => sem (X, K X d) 0 9 [some (.ref x0)] [.ref a1, .ref x0] h1) (hN h) (alc h (50, 10) 10) ?_
  intro a1 h1
  refine (s_putfR 12 mc_0 dX0_init_9 rfl mo_0 ff_0_9 rfl (Or.inr ⟨mo_0, mn_0⟩)).trans ?_
  refine fR_c fun h2 => ?_
  refine (s_aload_n 13 mc_0 dX0_init_12 rfl rfl rfl).trans ?_
  refine (s_bipush 15 10 mc_0 dX0_init_13 rfl (by decide)).trans ?_
  refine (s_newI 17 mc_0 dX0_init_15 rfl mq_0 (by decide) rfl (by decide)).trans ?_
  refine letH_i (F := fun a3 h3 => sem (X, K X d) 0 17 [some (.ref x0)] [.ref a3, .ref x0] h3) (hN h2) (alc h2 (50, 10) 10) ?_
  intro a3 h3
  refine (s_putfR 20 mc_0 dX0_init_17 rfl mo_0 ff_0_15 rfl (Or.inr ⟨mo_0, mn_0⟩)).trans ?_
  refine fR_c fun h4 => ?_
  refine (s_aload_n 21 mc_0 dX0_init_20 rfl rfl rfl).trans ?_
  refine (s_bipush 23 10 mc_0 dX0_init_21 rfl (by decide)).trans ?_
  refine (s_newI 25 mc_0 dX0_init_23 rfl mq_0 (by decide) rfl (by decide)).trans ?_
  refine letH_i (F := fun a5 h5 => sem (X, K X d) 0 25 [some (.ref x0)] [.ref a5, .ref x0] h5) (hN h4) (alc h4 (50, 10) 10) ?_
  intro a5 h5
  refine (s_putfR 28 mc_0 dX0_init_25 rfl mo_0 ff_0_18 rfl (Or.inr ⟨mo_0, mn_0⟩)).trans ?_
  refine fR_c fun h6 => ?_
  refine (s_aload_n 29 mc_0 dX0_init_28 rfl rfl rfl).trans ?_
  refine (s_bipush 31 10 mc_0 dX0_init_29 rfl (by decide)).trans ?_
  refine (s_newJ 33 mc_0 dX0_init_31 rfl mq_0 (by decide) rfl (by decide)).trans ?_
  refine letH_i (F := fun a7 h7 => sem (X, K X d) 0 33 [some (.ref x0)] [.ref a7, .ref x0] h7) (hN h6) (alc h6 (51, 10) 10) ?_
  intro a7 h7
  refine (s_putfR 36 mc_0 dX0_init_33 rfl mo_0 ff_0_21 rfl (Or.inr ⟨mo_0, mn_0⟩)).trans ?_
  refine fR_c fun h8 => ?_
  exact s_vret mc_0 dX0_init_36 mt_0
/-- FiveLands$Law.<init>()V -/
theorem k_1 {X : Ctx} {d : Nat} (x0 : Nat) (h : Hp) : K X (d + 1) 1 [.ref x0] h = letH (hN h) (alc h (50, 600) 600) fun a1 h1 => fR h1 1 x0 0 a1 fun h2 => letH (hN h2) (alc h2 (50, 20) 20) fun a3 h3 => fR h3 1 x0 1 a3 fun h4 => letH (hN h4) (alc h4 (50, 20) 20) fun a5 h5 => fR h5 1 x0 2 a5 fun h6 => letH (hN h6) (alc h6 (50, 20) 20) fun a7 h7 => fR h7 1 x0 3 a7 fun h8 => letH (hN h8) (alc h8 (50, 20) 20) fun a9 h9 => fR h9 1 x0 4 a9 fun h10 => letH (hN h10) (alc h10 (50, 20) 20) fun a11 h11 => fR h11 1 x0 5 a11 fun h12 => letH (hN h12) (alc h12 (50, 20) 20) fun a13 h13 => fR h13 1 x0 6 a13 fun h14 => some (none, h14) := by
  show sem (X, K X d) 1 0 [some (.ref x0)] [] h = _
  refine (s_aload_n 1 mc_1 dX1_init_0 rfl rfl rfl).trans ?_
  refine (s_obj 4 mc_1 dX1_init_1 rfl mo_1 mm_1_3 mq_1 (Nat.le_of_ble_eq_true rfl)).trans ?_
  refine (s_aload_n 5 mc_1 dX1_init_4 rfl rfl rfl).trans ?_
  refine (s_sipush 8 600 mc_1 dX1_init_5 rfl (by decide)).trans ?_
  refine (s_newI 10 mc_1 dX1_init_8 rfl mq_1 (by decide) rfl (by decide)).trans ?_
  refine letH_i (F := fun a1 h1 => sem (X, K X d) 1 10 [some (.ref x0)] [.ref a1, .ref x0] h1) (hN h) (alc h (50, 600) 600) ?_
  intro a1 h1
  refine (s_putfR 13 mc_1 dX1_init_10 rfl mo_1 ff_1_9 rfl (Or.inr ⟨mo_1, mn_1⟩)).trans ?_
  refine fR_c fun h2 => ?_
  refine (s_aload_n 14 mc_1 dX1_init_13 rfl rfl rfl).trans ?_
  refine (s_bipush 16 20 mc_1 dX1_init_14 rfl (by decide)).trans ?_
  refine (s_newI 18 mc_1 dX1_init_16 rfl mq_1 (by decide) rfl (by decide)).trans ?_
  refine letH_i (F := fun a3 h3 => sem (X, K X d) 1 18 [some (.ref x0)] [.ref a3, .ref x0] h3) (hN h2) (alc h2 (50, 20) 20) ?_
  intro a3 h3
  refine (s_putfR 21 mc_1 dX1_init_18 rfl mo_1 ff_1_15 rfl (Or.inr ⟨mo_1, mn_1⟩)).trans ?_
  refine fR_c fun h4 => ?_
  refine (s_aload_n 22 mc_1 dX1_init_21 rfl rfl rfl).trans ?_
  refine (s_bipush 24 20 mc_1 dX1_init_22 rfl (by decide)).trans ?_
  refine (s_newI 26 mc_1 dX1_init_24 rfl mq_1 (by decide) rfl (by decide)).trans ?_
  refine letH_i (F := fun a5 h5 => sem (X, K X d) 1 26 [some (.ref x0)] [.ref a5, .ref x0] h5) (hN h4) (alc h4 (50, 20) 20) ?_
  intro a5 h5
  refine (s_putfR 29 mc_1 dX1_init_26 rfl mo_1 ff_1_18 rfl (Or.inr ⟨mo_1, mn_1⟩)).trans ?_
  refine fR_c fun h6 => ?_
  refine (s_aload_n 30 mc_1 dX1_init_29 rfl rfl rfl).trans ?_
  refine (s_bipush 32 20 mc_1 dX1_init_30 rfl (by decide)).trans ?_
  refine (s_newI 34 mc_1 dX1_init_32 rfl mq_1 (by decide) rfl (by decide)).trans ?_
  refine letH_i (F := fun a7 h7 => sem (X, K X d) 1 34 [some (.ref x0)] [.ref a7, .ref x0] h7) (hN h6) (alc h6 (50, 20) 20) ?_
  intro a7 h7
  refine (s_putfR 37 mc_1 dX1_init_34 rfl mo_1 ff_1_21 rfl (Or.inr ⟨mo_1, mn_1⟩)).trans ?_
  refine fR_c fun h8 => ?_
  refine (s_aload_n 38 mc_1 dX1_init_37 rfl rfl rfl).trans ?_
  refine (s_bipush 40 20 mc_1 dX1_init_38 rfl (by decide)).trans ?_
  refine (s_newI 42 mc_1 dX1_init_40 rfl mq_1 (by decide) rfl (by decide)).trans ?_
  refine letH_i (F := fun a9 h9 => sem (X, K X d) 1 42 [some (.ref x0)] [.ref a9, .ref x0] h9) (hN h8) (alc h8 (50, 20) 20) ?_
  intro a9 h9
  refine (s_putfR 45 mc_1 dX1_init_42 rfl mo_1 ff_1_24 rfl (Or.inr ⟨mo_1, mn_1⟩)).trans ?_
  refine fR_c fun h10 => ?_
  refine (s_aload_n 46 mc_1 dX1_init_45 rfl rfl rfl).trans ?_
  refine (s_bipush 48 20 mc_1 dX1_init_46 rfl (by decide)).trans ?_
  refine (s_newI 50 mc_1 dX1_init_48 rfl mq_1 (by decide) rfl (by decide)).trans ?_
  refine letH_i (F := fun a11 h11 => sem (X, K X d) 1 50 [some (.ref x0)] [.ref a11, .ref x0] h11) (hN h10) (alc h10 (50, 20) 20) ?_
  intro a11 h11
  refine (s_putfR 53 mc_1 dX1_init_50 rfl mo_1 ff_1_27 rfl (Or.inr ⟨mo_1, mn_1⟩)).trans ?_
  refine fR_c fun h12 => ?_
  refine (s_aload_n 54 mc_1 dX1_init_53 rfl rfl rfl).trans ?_
  refine (s_bipush 56 20 mc_1 dX1_init_54 rfl (by decide)).trans ?_
  refine (s_newI 58 mc_1 dX1_init_56 rfl mq_1 (by decide) rfl (by decide)).trans ?_
  refine letH_i (F := fun a13 h13 => sem (X, K X d) 1 58 [some (.ref x0)] [.ref a13, .ref x0] h13) (hN h12) (alc h12 (50, 20) 20) ?_
  intro a13 h13
  refine (s_putfR 61 mc_1 dX1_init_58 rfl mo_1 ff_1_30 rfl (Or.inr ⟨mo_1, mn_1⟩)).trans ?_
  refine fR_c fun h14 => ?_
  exact s_vret mc_1 dX1_init_61 mt_1
/-- FiveLands$Law.clear()V -/
theorem k_2 {X : Ctx} {d : Nat} (x0 : Nat) (h : Hp) : K X (d + 1) 2 [.ref x0] h = fI h 1 x0 7 0 fun h1 => fI h1 1 x0 8 0 fun h2 => fI h2 1 x0 9 0 fun h3 => fI h3 1 x0 10 0 fun h4 => fI h4 1 x0 11 0 fun h5 => some (none, h5) := by
  show sem (X, K X d) 2 0 [some (.ref x0)] [] h = _
  refine (s_aload_n 1 mc_2 dX1_clear_0 rfl rfl rfl).trans ?_
  refine (s_iconst 2 0 mc_2 dX1_clear_1 rfl (by decide)).trans ?_
  refine (s_putfI 5 mc_2 dX1_clear_2 rfl mo_2 ff_1_33 rfl (Or.inl rfl)).trans ?_
  refine fI_c fun h1 => ?_
  refine (s_aload_n 6 mc_2 dX1_clear_5 rfl rfl rfl).trans ?_
  refine (s_iconst 7 0 mc_2 dX1_clear_6 rfl (by decide)).trans ?_
  refine (s_putfI 10 mc_2 dX1_clear_7 rfl mo_2 ff_1_37 rfl (Or.inl rfl)).trans ?_
  refine fI_c fun h2 => ?_
  refine (s_aload_n 11 mc_2 dX1_clear_10 rfl rfl rfl).trans ?_
  refine (s_iconst 12 0 mc_2 dX1_clear_11 rfl (by decide)).trans ?_
  refine (s_putfI 15 mc_2 dX1_clear_12 rfl mo_2 ff_1_40 rfl (Or.inl rfl)).trans ?_
  refine fI_c fun h3 => ?_
  refine (s_aload_n 16 mc_2 dX1_clear_15 rfl rfl rfl).trans ?_
  refine (s_iconst 17 0 mc_2 dX1_clear_16 rfl (by decide)).trans ?_
  refine (s_putfI 20 mc_2 dX1_clear_17 rfl mo_2 ff_1_43 rfl (Or.inl rfl)).trans ?_
  refine fI_c fun h4 => ?_
  refine (s_aload_n 21 mc_2 dX1_clear_20 rfl rfl rfl).trans ?_
  refine (s_iconst 22 0 mc_2 dX1_clear_21 rfl (by decide)).trans ?_
  refine (s_putfI 25 mc_2 dX1_clear_22 rfl mo_2 ff_1_46 rfl (Or.inl rfl)).trans ?_
  refine fI_c fun h5 => ?_
  exact s_vret mc_2 dX1_clear_25 mt_2
/-- FiveLands$Law.emit(I)V -/
theorem k_3 {X : Ctx} {d : Nat} (x0 : Nat) (x1 : Int32) (h : Hp) : K X (d + 1) 3 [.ref x0, .int x1] h = gI h 1 x0 7 fun g1 => gR h 1 x0 0 fun g2 => aL X h g2 fun g3 => if g3 ≤ g1 then some (none, h) else gR h 1 x0 0 fun g4 => gI h 1 x0 7 fun g5 => wI h g4 g5 x1 fun h1 => gI h1 1 x0 7 fun g6 => fI h1 1 x0 7 (g6 + 1) fun h2 => some (none, h2) := by
  show sem (X, K X d) 3 0 [some (.ref x0), some (.int x1)] [] h = _
  refine (s_aload_n 1 mc_3 dX1_emit_0 rfl rfl rfl).trans ?_
  refine (s_getfI 4 mc_3 dX1_emit_1 rfl mo_3 fs_1_33 ff_1_33 (Or.inl rfl)).trans ?_
  refine gI_c fun g1 => ?_
  refine (s_aload_n 5 mc_3 dX1_emit_4 rfl rfl rfl).trans ?_
  refine (s_getfR 8 mc_3 dX1_emit_5 rfl mo_3 fs_1_9 ff_1_9 rfl).trans ?_
  refine gR_c fun g2 => ?_
  refine (s_alen 9 mc_3 dX1_emit_8 rfl).trans ?_
  refine aL_c fun g3 => ?_
  refine (s_icmp_ge 32 12 mc_3 dX1_emit_9 rfl rfl).trans ?_
  refine ite_c ?_ ?_
  · skip
    exact s_vret mc_3 dX1_emit_32 mt_3
  · skip
    refine (s_aload_n 13 mc_3 dX1_emit_12 rfl rfl rfl).trans ?_
    refine (s_getfR 16 mc_3 dX1_emit_13 rfl mo_3 fs_1_9 ff_1_9 rfl).trans ?_
    refine gR_c fun g4 => ?_
    refine (s_aload_n 17 mc_3 dX1_emit_16 rfl rfl rfl).trans ?_
    refine (s_getfI 20 mc_3 dX1_emit_17 rfl mo_3 fs_1_33 ff_1_33 (Or.inl rfl)).trans ?_
    refine gI_c fun g5 => ?_
    refine (s_iload_n 21 mc_3 dX1_emit_20 rfl rfl rfl).trans ?_
    refine (s_iastore 22 mc_3 dX1_emit_21 rfl).trans ?_
    refine wI_c fun h1 => ?_
    refine (s_aload_n 23 mc_3 dX1_emit_22 rfl rfl rfl).trans ?_
    refine (s_dup 24 mc_3 dX1_emit_23 rfl rfl).trans ?_
    refine (s_getfI 27 mc_3 dX1_emit_24 rfl mo_3 fs_1_33 ff_1_33 (Or.inl rfl)).trans ?_
    refine gI_c fun g6 => ?_
    refine (s_iconst 28 1 mc_3 dX1_emit_27 rfl (by decide)).trans ?_
    refine (s_iadd 29 mc_3 dX1_emit_28 rfl).trans ?_
    refine (s_putfI 32 mc_3 dX1_emit_29 rfl mo_3 ff_1_33 rfl (Or.inl rfl)).trans ?_
    refine fI_c fun h2 => ?_
    exact s_vret mc_3 dX1_emit_32 mt_3
/-- FiveLands$Law.addRule(III)V -/
theorem k_4 {X : Ctx} {d : Nat} (x0 : Nat) (x1 : Int32) (x2 : Int32) (x3 : Int32) (h : Hp) : K X (d + 1) 4 [.ref x0, .int x1, .int x2, .int x3] h = gI h 1 x0 8 fun g1 => if 20 ≤ g1 then some (none, h) else gR h 1 x0 1 fun g2 => gI h 1 x0 8 fun g3 => wI h g2 g3 x1 fun h1 => gR h1 1 x0 2 fun g4 => gI h1 1 x0 8 fun g5 => wI h1 g4 g5 x2 fun h2 => gR h2 1 x0 3 fun g6 => gI h2 1 x0 8 fun g7 => wI h2 g6 g7 x3 fun h3 => gR h3 1 x0 4 fun g8 => gI h3 1 x0 8 fun g9 => gI h3 1 x0 7 fun g10 => wI h3 g8 g9 g10 fun h4 => gI h4 1 x0 8 fun g11 => fI h4 1 x0 8 (g11 + 1) fun h5 => some (none, h5) := by
  show sem (X, K X d) 4 0 [some (.ref x0), some (.int x1), some (.int x2), some (.int x3)] [] h = _
  refine (s_aload_n 1 mc_4 dX1_addRule_0 rfl rfl rfl).trans ?_
  refine (s_getfI 4 mc_4 dX1_addRule_1 rfl mo_4 fs_1_37 ff_1_37 (Or.inl rfl)).trans ?_
  refine gI_c fun g1 => ?_
  refine (s_bipush 6 20 mc_4 dX1_addRule_4 rfl (by decide)).trans ?_
  refine (s_icmp_ge 62 9 mc_4 dX1_addRule_6 rfl rfl).trans ?_
  refine ite_c ?_ ?_
  · skip
    exact s_vret mc_4 dX1_addRule_62 mt_4
  · skip
    refine (s_aload_n 10 mc_4 dX1_addRule_9 rfl rfl rfl).trans ?_
    refine (s_getfR 13 mc_4 dX1_addRule_10 rfl mo_4 fs_1_15 ff_1_15 rfl).trans ?_
    refine gR_c fun g2 => ?_
    refine (s_aload_n 14 mc_4 dX1_addRule_13 rfl rfl rfl).trans ?_
    refine (s_getfI 17 mc_4 dX1_addRule_14 rfl mo_4 fs_1_37 ff_1_37 (Or.inl rfl)).trans ?_
    refine gI_c fun g3 => ?_
    refine (s_iload_n 18 mc_4 dX1_addRule_17 rfl rfl rfl).trans ?_
    refine (s_iastore 19 mc_4 dX1_addRule_18 rfl).trans ?_
    refine wI_c fun h1 => ?_
    refine (s_aload_n 20 mc_4 dX1_addRule_19 rfl rfl rfl).trans ?_
    refine (s_getfR 23 mc_4 dX1_addRule_20 rfl mo_4 fs_1_18 ff_1_18 rfl).trans ?_
    refine gR_c fun g4 => ?_
    refine (s_aload_n 24 mc_4 dX1_addRule_23 rfl rfl rfl).trans ?_
    refine (s_getfI 27 mc_4 dX1_addRule_24 rfl mo_4 fs_1_37 ff_1_37 (Or.inl rfl)).trans ?_
    refine gI_c fun g5 => ?_
    refine (s_iload_n 28 mc_4 dX1_addRule_27 rfl rfl rfl).trans ?_
    refine (s_iastore 29 mc_4 dX1_addRule_28 rfl).trans ?_
    refine wI_c fun h2 => ?_
    refine (s_aload_n 30 mc_4 dX1_addRule_29 rfl rfl rfl).trans ?_
    refine (s_getfR 33 mc_4 dX1_addRule_30 rfl mo_4 fs_1_21 ff_1_21 rfl).trans ?_
    refine gR_c fun g6 => ?_
    refine (s_aload_n 34 mc_4 dX1_addRule_33 rfl rfl rfl).trans ?_
    refine (s_getfI 37 mc_4 dX1_addRule_34 rfl mo_4 fs_1_37 ff_1_37 (Or.inl rfl)).trans ?_
    refine gI_c fun g7 => ?_
    refine (s_iload_n 38 mc_4 dX1_addRule_37 rfl rfl rfl).trans ?_
    refine (s_iastore 39 mc_4 dX1_addRule_38 rfl).trans ?_
    refine wI_c fun h3 => ?_
    refine (s_aload_n 40 mc_4 dX1_addRule_39 rfl rfl rfl).trans ?_
    refine (s_getfR 43 mc_4 dX1_addRule_40 rfl mo_4 fs_1_24 ff_1_24 rfl).trans ?_
    refine gR_c fun g8 => ?_
    refine (s_aload_n 44 mc_4 dX1_addRule_43 rfl rfl rfl).trans ?_
    refine (s_getfI 47 mc_4 dX1_addRule_44 rfl mo_4 fs_1_37 ff_1_37 (Or.inl rfl)).trans ?_
    refine gI_c fun g9 => ?_
    refine (s_aload_n 48 mc_4 dX1_addRule_47 rfl rfl rfl).trans ?_
    refine (s_getfI 51 mc_4 dX1_addRule_48 rfl mo_4 fs_1_33 ff_1_33 (Or.inl rfl)).trans ?_
    refine gI_c fun g10 => ?_
    refine (s_iastore 52 mc_4 dX1_addRule_51 rfl).trans ?_
    refine wI_c fun h4 => ?_
    refine (s_aload_n 53 mc_4 dX1_addRule_52 rfl rfl rfl).trans ?_
    refine (s_dup 54 mc_4 dX1_addRule_53 rfl rfl).trans ?_
    refine (s_getfI 57 mc_4 dX1_addRule_54 rfl mo_4 fs_1_37 ff_1_37 (Or.inl rfl)).trans ?_
    refine gI_c fun g11 => ?_
    refine (s_iconst 58 1 mc_4 dX1_addRule_57 rfl (by decide)).trans ?_
    refine (s_iadd 59 mc_4 dX1_addRule_58 rfl).trans ?_
    refine (s_putfI 62 mc_4 dX1_addRule_59 rfl mo_4 ff_1_37 rfl (Or.inl rfl)).trans ?_
    refine fI_c fun h5 => ?_
    exact s_vret mc_4 dX1_addRule_62 mt_4
/-- FiveLands$Law.addStep(II)V -/
theorem k_5 {X : Ctx} {d : Nat} (x0 : Nat) (x1 : Int32) (x2 : Int32) (h : Hp) : K X (d + 1) 5 [.ref x0, .int x1, .int x2] h = gI h 1 x0 9 fun g1 => if 20 ≤ g1 then some (none, h) else gR h 1 x0 5 fun g2 => gI h 1 x0 9 fun g3 => wI h g2 g3 x1 fun h1 => gR h1 1 x0 6 fun g4 => gI h1 1 x0 9 fun g5 => wI h1 g4 g5 x2 fun h2 => gI h2 1 x0 9 fun g6 => fI h2 1 x0 9 (g6 + 1) fun h3 => some (none, h3) := by
  show sem (X, K X d) 5 0 [some (.ref x0), some (.int x1), some (.int x2)] [] h = _
  refine (s_aload_n 1 mc_5 dX1_addStep_0 rfl rfl rfl).trans ?_
  refine (s_getfI 4 mc_5 dX1_addStep_1 rfl mo_5 fs_1_40 ff_1_40 (Or.inl rfl)).trans ?_
  refine gI_c fun g1 => ?_
  refine (s_bipush 6 20 mc_5 dX1_addStep_4 rfl (by decide)).trans ?_
  refine (s_icmp_ge 39 9 mc_5 dX1_addStep_6 rfl rfl).trans ?_
  refine ite_c ?_ ?_
  · skip
    exact s_vret mc_5 dX1_addStep_39 mt_5
  · skip
    refine (s_aload_n 10 mc_5 dX1_addStep_9 rfl rfl rfl).trans ?_
    refine (s_getfR 13 mc_5 dX1_addStep_10 rfl mo_5 fs_1_27 ff_1_27 rfl).trans ?_
    refine gR_c fun g2 => ?_
    refine (s_aload_n 14 mc_5 dX1_addStep_13 rfl rfl rfl).trans ?_
    refine (s_getfI 17 mc_5 dX1_addStep_14 rfl mo_5 fs_1_40 ff_1_40 (Or.inl rfl)).trans ?_
    refine gI_c fun g3 => ?_
    refine (s_iload_n 18 mc_5 dX1_addStep_17 rfl rfl rfl).trans ?_
    refine (s_iastore 19 mc_5 dX1_addStep_18 rfl).trans ?_
    refine wI_c fun h1 => ?_
    refine (s_aload_n 20 mc_5 dX1_addStep_19 rfl rfl rfl).trans ?_
    refine (s_getfR 23 mc_5 dX1_addStep_20 rfl mo_5 fs_1_30 ff_1_30 rfl).trans ?_
    refine gR_c fun g4 => ?_
    refine (s_aload_n 24 mc_5 dX1_addStep_23 rfl rfl rfl).trans ?_
    refine (s_getfI 27 mc_5 dX1_addStep_24 rfl mo_5 fs_1_40 ff_1_40 (Or.inl rfl)).trans ?_
    refine gI_c fun g5 => ?_
    refine (s_iload_n 28 mc_5 dX1_addStep_27 rfl rfl rfl).trans ?_
    refine (s_iastore 29 mc_5 dX1_addStep_28 rfl).trans ?_
    refine wI_c fun h2 => ?_
    refine (s_aload_n 30 mc_5 dX1_addStep_29 rfl rfl rfl).trans ?_
    refine (s_dup 31 mc_5 dX1_addStep_30 rfl rfl).trans ?_
    refine (s_getfI 34 mc_5 dX1_addStep_31 rfl mo_5 fs_1_40 ff_1_40 (Or.inl rfl)).trans ?_
    refine gI_c fun g6 => ?_
    refine (s_iconst 35 1 mc_5 dX1_addStep_34 rfl (by decide)).trans ?_
    refine (s_iadd 36 mc_5 dX1_addStep_35 rfl).trans ?_
    refine (s_putfI 39 mc_5 dX1_addStep_36 rfl mo_5 ff_1_40 rfl (Or.inl rfl)).trans ?_
    refine fI_c fun h3 => ?_
    exact s_vret mc_5 dX1_addStep_39 mt_5
/-- FiveLands$Law.saysMine([I[I)Z -/
theorem k_6 {X : Ctx} {d : Nat} (x0 : Nat) (x1 : Nat) (x2 : Nat) (h : Hp) : K X (d + 1) 6 [.ref x0, .ref x1, .ref x2] h = sem (X, K X d) 6 2 [some (.ref x0), some (.ref x1), some (.ref x2), some (.int 0)] [] h := by
  show sem (X, K X d) 6 0 [some (.ref x0), some (.ref x1), some (.ref x2), none] [] h = _
  refine (s_iconst 1 0 mc_6 dX1_saysMine_0 rfl (by decide)).trans ?_
  refine (s_istore_n 2 mc_6 dX1_saysMine_1 rfl rfl (Nat.le_of_ble_eq_true rfl) rfl).trans ?_
  rfl
theorem b_6_2 {X : Ctx} {d : Nat} (x0 : Nat) (x1 : Nat) (x2 : Nat) (x3 : Int32)  (h : Hp) : sem (X, K X d) 6 2 [some (.ref x0), some (.ref x1), some (.ref x2), some (.int x3)] [] h = gI h 1 x0 8 fun g1 => if g1 ≤ x3 then some (some (.int 0), h) else gR h 1 x0 1 fun g2 => aI X h g2 x3 fun g3 => if ¬ g3 = 6 then sem (X, K X d) 6 2 [some (.ref x0), some (.ref x1), some (.ref x2), some (.int (x3 + 1))] [] h else gR h 1 x0 2 fun g4 => aI X h g4 x3 fun g5 => gR h 1 x0 4 fun g6 => aI X h g6 x3 fun g7 => gd (hS h x0 = (2, 0)) (bI (K X d 9 [.ref x0, .int g5, .int g7, .ref x1, .ref x2] h) fun r8 h1 => if ¬ r8 = 1 then sem (X, K X d) 6 2 [some (.ref x0), some (.ref x1), some (.ref x2), some (.int (x3 + 1))] [] h1 else some (some (.int 1), h1)) := by
  refine (s_iload_n 3 mc_6 dX1_saysMine_2 rfl rfl rfl).trans ?_
  refine (s_aload_n 4 mc_6 dX1_saysMine_3 rfl rfl rfl).trans ?_
  refine (s_getfI 7 mc_6 dX1_saysMine_4 rfl mo_6 fs_1_37 ff_1_37 (Or.inl rfl)).trans ?_
  refine gI_c fun g1 => ?_
  refine (s_icmp_ge 51 10 mc_6 dX1_saysMine_7 rfl rfl).trans ?_
  refine ite_c ?_ ?_
  · skip
    refine (s_iconst 52 0 mc_6 dX1_saysMine_51 rfl (by decide)).trans ?_
    exact s_zret0 mc_6 dX1_saysMine_52 mt_6
  · skip
    refine (s_aload_n 11 mc_6 dX1_saysMine_10 rfl rfl rfl).trans ?_
    refine (s_getfR 14 mc_6 dX1_saysMine_11 rfl mo_6 fs_1_15 ff_1_15 rfl).trans ?_
    refine gR_c fun g2 => ?_
    refine (s_iload_n 15 mc_6 dX1_saysMine_14 rfl rfl rfl).trans ?_
    refine (s_iaload 16 mc_6 dX1_saysMine_15 rfl).trans ?_
    refine aI_c fun g3 => ?_
    refine (s_bipush 18 6 mc_6 dX1_saysMine_16 rfl (by decide)).trans ?_
    refine (s_icmp_ne 45 21 mc_6 dX1_saysMine_18 rfl rfl).trans ?_
    refine ite_c ?_ ?_
    · skip
      refine (s_iinc 1 48 mc_6 dX1_saysMine_45 rfl rfl (Nat.le_of_ble_eq_true rfl) (by decide) rfl).trans ?_
      refine (s_goto 2 mc_6 dX1_saysMine_48 rfl).trans ?_
      rfl
    · skip
      refine (s_aload_n 22 mc_6 dX1_saysMine_21 rfl rfl rfl).trans ?_
      refine (s_aload_n 23 mc_6 dX1_saysMine_22 rfl rfl rfl).trans ?_
      refine (s_getfR 26 mc_6 dX1_saysMine_23 rfl mo_6 fs_1_18 ff_1_18 rfl).trans ?_
      refine gR_c fun g4 => ?_
      refine (s_iload_n 27 mc_6 dX1_saysMine_26 rfl rfl rfl).trans ?_
      refine (s_iaload 28 mc_6 dX1_saysMine_27 rfl).trans ?_
      refine aI_c fun g5 => ?_
      refine (s_aload_n 29 mc_6 dX1_saysMine_28 rfl rfl rfl).trans ?_
      refine (s_getfR 32 mc_6 dX1_saysMine_29 rfl mo_6 fs_1_24 ff_1_24 rfl).trans ?_
      refine gR_c fun g6 => ?_
      refine (s_iload_n 33 mc_6 dX1_saysMine_32 rfl rfl rfl).trans ?_
      refine (s_iaload 34 mc_6 dX1_saysMine_33 rfl).trans ?_
      refine aI_c fun g7 => ?_
      refine (s_aload_n 35 mc_6 dX1_saysMine_34 rfl rfl rfl).trans ?_
      refine (s_aload_n 36 mc_6 dX1_saysMine_35 rfl rfl rfl).trans ?_
      refine (s_iviI 39 mc_6 dX1_saysMine_36 rfl mo_6 mm_1_49 (by decide) ms_9 mi_9 mr_9 ma_9 mo_9 (by decide) (Nat.le_of_ble_eq_true rfl) rfl rfl (Nat.le_of_ble_eq_true rfl)).trans ?_
      refine gd_c ?_
      refine bI_c fun r8 h1 => ?_
      refine (s_iconst 40 1 mc_6 dX1_saysMine_39 rfl (by decide)).trans ?_
      refine (s_icmp_ne 45 43 mc_6 dX1_saysMine_40 rfl rfl).trans ?_
      refine ite_c ?_ ?_
      · skip
        refine (s_iinc 1 48 mc_6 dX1_saysMine_45 rfl rfl (Nat.le_of_ble_eq_true rfl) (by decide) rfl).trans ?_
        refine (s_goto 2 mc_6 dX1_saysMine_48 rfl).trans ?_
        rfl
      · skip
        refine (s_iconst 44 1 mc_6 dX1_saysMine_43 rfl (by decide)).trans ?_
        exact s_zret1 mc_6 dX1_saysMine_44 mt_6
/-- FiveLands$Law.part(I[I[I)I -/
theorem k_7 {X : Ctx} {d : Nat} (x0 : Nat) (x1 : Int32) (x2 : Nat) (x3 : Nat) (h : Hp) : K X (d + 1) 7 [.ref x0, .int x1, .ref x2, .ref x3] h = sem (X, K X d) 7 3 [some (.ref x0), some (.int x1), some (.ref x2), some (.ref x3), some (.int 0), none] [] h := by
  show sem (X, K X d) 7 0 [some (.ref x0), some (.int x1), some (.ref x2), some (.ref x3), none, none] [] h = _
  refine (s_iconst 1 0 mc_7 dX1_part_0 rfl (by decide)).trans ?_
  refine (s_istore 3 mc_7 dX1_part_1 rfl (Nat.le_of_ble_eq_true rfl) rfl).trans ?_
  rfl
theorem b_7_3 {X : Ctx} {d : Nat} (x0 : Nat) (x1 : Int32) (x2 : Nat) (x3 : Nat) (x4 : Int32) (v5 : Option Value)  (h : Hp) : sem (X, K X d) 7 3 [some (.ref x0), some (.int x1), some (.ref x2), some (.ref x3), some (.int x4), v5] [] h = gI h 1 x0 8 fun g1 => if g1 ≤ x4 then some (some (.int 0), h) else gR h 1 x0 1 fun g2 => aI X h g2 x4 fun g3 => if ¬ g3 = x1 then sem (X, K X d) 7 3 [some (.ref x0), some (.int x1), some (.ref x2), some (.ref x3), some (.int (x4 + 1)), v5] [] h else gR h 1 x0 3 fun g4 => aI X h g4 x4 fun g5 => gR h 1 x0 4 fun g6 => aI X h g6 x4 fun g7 => if g5 = g7 then sem (X, K X d) 7 63 [some (.ref x0), some (.int x1), some (.ref x2), some (.ref x3), some (.int x4), some (.int g5)] [] h else gR h 1 x0 4 fun g8 => aI X h g8 x4 fun g9 => gd (hS h x0 = (2, 0)) (bI (K X d 9 [.ref x0, .int g5, .int g9, .ref x2, .ref x3] h) fun r10 h1 => if ¬ r10 = 1 then sem (X, K X d) 7 3 [some (.ref x0), some (.int x1), some (.ref x2), some (.ref x3), some (.int (x4 + 1)), some (.int g5)] [] h1 else sem (X, K X d) 7 63 [some (.ref x0), some (.int x1), some (.ref x2), some (.ref x3), some (.int x4), some (.int g5)] [] h1) := by
  refine (s_iload 5 mc_7 dX1_part_3 rfl rfl).trans ?_
  refine (s_aload_n 6 mc_7 dX1_part_5 rfl rfl rfl).trans ?_
  refine (s_getfI 9 mc_7 dX1_part_6 rfl mo_7 fs_1_37 ff_1_37 (Or.inl rfl)).trans ?_
  refine gI_c fun g1 => ?_
  refine (s_icmp_ge 94 12 mc_7 dX1_part_9 rfl rfl).trans ?_
  refine ite_c ?_ ?_
  · skip
    refine (s_iconst 95 0 mc_7 dX1_part_94 rfl (by decide)).trans ?_
    exact s_iret mc_7 dX1_part_95 mt_7
  · skip
    refine (s_aload_n 13 mc_7 dX1_part_12 rfl rfl rfl).trans ?_
    refine (s_getfR 16 mc_7 dX1_part_13 rfl mo_7 fs_1_15 ff_1_15 rfl).trans ?_
    refine gR_c fun g2 => ?_
    refine (s_iload 18 mc_7 dX1_part_16 rfl rfl).trans ?_
    refine (s_iaload 19 mc_7 dX1_part_18 rfl).trans ?_
    refine aI_c fun g3 => ?_
    refine (s_iload_n 20 mc_7 dX1_part_19 rfl rfl rfl).trans ?_
    refine (s_icmp_ne 88 23 mc_7 dX1_part_20 rfl rfl).trans ?_
    refine ite_c ?_ ?_
    · skip
      refine (s_iinc 1 91 mc_7 dX1_part_88 rfl rfl (Nat.le_of_ble_eq_true rfl) (by decide) rfl).trans ?_
      refine (s_goto 3 mc_7 dX1_part_91 rfl).trans ?_
      rfl
    · skip
      refine (s_aload_n 24 mc_7 dX1_part_23 rfl rfl rfl).trans ?_
      refine (s_getfR 27 mc_7 dX1_part_24 rfl mo_7 fs_1_21 ff_1_21 rfl).trans ?_
      refine gR_c fun g4 => ?_
      refine (s_iload 29 mc_7 dX1_part_27 rfl rfl).trans ?_
      refine (s_iaload 30 mc_7 dX1_part_29 rfl).trans ?_
      refine aI_c fun g5 => ?_
      refine (s_istore 32 mc_7 dX1_part_30 rfl (Nat.le_of_ble_eq_true rfl) rfl).trans ?_
      refine (s_iload 34 mc_7 dX1_part_32 rfl rfl).trans ?_
      refine (s_aload_n 35 mc_7 dX1_part_34 rfl rfl rfl).trans ?_
      refine (s_getfR 38 mc_7 dX1_part_35 rfl mo_7 fs_1_24 ff_1_24 rfl).trans ?_
      refine gR_c fun g6 => ?_
      refine (s_iload 40 mc_7 dX1_part_38 rfl rfl).trans ?_
      refine (s_iaload 41 mc_7 dX1_part_40 rfl).trans ?_
      refine aI_c fun g7 => ?_
      refine (s_icmp_eq 63 44 mc_7 dX1_part_41 rfl rfl).trans ?_
      refine ite_c ?_ ?_
      · skip
        rfl
      · skip
        refine (s_aload_n 45 mc_7 dX1_part_44 rfl rfl rfl).trans ?_
        refine (s_iload 47 mc_7 dX1_part_45 rfl rfl).trans ?_
        refine (s_aload_n 48 mc_7 dX1_part_47 rfl rfl rfl).trans ?_
        refine (s_getfR 51 mc_7 dX1_part_48 rfl mo_7 fs_1_24 ff_1_24 rfl).trans ?_
        refine gR_c fun g8 => ?_
        refine (s_iload 53 mc_7 dX1_part_51 rfl rfl).trans ?_
        refine (s_iaload 54 mc_7 dX1_part_53 rfl).trans ?_
        refine aI_c fun g9 => ?_
        refine (s_aload_n 55 mc_7 dX1_part_54 rfl rfl rfl).trans ?_
        refine (s_aload_n 56 mc_7 dX1_part_55 rfl rfl rfl).trans ?_
        refine (s_iviI 59 mc_7 dX1_part_56 rfl mo_7 mm_1_49 (by decide) ms_9 mi_9 mr_9 ma_9 mo_9 (by decide) (Nat.le_of_ble_eq_true rfl) rfl rfl (Nat.le_of_ble_eq_true rfl)).trans ?_
        refine gd_c ?_
        refine bI_c fun r10 h1 => ?_
        refine (s_iconst 60 1 mc_7 dX1_part_59 rfl (by decide)).trans ?_
        refine (s_icmp_ne 88 63 mc_7 dX1_part_60 rfl rfl).trans ?_
        refine ite_c ?_ ?_
        · skip
          refine (s_iinc 1 91 mc_7 dX1_part_88 rfl rfl (Nat.le_of_ble_eq_true rfl) (by decide) rfl).trans ?_
          refine (s_goto 3 mc_7 dX1_part_91 rfl).trans ?_
          rfl
        · skip
          rfl
theorem b_7_63 {X : Ctx} {d : Nat} (x0 : Nat) (v1 : Option Value) (x2 : Nat) (x3 : Nat) (x4 : Int32) (x5 : Int32)  (h : Hp) : sem (X, K X d) 7 63 [some (.ref x0), v1, some (.ref x2), some (.ref x3), some (.int x4), some (.int x5)] [] h = gR h 1 x0 2 fun g1 => aI X h g1 x4 fun g2 => gd (hS h x0 = (2, 0)) (bI (K X d 9 [.ref x0, .int g2, .int x5, .ref x2, .ref x3] h) fun r3 h1 => some (some (.int (if 0 < (if r3 < 100 then r3 else 100) then (if r3 < 100 then r3 else 100) else 0)), h1)) := by
  refine (s_iconst 64 0 mc_7 dX1_part_63 rfl (by decide)).trans ?_
  refine (s_bipush 66 100 mc_7 dX1_part_64 rfl (by decide)).trans ?_
  refine (s_aload_n 67 mc_7 dX1_part_66 rfl rfl rfl).trans ?_
  refine (s_aload_n 68 mc_7 dX1_part_67 rfl rfl rfl).trans ?_
  refine (s_getfR 71 mc_7 dX1_part_68 rfl mo_7 fs_1_18 ff_1_18 rfl).trans ?_
  refine gR_c fun g1 => ?_
  refine (s_iload 73 mc_7 dX1_part_71 rfl rfl).trans ?_
  refine (s_iaload 74 mc_7 dX1_part_73 rfl).trans ?_
  refine aI_c fun g2 => ?_
  refine (s_iload 76 mc_7 dX1_part_74 rfl rfl).trans ?_
  refine (s_aload_n 77 mc_7 dX1_part_76 rfl rfl rfl).trans ?_
  refine (s_aload_n 78 mc_7 dX1_part_77 rfl rfl rfl).trans ?_
  refine (s_iviI 81 mc_7 dX1_part_78 rfl mo_7 mm_1_49 (by decide) ms_9 mi_9 mr_9 ma_9 mo_9 (by decide) (Nat.le_of_ble_eq_true rfl) rfl rfl (Nat.le_of_ble_eq_true rfl)).trans ?_
  refine gd_c ?_
  refine bI_c fun r3 h1 => ?_
  refine (s_mmin 84 mc_7 dX1_part_81 rfl mo_7 mm_1_53 (Nat.le_of_ble_eq_true rfl)).trans ?_
  refine (s_mmax 87 mc_7 dX1_part_84 rfl mo_7 mm_1_59 (Nat.le_of_ble_eq_true rfl)).trans ?_
  exact s_iret mc_7 dX1_part_87 mt_7
/-- FiveLands$Law.bySteps(J)J -/
theorem k_8 {X : Ctx} {d : Nat} (x0 : Nat) (x1 : Int64) (h : Hp) : K X (d + 1) 8 [.ref x0, .long x1] h = gI h 1 x0 10 fun g1 => sem (X, K X d) 8 18 [some (.ref x0), some (.long x1), none, some (.long (if (x1 - (g1 : Int32).toInt64) < 0 then 0 else (x1 - (g1 : Int32).toInt64))), none, some (.long 0), none, some (.int 0), none, none] [] h := by
  show sem (X, K X d) 8 0 [some (.ref x0), some (.long x1), none, none, none, none, none, none, none, none] [] h = _
  refine (s_lconst 1 0 mc_8 dX1_bySteps_0 rfl (by decide)).trans ?_
  refine (s_lload_n 2 mc_8 dX1_bySteps_1 rfl rfl rfl rfl).trans ?_
  refine (s_aload_n 3 mc_8 dX1_bySteps_2 rfl rfl rfl).trans ?_
  refine (s_getfI 6 mc_8 dX1_bySteps_3 rfl mo_8 fs_1_43 ff_1_43 (Or.inl rfl)).trans ?_
  refine gI_c fun g1 => ?_
  refine (s_i2l 7 mc_8 dX1_bySteps_6 rfl).trans ?_
  refine (s_lsub 8 mc_8 dX1_bySteps_7 rfl).trans ?_
  refine (s_mmaxJ 11 mc_8 dX1_bySteps_8 rfl mo_8 mm_1_62 (Nat.le_of_ble_eq_true rfl)).trans ?_
  refine (s_lstore_n 12 mc_8 dX1_bySteps_11 rfl rfl (Nat.le_of_ble_eq_true rfl) rfl).trans ?_
  refine (s_lconst 13 0 mc_8 dX1_bySteps_12 rfl (by decide)).trans ?_
  refine (s_lstore 15 mc_8 dX1_bySteps_13 rfl (Nat.le_of_ble_eq_true rfl) rfl).trans ?_
  refine (s_iconst 16 0 mc_8 dX1_bySteps_15 rfl (by decide)).trans ?_
  refine (s_istore 18 mc_8 dX1_bySteps_16 rfl (Nat.le_of_ble_eq_true rfl) rfl).trans ?_
  rfl
theorem b_8_18 {X : Ctx} {d : Nat} (x0 : Nat) (v1 : Option Value) (v2 : Option Value) (x3 : Int64) (x5 : Int64) (x7 : Int32) (v8 : Option Value) (v9 : Option Value)  (h : Hp) : sem (X, K X d) 8 18 [some (.ref x0), v1, v2, some (.long x3), none, some (.long x5), none, some (.int x7), v8, v9] [] h = gI h 1 x0 9 fun g1 => if g1 ≤ x7 then some (some (.long x5), h) else gI h 1 x0 9 fun g2 => if g2 ≤ (x7 + 1) then sem (X, K X d) 8 56 [some (.ref x0), v1, v2, some (.long x3), none, some (.long x5), none, some (.int x7), v8, v9] [.long x3] h else gR h 1 x0 5 fun g3 => aI X h g3 (x7 + 1) fun g4 => sem (X, K X d) 8 56 [some (.ref x0), v1, v2, some (.long x3), none, some (.long x5), none, some (.int x7), v8, v9] [.long (if (g4 : Int32).toInt64 < x3 then (g4 : Int32).toInt64 else x3)] h := by
  refine (s_iload 20 mc_8 dX1_bySteps_18 rfl rfl).trans ?_
  refine (s_aload_n 21 mc_8 dX1_bySteps_20 rfl rfl rfl).trans ?_
  refine (s_getfI 24 mc_8 dX1_bySteps_21 rfl mo_8 fs_1_40 ff_1_40 (Or.inl rfl)).trans ?_
  refine gI_c fun g1 => ?_
  refine (s_icmp_ge 103 27 mc_8 dX1_bySteps_24 rfl rfl).trans ?_
  refine ite_c ?_ ?_
  · skip
    refine (s_lload 105 mc_8 dX1_bySteps_103 rfl rfl rfl).trans ?_
    exact s_lret mc_8 dX1_bySteps_105 mt_8
  · skip
    refine (s_iload 29 mc_8 dX1_bySteps_27 rfl rfl).trans ?_
    refine (s_iconst 30 1 mc_8 dX1_bySteps_29 rfl (by decide)).trans ?_
    refine (s_iadd 31 mc_8 dX1_bySteps_30 rfl).trans ?_
    refine (s_aload_n 32 mc_8 dX1_bySteps_31 rfl rfl rfl).trans ?_
    refine (s_getfI 35 mc_8 dX1_bySteps_32 rfl mo_8 fs_1_40 ff_1_40 (Or.inl rfl)).trans ?_
    refine gI_c fun g2 => ?_
    refine (s_icmp_ge 55 38 mc_8 dX1_bySteps_35 rfl rfl).trans ?_
    refine ite_c ?_ ?_
    · skip
      refine (s_lload_n 56 mc_8 dX1_bySteps_55 rfl rfl rfl rfl).trans ?_
      rfl
    · skip
      refine (s_lload_n 39 mc_8 dX1_bySteps_38 rfl rfl rfl rfl).trans ?_
      refine (s_aload_n 40 mc_8 dX1_bySteps_39 rfl rfl rfl).trans ?_
      refine (s_getfR 43 mc_8 dX1_bySteps_40 rfl mo_8 fs_1_27 ff_1_27 rfl).trans ?_
      refine gR_c fun g3 => ?_
      refine (s_iload 45 mc_8 dX1_bySteps_43 rfl rfl).trans ?_
      refine (s_iconst 46 1 mc_8 dX1_bySteps_45 rfl (by decide)).trans ?_
      refine (s_iadd 47 mc_8 dX1_bySteps_46 rfl).trans ?_
      refine (s_iaload 48 mc_8 dX1_bySteps_47 rfl).trans ?_
      refine aI_c fun g4 => ?_
      refine (s_i2l 49 mc_8 dX1_bySteps_48 rfl).trans ?_
      refine (s_mminJ 52 mc_8 dX1_bySteps_49 rfl mo_8 mm_1_65 (Nat.le_of_ble_eq_true rfl)).trans ?_
      refine (s_goto 56 mc_8 dX1_bySteps_52 rfl).trans ?_
      rfl
theorem b_8_56 {X : Ctx} {d : Nat} (x0 : Nat) (v1 : Option Value) (v2 : Option Value) (v3 : Option Value) (v4 : Option Value) (x5 : Int64) (x7 : Int32) (v8 : Option Value) (v9 : Option Value) (s0 : Int64) (h : Hp) : sem (X, K X d) 8 56 [some (.ref x0), v1, v2, v3, v4, some (.long x5), none, some (.int x7), v8, v9] [.long s0] h = gR h 1 x0 5 fun g1 => aI X h g1 x7 fun g2 => if (lg_cmp s0 (g2 : Int32).toInt64) ≤ 0 then sem (X, K X d) 8 18 [some (.ref x0), v1, v2, v3, v4, some (.long x5), none, some (.int (x7 + 1)), some (.long s0), none] [] h else gR h 1 x0 5 fun g3 => aI X h g3 x7 fun g4 => gR h 1 x0 6 fun g5 => aI X h g5 x7 fun g6 => sem (X, K X d) 8 18 [some (.ref x0), v1, v2, v3, v4, some (.long (x5 + ((s0 - (g4 : Int32).toInt64) * (g6 : Int32).toInt64))), none, some (.int (x7 + 1)), some (.long s0), none] [] h := by
  refine (s_lstore 58 mc_8 dX1_bySteps_56 rfl (Nat.le_of_ble_eq_true rfl) rfl).trans ?_
  refine (s_lload 60 mc_8 dX1_bySteps_58 rfl rfl rfl).trans ?_
  refine (s_aload_n 61 mc_8 dX1_bySteps_60 rfl rfl rfl).trans ?_
  refine (s_getfR 64 mc_8 dX1_bySteps_61 rfl mo_8 fs_1_27 ff_1_27 rfl).trans ?_
  refine gR_c fun g1 => ?_
  refine (s_iload 66 mc_8 dX1_bySteps_64 rfl rfl).trans ?_
  refine (s_iaload 67 mc_8 dX1_bySteps_66 rfl).trans ?_
  refine aI_c fun g2 => ?_
  refine (s_i2l 68 mc_8 dX1_bySteps_67 rfl).trans ?_
  refine (s_lcmp 69 mc_8 dX1_bySteps_68 rfl).trans ?_
  refine (s_if_le 97 72 mc_8 dX1_bySteps_69 rfl rfl).trans ?_
  refine ite_c ?_ ?_
  · skip
    refine (s_iinc 1 100 mc_8 dX1_bySteps_97 rfl rfl (Nat.le_of_ble_eq_true rfl) (by decide) rfl).trans ?_
    refine (s_goto 18 mc_8 dX1_bySteps_100 rfl).trans ?_
    rfl
  · skip
    refine (s_lload 74 mc_8 dX1_bySteps_72 rfl rfl rfl).trans ?_
    refine (s_lload 76 mc_8 dX1_bySteps_74 rfl rfl rfl).trans ?_
    refine (s_aload_n 77 mc_8 dX1_bySteps_76 rfl rfl rfl).trans ?_
    refine (s_getfR 80 mc_8 dX1_bySteps_77 rfl mo_8 fs_1_27 ff_1_27 rfl).trans ?_
    refine gR_c fun g3 => ?_
    refine (s_iload 82 mc_8 dX1_bySteps_80 rfl rfl).trans ?_
    refine (s_iaload 83 mc_8 dX1_bySteps_82 rfl).trans ?_
    refine aI_c fun g4 => ?_
    refine (s_i2l 84 mc_8 dX1_bySteps_83 rfl).trans ?_
    refine (s_lsub 85 mc_8 dX1_bySteps_84 rfl).trans ?_
    refine (s_aload_n 86 mc_8 dX1_bySteps_85 rfl rfl rfl).trans ?_
    refine (s_getfR 89 mc_8 dX1_bySteps_86 rfl mo_8 fs_1_30 ff_1_30 rfl).trans ?_
    refine gR_c fun g5 => ?_
    refine (s_iload 91 mc_8 dX1_bySteps_89 rfl rfl).trans ?_
    refine (s_iaload 92 mc_8 dX1_bySteps_91 rfl).trans ?_
    refine aI_c fun g6 => ?_
    refine (s_i2l 93 mc_8 dX1_bySteps_92 rfl).trans ?_
    refine (s_lmul 94 mc_8 dX1_bySteps_93 rfl).trans ?_
    refine (s_ladd 95 mc_8 dX1_bySteps_94 rfl).trans ?_
    refine (s_lstore 97 mc_8 dX1_bySteps_95 rfl (Nat.le_of_ble_eq_true rfl) rfl).trans ?_
    refine (s_iinc 1 100 mc_8 dX1_bySteps_97 rfl rfl (Nat.le_of_ble_eq_true rfl) (by decide) rfl).trans ?_
    refine (s_goto 18 mc_8 dX1_bySteps_100 rfl).trans ?_
    rfl
/-- FiveLands$Law.run(II[I[I)I -/
theorem k_9 {X : Ctx} {d : Nat} (x0 : Nat) (x1 : Int32) (x2 : Int32) (x3 : Nat) (x4 : Nat) (h : Hp) : K X (d + 1) 9 [.ref x0, .int x1, .int x2, .ref x3, .ref x4] h = sem (X, K X d) 9 6 [some (.ref x0), some (.int x1), some (.int x2), some (.ref x3), some (.ref x4), some (.int 0), some (.int x1), none] [] h := by
  show sem (X, K X d) 9 0 [some (.ref x0), some (.int x1), some (.int x2), some (.ref x3), some (.ref x4), none, none, none] [] h = _
  refine (s_iconst 1 0 mc_9 dX1_run_0 rfl (by decide)).trans ?_
  refine (s_istore 3 mc_9 dX1_run_1 rfl (Nat.le_of_ble_eq_true rfl) rfl).trans ?_
  refine (s_iload_n 4 mc_9 dX1_run_3 rfl rfl rfl).trans ?_
  refine (s_istore 6 mc_9 dX1_run_4 rfl (Nat.le_of_ble_eq_true rfl) rfl).trans ?_
  rfl
theorem b_9_6 {X : Ctx} {d : Nat} (x0 : Nat) (v1 : Option Value) (x2 : Int32) (x3 : Nat) (x4 : Nat) (x5 : Int32) (x6 : Int32) (v7 : Option Value)  (h : Hp) : sem (X, K X d) 9 6 [some (.ref x0), v1, some (.int x2), some (.ref x3), some (.ref x4), some (.int x5), some (.int x6), v7] [] h = if x2 ≤ x6 then if x5 ≤ 0 then some (some (.int 0), h) else aI X h x4 0 fun g1 => some (some (.int g1), h) else gR h 1 x0 0 fun g2 => aL X h g2 fun g3 => if g3 ≤ x6 then if x5 ≤ 0 then some (some (.int 0), h) else aI X h x4 0 fun g4 => some (some (.int g4), h) else gR h 1 x0 0 fun g5 => aI X h g5 x6 fun g6 => if g6 ≤ (-9) then if ¬ g6 = (-18) then if x5 ≤ 1 then sem (X, K X d) 9 6 [some (.ref x0), v1, some (.int x2), some (.ref x3), some (.ref x4), some (.int x5), some (.int (x6 + 1)), some (.int g6)] [] h else aI X h x4 ((x5 + (-1)) - 1) fun g7 => aI X h x4 (x5 + (-1)) fun g8 => bI (K X d 10 [.int g6, .int g7, .int g8] h) fun r9 h1 => wI h1 x4 ((x5 + (-1)) - 1) r9 fun h2 => sem (X, K X d) 9 6 [some (.ref x0), v1, some (.int x2), some (.ref x3), some (.ref x4), some (.int (x5 + (-1))), some (.int (x6 + 1)), some (.int g6)] [] h2 else if x5 ≤ 0 then sem (X, K X d) 9 6 [some (.ref x0), v1, some (.int x2), some (.ref x3), some (.ref x4), some (.int x5), some (.int (x6 + 1)), some (.int g6)] [] h else aI X h x4 (x5 - 1) fun g10 => wI h x4 (x5 - 1) (1 - g10) fun h3 => sem (X, K X d) 9 6 [some (.ref x0), v1, some (.int x2), some (.ref x3), some (.ref x4), some (.int x5), some (.int (x6 + 1)), some (.int g6)] [] h3 else aL X h x4 fun g11 => if g11 ≤ x5 then sem (X, K X d) 9 6 [some (.ref x0), v1, some (.int x2), some (.ref x3), some (.ref x4), some (.int x5), some (.int (x6 + 1)), some (.int g6)] [] h else if g6 < 0 then aI X h x3 ((-1) - g6) fun g12 => wI h x4 x5 g12 fun h4 => sem (X, K X d) 9 6 [some (.ref x0), v1, some (.int x2), some (.ref x3), some (.ref x4), some (.int (x5 + 1)), some (.int (x6 + 1)), some (.int g6)] [] h4 else wI h x4 x5 g6 fun h5 => sem (X, K X d) 9 6 [some (.ref x0), v1, some (.int x2), some (.ref x3), some (.ref x4), some (.int (x5 + 1)), some (.int (x6 + 1)), some (.int g6)] [] h5 := by
  refine (s_iload 8 mc_9 dX1_run_6 rfl rfl).trans ?_
  refine (s_iload_n 9 mc_9 dX1_run_8 rfl rfl rfl).trans ?_
  refine (s_icmp_ge 143 12 mc_9 dX1_run_9 rfl rfl).trans ?_
  refine ite_c ?_ ?_
  · skip
    refine (s_iload 145 mc_9 dX1_run_143 rfl rfl).trans ?_
    refine (s_if_le 155 148 mc_9 dX1_run_145 rfl rfl).trans ?_
    refine ite_c ?_ ?_
    · skip
      refine (s_iconst 156 0 mc_9 dX1_run_155 rfl (by decide)).trans ?_
      exact s_iret mc_9 dX1_run_156 mt_9
    · skip
      refine (s_aload 150 mc_9 dX1_run_148 rfl rfl).trans ?_
      refine (s_iconst 151 0 mc_9 dX1_run_150 rfl (by decide)).trans ?_
      refine (s_iaload 152 mc_9 dX1_run_151 rfl).trans ?_
      refine aI_c fun g1 => ?_
      refine (s_goto 156 mc_9 dX1_run_152 rfl).trans ?_
      exact s_iret mc_9 dX1_run_156 mt_9
  · skip
    refine (s_iload 14 mc_9 dX1_run_12 rfl rfl).trans ?_
    refine (s_aload_n 15 mc_9 dX1_run_14 rfl rfl rfl).trans ?_
    refine (s_getfR 18 mc_9 dX1_run_15 rfl mo_9 fs_1_9 ff_1_9 rfl).trans ?_
    refine gR_c fun g2 => ?_
    refine (s_alen 19 mc_9 dX1_run_18 rfl).trans ?_
    refine aL_c fun g3 => ?_
    refine (s_icmp_ge 143 22 mc_9 dX1_run_19 rfl rfl).trans ?_
    refine ite_c ?_ ?_
    · skip
      refine (s_iload 145 mc_9 dX1_run_143 rfl rfl).trans ?_
      refine (s_if_le 155 148 mc_9 dX1_run_145 rfl rfl).trans ?_
      refine ite_c ?_ ?_
      · skip
        refine (s_iconst 156 0 mc_9 dX1_run_155 rfl (by decide)).trans ?_
        exact s_iret mc_9 dX1_run_156 mt_9
      · skip
        refine (s_aload 150 mc_9 dX1_run_148 rfl rfl).trans ?_
        refine (s_iconst 151 0 mc_9 dX1_run_150 rfl (by decide)).trans ?_
        refine (s_iaload 152 mc_9 dX1_run_151 rfl).trans ?_
        refine aI_c fun g4 => ?_
        refine (s_goto 156 mc_9 dX1_run_152 rfl).trans ?_
        exact s_iret mc_9 dX1_run_156 mt_9
    · skip
      refine (s_aload_n 23 mc_9 dX1_run_22 rfl rfl rfl).trans ?_
      refine (s_getfR 26 mc_9 dX1_run_23 rfl mo_9 fs_1_9 ff_1_9 rfl).trans ?_
      refine gR_c fun g5 => ?_
      refine (s_iload 28 mc_9 dX1_run_26 rfl rfl).trans ?_
      refine (s_iaload 29 mc_9 dX1_run_28 rfl).trans ?_
      refine aI_c fun g6 => ?_
      refine (s_istore 31 mc_9 dX1_run_29 rfl (Nat.le_of_ble_eq_true rfl) rfl).trans ?_
      refine (s_iload 33 mc_9 dX1_run_31 rfl rfl).trans ?_
      refine (s_bipush 35 (-9) mc_9 dX1_run_33 rfl (by decide)).trans ?_
      refine (s_icmp_le 73 38 mc_9 dX1_run_35 rfl rfl).trans ?_
      refine ite_c ?_ ?_
      · skip
        refine (s_iload 75 mc_9 dX1_run_73 rfl rfl).trans ?_
        refine (s_bipush 77 (-18) mc_9 dX1_run_75 rfl (by decide)).trans ?_
        refine (s_icmp_ne 104 80 mc_9 dX1_run_77 rfl rfl).trans ?_
        refine ite_c ?_ ?_
        · skip
          refine (s_iload 106 mc_9 dX1_run_104 rfl rfl).trans ?_
          refine (s_iconst 107 1 mc_9 dX1_run_106 rfl (by decide)).trans ?_
          refine (s_icmp_le 137 110 mc_9 dX1_run_107 rfl rfl).trans ?_
          refine ite_c ?_ ?_
          · skip
            refine (s_iinc 1 140 mc_9 dX1_run_137 rfl rfl (Nat.le_of_ble_eq_true rfl) (by decide) rfl).trans ?_
            refine (s_goto 6 mc_9 dX1_run_140 rfl).trans ?_
            rfl
          · skip
            refine (s_iinc (-1) 113 mc_9 dX1_run_110 rfl rfl (Nat.le_of_ble_eq_true rfl) (by decide) rfl).trans ?_
            refine (s_aload 115 mc_9 dX1_run_113 rfl rfl).trans ?_
            refine (s_iload 117 mc_9 dX1_run_115 rfl rfl).trans ?_
            refine (s_iconst 118 1 mc_9 dX1_run_117 rfl (by decide)).trans ?_
            refine (s_isub 119 mc_9 dX1_run_118 rfl).trans ?_
            refine (s_iload 121 mc_9 dX1_run_119 rfl rfl).trans ?_
            refine (s_aload 123 mc_9 dX1_run_121 rfl rfl).trans ?_
            refine (s_iload 125 mc_9 dX1_run_123 rfl rfl).trans ?_
            refine (s_iconst 126 1 mc_9 dX1_run_125 rfl (by decide)).trans ?_
            refine (s_isub 127 mc_9 dX1_run_126 rfl).trans ?_
            refine (s_iaload 128 mc_9 dX1_run_127 rfl).trans ?_
            refine aI_c fun g7 => ?_
            refine (s_aload 130 mc_9 dX1_run_128 rfl rfl).trans ?_
            refine (s_iload 132 mc_9 dX1_run_130 rfl rfl).trans ?_
            refine (s_iaload 133 mc_9 dX1_run_132 rfl).trans ?_
            refine aI_c fun g8 => ?_
            refine (s_istI 136 mc_9 dX1_run_133 rfl mo_9 mm_1_67 (by decide) ms_10 mr_10 ma_10 (Nat.le_of_ble_eq_true rfl) rfl rfl (Nat.le_of_ble_eq_true rfl)).trans ?_
            refine bI_c fun r9 h1 => ?_
            refine (s_iastore 137 mc_9 dX1_run_136 rfl).trans ?_
            refine wI_c fun h2 => ?_
            refine (s_iinc 1 140 mc_9 dX1_run_137 rfl rfl (Nat.le_of_ble_eq_true rfl) (by decide) rfl).trans ?_
            refine (s_goto 6 mc_9 dX1_run_140 rfl).trans ?_
            rfl
        · skip
          refine (s_iload 82 mc_9 dX1_run_80 rfl rfl).trans ?_
          refine (s_if_le 137 85 mc_9 dX1_run_82 rfl rfl).trans ?_
          refine ite_c ?_ ?_
          · skip
            refine (s_iinc 1 140 mc_9 dX1_run_137 rfl rfl (Nat.le_of_ble_eq_true rfl) (by decide) rfl).trans ?_
            refine (s_goto 6 mc_9 dX1_run_140 rfl).trans ?_
            rfl
          · skip
            refine (s_aload 87 mc_9 dX1_run_85 rfl rfl).trans ?_
            refine (s_iload 89 mc_9 dX1_run_87 rfl rfl).trans ?_
            refine (s_iconst 90 1 mc_9 dX1_run_89 rfl (by decide)).trans ?_
            refine (s_isub 91 mc_9 dX1_run_90 rfl).trans ?_
            refine (s_iconst 92 1 mc_9 dX1_run_91 rfl (by decide)).trans ?_
            refine (s_aload 94 mc_9 dX1_run_92 rfl rfl).trans ?_
            refine (s_iload 96 mc_9 dX1_run_94 rfl rfl).trans ?_
            refine (s_iconst 97 1 mc_9 dX1_run_96 rfl (by decide)).trans ?_
            refine (s_isub 98 mc_9 dX1_run_97 rfl).trans ?_
            refine (s_iaload 99 mc_9 dX1_run_98 rfl).trans ?_
            refine aI_c fun g10 => ?_
            refine (s_isub 100 mc_9 dX1_run_99 rfl).trans ?_
            refine (s_iastore 101 mc_9 dX1_run_100 rfl).trans ?_
            refine wI_c fun h3 => ?_
            refine (s_goto 137 mc_9 dX1_run_101 rfl).trans ?_
            refine (s_iinc 1 140 mc_9 dX1_run_137 rfl rfl (Nat.le_of_ble_eq_true rfl) (by decide) rfl).trans ?_
            refine (s_goto 6 mc_9 dX1_run_140 rfl).trans ?_
            rfl
      · skip
        refine (s_iload 40 mc_9 dX1_run_38 rfl rfl).trans ?_
        refine (s_aload 42 mc_9 dX1_run_40 rfl rfl).trans ?_
        refine (s_alen 43 mc_9 dX1_run_42 rfl).trans ?_
        refine aL_c fun g11 => ?_
        refine (s_icmp_ge 137 46 mc_9 dX1_run_43 rfl rfl).trans ?_
        refine ite_c ?_ ?_
        · skip
          refine (s_iinc 1 140 mc_9 dX1_run_137 rfl rfl (Nat.le_of_ble_eq_true rfl) (by decide) rfl).trans ?_
          refine (s_goto 6 mc_9 dX1_run_140 rfl).trans ?_
          rfl
        · skip
          refine (s_aload 48 mc_9 dX1_run_46 rfl rfl).trans ?_
          refine (s_iload 50 mc_9 dX1_run_48 rfl rfl).trans ?_
          refine (s_iload 52 mc_9 dX1_run_50 rfl rfl).trans ?_
          refine (s_if_lt 60 55 mc_9 dX1_run_52 rfl rfl).trans ?_
          refine ite_c ?_ ?_
          · skip
            refine (s_aload_n 61 mc_9 dX1_run_60 rfl rfl rfl).trans ?_
            refine (s_iconst 62 (-1) mc_9 dX1_run_61 rfl (by decide)).trans ?_
            refine (s_iload 64 mc_9 dX1_run_62 rfl rfl).trans ?_
            refine (s_isub 65 mc_9 dX1_run_64 rfl).trans ?_
            refine (s_iaload 66 mc_9 dX1_run_65 rfl).trans ?_
            refine aI_c fun g12 => ?_
            refine (s_iastore 67 mc_9 dX1_run_66 rfl).trans ?_
            refine wI_c fun h4 => ?_
            refine (s_iinc 1 70 mc_9 dX1_run_67 rfl rfl (Nat.le_of_ble_eq_true rfl) (by decide) rfl).trans ?_
            refine (s_goto 137 mc_9 dX1_run_70 rfl).trans ?_
            refine (s_iinc 1 140 mc_9 dX1_run_137 rfl rfl (Nat.le_of_ble_eq_true rfl) (by decide) rfl).trans ?_
            refine (s_goto 6 mc_9 dX1_run_140 rfl).trans ?_
            rfl
          · skip
            refine (s_iload 57 mc_9 dX1_run_55 rfl rfl).trans ?_
            refine (s_goto 66 mc_9 dX1_run_57 rfl).trans ?_
            refine (s_iastore 67 mc_9 dX1_run_66 rfl).trans ?_
            refine wI_c fun h5 => ?_
            refine (s_iinc 1 70 mc_9 dX1_run_67 rfl rfl (Nat.le_of_ble_eq_true rfl) (by decide) rfl).trans ?_
            refine (s_goto 137 mc_9 dX1_run_70 rfl).trans ?_
            refine (s_iinc 1 140 mc_9 dX1_run_137 rfl rfl (Nat.le_of_ble_eq_true rfl) (by decide) rfl).trans ?_
            refine (s_goto 6 mc_9 dX1_run_140 rfl).trans ?_
            rfl
/-- FiveLands$Law.join(III)I -/
theorem k_10 {X : Ctx} {d : Nat} (x0 : Int32) (x1 : Int32) (x2 : Int32) (h : Hp) : K X (d + 1) 10 [.int x0, .int x1, .int x2] h = sem (X, K X d) 10 (tsw (-17) [113, 109, 98, 87, 76, 64, 60, 56, 52] 117 x0) [some (.int x0), some (.int x1), some (.int x2)] [] h := by
  show sem (X, K X d) 10 0 [some (.int x0), some (.int x1), some (.int x2)] [] h = _
  refine (s_iload_n 1 mc_10 dX1_join_0 rfl rfl rfl).trans ?_
  refine (s_tsw [113, 109, 98, 87, 76, 64, 60, 56, 52] 117 mc_10 dX1_join_1 rfl rfl rfl).trans ?_
  rfl
theorem b_10_52 {X : Ctx} {d : Nat} (v0 : Option Value) (x1 : Int32) (x2 : Int32)  (h : Hp) : sem (X, K X d) 10 52 [v0, some (.int x1), some (.int x2)] [] h = some (some (.int (x1 + x2)), h) := by
  refine (s_iload_n 53 mc_10 dX1_join_52 rfl rfl rfl).trans ?_
  refine (s_iload_n 54 mc_10 dX1_join_53 rfl rfl rfl).trans ?_
  refine (s_iadd 55 mc_10 dX1_join_54 rfl).trans ?_
  exact s_iret mc_10 dX1_join_55 mt_10
theorem b_10_56 {X : Ctx} {d : Nat} (v0 : Option Value) (x1 : Int32) (x2 : Int32)  (h : Hp) : sem (X, K X d) 10 56 [v0, some (.int x1), some (.int x2)] [] h = some (some (.int (x1 - x2)), h) := by
  refine (s_iload_n 57 mc_10 dX1_join_56 rfl rfl rfl).trans ?_
  refine (s_iload_n 58 mc_10 dX1_join_57 rfl rfl rfl).trans ?_
  refine (s_isub 59 mc_10 dX1_join_58 rfl).trans ?_
  exact s_iret mc_10 dX1_join_59 mt_10
theorem b_10_60 {X : Ctx} {d : Nat} (v0 : Option Value) (x1 : Int32) (x2 : Int32)  (h : Hp) : sem (X, K X d) 10 60 [v0, some (.int x1), some (.int x2)] [] h = some (some (.int (x1 * x2)), h) := by
  refine (s_iload_n 61 mc_10 dX1_join_60 rfl rfl rfl).trans ?_
  refine (s_iload_n 62 mc_10 dX1_join_61 rfl rfl rfl).trans ?_
  refine (s_imul 63 mc_10 dX1_join_62 rfl).trans ?_
  exact s_iret mc_10 dX1_join_63 mt_10
theorem b_10_64 {X : Ctx} {d : Nat} (v0 : Option Value) (x1 : Int32) (x2 : Int32)  (h : Hp) : sem (X, K X d) 10 64 [v0, some (.int x1), some (.int x2)] [] h = if ¬ x2 = 0 then gd (¬ x2 = 0) (some (some (.int (x1 / x2)), h)) else some (some (.int 0), h) := by
  refine (s_iload_n 65 mc_10 dX1_join_64 rfl rfl rfl).trans ?_
  refine (s_if_ne 72 68 mc_10 dX1_join_65 rfl rfl).trans ?_
  refine ite_c ?_ ?_
  · skip
    refine (s_iload_n 73 mc_10 dX1_join_72 rfl rfl rfl).trans ?_
    refine (s_iload_n 74 mc_10 dX1_join_73 rfl rfl rfl).trans ?_
    refine (s_idiv 75 mc_10 dX1_join_74 rfl).trans ?_
    refine gd_c ?_
    exact s_iret mc_10 dX1_join_75 mt_10
  · skip
    refine (s_iconst 69 0 mc_10 dX1_join_68 rfl (by decide)).trans ?_
    refine (s_goto 75 mc_10 dX1_join_69 rfl).trans ?_
    exact s_iret mc_10 dX1_join_75 mt_10
theorem b_10_76 {X : Ctx} {d : Nat} (v0 : Option Value) (x1 : Int32) (x2 : Int32)  (h : Hp) : sem (X, K X d) 10 76 [v0, some (.int x1), some (.int x2)] [] h = if x2 ≤ x1 then some (some (.int 0), h) else some (some (.int 1), h) := by
  refine (s_iload_n 77 mc_10 dX1_join_76 rfl rfl rfl).trans ?_
  refine (s_iload_n 78 mc_10 dX1_join_77 rfl rfl rfl).trans ?_
  refine (s_icmp_ge 85 81 mc_10 dX1_join_78 rfl rfl).trans ?_
  refine ite_c ?_ ?_
  · skip
    refine (s_iconst 86 0 mc_10 dX1_join_85 rfl (by decide)).trans ?_
    exact s_iret mc_10 dX1_join_86 mt_10
  · skip
    refine (s_iconst 82 1 mc_10 dX1_join_81 rfl (by decide)).trans ?_
    refine (s_goto 86 mc_10 dX1_join_82 rfl).trans ?_
    exact s_iret mc_10 dX1_join_86 mt_10
theorem b_10_87 {X : Ctx} {d : Nat} (v0 : Option Value) (x1 : Int32) (x2 : Int32)  (h : Hp) : sem (X, K X d) 10 87 [v0, some (.int x1), some (.int x2)] [] h = if ¬ x1 = x2 then some (some (.int 0), h) else some (some (.int 1), h) := by
  refine (s_iload_n 88 mc_10 dX1_join_87 rfl rfl rfl).trans ?_
  refine (s_iload_n 89 mc_10 dX1_join_88 rfl rfl rfl).trans ?_
  refine (s_icmp_ne 96 92 mc_10 dX1_join_89 rfl rfl).trans ?_
  refine ite_c ?_ ?_
  · skip
    refine (s_iconst 97 0 mc_10 dX1_join_96 rfl (by decide)).trans ?_
    exact s_iret mc_10 dX1_join_97 mt_10
  · skip
    refine (s_iconst 93 1 mc_10 dX1_join_92 rfl (by decide)).trans ?_
    refine (s_goto 97 mc_10 dX1_join_93 rfl).trans ?_
    exact s_iret mc_10 dX1_join_97 mt_10
theorem b_10_98 {X : Ctx} {d : Nat} (v0 : Option Value) (x1 : Int32) (x2 : Int32)  (h : Hp) : sem (X, K X d) 10 98 [v0, some (.int x1), some (.int x2)] [] h = if x1 ≤ x2 then some (some (.int 0), h) else some (some (.int 1), h) := by
  refine (s_iload_n 99 mc_10 dX1_join_98 rfl rfl rfl).trans ?_
  refine (s_iload_n 100 mc_10 dX1_join_99 rfl rfl rfl).trans ?_
  refine (s_icmp_le 107 103 mc_10 dX1_join_100 rfl rfl).trans ?_
  refine ite_c ?_ ?_
  · skip
    refine (s_iconst 108 0 mc_10 dX1_join_107 rfl (by decide)).trans ?_
    exact s_iret mc_10 dX1_join_108 mt_10
  · skip
    refine (s_iconst 104 1 mc_10 dX1_join_103 rfl (by decide)).trans ?_
    refine (s_goto 108 mc_10 dX1_join_104 rfl).trans ?_
    exact s_iret mc_10 dX1_join_108 mt_10
theorem b_10_109 {X : Ctx} {d : Nat} (v0 : Option Value) (x1 : Int32) (x2 : Int32)  (h : Hp) : sem (X, K X d) 10 109 [v0, some (.int x1), some (.int x2)] [] h = some (some (.int (x1 &&& x2)), h) := by
  refine (s_iload_n 110 mc_10 dX1_join_109 rfl rfl rfl).trans ?_
  refine (s_iload_n 111 mc_10 dX1_join_110 rfl rfl rfl).trans ?_
  refine (s_iand 112 mc_10 dX1_join_111 rfl).trans ?_
  exact s_iret mc_10 dX1_join_112 mt_10
theorem b_10_113 {X : Ctx} {d : Nat} (v0 : Option Value) (x1 : Int32) (x2 : Int32)  (h : Hp) : sem (X, K X d) 10 113 [v0, some (.int x1), some (.int x2)] [] h = some (some (.int (x1 ||| x2)), h) := by
  refine (s_iload_n 114 mc_10 dX1_join_113 rfl rfl rfl).trans ?_
  refine (s_iload_n 115 mc_10 dX1_join_114 rfl rfl rfl).trans ?_
  refine (s_ior 116 mc_10 dX1_join_115 rfl).trans ?_
  exact s_iret mc_10 dX1_join_116 mt_10
theorem b_10_117 {X : Ctx} {d : Nat} (v0 : Option Value) (v1 : Option Value) (v2 : Option Value)  (h : Hp) : sem (X, K X d) 10 117 [v0, v1, v2] [] h = some (some (.int 0), h) := by
  refine (s_iconst 118 0 mc_10 dX1_join_117 rfl (by decide)).trans ?_
  exact s_iret mc_10 dX1_join_118 mt_10
/-- FiveLands$Pact.<init>()V -/
theorem k_29 {X : Ctx} {d : Nat} (x0 : Nat) (h : Hp) : K X (d + 1) 29 [.ref x0] h = letH (hN h) (alc h (50, 20) 20) fun a1 h1 => fR h1 3 x0 0 a1 fun h2 => letH (hN h2) (alc h2 (50, 6) 6) fun a3 h3 => fR h3 3 x0 1 a3 fun h4 => gd (hS h4 x0 = (4, 0)) (bV (K X d 30 [.ref x0] h4) fun h5 => some (none, h5)) := by
  show sem (X, K X d) 29 0 [some (.ref x0)] [] h = _
  refine (s_aload_n 1 mc_29 dX3_init_0 rfl rfl rfl).trans ?_
  refine (s_obj 4 mc_29 dX3_init_1 rfl mo_29 mm_3_3 mq_29 (Nat.le_of_ble_eq_true rfl)).trans ?_
  refine (s_aload_n 5 mc_29 dX3_init_4 rfl rfl rfl).trans ?_
  refine (s_bipush 7 20 mc_29 dX3_init_5 rfl (by decide)).trans ?_
  refine (s_newI 9 mc_29 dX3_init_7 rfl mq_29 (by decide) rfl (by decide)).trans ?_
  refine letH_i (F := fun a1 h1 => sem (X, K X d) 29 9 [some (.ref x0)] [.ref a1, .ref x0] h1) (hN h) (alc h (50, 20) 20) ?_
  intro a1 h1
  refine (s_putfR 12 mc_29 dX3_init_9 rfl mo_29 ff_3_9 rfl (Or.inr ⟨mo_29, mn_29⟩)).trans ?_
  refine fR_c fun h2 => ?_
  refine (s_aload_n 13 mc_29 dX3_init_12 rfl rfl rfl).trans ?_
  refine (s_bipush 15 6 mc_29 dX3_init_13 rfl (by decide)).trans ?_
  refine (s_newI 17 mc_29 dX3_init_15 rfl mq_29 (by decide) rfl (by decide)).trans ?_
  refine letH_i (F := fun a3 h3 => sem (X, K X d) 29 17 [some (.ref x0)] [.ref a3, .ref x0] h3) (hN h2) (alc h2 (50, 6) 6) ?_
  intro a3 h3
  refine (s_putfR 20 mc_29 dX3_init_17 rfl mo_29 ff_3_15 rfl (Or.inr ⟨mo_29, mn_29⟩)).trans ?_
  refine fR_c fun h4 => ?_
  refine (s_aload_n 21 mc_29 dX3_init_20 rfl rfl rfl).trans ?_
  refine (s_iviV 24 mc_29 dX3_init_21 rfl mo_29 mm_3_18 (by decide) ms_30 mi_30 mr_30 ma_30 mo_30 (by decide) (Nat.le_of_ble_eq_true rfl) rfl rfl (Nat.le_of_ble_eq_true rfl)).trans ?_
  refine gd_c ?_
  refine bV_c fun h5 => ?_
  exact s_vret mc_29 dX3_init_24 mt_29
/-- FiveLands$Pact.clear()V -/
theorem k_30 {X : Ctx} {d : Nat} (x0 : Nat) (h : Hp) : K X (d + 1) 30 [.ref x0] h = fI h 3 x0 2 0 fun h1 => fI h1 3 x0 3 0 fun h2 => fI h2 3 x0 4 0 fun h3 => fI h3 3 x0 5 0 fun h4 => fZ h4 3 x0 6 0 fun h5 => sem (X, K X d) 30 27 [some (.ref x0), some (.int 0)] [] h5 := by
  show sem (X, K X d) 30 0 [some (.ref x0), none] [] h = _
  refine (s_aload_n 1 mc_30 dX3_clear_0 rfl rfl rfl).trans ?_
  refine (s_iconst 2 0 mc_30 dX3_clear_1 rfl (by decide)).trans ?_
  refine (s_putfI 5 mc_30 dX3_clear_2 rfl mo_30 ff_3_21 rfl (Or.inl rfl)).trans ?_
  refine fI_c fun h1 => ?_
  refine (s_aload_n 6 mc_30 dX3_clear_5 rfl rfl rfl).trans ?_
  refine (s_iconst 7 0 mc_30 dX3_clear_6 rfl (by decide)).trans ?_
  refine (s_putfI 10 mc_30 dX3_clear_7 rfl mo_30 ff_3_25 rfl (Or.inl rfl)).trans ?_
  refine fI_c fun h2 => ?_
  refine (s_aload_n 11 mc_30 dX3_clear_10 rfl rfl rfl).trans ?_
  refine (s_iconst 12 0 mc_30 dX3_clear_11 rfl (by decide)).trans ?_
  refine (s_putfI 15 mc_30 dX3_clear_12 rfl mo_30 ff_3_28 rfl (Or.inl rfl)).trans ?_
  refine fI_c fun h3 => ?_
  refine (s_aload_n 16 mc_30 dX3_clear_15 rfl rfl rfl).trans ?_
  refine (s_iconst 17 0 mc_30 dX3_clear_16 rfl (by decide)).trans ?_
  refine (s_putfI 20 mc_30 dX3_clear_17 rfl mo_30 ff_3_31 rfl (Or.inl rfl)).trans ?_
  refine fI_c fun h4 => ?_
  refine (s_aload_n 21 mc_30 dX3_clear_20 rfl rfl rfl).trans ?_
  refine (s_iconst 22 0 mc_30 dX3_clear_21 rfl (by decide)).trans ?_
  refine (s_putfZ 25 mc_30 dX3_clear_22 rfl mo_30 ff_3_34 rfl (Or.inl rfl)).trans ?_
  refine fZ_c fun h5 => ?_
  refine (s_iconst 26 0 mc_30 dX3_clear_25 rfl (by decide)).trans ?_
  refine (s_istore_n 27 mc_30 dX3_clear_26 rfl rfl (Nat.le_of_ble_eq_true rfl) rfl).trans ?_
  rfl
theorem b_30_27 {X : Ctx} {d : Nat} (x0 : Nat) (x1 : Int32)  (h : Hp) : sem (X, K X d) 30 27 [some (.ref x0), some (.int x1)] [] h = if 6 ≤ x1 then some (none, h) else gR h 3 x0 1 fun g1 => wI h g1 x1 100 fun h1 => sem (X, K X d) 30 27 [some (.ref x0), some (.int (x1 + 1))] [] h1 := by
  refine (s_iload_n 28 mc_30 dX3_clear_27 rfl rfl rfl).trans ?_
  refine (s_bipush 30 6 mc_30 dX3_clear_28 rfl (by decide)).trans ?_
  refine (s_icmp_ge 47 33 mc_30 dX3_clear_30 rfl rfl).trans ?_
  refine ite_c ?_ ?_
  · skip
    exact s_vret mc_30 dX3_clear_47 mt_30
  · skip
    refine (s_aload_n 34 mc_30 dX3_clear_33 rfl rfl rfl).trans ?_
    refine (s_getfR 37 mc_30 dX3_clear_34 rfl mo_30 fs_3_15 ff_3_15 rfl).trans ?_
    refine gR_c fun g1 => ?_
    refine (s_iload_n 38 mc_30 dX3_clear_37 rfl rfl rfl).trans ?_
    refine (s_bipush 40 100 mc_30 dX3_clear_38 rfl (by decide)).trans ?_
    refine (s_iastore 41 mc_30 dX3_clear_40 rfl).trans ?_
    refine wI_c fun h1 => ?_
    refine (s_iinc 1 44 mc_30 dX3_clear_41 rfl rfl (Nat.le_of_ble_eq_true rfl) (by decide) rfl).trans ?_
    refine (s_goto 27 mc_30 dX3_clear_44 rfl).trans ?_
    rfl
/-- FiveLands$Pact.copyTerms(LFiveLands$Pact;)V -/
theorem k_31 {X : Ctx} {d : Nat} (x0 : Nat) (x1 : Nat) (h : Hp) : K X (d + 1) 31 [.ref x0, .ref x1] h = gI h 3 x1 3 fun g1 => fI h 3 x0 3 g1 fun h1 => gI h1 3 x1 5 fun g2 => fI h1 3 x0 5 g2 fun h2 => gI h2 3 x1 6 fun g3 => fZ h2 3 x0 6 g3 fun h3 => gR h3 3 x1 1 fun g4 => gR h3 3 x0 1 fun g5 => acp h3 g4 0 g5 0 6 (Nat.le_of_ble_eq_true rfl : (([] : List Value).map Value.category).sum ≤ 8) fun h4 => some (none, h4) := by
  show sem (X, K X d) 31 0 [some (.ref x0), some (.ref x1)] [] h = _
  refine (s_aload_n 1 mc_31 dX3_copyTerms_0 rfl rfl rfl).trans ?_
  refine (s_aload_n 2 mc_31 dX3_copyTerms_1 rfl rfl rfl).trans ?_
  refine (s_getfI 5 mc_31 dX3_copyTerms_2 rfl mo_31 fs_3_25 ff_3_25 (Or.inl rfl)).trans ?_
  refine gI_c fun g1 => ?_
  refine (s_putfI 8 mc_31 dX3_copyTerms_5 rfl mo_31 ff_3_25 rfl (Or.inl rfl)).trans ?_
  refine fI_c fun h1 => ?_
  refine (s_aload_n 9 mc_31 dX3_copyTerms_8 rfl rfl rfl).trans ?_
  refine (s_aload_n 10 mc_31 dX3_copyTerms_9 rfl rfl rfl).trans ?_
  refine (s_getfI 13 mc_31 dX3_copyTerms_10 rfl mo_31 fs_3_31 ff_3_31 (Or.inl rfl)).trans ?_
  refine gI_c fun g2 => ?_
  refine (s_putfI 16 mc_31 dX3_copyTerms_13 rfl mo_31 ff_3_31 rfl (Or.inl rfl)).trans ?_
  refine fI_c fun h2 => ?_
  refine (s_aload_n 17 mc_31 dX3_copyTerms_16 rfl rfl rfl).trans ?_
  refine (s_aload_n 18 mc_31 dX3_copyTerms_17 rfl rfl rfl).trans ?_
  refine (s_getfI 21 mc_31 dX3_copyTerms_18 rfl mo_31 fs_3_34 ff_3_34 (Or.inr rfl)).trans ?_
  refine gI_c fun g3 => ?_
  refine (s_putfZ 24 mc_31 dX3_copyTerms_21 rfl mo_31 ff_3_34 rfl (Or.inl rfl)).trans ?_
  refine fZ_c fun h3 => ?_
  refine (s_aload_n 25 mc_31 dX3_copyTerms_24 rfl rfl rfl).trans ?_
  refine (s_getfR 28 mc_31 dX3_copyTerms_25 rfl mo_31 fs_3_15 ff_3_15 rfl).trans ?_
  refine gR_c fun g4 => ?_
  refine (s_iconst 29 0 mc_31 dX3_copyTerms_28 rfl (by decide)).trans ?_
  refine (s_aload_n 30 mc_31 dX3_copyTerms_29 rfl rfl rfl).trans ?_
  refine (s_getfR 33 mc_31 dX3_copyTerms_30 rfl mo_31 fs_3_15 ff_3_15 rfl).trans ?_
  refine gR_c fun g5 => ?_
  refine (s_iconst 34 0 mc_31 dX3_copyTerms_33 rfl (by decide)).trans ?_
  refine (s_bipush 36 6 mc_31 dX3_copyTerms_34 rfl (by decide)).trans ?_
  refine (s_cpyI 39 mc_31 dX3_copyTerms_36 rfl mo_31 mm_3_38).trans ?_
  refine acp_i (F := fun h4 => sem (X, K X d) 31 39 [some (.ref x0), some (.ref x1)] [] h4) ?_
  intro h4
  exact s_vret mc_31 dX3_copyTerms_39 mt_31
/-- FiveLands$Pact.addTest(I)V -/
theorem k_32 {X : Ctx} {d : Nat} (x0 : Nat) (x1 : Int32) (h : Hp) : K X (d + 1) 32 [.ref x0, .int x1] h = gI h 3 x0 2 fun g1 => if 20 ≤ g1 then some (none, h) else gR h 3 x0 0 fun g2 => gI h 3 x0 2 fun g3 => wI h g2 g3 x1 fun h1 => gI h1 3 x0 2 fun g4 => fI h1 3 x0 2 (g4 + 1) fun h2 => some (none, h2) := by
  show sem (X, K X d) 32 0 [some (.ref x0), some (.int x1)] [] h = _
  refine (s_aload_n 1 mc_32 dX3_addTest_0 rfl rfl rfl).trans ?_
  refine (s_getfI 4 mc_32 dX3_addTest_1 rfl mo_32 fs_3_21 ff_3_21 (Or.inl rfl)).trans ?_
  refine gI_c fun g1 => ?_
  refine (s_bipush 6 20 mc_32 dX3_addTest_4 rfl (by decide)).trans ?_
  refine (s_icmp_ge 29 9 mc_32 dX3_addTest_6 rfl rfl).trans ?_
  refine ite_c ?_ ?_
  · skip
    exact s_vret mc_32 dX3_addTest_29 mt_32
  · skip
    refine (s_aload_n 10 mc_32 dX3_addTest_9 rfl rfl rfl).trans ?_
    refine (s_getfR 13 mc_32 dX3_addTest_10 rfl mo_32 fs_3_9 ff_3_9 rfl).trans ?_
    refine gR_c fun g2 => ?_
    refine (s_aload_n 14 mc_32 dX3_addTest_13 rfl rfl rfl).trans ?_
    refine (s_getfI 17 mc_32 dX3_addTest_14 rfl mo_32 fs_3_21 ff_3_21 (Or.inl rfl)).trans ?_
    refine gI_c fun g3 => ?_
    refine (s_iload_n 18 mc_32 dX3_addTest_17 rfl rfl rfl).trans ?_
    refine (s_iastore 19 mc_32 dX3_addTest_18 rfl).trans ?_
    refine wI_c fun h1 => ?_
    refine (s_aload_n 20 mc_32 dX3_addTest_19 rfl rfl rfl).trans ?_
    refine (s_dup 21 mc_32 dX3_addTest_20 rfl rfl).trans ?_
    refine (s_getfI 24 mc_32 dX3_addTest_21 rfl mo_32 fs_3_21 ff_3_21 (Or.inl rfl)).trans ?_
    refine gI_c fun g4 => ?_
    refine (s_iconst 25 1 mc_32 dX3_addTest_24 rfl (by decide)).trans ?_
    refine (s_iadd 26 mc_32 dX3_addTest_25 rfl).trans ?_
    refine (s_putfI 29 mc_32 dX3_addTest_26 rfl mo_32 ff_3_21 rfl (Or.inl rfl)).trans ?_
    refine fI_c fun h2 => ?_
    exact s_vret mc_32 dX3_addTest_29 mt_32
/-- FiveLands$Pact.tell(II)V -/
theorem k_33 {X : Ctx} {d : Nat} (x0 : Nat) (x1 : Int32) (x2 : Int32) (h : Hp) : K X (d + 1) 33 [.ref x0, .int x1, .int x2] h = if ¬ x1 = 0 then if ¬ x1 = 1 then if ¬ x1 = 2 then if ¬ x1 = 3 then fI h 3 x0 5 2 fun h1 => some (none, h1) else fI h 3 x0 5 1 fun h2 => some (none, h2) else gR h 3 x0 1 fun g1 => wI h g1 x2 0 fun h3 => some (none, h3) else gI h 3 x0 3 fun g2 => fI h 3 x0 3 (g2 ||| (1 <<< (x2 &&& 31))) fun h4 => some (none, h4) else fZ h 3 x0 6 1 fun h5 => some (none, h5) := by
  show sem (X, K X d) 33 0 [some (.ref x0), some (.int x1), some (.int x2)] [] h = _
  refine (s_iload_n 1 mc_33 dX3_tell_0 rfl rfl rfl).trans ?_
  refine (s_if_ne 12 4 mc_33 dX3_tell_1 rfl rfl).trans ?_
  refine ite_c ?_ ?_
  · skip
    refine (s_iload_n 13 mc_33 dX3_tell_12 rfl rfl rfl).trans ?_
    refine (s_iconst 14 1 mc_33 dX3_tell_13 rfl (by decide)).trans ?_
    refine (s_icmp_ne 32 17 mc_33 dX3_tell_14 rfl rfl).trans ?_
    refine ite_c ?_ ?_
    · skip
      refine (s_iload_n 33 mc_33 dX3_tell_32 rfl rfl rfl).trans ?_
      refine (s_iconst 34 2 mc_33 dX3_tell_33 rfl (by decide)).trans ?_
      refine (s_icmp_ne 47 37 mc_33 dX3_tell_34 rfl rfl).trans ?_
      refine ite_c ?_ ?_
      · skip
        refine (s_aload_n 48 mc_33 dX3_tell_47 rfl rfl rfl).trans ?_
        refine (s_iload_n 49 mc_33 dX3_tell_48 rfl rfl rfl).trans ?_
        refine (s_iconst 50 3 mc_33 dX3_tell_49 rfl (by decide)).trans ?_
        refine (s_icmp_ne 57 53 mc_33 dX3_tell_50 rfl rfl).trans ?_
        refine ite_c ?_ ?_
        · skip
          refine (s_iconst 58 2 mc_33 dX3_tell_57 rfl (by decide)).trans ?_
          refine (s_putfI 61 mc_33 dX3_tell_58 rfl mo_33 ff_3_31 rfl (Or.inl rfl)).trans ?_
          refine fI_c fun h1 => ?_
          exact s_vret mc_33 dX3_tell_61 mt_33
        · skip
          refine (s_iconst 54 1 mc_33 dX3_tell_53 rfl (by decide)).trans ?_
          refine (s_goto 58 mc_33 dX3_tell_54 rfl).trans ?_
          refine (s_putfI 61 mc_33 dX3_tell_58 rfl mo_33 ff_3_31 rfl (Or.inl rfl)).trans ?_
          refine fI_c fun h2 => ?_
          exact s_vret mc_33 dX3_tell_61 mt_33
      · skip
        refine (s_aload_n 38 mc_33 dX3_tell_37 rfl rfl rfl).trans ?_
        refine (s_getfR 41 mc_33 dX3_tell_38 rfl mo_33 fs_3_15 ff_3_15 rfl).trans ?_
        refine gR_c fun g1 => ?_
        refine (s_iload_n 42 mc_33 dX3_tell_41 rfl rfl rfl).trans ?_
        refine (s_iconst 43 0 mc_33 dX3_tell_42 rfl (by decide)).trans ?_
        refine (s_iastore 44 mc_33 dX3_tell_43 rfl).trans ?_
        refine wI_c fun h3 => ?_
        refine (s_goto 61 mc_33 dX3_tell_44 rfl).trans ?_
        exact s_vret mc_33 dX3_tell_61 mt_33
    · skip
      refine (s_aload_n 18 mc_33 dX3_tell_17 rfl rfl rfl).trans ?_
      refine (s_dup 19 mc_33 dX3_tell_18 rfl rfl).trans ?_
      refine (s_getfI 22 mc_33 dX3_tell_19 rfl mo_33 fs_3_25 ff_3_25 (Or.inl rfl)).trans ?_
      refine gI_c fun g2 => ?_
      refine (s_iconst 23 1 mc_33 dX3_tell_22 rfl (by decide)).trans ?_
      refine (s_iload_n 24 mc_33 dX3_tell_23 rfl rfl rfl).trans ?_
      refine (s_ishl 25 mc_33 dX3_tell_24 rfl).trans ?_
      refine (s_ior 26 mc_33 dX3_tell_25 rfl).trans ?_
      refine (s_putfI 29 mc_33 dX3_tell_26 rfl mo_33 ff_3_25 rfl (Or.inl rfl)).trans ?_
      refine fI_c fun h4 => ?_
      refine (s_goto 61 mc_33 dX3_tell_29 rfl).trans ?_
      exact s_vret mc_33 dX3_tell_61 mt_33
  · skip
    refine (s_aload_n 5 mc_33 dX3_tell_4 rfl rfl rfl).trans ?_
    refine (s_iconst 6 1 mc_33 dX3_tell_5 rfl (by decide)).trans ?_
    refine (s_putfZ 9 mc_33 dX3_tell_6 rfl mo_33 ff_3_34 rfl (Or.inl rfl)).trans ?_
    refine fZ_c fun h5 => ?_
    refine (s_goto 61 mc_33 dX3_tell_9 rfl).trans ?_
    exact s_vret mc_33 dX3_tell_61 mt_33
/-- FiveLands$Pact.limit(I)I -/
theorem k_34 {X : Ctx} {d : Nat} (x0 : Nat) (x1 : Int32) (h : Hp) : K X (d + 1) 34 [.ref x0, .int x1] h = gI h 3 x0 3 fun g1 => bI (K X d 140 [.long (g1 : Int32).toInt64, .int x1] h) fun r2 h1 => if r2 = 0 then gR h1 3 x0 1 fun g3 => aI X h1 g3 x1 fun g4 => some (some (.int g4), h1) else some (some (.int 0), h1) := by
  show sem (X, K X d) 34 0 [some (.ref x0), some (.int x1)] [] h = _
  refine (s_aload_n 1 mc_34 dX3_limit_0 rfl rfl rfl).trans ?_
  refine (s_getfI 4 mc_34 dX3_limit_1 rfl mo_34 fs_3_25 ff_3_25 (Or.inl rfl)).trans ?_
  refine gI_c fun g1 => ?_
  refine (s_i2l 5 mc_34 dX3_limit_4 rfl).trans ?_
  refine (s_iload_n 6 mc_34 dX3_limit_5 rfl rfl rfl).trans ?_
  refine (s_istI 9 mc_34 dX3_limit_6 rfl mo_34 mm_3_44 (by decide) ms_140 mr_140 ma_140 (Nat.le_of_ble_eq_true rfl) rfl rfl (Nat.le_of_ble_eq_true rfl)).trans ?_
  refine bI_c fun r2 h1 => ?_
  refine (s_if_eq 16 12 mc_34 dX3_limit_9 rfl rfl).trans ?_
  refine ite_c ?_ ?_
  · skip
    refine (s_aload_n 17 mc_34 dX3_limit_16 rfl rfl rfl).trans ?_
    refine (s_getfR 20 mc_34 dX3_limit_17 rfl mo_34 fs_3_15 ff_3_15 rfl).trans ?_
    refine gR_c fun g3 => ?_
    refine (s_iload_n 21 mc_34 dX3_limit_20 rfl rfl rfl).trans ?_
    refine (s_iaload 22 mc_34 dX3_limit_21 rfl).trans ?_
    refine aI_c fun g4 => ?_
    exact s_iret mc_34 dX3_limit_22 mt_34
  · skip
    refine (s_iconst 13 0 mc_34 dX3_limit_12 rfl (by decide)).trans ?_
    refine (s_goto 22 mc_34 dX3_limit_13 rfl).trans ?_
    exact s_iret mc_34 dX3_limit_22 mt_34
/-- FiveLands$Plans.<init>()V -/
theorem k_35 {X : Ctx} {d : Nat} (x0 : Nat) (h : Hp) : K X (d + 1) 35 [.ref x0] h = letH (hN h) (alc h (50, 20) 20) fun a1 h1 => fR h1 4 x0 0 a1 fun h2 => letH (hN h2) (alc h2 (50, 20) 20) fun a3 h3 => fR h3 4 x0 1 a3 fun h4 => letH (hN h4) (alc h4 (50, 6) 6) fun a5 h5 => fR h5 4 x0 2 a5 fun h6 => letH (hN h6) (alc h6 (50, 6) 6) fun a7 h7 => fR h7 4 x0 3 a7 fun h8 => letH (hN h8) (alc h8 (50, 6) 6) fun a9 h9 => fR h9 4 x0 4 a9 fun h10 => letH (hN h10) (alc h10 (50, 6) 6) fun a11 h11 => fR h11 4 x0 5 a11 fun h12 => letH (hN h12) (alc h12 (50, 6) 6) fun a13 h13 => fR h13 4 x0 6 a13 fun h14 => letH (hN h14) (alc h14 (50, 6) 6) fun a15 h15 => fR h15 4 x0 7 a15 fun h16 => some (none, h16) := by
  show sem (X, K X d) 35 0 [some (.ref x0)] [] h = _
  refine (s_aload_n 1 mc_35 dX4_init_0 rfl rfl rfl).trans ?_
  refine (s_obj 4 mc_35 dX4_init_1 rfl mo_35 mm_4_3 mq_35 (Nat.le_of_ble_eq_true rfl)).trans ?_
  refine (s_aload_n 5 mc_35 dX4_init_4 rfl rfl rfl).trans ?_
  refine (s_bipush 7 20 mc_35 dX4_init_5 rfl (by decide)).trans ?_
  refine (s_newI 9 mc_35 dX4_init_7 rfl mq_35 (by decide) rfl (by decide)).trans ?_
  refine letH_i (F := fun a1 h1 => sem (X, K X d) 35 9 [some (.ref x0)] [.ref a1, .ref x0] h1) (hN h) (alc h (50, 20) 20) ?_
  intro a1 h1
  refine (s_putfR 12 mc_35 dX4_init_9 rfl mo_35 ff_4_9 rfl (Or.inr ⟨mo_35, mn_35⟩)).trans ?_
  refine fR_c fun h2 => ?_
  refine (s_aload_n 13 mc_35 dX4_init_12 rfl rfl rfl).trans ?_
  refine (s_bipush 15 20 mc_35 dX4_init_13 rfl (by decide)).trans ?_
  refine (s_newI 17 mc_35 dX4_init_15 rfl mq_35 (by decide) rfl (by decide)).trans ?_
  refine letH_i (F := fun a3 h3 => sem (X, K X d) 35 17 [some (.ref x0)] [.ref a3, .ref x0] h3) (hN h2) (alc h2 (50, 20) 20) ?_
  intro a3 h3
  refine (s_putfR 20 mc_35 dX4_init_17 rfl mo_35 ff_4_15 rfl (Or.inr ⟨mo_35, mn_35⟩)).trans ?_
  refine fR_c fun h4 => ?_
  refine (s_aload_n 21 mc_35 dX4_init_20 rfl rfl rfl).trans ?_
  refine (s_bipush 23 6 mc_35 dX4_init_21 rfl (by decide)).trans ?_
  refine (s_newI 25 mc_35 dX4_init_23 rfl mq_35 (by decide) rfl (by decide)).trans ?_
  refine letH_i (F := fun a5 h5 => sem (X, K X d) 35 25 [some (.ref x0)] [.ref a5, .ref x0] h5) (hN h4) (alc h4 (50, 6) 6) ?_
  intro a5 h5
  refine (s_putfR 28 mc_35 dX4_init_25 rfl mo_35 ff_4_18 rfl (Or.inr ⟨mo_35, mn_35⟩)).trans ?_
  refine fR_c fun h6 => ?_
  refine (s_aload_n 29 mc_35 dX4_init_28 rfl rfl rfl).trans ?_
  refine (s_bipush 31 6 mc_35 dX4_init_29 rfl (by decide)).trans ?_
  refine (s_newI 33 mc_35 dX4_init_31 rfl mq_35 (by decide) rfl (by decide)).trans ?_
  refine letH_i (F := fun a7 h7 => sem (X, K X d) 35 33 [some (.ref x0)] [.ref a7, .ref x0] h7) (hN h6) (alc h6 (50, 6) 6) ?_
  intro a7 h7
  refine (s_putfR 36 mc_35 dX4_init_33 rfl mo_35 ff_4_21 rfl (Or.inr ⟨mo_35, mn_35⟩)).trans ?_
  refine fR_c fun h8 => ?_
  refine (s_aload_n 37 mc_35 dX4_init_36 rfl rfl rfl).trans ?_
  refine (s_bipush 39 6 mc_35 dX4_init_37 rfl (by decide)).trans ?_
  refine (s_newI 41 mc_35 dX4_init_39 rfl mq_35 (by decide) rfl (by decide)).trans ?_
  refine letH_i (F := fun a9 h9 => sem (X, K X d) 35 41 [some (.ref x0)] [.ref a9, .ref x0] h9) (hN h8) (alc h8 (50, 6) 6) ?_
  intro a9 h9
  refine (s_putfR 44 mc_35 dX4_init_41 rfl mo_35 ff_4_24 rfl (Or.inr ⟨mo_35, mn_35⟩)).trans ?_
  refine fR_c fun h10 => ?_
  refine (s_aload_n 45 mc_35 dX4_init_44 rfl rfl rfl).trans ?_
  refine (s_bipush 47 6 mc_35 dX4_init_45 rfl (by decide)).trans ?_
  refine (s_newI 49 mc_35 dX4_init_47 rfl mq_35 (by decide) rfl (by decide)).trans ?_
  refine letH_i (F := fun a11 h11 => sem (X, K X d) 35 49 [some (.ref x0)] [.ref a11, .ref x0] h11) (hN h10) (alc h10 (50, 6) 6) ?_
  intro a11 h11
  refine (s_putfR 52 mc_35 dX4_init_49 rfl mo_35 ff_4_27 rfl (Or.inr ⟨mo_35, mn_35⟩)).trans ?_
  refine fR_c fun h12 => ?_
  refine (s_aload_n 53 mc_35 dX4_init_52 rfl rfl rfl).trans ?_
  refine (s_bipush 55 6 mc_35 dX4_init_53 rfl (by decide)).trans ?_
  refine (s_newI 57 mc_35 dX4_init_55 rfl mq_35 (by decide) rfl (by decide)).trans ?_
  refine letH_i (F := fun a13 h13 => sem (X, K X d) 35 57 [some (.ref x0)] [.ref a13, .ref x0] h13) (hN h12) (alc h12 (50, 6) 6) ?_
  intro a13 h13
  refine (s_putfR 60 mc_35 dX4_init_57 rfl mo_35 ff_4_30 rfl (Or.inr ⟨mo_35, mn_35⟩)).trans ?_
  refine fR_c fun h14 => ?_
  refine (s_aload_n 61 mc_35 dX4_init_60 rfl rfl rfl).trans ?_
  refine (s_bipush 63 6 mc_35 dX4_init_61 rfl (by decide)).trans ?_
  refine (s_newI 65 mc_35 dX4_init_63 rfl mq_35 (by decide) rfl (by decide)).trans ?_
  refine letH_i (F := fun a15 h15 => sem (X, K X d) 35 65 [some (.ref x0)] [.ref a15, .ref x0] h15) (hN h14) (alc h14 (50, 6) 6) ?_
  intro a15 h15
  refine (s_putfR 68 mc_35 dX4_init_65 rfl mo_35 ff_4_33 rfl (Or.inr ⟨mo_35, mn_35⟩)).trans ?_
  refine fR_c fun h16 => ?_
  exact s_vret mc_35 dX4_init_68 mt_35
/-- FiveLands$Plans.price(I)J -/
theorem k_36 {X : Ctx} {d : Nat} (x0 : Nat) (x1 : Int32) (h : Hp) : K X (d + 1) 36 [.ref x0, .int x1] h = gR h 4 x0 4 fun g1 => aI X h g1 x1 fun g2 => some (some (.long ((g2 : Int32).toInt64 * 100)), h) := by
  show sem (X, K X d) 36 0 [some (.ref x0), some (.int x1)] [] h = _
  refine (s_aload_n 1 mc_36 dX4_price_0 rfl rfl rfl).trans ?_
  refine (s_getfR 4 mc_36 dX4_price_1 rfl mo_36 fs_4_24 ff_4_24 rfl).trans ?_
  refine gR_c fun g1 => ?_
  refine (s_iload_n 5 mc_36 dX4_price_4 rfl rfl rfl).trans ?_
  refine (s_iaload 6 mc_36 dX4_price_5 rfl).trans ?_
  refine aI_c fun g2 => ?_
  refine (s_i2l 7 mc_36 dX4_price_6 rfl).trans ?_
  refine (s_ldc2_w 10 100 mc_36 dX4_price_7 rfl mo_36 cl_4_36 (by decide)).trans ?_
  refine (s_lmul 11 mc_36 dX4_price_10 rfl).trans ?_
  exact s_lret mc_36 dX4_price_11 mt_36
/-- FiveLands$Ring.<init>()V -/
theorem k_77 {X : Ctx} {d : Nat} (x0 : Nat) (h : Hp) : K X (d + 1) 77 [.ref x0] h = letH (hN h) (lnk (alcs (51, 7) 7 6 (alc h (81, 6) 6)) (hN h) (hN h + 1)) fun a1 h1 => fR h1 6 x0 0 a1 fun h2 => letH (hN h2) (alc h2 (50, 6) 6) fun a3 h3 => fR h3 6 x0 1 a3 fun h4 => letH (hN h4) (alc h4 (51, 6) 6) fun a5 h5 => fR h5 6 x0 2 a5 fun h6 => fJ h6 6 x0 3 1 fun h7 => some (none, h7) := by
  show sem (X, K X d) 77 0 [some (.ref x0)] [] h = _
  refine (s_aload_n 1 mc_77 dX6_init_0 rfl rfl rfl).trans ?_
  refine (s_obj 4 mc_77 dX6_init_1 rfl mo_77 mm_6_3 mq_77 (Nat.le_of_ble_eq_true rfl)).trans ?_
  refine (s_aload_n 5 mc_77 dX6_init_4 rfl rfl rfl).trans ?_
  refine (s_bipush 7 6 mc_77 dX6_init_5 rfl (by decide)).trans ?_
  refine (s_bipush 9 7 mc_77 dX6_init_7 rfl (by decide)).trans ?_
  refine (s_multJ 13 mc_77 dX6_init_9 rfl mq_77 mo_77 ck_6_9 (by decide) (by decide) rfl rfl (by decide) (by decide)).trans ?_
  refine letH_i (F := fun a1 h1 => sem (X, K X d) 77 13 [some (.ref x0)] [.ref a1, .ref x0] h1) (hN h) (lnk (alcs (51, 7) 7 6 (alc h (81, 6) 6)) (hN h) (hN h + 1)) ?_
  intro a1 h1
  refine (s_putfR 16 mc_77 dX6_init_13 rfl mo_77 ff_6_11 rfl (Or.inr ⟨mo_77, mn_77⟩)).trans ?_
  refine fR_c fun h2 => ?_
  refine (s_aload_n 17 mc_77 dX6_init_16 rfl rfl rfl).trans ?_
  refine (s_bipush 19 6 mc_77 dX6_init_17 rfl (by decide)).trans ?_
  refine (s_newI 21 mc_77 dX6_init_19 rfl mq_77 (by decide) rfl (by decide)).trans ?_
  refine letH_i (F := fun a3 h3 => sem (X, K X d) 77 21 [some (.ref x0)] [.ref a3, .ref x0] h3) (hN h2) (alc h2 (50, 6) 6) ?_
  intro a3 h3
  refine (s_putfR 24 mc_77 dX6_init_21 rfl mo_77 ff_6_16 rfl (Or.inr ⟨mo_77, mn_77⟩)).trans ?_
  refine fR_c fun h4 => ?_
  refine (s_aload_n 25 mc_77 dX6_init_24 rfl rfl rfl).trans ?_
  refine (s_bipush 27 6 mc_77 dX6_init_25 rfl (by decide)).trans ?_
  refine (s_newJ 29 mc_77 dX6_init_27 rfl mq_77 (by decide) rfl (by decide)).trans ?_
  refine letH_i (F := fun a5 h5 => sem (X, K X d) 77 29 [some (.ref x0)] [.ref a5, .ref x0] h5) (hN h4) (alc h4 (51, 6) 6) ?_
  intro a5 h5
  refine (s_putfR 32 mc_77 dX6_init_29 rfl mo_77 ff_6_20 rfl (Or.inr ⟨mo_77, mn_77⟩)).trans ?_
  refine fR_c fun h6 => ?_
  refine (s_aload_n 33 mc_77 dX6_init_32 rfl rfl rfl).trans ?_
  refine (s_lconst 34 1 mc_77 dX6_init_33 rfl (by decide)).trans ?_
  refine (s_putfJ 37 mc_77 dX6_init_34 rfl mo_77 ff_6_24 rfl (Or.inl rfl)).trans ?_
  refine fJ_c fun h7 => ?_
  exact s_vret mc_77 dX6_init_37 mt_77
/-- FiveLands$Ring.answers(II[I[J)Z -/
theorem k_78 {X : Ctx} {d : Nat} (x0 : Nat) (x1 : Int32) (x2 : Int32) (x3 : Nat) (x4 : Nat) (h : Hp) : K X (d + 1) 78 [.ref x0, .int x1, .int x2, .ref x3, .ref x4] h = gd (hS h x0 = (7, 0)) (bI (K X d 79 [.ref x0, .int x1, .ref x3, .ref x4] h) fun r1 h1 => gd (hS h1 x0 = (7, 0)) (bI (K X d 80 [.ref x0, .int r1] h1) fun r2 h2 => if ¬ r2 = 0 then if r1 ≤ 0 then sem (X, K X d) 78 45 [some (.ref x0), some (.int x1), some (.int x2), some (.ref x3), some (.ref x4), some (.int r1), none, none, none, none, none] [.long 1, .ref x0] h2 else gR h2 6 x0 0 fun g3 => aR h2 g3 (r1 - 1) fun g4 => aJ h2 g4 (r1 - 1) fun g5 => sem (X, K X d) 78 45 [some (.ref x0), some (.int x1), some (.int x2), some (.ref x3), some (.ref x4), some (.int r1), none, none, none, none, none] [.long g5, .ref x0] h2 else some (some (.int 0), h2))) := by
  show sem (X, K X d) 78 0 [some (.ref x0), some (.int x1), some (.int x2), some (.ref x3), some (.ref x4), none, none, none, none, none, none] [] h = _
  refine (s_aload_n 1 mc_78 dX6_answers_0 rfl rfl rfl).trans ?_
  refine (s_iload_n 2 mc_78 dX6_answers_1 rfl rfl rfl).trans ?_
  refine (s_aload_n 3 mc_78 dX6_answers_2 rfl rfl rfl).trans ?_
  refine (s_aload 5 mc_78 dX6_answers_3 rfl rfl).trans ?_
  refine (s_iviI 8 mc_78 dX6_answers_5 rfl mo_78 mm_6_28 (by decide) ms_79 mi_79 mr_79 ma_79 mo_79 (by decide) (Nat.le_of_ble_eq_true rfl) rfl rfl (Nat.le_of_ble_eq_true rfl)).trans ?_
  refine gd_c ?_
  refine bI_c fun r1 h1 => ?_
  refine (s_istore 10 mc_78 dX6_answers_8 rfl (Nat.le_of_ble_eq_true rfl) rfl).trans ?_
  refine (s_aload_n 11 mc_78 dX6_answers_10 rfl rfl rfl).trans ?_
  refine (s_iload 13 mc_78 dX6_answers_11 rfl rfl).trans ?_
  refine (s_iviI 16 mc_78 dX6_answers_13 rfl mo_78 mm_6_32 (by decide) ms_80 mi_80 mr_80 ma_80 mo_80 (by decide) (Nat.le_of_ble_eq_true rfl) rfl rfl (Nat.le_of_ble_eq_true rfl)).trans ?_
  refine gd_c ?_
  refine bI_c fun r2 h2 => ?_
  refine (s_if_ne 21 19 mc_78 dX6_answers_16 rfl rfl).trans ?_
  refine ite_c ?_ ?_
  · skip
    refine (s_aload_n 22 mc_78 dX6_answers_21 rfl rfl rfl).trans ?_
    refine (s_iload 24 mc_78 dX6_answers_22 rfl rfl).trans ?_
    refine (s_if_le 44 27 mc_78 dX6_answers_24 rfl rfl).trans ?_
    refine ite_c ?_ ?_
    · skip
      refine (s_lconst 45 1 mc_78 dX6_answers_44 rfl (by decide)).trans ?_
      rfl
    · skip
      refine (s_aload_n 28 mc_78 dX6_answers_27 rfl rfl rfl).trans ?_
      refine (s_getfR 31 mc_78 dX6_answers_28 rfl mo_78 fs_6_11 ff_6_11 rfl).trans ?_
      refine gR_c fun g3 => ?_
      refine (s_iload 33 mc_78 dX6_answers_31 rfl rfl).trans ?_
      refine (s_iconst 34 1 mc_78 dX6_answers_33 rfl (by decide)).trans ?_
      refine (s_isub 35 mc_78 dX6_answers_34 rfl).trans ?_
      refine (s_aaload 36 mc_78 dX6_answers_35 rfl).trans ?_
      refine aR_c fun g4 => ?_
      refine (s_iload 38 mc_78 dX6_answers_36 rfl rfl).trans ?_
      refine (s_iconst 39 1 mc_78 dX6_answers_38 rfl (by decide)).trans ?_
      refine (s_isub 40 mc_78 dX6_answers_39 rfl).trans ?_
      refine (s_laload 41 mc_78 dX6_answers_40 rfl).trans ?_
      refine aJ_c fun g5 => ?_
      refine (s_goto 45 mc_78 dX6_answers_41 rfl).trans ?_
      rfl
  · skip
    refine (s_iconst 20 0 mc_78 dX6_answers_19 rfl (by decide)).trans ?_
    exact s_zret0 mc_78 dX6_answers_20 mt_78
theorem b_78_45 {X : Ctx} {d : Nat} (x0 : Nat) (v1 : Option Value) (v2 : Option Value) (v3 : Option Value) (v4 : Option Value) (v5 : Option Value) (v6 : Option Value) (v7 : Option Value) (v8 : Option Value) (v9 : Option Value) (v10 : Option Value) (s0 : Nat) (s1 : Int64) (h : Hp) : sem (X, K X d) 78 45 [some (.ref x0), v1, v2, v3, v4, v5, v6, v7, v8, v9, v10] [.long s1, .ref s0] h = fJ h 6 s0 3 s1 fun h1 => gJ h1 6 x0 3 fun g1 => if 0 ≤ (lg_cmp g1 0) then gJ h1 6 x0 3 fun g2 => fJ h1 6 x0 3 (g2 * 1) fun h2 => sem (X, K X d) 78 80 [some (.ref x0), v1, v2, v3, v4, v5, some (.long 1), none, some (.int 0), v9, v10] [] h2 else gJ h1 6 x0 3 fun g3 => fJ h1 6 x0 3 (g3 * (-1)) fun h3 => sem (X, K X d) 78 80 [some (.ref x0), v1, v2, v3, v4, v5, some (.long (-1)), none, some (.int 0), v9, v10] [] h3 := by
  refine (s_putfJ 48 mc_78 dX6_answers_45 rfl mo_78 ff_6_24 rfl (Or.inl rfl)).trans ?_
  refine fJ_c fun h1 => ?_
  refine (s_aload_n 49 mc_78 dX6_answers_48 rfl rfl rfl).trans ?_
  refine (s_getfJ 52 mc_78 dX6_answers_49 rfl mo_78 fs_6_24 ff_6_24 rfl).trans ?_
  refine gJ_c fun g1 => ?_
  refine (s_lconst 53 0 mc_78 dX6_answers_52 rfl (by decide)).trans ?_
  refine (s_lcmp 54 mc_78 dX6_answers_53 rfl).trans ?_
  refine (s_if_ge 63 57 mc_78 dX6_answers_54 rfl rfl).trans ?_
  refine ite_c ?_ ?_
  · skip
    refine (s_lconst 64 1 mc_78 dX6_answers_63 rfl (by decide)).trans ?_
    refine (s_lstore 66 mc_78 dX6_answers_64 rfl (Nat.le_of_ble_eq_true rfl) rfl).trans ?_
    refine (s_aload_n 67 mc_78 dX6_answers_66 rfl rfl rfl).trans ?_
    refine (s_dup 68 mc_78 dX6_answers_67 rfl rfl).trans ?_
    refine (s_getfJ 71 mc_78 dX6_answers_68 rfl mo_78 fs_6_24 ff_6_24 rfl).trans ?_
    refine gJ_c fun g2 => ?_
    refine (s_lload 73 mc_78 dX6_answers_71 rfl rfl rfl).trans ?_
    refine (s_lmul 74 mc_78 dX6_answers_73 rfl).trans ?_
    refine (s_putfJ 77 mc_78 dX6_answers_74 rfl mo_78 ff_6_24 rfl (Or.inl rfl)).trans ?_
    refine fJ_c fun h2 => ?_
    refine (s_iconst 78 0 mc_78 dX6_answers_77 rfl (by decide)).trans ?_
    refine (s_istore 80 mc_78 dX6_answers_78 rfl (Nat.le_of_ble_eq_true rfl) rfl).trans ?_
    rfl
  · skip
    refine (s_ldc2_w 60 (-1) mc_78 dX6_answers_57 rfl mo_78 cl_6_36 (by decide)).trans ?_
    refine (s_goto 64 mc_78 dX6_answers_60 rfl).trans ?_
    refine (s_lstore 66 mc_78 dX6_answers_64 rfl (Nat.le_of_ble_eq_true rfl) rfl).trans ?_
    refine (s_aload_n 67 mc_78 dX6_answers_66 rfl rfl rfl).trans ?_
    refine (s_dup 68 mc_78 dX6_answers_67 rfl rfl).trans ?_
    refine (s_getfJ 71 mc_78 dX6_answers_68 rfl mo_78 fs_6_24 ff_6_24 rfl).trans ?_
    refine gJ_c fun g3 => ?_
    refine (s_lload 73 mc_78 dX6_answers_71 rfl rfl rfl).trans ?_
    refine (s_lmul 74 mc_78 dX6_answers_73 rfl).trans ?_
    refine (s_putfJ 77 mc_78 dX6_answers_74 rfl mo_78 ff_6_24 rfl (Or.inl rfl)).trans ?_
    refine fJ_c fun h3 => ?_
    refine (s_iconst 78 0 mc_78 dX6_answers_77 rfl (by decide)).trans ?_
    refine (s_istore 80 mc_78 dX6_answers_78 rfl (Nat.le_of_ble_eq_true rfl) rfl).trans ?_
    rfl
theorem b_78_80 {X : Ctx} {d : Nat} (x0 : Nat) (x1 : Int32) (x2 : Int32) (x3 : Nat) (x4 : Nat) (x5 : Int32) (x6 : Int64) (x8 : Int32) (v9 : Option Value) (v10 : Option Value)  (h : Hp) : sem (X, K X d) 78 80 [some (.ref x0), some (.int x1), some (.int x2), some (.ref x3), some (.ref x4), some (.int x5), some (.long x6), none, some (.int x8), v9, v10] [] h = if x5 ≤ x8 then gd (hS h x0 = (7, 0)) (bI (K X d 82 [.ref x0, .int x1, .int x2, .ref x3, .ref x4] h) fun r1 h1 => gd (okN .boolean r1) (some (some (.int r1), h1))) else gR h 6 x0 0 fun g2 => aR h g2 x8 fun g3 => aJ h g3 x5 fun g4 => if 0 < (lg_cmp (g4 * x6) 0) then gR h 6 x0 2 fun g5 => gR h 6 x0 1 fun g6 => aI X h g6 x8 fun g7 => wJ h g5 g7 (g4 * x6) fun h2 => sem (X, K X d) 78 80 [some (.ref x0), some (.int x1), some (.int x2), some (.ref x3), some (.ref x4), some (.int x5), some (.long x6), none, some (.int (x8 + 1)), some (.long (g4 * x6)), none] [] h2 else some (some (.int 0), h) := by
  refine (s_iload 82 mc_78 dX6_answers_80 rfl rfl).trans ?_
  refine (s_iload 84 mc_78 dX6_answers_82 rfl rfl).trans ?_
  refine (s_icmp_ge 131 87 mc_78 dX6_answers_84 rfl rfl).trans ?_
  refine ite_c ?_ ?_
  · skip
    refine (s_aload_n 132 mc_78 dX6_answers_131 rfl rfl rfl).trans ?_
    refine (s_iload_n 133 mc_78 dX6_answers_132 rfl rfl rfl).trans ?_
    refine (s_iload_n 134 mc_78 dX6_answers_133 rfl rfl rfl).trans ?_
    refine (s_aload_n 135 mc_78 dX6_answers_134 rfl rfl rfl).trans ?_
    refine (s_aload 137 mc_78 dX6_answers_135 rfl rfl).trans ?_
    refine (s_iviI 140 mc_78 dX6_answers_137 rfl mo_78 mm_6_38 (by decide) ms_82 mi_82 mr_82 ma_82 mo_82 (by decide) (Nat.le_of_ble_eq_true rfl) rfl rfl (Nat.le_of_ble_eq_true rfl)).trans ?_
    refine gd_c ?_
    refine bI_c fun r1 h1 => ?_
    exact s_zret mc_78 dX6_answers_140 mt_78
  · skip
    refine (s_aload_n 88 mc_78 dX6_answers_87 rfl rfl rfl).trans ?_
    refine (s_getfR 91 mc_78 dX6_answers_88 rfl mo_78 fs_6_11 ff_6_11 rfl).trans ?_
    refine gR_c fun g2 => ?_
    refine (s_iload 93 mc_78 dX6_answers_91 rfl rfl).trans ?_
    refine (s_aaload 94 mc_78 dX6_answers_93 rfl).trans ?_
    refine aR_c fun g3 => ?_
    refine (s_iload 96 mc_78 dX6_answers_94 rfl rfl).trans ?_
    refine (s_laload 97 mc_78 dX6_answers_96 rfl).trans ?_
    refine aJ_c fun g4 => ?_
    refine (s_lload 99 mc_78 dX6_answers_97 rfl rfl rfl).trans ?_
    refine (s_lmul 100 mc_78 dX6_answers_99 rfl).trans ?_
    refine (s_lstore 102 mc_78 dX6_answers_100 rfl (Nat.le_of_ble_eq_true rfl) rfl).trans ?_
    refine (s_lload 104 mc_78 dX6_answers_102 rfl rfl rfl).trans ?_
    refine (s_lconst 105 0 mc_78 dX6_answers_104 rfl (by decide)).trans ?_
    refine (s_lcmp 106 mc_78 dX6_answers_105 rfl).trans ?_
    refine (s_if_gt 111 109 mc_78 dX6_answers_106 rfl rfl).trans ?_
    refine ite_c ?_ ?_
    · skip
      refine (s_aload_n 112 mc_78 dX6_answers_111 rfl rfl rfl).trans ?_
      refine (s_getfR 115 mc_78 dX6_answers_112 rfl mo_78 fs_6_20 ff_6_20 rfl).trans ?_
      refine gR_c fun g5 => ?_
      refine (s_aload_n 116 mc_78 dX6_answers_115 rfl rfl rfl).trans ?_
      refine (s_getfR 119 mc_78 dX6_answers_116 rfl mo_78 fs_6_16 ff_6_16 rfl).trans ?_
      refine gR_c fun g6 => ?_
      refine (s_iload 121 mc_78 dX6_answers_119 rfl rfl).trans ?_
      refine (s_iaload 122 mc_78 dX6_answers_121 rfl).trans ?_
      refine aI_c fun g7 => ?_
      refine (s_lload 124 mc_78 dX6_answers_122 rfl rfl rfl).trans ?_
      refine (s_lastore 125 mc_78 dX6_answers_124 rfl).trans ?_
      refine wJ_c fun h2 => ?_
      refine (s_iinc 1 128 mc_78 dX6_answers_125 rfl rfl (Nat.le_of_ble_eq_true rfl) (by decide) rfl).trans ?_
      refine (s_goto 80 mc_78 dX6_answers_128 rfl).trans ?_
      rfl
    · skip
      refine (s_iconst 110 0 mc_78 dX6_answers_109 rfl (by decide)).trans ?_
      exact s_zret0 mc_78 dX6_answers_110 mt_78
/-- FiveLands$Ring.fill(I[I[J)I -/
theorem k_79 {X : Ctx} {d : Nat} (x0 : Nat) (x1 : Int32) (x2 : Nat) (x3 : Nat) (h : Hp) : K X (d + 1) 79 [.ref x0, .int x1, .ref x2, .ref x3] h = sem (X, K X d) 79 6 [some (.ref x0), some (.int x1), some (.ref x2), some (.ref x3), some (.int 0), some (.int 0), none] [] h := by
  show sem (X, K X d) 79 0 [some (.ref x0), some (.int x1), some (.ref x2), some (.ref x3), none, none, none] [] h = _
  refine (s_iconst 1 0 mc_79 dX6_fill_0 rfl (by decide)).trans ?_
  refine (s_istore 3 mc_79 dX6_fill_1 rfl (Nat.le_of_ble_eq_true rfl) rfl).trans ?_
  refine (s_iconst 4 0 mc_79 dX6_fill_3 rfl (by decide)).trans ?_
  refine (s_istore 6 mc_79 dX6_fill_4 rfl (Nat.le_of_ble_eq_true rfl) rfl).trans ?_
  rfl
theorem b_79_6 {X : Ctx} {d : Nat} (x0 : Nat) (x1 : Int32) (v2 : Option Value) (v3 : Option Value) (x4 : Int32) (x5 : Int32) (v6 : Option Value)  (h : Hp) : sem (X, K X d) 79 6 [some (.ref x0), some (.int x1), v2, v3, some (.int x4), some (.int x5), v6] [] h = if 6 ≤ x5 then sem (X, K X d) 79 44 [some (.ref x0), some (.int x1), v2, v3, some (.int x4), some (.int 0), v6] [] h else bI (K X d 140 [.long (x1 : Int32).toInt64, .int x5] h) fun r1 h1 => if r1 = 0 then sem (X, K X d) 79 6 [some (.ref x0), some (.int x1), v2, v3, some (.int x4), some (.int (x5 + 1)), v6] [] h1 else gR h1 6 x0 1 fun g2 => wI h1 g2 x4 x5 fun h2 => sem (X, K X d) 79 6 [some (.ref x0), some (.int x1), v2, v3, some (.int (x4 + 1)), some (.int (x5 + 1)), v6] [] h2 := by
  refine (s_iload 8 mc_79 dX6_fill_6 rfl rfl).trans ?_
  refine (s_bipush 10 6 mc_79 dX6_fill_8 rfl (by decide)).trans ?_
  refine (s_icmp_ge 41 13 mc_79 dX6_fill_10 rfl rfl).trans ?_
  refine ite_c ?_ ?_
  · skip
    refine (s_iconst 42 0 mc_79 dX6_fill_41 rfl (by decide)).trans ?_
    refine (s_istore 44 mc_79 dX6_fill_42 rfl (Nat.le_of_ble_eq_true rfl) rfl).trans ?_
    rfl
  · skip
    refine (s_iload_n 14 mc_79 dX6_fill_13 rfl rfl rfl).trans ?_
    refine (s_i2l 15 mc_79 dX6_fill_14 rfl).trans ?_
    refine (s_iload 17 mc_79 dX6_fill_15 rfl rfl).trans ?_
    refine (s_istI 20 mc_79 dX6_fill_17 rfl mo_79 mm_6_42 (by decide) ms_140 mr_140 ma_140 (Nat.le_of_ble_eq_true rfl) rfl rfl (Nat.le_of_ble_eq_true rfl)).trans ?_
    refine bI_c fun r1 h1 => ?_
    refine (s_if_eq 35 23 mc_79 dX6_fill_20 rfl rfl).trans ?_
    refine ite_c ?_ ?_
    · skip
      refine (s_iinc 1 38 mc_79 dX6_fill_35 rfl rfl (Nat.le_of_ble_eq_true rfl) (by decide) rfl).trans ?_
      refine (s_goto 6 mc_79 dX6_fill_38 rfl).trans ?_
      rfl
    · skip
      refine (s_aload_n 24 mc_79 dX6_fill_23 rfl rfl rfl).trans ?_
      refine (s_getfR 27 mc_79 dX6_fill_24 rfl mo_79 fs_6_16 ff_6_16 rfl).trans ?_
      refine gR_c fun g2 => ?_
      refine (s_iload 29 mc_79 dX6_fill_27 rfl rfl).trans ?_
      refine (s_iload 31 mc_79 dX6_fill_29 rfl rfl).trans ?_
      refine (s_iastore 32 mc_79 dX6_fill_31 rfl).trans ?_
      refine wI_c fun h2 => ?_
      refine (s_iinc 1 35 mc_79 dX6_fill_32 rfl rfl (Nat.le_of_ble_eq_true rfl) (by decide) rfl).trans ?_
      refine (s_iinc 1 38 mc_79 dX6_fill_35 rfl rfl (Nat.le_of_ble_eq_true rfl) (by decide) rfl).trans ?_
      refine (s_goto 6 mc_79 dX6_fill_38 rfl).trans ?_
      rfl
theorem b_79_44 {X : Ctx} {d : Nat} (v0 : Option Value) (v1 : Option Value) (v2 : Option Value) (v3 : Option Value) (x4 : Int32) (x5 : Int32) (v6 : Option Value)  (h : Hp) : sem (X, K X d) 79 44 [v0, v1, v2, v3, some (.int x4), some (.int x5), v6] [] h = if x4 ≤ x5 then some (some (.int x4), h) else sem (X, K X d) 79 54 [v0, v1, v2, v3, some (.int x4), some (.int x5), some (.int 0)] [] h := by
  refine (s_iload 46 mc_79 dX6_fill_44 rfl rfl).trans ?_
  refine (s_iload 48 mc_79 dX6_fill_46 rfl rfl).trans ?_
  refine (s_icmp_ge 133 51 mc_79 dX6_fill_48 rfl rfl).trans ?_
  refine ite_c ?_ ?_
  · skip
    refine (s_iload 135 mc_79 dX6_fill_133 rfl rfl).trans ?_
    exact s_iret mc_79 dX6_fill_135 mt_79
  · skip
    refine (s_iconst 52 0 mc_79 dX6_fill_51 rfl (by decide)).trans ?_
    refine (s_istore 54 mc_79 dX6_fill_52 rfl (Nat.le_of_ble_eq_true rfl) rfl).trans ?_
    rfl
theorem b_79_54 {X : Ctx} {d : Nat} (x0 : Nat) (v1 : Option Value) (x2 : Nat) (x3 : Nat) (x4 : Int32) (x5 : Int32) (x6 : Int32)  (h : Hp) : sem (X, K X d) 79 54 [some (.ref x0), v1, some (.ref x2), some (.ref x3), some (.int x4), some (.int x5), some (.int x6)] [] h = if x4 ≤ x6 then gR h 6 x0 0 fun g1 => aR h g1 x5 fun g2 => gR h 6 x0 1 fun g3 => aI X h g3 x5 fun g4 => aJ h x3 g4 fun g5 => wJ h g2 x4 g5 fun h1 => sem (X, K X d) 79 44 [some (.ref x0), v1, some (.ref x2), some (.ref x3), some (.int x4), some (.int (x5 + 1)), some (.int x6)] [] h1 else gR h 6 x0 0 fun g6 => aR h g6 x5 fun g7 => if ¬ x5 = x6 then gR h 6 x0 1 fun g8 => aI X h g8 x5 fun g9 => aI X h x2 g9 fun g10 => gR h 6 x0 1 fun g11 => aI X h g11 x6 fun g12 => wJ h g7 x6 ((((g10 >>> (g12 &&& 31)) &&& 1) : Int32).toInt64) fun h2 => sem (X, K X d) 79 54 [some (.ref x0), v1, some (.ref x2), some (.ref x3), some (.int x4), some (.int x5), some (.int (x6 + 1))] [] h2 else wJ h g7 x6 1 fun h3 => sem (X, K X d) 79 54 [some (.ref x0), v1, some (.ref x2), some (.ref x3), some (.int x4), some (.int x5), some (.int (x6 + 1))] [] h3 := by
  refine (s_iload 56 mc_79 dX6_fill_54 rfl rfl).trans ?_
  refine (s_iload 58 mc_79 dX6_fill_56 rfl rfl).trans ?_
  refine (s_icmp_ge 108 61 mc_79 dX6_fill_58 rfl rfl).trans ?_
  refine ite_c ?_ ?_
  · skip
    refine (s_aload_n 109 mc_79 dX6_fill_108 rfl rfl rfl).trans ?_
    refine (s_getfR 112 mc_79 dX6_fill_109 rfl mo_79 fs_6_11 ff_6_11 rfl).trans ?_
    refine gR_c fun g1 => ?_
    refine (s_iload 114 mc_79 dX6_fill_112 rfl rfl).trans ?_
    refine (s_aaload 115 mc_79 dX6_fill_114 rfl).trans ?_
    refine aR_c fun g2 => ?_
    refine (s_iload 117 mc_79 dX6_fill_115 rfl rfl).trans ?_
    refine (s_aload_n 118 mc_79 dX6_fill_117 rfl rfl rfl).trans ?_
    refine (s_aload_n 119 mc_79 dX6_fill_118 rfl rfl rfl).trans ?_
    refine (s_getfR 122 mc_79 dX6_fill_119 rfl mo_79 fs_6_16 ff_6_16 rfl).trans ?_
    refine gR_c fun g3 => ?_
    refine (s_iload 124 mc_79 dX6_fill_122 rfl rfl).trans ?_
    refine (s_iaload 125 mc_79 dX6_fill_124 rfl).trans ?_
    refine aI_c fun g4 => ?_
    refine (s_laload 126 mc_79 dX6_fill_125 rfl).trans ?_
    refine aJ_c fun g5 => ?_
    refine (s_lastore 127 mc_79 dX6_fill_126 rfl).trans ?_
    refine wJ_c fun h1 => ?_
    refine (s_iinc 1 130 mc_79 dX6_fill_127 rfl rfl (Nat.le_of_ble_eq_true rfl) (by decide) rfl).trans ?_
    refine (s_goto 44 mc_79 dX6_fill_130 rfl).trans ?_
    rfl
  · skip
    refine (s_aload_n 62 mc_79 dX6_fill_61 rfl rfl rfl).trans ?_
    refine (s_getfR 65 mc_79 dX6_fill_62 rfl mo_79 fs_6_11 ff_6_11 rfl).trans ?_
    refine gR_c fun g6 => ?_
    refine (s_iload 67 mc_79 dX6_fill_65 rfl rfl).trans ?_
    refine (s_aaload 68 mc_79 dX6_fill_67 rfl).trans ?_
    refine aR_c fun g7 => ?_
    refine (s_iload 70 mc_79 dX6_fill_68 rfl rfl).trans ?_
    refine (s_iload 72 mc_79 dX6_fill_70 rfl rfl).trans ?_
    refine (s_iload 74 mc_79 dX6_fill_72 rfl rfl).trans ?_
    refine (s_icmp_ne 81 77 mc_79 dX6_fill_74 rfl rfl).trans ?_
    refine ite_c ?_ ?_
    · skip
      refine (s_aload_n 82 mc_79 dX6_fill_81 rfl rfl rfl).trans ?_
      refine (s_aload_n 83 mc_79 dX6_fill_82 rfl rfl rfl).trans ?_
      refine (s_getfR 86 mc_79 dX6_fill_83 rfl mo_79 fs_6_16 ff_6_16 rfl).trans ?_
      refine gR_c fun g8 => ?_
      refine (s_iload 88 mc_79 dX6_fill_86 rfl rfl).trans ?_
      refine (s_iaload 89 mc_79 dX6_fill_88 rfl).trans ?_
      refine aI_c fun g9 => ?_
      refine (s_iaload 90 mc_79 dX6_fill_89 rfl).trans ?_
      refine aI_c fun g10 => ?_
      refine (s_aload_n 91 mc_79 dX6_fill_90 rfl rfl rfl).trans ?_
      refine (s_getfR 94 mc_79 dX6_fill_91 rfl mo_79 fs_6_16 ff_6_16 rfl).trans ?_
      refine gR_c fun g11 => ?_
      refine (s_iload 96 mc_79 dX6_fill_94 rfl rfl).trans ?_
      refine (s_iaload 97 mc_79 dX6_fill_96 rfl).trans ?_
      refine aI_c fun g12 => ?_
      refine (s_ishr 98 mc_79 dX6_fill_97 rfl).trans ?_
      refine (s_iconst 99 1 mc_79 dX6_fill_98 rfl (by decide)).trans ?_
      refine (s_iand 100 mc_79 dX6_fill_99 rfl).trans ?_
      refine (s_i2l 101 mc_79 dX6_fill_100 rfl).trans ?_
      refine (s_lastore 102 mc_79 dX6_fill_101 rfl).trans ?_
      refine wJ_c fun h2 => ?_
      refine (s_iinc 1 105 mc_79 dX6_fill_102 rfl rfl (Nat.le_of_ble_eq_true rfl) (by decide) rfl).trans ?_
      refine (s_goto 54 mc_79 dX6_fill_105 rfl).trans ?_
      rfl
    · skip
      refine (s_lconst 78 1 mc_79 dX6_fill_77 rfl (by decide)).trans ?_
      refine (s_goto 101 mc_79 dX6_fill_78 rfl).trans ?_
      refine (s_lastore 102 mc_79 dX6_fill_101 rfl).trans ?_
      refine wJ_c fun h3 => ?_
      refine (s_iinc 1 105 mc_79 dX6_fill_102 rfl rfl (Nat.le_of_ble_eq_true rfl) (by decide) rfl).trans ?_
      refine (s_goto 54 mc_79 dX6_fill_105 rfl).trans ?_
      rfl
/-- FiveLands$Ring.eliminate(I)Z -/
theorem k_80 {X : Ctx} {d : Nat} (x0 : Nat) (x1 : Int32) (h : Hp) : K X (d + 1) 80 [.ref x0, .int x1] h = sem (X, K X d) 80 5 [some (.ref x0), some (.int x1), some (.long 1), none, some (.int 0), none, none, none, none, none, none, none, none] [] h := by
  show sem (X, K X d) 80 0 [some (.ref x0), some (.int x1), none, none, none, none, none, none, none, none, none, none, none] [] h = _
  refine (s_lconst 1 1 mc_80 dX6_eliminate_0 rfl (by decide)).trans ?_
  refine (s_lstore_n 2 mc_80 dX6_eliminate_1 rfl rfl (Nat.le_of_ble_eq_true rfl) rfl).trans ?_
  refine (s_iconst 3 0 mc_80 dX6_eliminate_2 rfl (by decide)).trans ?_
  refine (s_istore 5 mc_80 dX6_eliminate_3 rfl (Nat.le_of_ble_eq_true rfl) rfl).trans ?_
  rfl
theorem b_80_5 {X : Ctx} {d : Nat} (x0 : Nat) (x1 : Int32) (x2 : Int64) (x4 : Int32) (v5 : Option Value) (v6 : Option Value) (v7 : Option Value) (v8 : Option Value) (v9 : Option Value) (v10 : Option Value) (v11 : Option Value) (v12 : Option Value)  (h : Hp) : sem (X, K X d) 80 5 [some (.ref x0), some (.int x1), some (.long x2), none, some (.int x4), v5, v6, v7, v8, v9, v10, v11, v12] [] h = if x1 ≤ x4 then some (some (.int 1), h) else gd (hS h x0 = (7, 0)) (bI (K X d 81 [.ref x0, .int x4, .int x1] h) fun r1 h1 => if r1 = 0 then some (some (.int 0), h1) else if ¬ (lg_cmp x2 0) = 0 then gR h1 6 x0 0 fun g2 => aR h1 g2 x4 fun g3 => aJ h1 g3 x4 fun g4 => sem (X, K X d) 80 48 [some (.ref x0), some (.int x1), some (.long x2), none, some (.int x4), some (.ref g3), some (.long g4), none, some (.int 0), v9, v10, v11, v12] [] h1 else some (some (.int 0), h1)) := by
  refine (s_iload 7 mc_80 dX6_eliminate_5 rfl rfl).trans ?_
  refine (s_iload_n 8 mc_80 dX6_eliminate_7 rfl rfl rfl).trans ?_
  refine (s_icmp_ge 131 11 mc_80 dX6_eliminate_8 rfl rfl).trans ?_
  refine ite_c ?_ ?_
  · skip
    refine (s_iconst 132 1 mc_80 dX6_eliminate_131 rfl (by decide)).trans ?_
    exact s_zret1 mc_80 dX6_eliminate_132 mt_80
  · skip
    refine (s_aload_n 12 mc_80 dX6_eliminate_11 rfl rfl rfl).trans ?_
    refine (s_iload 14 mc_80 dX6_eliminate_12 rfl rfl).trans ?_
    refine (s_iload_n 15 mc_80 dX6_eliminate_14 rfl rfl rfl).trans ?_
    refine (s_iviI 18 mc_80 dX6_eliminate_15 rfl mo_80 mm_6_46 (by decide) ms_81 mi_81 mr_81 ma_81 mo_81 (by decide) (Nat.le_of_ble_eq_true rfl) rfl rfl (Nat.le_of_ble_eq_true rfl)).trans ?_
    refine gd_c ?_
    refine bI_c fun r1 h1 => ?_
    refine (s_if_eq 27 21 mc_80 dX6_eliminate_18 rfl rfl).trans ?_
    refine ite_c ?_ ?_
    · skip
      refine (s_iconst 28 0 mc_80 dX6_eliminate_27 rfl (by decide)).trans ?_
      exact s_zret0 mc_80 dX6_eliminate_28 mt_80
    · skip
      refine (s_lload_n 22 mc_80 dX6_eliminate_21 rfl rfl rfl rfl).trans ?_
      refine (s_lconst 23 0 mc_80 dX6_eliminate_22 rfl (by decide)).trans ?_
      refine (s_lcmp 24 mc_80 dX6_eliminate_23 rfl).trans ?_
      refine (s_if_ne 29 27 mc_80 dX6_eliminate_24 rfl rfl).trans ?_
      refine ite_c ?_ ?_
      · skip
        refine (s_aload_n 30 mc_80 dX6_eliminate_29 rfl rfl rfl).trans ?_
        refine (s_getfR 33 mc_80 dX6_eliminate_30 rfl mo_80 fs_6_11 ff_6_11 rfl).trans ?_
        refine gR_c fun g2 => ?_
        refine (s_iload 35 mc_80 dX6_eliminate_33 rfl rfl).trans ?_
        refine (s_aaload 36 mc_80 dX6_eliminate_35 rfl).trans ?_
        refine aR_c fun g3 => ?_
        refine (s_astore 38 mc_80 dX6_eliminate_36 rfl (Nat.le_of_ble_eq_true rfl) rfl).trans ?_
        refine (s_aload 40 mc_80 dX6_eliminate_38 rfl rfl).trans ?_
        refine (s_iload 42 mc_80 dX6_eliminate_40 rfl rfl).trans ?_
        refine (s_laload 43 mc_80 dX6_eliminate_42 rfl).trans ?_
        refine aJ_c fun g4 => ?_
        refine (s_lstore 45 mc_80 dX6_eliminate_43 rfl (Nat.le_of_ble_eq_true rfl) rfl).trans ?_
        refine (s_iconst 46 0 mc_80 dX6_eliminate_45 rfl (by decide)).trans ?_
        refine (s_istore 48 mc_80 dX6_eliminate_46 rfl (Nat.le_of_ble_eq_true rfl) rfl).trans ?_
        rfl
      · skip
        refine (s_iconst 28 0 mc_80 dX6_eliminate_27 rfl (by decide)).trans ?_
        exact s_zret0 mc_80 dX6_eliminate_28 mt_80
theorem b_80_48 {X : Ctx} {d : Nat} (x0 : Nat) (x1 : Int32) (v2 : Option Value) (v3 : Option Value) (x4 : Int32) (v5 : Option Value) (x6 : Int64) (x8 : Int32) (v9 : Option Value) (v10 : Option Value) (v11 : Option Value) (v12 : Option Value)  (h : Hp) : sem (X, K X d) 80 48 [some (.ref x0), some (.int x1), v2, v3, some (.int x4), v5, some (.long x6), none, some (.int x8), v9, v10, v11, v12] [] h = if x1 ≤ x8 then sem (X, K X d) 80 5 [some (.ref x0), some (.int x1), some (.long x6), none, some (.int (x4 + 1)), v5, some (.long x6), none, some (.int x8), v9, v10, v11, v12] [] h else gR h 6 x0 0 fun g1 => aR h g1 x8 fun g2 => aJ h g2 x4 fun g3 => sem (X, K X d) 80 73 [some (.ref x0), some (.int x1), v2, v3, some (.int x4), v5, some (.long x6), none, some (.int x8), some (.ref g2), some (.long g3), none, some (.int 0)] [] h := by
  refine (s_iload 50 mc_80 dX6_eliminate_48 rfl rfl).trans ?_
  refine (s_iload_n 51 mc_80 dX6_eliminate_50 rfl rfl rfl).trans ?_
  refine (s_icmp_ge 122 54 mc_80 dX6_eliminate_51 rfl rfl).trans ?_
  refine ite_c ?_ ?_
  · skip
    refine (s_lload 124 mc_80 dX6_eliminate_122 rfl rfl rfl).trans ?_
    refine (s_lstore_n 125 mc_80 dX6_eliminate_124 rfl rfl (Nat.le_of_ble_eq_true rfl) rfl).trans ?_
    refine (s_iinc 1 128 mc_80 dX6_eliminate_125 rfl rfl (Nat.le_of_ble_eq_true rfl) (by decide) rfl).trans ?_
    refine (s_goto 5 mc_80 dX6_eliminate_128 rfl).trans ?_
    rfl
  · skip
    refine (s_aload_n 55 mc_80 dX6_eliminate_54 rfl rfl rfl).trans ?_
    refine (s_getfR 58 mc_80 dX6_eliminate_55 rfl mo_80 fs_6_11 ff_6_11 rfl).trans ?_
    refine gR_c fun g1 => ?_
    refine (s_iload 60 mc_80 dX6_eliminate_58 rfl rfl).trans ?_
    refine (s_aaload 61 mc_80 dX6_eliminate_60 rfl).trans ?_
    refine aR_c fun g2 => ?_
    refine (s_astore 63 mc_80 dX6_eliminate_61 rfl (Nat.le_of_ble_eq_true rfl) rfl).trans ?_
    refine (s_aload 65 mc_80 dX6_eliminate_63 rfl rfl).trans ?_
    refine (s_iload 67 mc_80 dX6_eliminate_65 rfl rfl).trans ?_
    refine (s_laload 68 mc_80 dX6_eliminate_67 rfl).trans ?_
    refine aJ_c fun g3 => ?_
    refine (s_lstore 70 mc_80 dX6_eliminate_68 rfl (Nat.le_of_ble_eq_true rfl) rfl).trans ?_
    refine (s_iconst 71 0 mc_80 dX6_eliminate_70 rfl (by decide)).trans ?_
    refine (s_istore 73 mc_80 dX6_eliminate_71 rfl (Nat.le_of_ble_eq_true rfl) rfl).trans ?_
    rfl
theorem b_80_73 {X : Ctx} {d : Nat} (v0 : Option Value) (x1 : Int32) (x2 : Int64) (x4 : Int32) (x5 : Nat) (x6 : Int64) (x8 : Int32) (x9 : Nat) (x10 : Int64) (x12 : Int32)  (h : Hp) : sem (X, K X d) 80 73 [v0, some (.int x1), some (.long x2), none, some (.int x4), some (.ref x5), some (.long x6), none, some (.int x8), some (.ref x9), some (.long x10), none, some (.int x12)] [] h = if x1 < x12 then sem (X, K X d) 80 48 [v0, some (.int x1), some (.long x2), none, some (.int x4), some (.ref x5), some (.long x6), none, some (.int (x8 + 1)), some (.ref x9), some (.long x10), none, some (.int x12)] [] h else if x8 = x4 then sem (X, K X d) 80 48 [v0, some (.int x1), some (.long x2), none, some (.int x4), some (.ref x5), some (.long x6), none, some (.int (x8 + 1)), some (.ref x9), some (.long x10), none, some (.int x12)] [] h else aJ h x9 x12 fun g1 => aJ h x5 x12 fun g2 => gd (¬ x2 = 0) (wJ h x9 x12 (((g1 * x6) - (x10 * g2)) / x2) fun h1 => sem (X, K X d) 80 73 [v0, some (.int x1), some (.long x2), none, some (.int x4), some (.ref x5), some (.long x6), none, some (.int x8), some (.ref x9), some (.long x10), none, some (.int (x12 + 1))] [] h1) := by
  refine (s_iload 75 mc_80 dX6_eliminate_73 rfl rfl).trans ?_
  refine (s_iload_n 76 mc_80 dX6_eliminate_75 rfl rfl rfl).trans ?_
  refine (s_icmp_gt 116 79 mc_80 dX6_eliminate_76 rfl rfl).trans ?_
  refine ite_c ?_ ?_
  · skip
    refine (s_iinc 1 119 mc_80 dX6_eliminate_116 rfl rfl (Nat.le_of_ble_eq_true rfl) (by decide) rfl).trans ?_
    refine (s_goto 48 mc_80 dX6_eliminate_119 rfl).trans ?_
    rfl
  · skip
    refine (s_iload 81 mc_80 dX6_eliminate_79 rfl rfl).trans ?_
    refine (s_iload 83 mc_80 dX6_eliminate_81 rfl rfl).trans ?_
    refine (s_icmp_eq 116 86 mc_80 dX6_eliminate_83 rfl rfl).trans ?_
    refine ite_c ?_ ?_
    · skip
      refine (s_iinc 1 119 mc_80 dX6_eliminate_116 rfl rfl (Nat.le_of_ble_eq_true rfl) (by decide) rfl).trans ?_
      refine (s_goto 48 mc_80 dX6_eliminate_119 rfl).trans ?_
      rfl
    · skip
      refine (s_aload 88 mc_80 dX6_eliminate_86 rfl rfl).trans ?_
      refine (s_iload 90 mc_80 dX6_eliminate_88 rfl rfl).trans ?_
      refine (s_aload 92 mc_80 dX6_eliminate_90 rfl rfl).trans ?_
      refine (s_iload 94 mc_80 dX6_eliminate_92 rfl rfl).trans ?_
      refine (s_laload 95 mc_80 dX6_eliminate_94 rfl).trans ?_
      refine aJ_c fun g1 => ?_
      refine (s_lload 97 mc_80 dX6_eliminate_95 rfl rfl rfl).trans ?_
      refine (s_lmul 98 mc_80 dX6_eliminate_97 rfl).trans ?_
      refine (s_lload 100 mc_80 dX6_eliminate_98 rfl rfl rfl).trans ?_
      refine (s_aload 102 mc_80 dX6_eliminate_100 rfl rfl).trans ?_
      refine (s_iload 104 mc_80 dX6_eliminate_102 rfl rfl).trans ?_
      refine (s_laload 105 mc_80 dX6_eliminate_104 rfl).trans ?_
      refine aJ_c fun g2 => ?_
      refine (s_lmul 106 mc_80 dX6_eliminate_105 rfl).trans ?_
      refine (s_lsub 107 mc_80 dX6_eliminate_106 rfl).trans ?_
      refine (s_lload_n 108 mc_80 dX6_eliminate_107 rfl rfl rfl rfl).trans ?_
      refine (s_ldiv 109 mc_80 dX6_eliminate_108 rfl).trans ?_
      refine gd_c ?_
      refine (s_lastore 110 mc_80 dX6_eliminate_109 rfl).trans ?_
      refine wJ_c fun h1 => ?_
      refine (s_iinc 1 113 mc_80 dX6_eliminate_110 rfl rfl (Nat.le_of_ble_eq_true rfl) (by decide) rfl).trans ?_
      refine (s_goto 73 mc_80 dX6_eliminate_113 rfl).trans ?_
      rfl
/-- FiveLands$Ring.bringPivot(II)Z -/
theorem k_81 {X : Ctx} {d : Nat} (x0 : Nat) (x1 : Int32) (x2 : Int32) (h : Hp) : K X (d + 1) 81 [.ref x0, .int x1, .int x2] h = sem (X, K X d) 81 2 [some (.ref x0), some (.int x1), some (.int x2), some (.int x1), none] [] h := by
  show sem (X, K X d) 81 0 [some (.ref x0), some (.int x1), some (.int x2), none, none] [] h = _
  refine (s_iload_n 1 mc_81 dX6_bringPivot_0 rfl rfl rfl).trans ?_
  refine (s_istore_n 2 mc_81 dX6_bringPivot_1 rfl rfl (Nat.le_of_ble_eq_true rfl) rfl).trans ?_
  rfl
theorem b_81_2 {X : Ctx} {d : Nat} (x0 : Nat) (x1 : Int32) (x2 : Int32) (x3 : Int32) (v4 : Option Value)  (h : Hp) : sem (X, K X d) 81 2 [some (.ref x0), some (.int x1), some (.int x2), some (.int x3), v4] [] h = if x2 ≤ x3 then some (some (.int 0), h) else gR h 6 x0 0 fun g1 => aR h g1 x3 fun g2 => aJ h g2 x1 fun g3 => if (lg_cmp g3 0) = 0 then sem (X, K X d) 81 2 [some (.ref x0), some (.int x1), some (.int x2), some (.int (x3 + 1)), v4] [] h else gR h 6 x0 0 fun g4 => aR h g4 x3 fun g5 => gR h 6 x0 0 fun g6 => gR h 6 x0 0 fun g7 => aR h g7 x1 fun g8 => gd (GA h g6) (wR h g6 x3 g8 fun h1 => gR h1 6 x0 0 fun g9 => gd (GA h1 g9) (wR h1 g9 x1 g5 fun h2 => some (some (.int 1), h2))) := by
  refine (s_iload_n 3 mc_81 dX6_bringPivot_2 rfl rfl rfl).trans ?_
  refine (s_iload_n 4 mc_81 dX6_bringPivot_3 rfl rfl rfl).trans ?_
  refine (s_icmp_ge 56 7 mc_81 dX6_bringPivot_4 rfl rfl).trans ?_
  refine ite_c ?_ ?_
  · skip
    refine (s_iconst 57 0 mc_81 dX6_bringPivot_56 rfl (by decide)).trans ?_
    exact s_zret0 mc_81 dX6_bringPivot_57 mt_81
  · skip
    refine (s_aload_n 8 mc_81 dX6_bringPivot_7 rfl rfl rfl).trans ?_
    refine (s_getfR 11 mc_81 dX6_bringPivot_8 rfl mo_81 fs_6_11 ff_6_11 rfl).trans ?_
    refine gR_c fun g1 => ?_
    refine (s_iload_n 12 mc_81 dX6_bringPivot_11 rfl rfl rfl).trans ?_
    refine (s_aaload 13 mc_81 dX6_bringPivot_12 rfl).trans ?_
    refine aR_c fun g2 => ?_
    refine (s_iload_n 14 mc_81 dX6_bringPivot_13 rfl rfl rfl).trans ?_
    refine (s_laload 15 mc_81 dX6_bringPivot_14 rfl).trans ?_
    refine aJ_c fun g3 => ?_
    refine (s_lconst 16 0 mc_81 dX6_bringPivot_15 rfl (by decide)).trans ?_
    refine (s_lcmp 17 mc_81 dX6_bringPivot_16 rfl).trans ?_
    refine (s_if_eq 50 20 mc_81 dX6_bringPivot_17 rfl rfl).trans ?_
    refine ite_c ?_ ?_
    · skip
      refine (s_iinc 1 53 mc_81 dX6_bringPivot_50 rfl rfl (Nat.le_of_ble_eq_true rfl) (by decide) rfl).trans ?_
      refine (s_goto 2 mc_81 dX6_bringPivot_53 rfl).trans ?_
      rfl
    · skip
      refine (s_aload_n 21 mc_81 dX6_bringPivot_20 rfl rfl rfl).trans ?_
      refine (s_getfR 24 mc_81 dX6_bringPivot_21 rfl mo_81 fs_6_11 ff_6_11 rfl).trans ?_
      refine gR_c fun g4 => ?_
      refine (s_iload_n 25 mc_81 dX6_bringPivot_24 rfl rfl rfl).trans ?_
      refine (s_aaload 26 mc_81 dX6_bringPivot_25 rfl).trans ?_
      refine aR_c fun g5 => ?_
      refine (s_astore 28 mc_81 dX6_bringPivot_26 rfl (Nat.le_of_ble_eq_true rfl) rfl).trans ?_
      refine (s_aload_n 29 mc_81 dX6_bringPivot_28 rfl rfl rfl).trans ?_
      refine (s_getfR 32 mc_81 dX6_bringPivot_29 rfl mo_81 fs_6_11 ff_6_11 rfl).trans ?_
      refine gR_c fun g6 => ?_
      refine (s_iload_n 33 mc_81 dX6_bringPivot_32 rfl rfl rfl).trans ?_
      refine (s_aload_n 34 mc_81 dX6_bringPivot_33 rfl rfl rfl).trans ?_
      refine (s_getfR 37 mc_81 dX6_bringPivot_34 rfl mo_81 fs_6_11 ff_6_11 rfl).trans ?_
      refine gR_c fun g7 => ?_
      refine (s_iload_n 38 mc_81 dX6_bringPivot_37 rfl rfl rfl).trans ?_
      refine (s_aaload 39 mc_81 dX6_bringPivot_38 rfl).trans ?_
      refine aR_c fun g8 => ?_
      refine (s_aastoreN 40 mc_81 dX6_bringPivot_39 rfl mq_81).trans ?_
      refine gd_c ?_
      refine wR_c fun h1 => ?_
      refine (s_aload_n 41 mc_81 dX6_bringPivot_40 rfl rfl rfl).trans ?_
      refine (s_getfR 44 mc_81 dX6_bringPivot_41 rfl mo_81 fs_6_11 ff_6_11 rfl).trans ?_
      refine gR_c fun g9 => ?_
      refine (s_iload_n 45 mc_81 dX6_bringPivot_44 rfl rfl rfl).trans ?_
      refine (s_aload 47 mc_81 dX6_bringPivot_45 rfl rfl).trans ?_
      refine (s_aastoreN 48 mc_81 dX6_bringPivot_47 rfl mq_81).trans ?_
      refine gd_c ?_
      refine wR_c fun h2 => ?_
      refine (s_iconst 49 1 mc_81 dX6_bringPivot_48 rfl (by decide)).trans ?_
      exact s_zret1 mc_81 dX6_bringPivot_49 mt_81
/-- FiveLands$Ring.othersTakeNothing(II[I[J)Z -/
theorem k_82 {X : Ctx} {d : Nat} (x0 : Nat) (x1 : Int32) (x2 : Int32) (x3 : Nat) (x4 : Nat) (h : Hp) : K X (d + 1) 82 [.ref x0, .int x1, .int x2, .ref x3, .ref x4] h = sem (X, K X d) 82 3 [some (.ref x0), some (.int x1), some (.int x2), some (.ref x3), some (.ref x4), some (.int 0), none, none, none] [] h := by
  show sem (X, K X d) 82 0 [some (.ref x0), some (.int x1), some (.int x2), some (.ref x3), some (.ref x4), none, none, none, none] [] h = _
  refine (s_iconst 1 0 mc_82 dX6_othersTakeNothing_0 rfl (by decide)).trans ?_
  refine (s_istore 3 mc_82 dX6_othersTakeNothing_1 rfl (Nat.le_of_ble_eq_true rfl) rfl).trans ?_
  rfl
theorem b_82_3 {X : Ctx} {d : Nat} (x0 : Nat) (x1 : Int32) (x2 : Int32) (v3 : Option Value) (x4 : Nat) (x5 : Int32) (v6 : Option Value) (v7 : Option Value) (v8 : Option Value)  (h : Hp) : sem (X, K X d) 82 3 [some (.ref x0), some (.int x1), some (.int x2), v3, some (.ref x4), some (.int x5), v6, v7, v8] [] h = if 6 ≤ x5 then some (some (.int 1), h) else bI (K X d 140 [.long ((x2 &&& (x1 ^^^ (-1))) : Int32).toInt64, .int x5] h) fun r1 h1 => if r1 = 0 then sem (X, K X d) 82 3 [some (.ref x0), some (.int x1), some (.int x2), v3, some (.ref x4), some (.int (x5 + 1)), v6, v7, v8] [] h1 else aJ h1 x4 x5 fun g2 => gJ h1 6 x0 3 fun g3 => sem (X, K X d) 82 39 [some (.ref x0), some (.int x1), some (.int x2), v3, some (.ref x4), some (.int x5), some (.long (g2 * g3)), none, some (.int 0)] [] h1 := by
  refine (s_iload 5 mc_82 dX6_othersTakeNothing_3 rfl rfl).trans ?_
  refine (s_bipush 7 6 mc_82 dX6_othersTakeNothing_5 rfl (by decide)).trans ?_
  refine (s_icmp_ge 98 10 mc_82 dX6_othersTakeNothing_7 rfl rfl).trans ?_
  refine ite_c ?_ ?_
  · skip
    refine (s_iconst 99 1 mc_82 dX6_othersTakeNothing_98 rfl (by decide)).trans ?_
    exact s_zret1 mc_82 dX6_othersTakeNothing_99 mt_82
  · skip
    refine (s_iload_n 11 mc_82 dX6_othersTakeNothing_10 rfl rfl rfl).trans ?_
    refine (s_iload_n 12 mc_82 dX6_othersTakeNothing_11 rfl rfl rfl).trans ?_
    refine (s_iconst 13 (-1) mc_82 dX6_othersTakeNothing_12 rfl (by decide)).trans ?_
    refine (s_ixor 14 mc_82 dX6_othersTakeNothing_13 rfl).trans ?_
    refine (s_iand 15 mc_82 dX6_othersTakeNothing_14 rfl).trans ?_
    refine (s_i2l 16 mc_82 dX6_othersTakeNothing_15 rfl).trans ?_
    refine (s_iload 18 mc_82 dX6_othersTakeNothing_16 rfl rfl).trans ?_
    refine (s_istI 21 mc_82 dX6_othersTakeNothing_18 rfl mo_82 mm_6_42 (by decide) ms_140 mr_140 ma_140 (Nat.le_of_ble_eq_true rfl) rfl rfl (Nat.le_of_ble_eq_true rfl)).trans ?_
    refine bI_c fun r1 h1 => ?_
    refine (s_if_eq 92 24 mc_82 dX6_othersTakeNothing_21 rfl rfl).trans ?_
    refine ite_c ?_ ?_
    · skip
      refine (s_iinc 1 95 mc_82 dX6_othersTakeNothing_92 rfl rfl (Nat.le_of_ble_eq_true rfl) (by decide) rfl).trans ?_
      refine (s_goto 3 mc_82 dX6_othersTakeNothing_95 rfl).trans ?_
      rfl
    · skip
      refine (s_aload 26 mc_82 dX6_othersTakeNothing_24 rfl rfl).trans ?_
      refine (s_iload 28 mc_82 dX6_othersTakeNothing_26 rfl rfl).trans ?_
      refine (s_laload 29 mc_82 dX6_othersTakeNothing_28 rfl).trans ?_
      refine aJ_c fun g2 => ?_
      refine (s_aload_n 30 mc_82 dX6_othersTakeNothing_29 rfl rfl rfl).trans ?_
      refine (s_getfJ 33 mc_82 dX6_othersTakeNothing_30 rfl mo_82 fs_6_24 ff_6_24 rfl).trans ?_
      refine gJ_c fun g3 => ?_
      refine (s_lmul 34 mc_82 dX6_othersTakeNothing_33 rfl).trans ?_
      refine (s_lstore 36 mc_82 dX6_othersTakeNothing_34 rfl (Nat.le_of_ble_eq_true rfl) rfl).trans ?_
      refine (s_iconst 37 0 mc_82 dX6_othersTakeNothing_36 rfl (by decide)).trans ?_
      refine (s_istore 39 mc_82 dX6_othersTakeNothing_37 rfl (Nat.le_of_ble_eq_true rfl) rfl).trans ?_
      rfl
theorem b_82_39 {X : Ctx} {d : Nat} (x0 : Nat) (x1 : Int32) (v2 : Option Value) (x3 : Nat) (v4 : Option Value) (x5 : Int32) (x6 : Int64) (x8 : Int32)  (h : Hp) : sem (X, K X d) 82 39 [some (.ref x0), some (.int x1), v2, some (.ref x3), v4, some (.int x5), some (.long x6), none, some (.int x8)] [] h = if 6 ≤ x8 then if (lg_cmp x6 0) ≤ 0 then sem (X, K X d) 82 3 [some (.ref x0), some (.int x1), v2, some (.ref x3), v4, some (.int (x5 + 1)), some (.long x6), none, some (.int x8)] [] h else some (some (.int 0), h) else aI X h x3 x5 fun g1 => bI (K X d 140 [.long ((x1 &&& g1) : Int32).toInt64, .int x8] h) fun r2 h1 => if r2 = 0 then sem (X, K X d) 82 39 [some (.ref x0), some (.int x1), v2, some (.ref x3), v4, some (.int x5), some (.long (x6 - 0)), none, some (.int (x8 + 1))] [] h1 else gR h1 6 x0 2 fun g3 => aJ h1 g3 x8 fun g4 => sem (X, K X d) 82 39 [some (.ref x0), some (.int x1), v2, some (.ref x3), v4, some (.int x5), some (.long (x6 - g4)), none, some (.int (x8 + 1))] [] h1 := by
  refine (s_iload 41 mc_82 dX6_othersTakeNothing_39 rfl rfl).trans ?_
  refine (s_bipush 43 6 mc_82 dX6_othersTakeNothing_41 rfl (by decide)).trans ?_
  refine (s_icmp_ge 83 46 mc_82 dX6_othersTakeNothing_43 rfl rfl).trans ?_
  refine ite_c ?_ ?_
  · skip
    refine (s_lload 85 mc_82 dX6_othersTakeNothing_83 rfl rfl rfl).trans ?_
    refine (s_lconst 86 0 mc_82 dX6_othersTakeNothing_85 rfl (by decide)).trans ?_
    refine (s_lcmp 87 mc_82 dX6_othersTakeNothing_86 rfl).trans ?_
    refine (s_if_le 92 90 mc_82 dX6_othersTakeNothing_87 rfl rfl).trans ?_
    refine ite_c ?_ ?_
    · skip
      refine (s_iinc 1 95 mc_82 dX6_othersTakeNothing_92 rfl rfl (Nat.le_of_ble_eq_true rfl) (by decide) rfl).trans ?_
      refine (s_goto 3 mc_82 dX6_othersTakeNothing_95 rfl).trans ?_
      rfl
    · skip
      refine (s_iconst 91 0 mc_82 dX6_othersTakeNothing_90 rfl (by decide)).trans ?_
      exact s_zret0 mc_82 dX6_othersTakeNothing_91 mt_82
  · skip
    refine (s_lload 48 mc_82 dX6_othersTakeNothing_46 rfl rfl rfl).trans ?_
    refine (s_iload_n 49 mc_82 dX6_othersTakeNothing_48 rfl rfl rfl).trans ?_
    refine (s_aload_n 50 mc_82 dX6_othersTakeNothing_49 rfl rfl rfl).trans ?_
    refine (s_iload 52 mc_82 dX6_othersTakeNothing_50 rfl rfl).trans ?_
    refine (s_iaload 53 mc_82 dX6_othersTakeNothing_52 rfl).trans ?_
    refine aI_c fun g1 => ?_
    refine (s_iand 54 mc_82 dX6_othersTakeNothing_53 rfl).trans ?_
    refine (s_i2l 55 mc_82 dX6_othersTakeNothing_54 rfl).trans ?_
    refine (s_iload 57 mc_82 dX6_othersTakeNothing_55 rfl rfl).trans ?_
    refine (s_istI 60 mc_82 dX6_othersTakeNothing_57 rfl mo_82 mm_6_42 (by decide) ms_140 mr_140 ma_140 (Nat.le_of_ble_eq_true rfl) rfl rfl (Nat.le_of_ble_eq_true rfl)).trans ?_
    refine bI_c fun r2 h1 => ?_
    refine (s_if_eq 73 63 mc_82 dX6_othersTakeNothing_60 rfl rfl).trans ?_
    refine ite_c ?_ ?_
    · skip
      refine (s_lconst 74 0 mc_82 dX6_othersTakeNothing_73 rfl (by decide)).trans ?_
      refine (s_lsub 75 mc_82 dX6_othersTakeNothing_74 rfl).trans ?_
      refine (s_lstore 77 mc_82 dX6_othersTakeNothing_75 rfl (Nat.le_of_ble_eq_true rfl) rfl).trans ?_
      refine (s_iinc 1 80 mc_82 dX6_othersTakeNothing_77 rfl rfl (Nat.le_of_ble_eq_true rfl) (by decide) rfl).trans ?_
      refine (s_goto 39 mc_82 dX6_othersTakeNothing_80 rfl).trans ?_
      rfl
    · skip
      refine (s_aload_n 64 mc_82 dX6_othersTakeNothing_63 rfl rfl rfl).trans ?_
      refine (s_getfR 67 mc_82 dX6_othersTakeNothing_64 rfl mo_82 fs_6_20 ff_6_20 rfl).trans ?_
      refine gR_c fun g3 => ?_
      refine (s_iload 69 mc_82 dX6_othersTakeNothing_67 rfl rfl).trans ?_
      refine (s_laload 70 mc_82 dX6_othersTakeNothing_69 rfl).trans ?_
      refine aJ_c fun g4 => ?_
      refine (s_goto 74 mc_82 dX6_othersTakeNothing_70 rfl).trans ?_
      refine (s_lsub 75 mc_82 dX6_othersTakeNothing_74 rfl).trans ?_
      refine (s_lstore 77 mc_82 dX6_othersTakeNothing_75 rfl (Nat.le_of_ble_eq_true rfl) rfl).trans ?_
      refine (s_iinc 1 80 mc_82 dX6_othersTakeNothing_77 rfl rfl (Nat.le_of_ble_eq_true rfl) (by decide) rfl).trans ?_
      refine (s_goto 39 mc_82 dX6_othersTakeNothing_80 rfl).trans ?_
      rfl
/-- FiveLands$Ring.told(I)J -/
theorem k_83 {X : Ctx} {d : Nat} (x0 : Nat) (x1 : Int32) (h : Hp) : K X (d + 1) 83 [.ref x0, .int x1] h = gJ h 6 x0 3 fun g1 => if ¬ (lg_cmp g1 0) = 0 then gR h 6 x0 2 fun g2 => aJ h g2 x1 fun g3 => gJ h 6 x0 3 fun g4 => gd (¬ g4 = 0) (some (some (.long (g3 / g4)), h)) else some (some (.long 0), h) := by
  show sem (X, K X d) 83 0 [some (.ref x0), some (.int x1)] [] h = _
  refine (s_aload_n 1 mc_83 dX6_told_0 rfl rfl rfl).trans ?_
  refine (s_getfJ 4 mc_83 dX6_told_1 rfl mo_83 fs_6_24 ff_6_24 rfl).trans ?_
  refine gJ_c fun g1 => ?_
  refine (s_lconst 5 0 mc_83 dX6_told_4 rfl (by decide)).trans ?_
  refine (s_lcmp 6 mc_83 dX6_told_5 rfl).trans ?_
  refine (s_if_ne 13 9 mc_83 dX6_told_6 rfl rfl).trans ?_
  refine ite_c ?_ ?_
  · skip
    refine (s_aload_n 14 mc_83 dX6_told_13 rfl rfl rfl).trans ?_
    refine (s_getfR 17 mc_83 dX6_told_14 rfl mo_83 fs_6_20 ff_6_20 rfl).trans ?_
    refine gR_c fun g2 => ?_
    refine (s_iload_n 18 mc_83 dX6_told_17 rfl rfl rfl).trans ?_
    refine (s_laload 19 mc_83 dX6_told_18 rfl).trans ?_
    refine aJ_c fun g3 => ?_
    refine (s_aload_n 20 mc_83 dX6_told_19 rfl rfl rfl).trans ?_
    refine (s_getfJ 23 mc_83 dX6_told_20 rfl mo_83 fs_6_24 ff_6_24 rfl).trans ?_
    refine gJ_c fun g4 => ?_
    refine (s_ldiv 24 mc_83 dX6_told_23 rfl).trans ?_
    refine gd_c ?_
    exact s_lret mc_83 dX6_told_24 mt_83
  · skip
    refine (s_lconst 10 0 mc_83 dX6_told_9 rfl (by decide)).trans ?_
    refine (s_goto 24 mc_83 dX6_told_10 rfl).trans ?_
    exact s_lret mc_83 dX6_told_24 mt_83
/-- FiveLands$Stay.<init>()V -/
theorem k_84 {X : Ctx} {d : Nat} (x0 : Nat) (h : Hp) : K X (d + 1) 84 [.ref x0] h = letH (hN h) (alc h (50, 6) 6) fun a1 h1 => fR h1 7 x0 0 a1 fun h2 => fI h2 7 x0 3 (-1) fun h3 => fI h3 7 x0 4 (-1) fun h4 => some (none, h4) := by
  show sem (X, K X d) 84 0 [some (.ref x0)] [] h = _
  refine (s_aload_n 1 mc_84 dX7_init_0 rfl rfl rfl).trans ?_
  refine (s_obj 4 mc_84 dX7_init_1 rfl mo_84 mm_7_3 mq_84 (Nat.le_of_ble_eq_true rfl)).trans ?_
  refine (s_aload_n 5 mc_84 dX7_init_4 rfl rfl rfl).trans ?_
  refine (s_bipush 7 6 mc_84 dX7_init_5 rfl (by decide)).trans ?_
  refine (s_newI 9 mc_84 dX7_init_7 rfl mq_84 (by decide) rfl (by decide)).trans ?_
  refine letH_i (F := fun a1 h1 => sem (X, K X d) 84 9 [some (.ref x0)] [.ref a1, .ref x0] h1) (hN h) (alc h (50, 6) 6) ?_
  intro a1 h1
  refine (s_putfR 12 mc_84 dX7_init_9 rfl mo_84 ff_7_9 rfl (Or.inr ⟨mo_84, mn_84⟩)).trans ?_
  refine fR_c fun h2 => ?_
  refine (s_aload_n 13 mc_84 dX7_init_12 rfl rfl rfl).trans ?_
  refine (s_iconst 14 (-1) mc_84 dX7_init_13 rfl (by decide)).trans ?_
  refine (s_putfI 17 mc_84 dX7_init_14 rfl mo_84 ff_7_15 rfl (Or.inl rfl)).trans ?_
  refine fI_c fun h3 => ?_
  refine (s_aload_n 18 mc_84 dX7_init_17 rfl rfl rfl).trans ?_
  refine (s_iconst 19 (-1) mc_84 dX7_init_18 rfl (by decide)).trans ?_
  refine (s_putfI 22 mc_84 dX7_init_19 rfl mo_84 ff_7_19 rfl (Or.inl rfl)).trans ?_
  refine fI_c fun h4 => ?_
  exact s_vret mc_84 dX7_init_22 mt_84
/-- FiveLands$Stay.become(LFiveLands$Stay;)V -/
theorem k_85 {X : Ctx} {d : Nat} (x0 : Nat) (x1 : Nat) (h : Hp) : K X (d + 1) 85 [.ref x0, .ref x1] h = gR h 7 x1 0 fun g1 => gR h 7 x0 0 fun g2 => acp h g1 0 g2 0 6 (Nat.le_of_ble_eq_true rfl : (([] : List Value).map Value.category).sum ≤ 8) fun h1 => gI h1 7 x1 1 fun g3 => fI h1 7 x0 1 g3 fun h2 => gI h2 7 x1 2 fun g4 => fI h2 7 x0 2 g4 fun h3 => gI h3 7 x1 3 fun g5 => fI h3 7 x0 3 g5 fun h4 => gI h4 7 x1 4 fun g6 => fI h4 7 x0 4 g6 fun h5 => some (none, h5) := by
  show sem (X, K X d) 85 0 [some (.ref x0), some (.ref x1)] [] h = _
  refine (s_aload_n 1 mc_85 dX7_become_0 rfl rfl rfl).trans ?_
  refine (s_getfR 4 mc_85 dX7_become_1 rfl mo_85 fs_7_9 ff_7_9 rfl).trans ?_
  refine gR_c fun g1 => ?_
  refine (s_iconst 5 0 mc_85 dX7_become_4 rfl (by decide)).trans ?_
  refine (s_aload_n 6 mc_85 dX7_become_5 rfl rfl rfl).trans ?_
  refine (s_getfR 9 mc_85 dX7_become_6 rfl mo_85 fs_7_9 ff_7_9 rfl).trans ?_
  refine gR_c fun g2 => ?_
  refine (s_iconst 10 0 mc_85 dX7_become_9 rfl (by decide)).trans ?_
  refine (s_bipush 12 6 mc_85 dX7_become_10 rfl (by decide)).trans ?_
  refine (s_cpyI 15 mc_85 dX7_become_12 rfl mo_85 mm_7_22).trans ?_
  refine acp_i (F := fun h1 => sem (X, K X d) 85 15 [some (.ref x0), some (.ref x1)] [] h1) ?_
  intro h1
  refine (s_aload_n 16 mc_85 dX7_become_15 rfl rfl rfl).trans ?_
  refine (s_aload_n 17 mc_85 dX7_become_16 rfl rfl rfl).trans ?_
  refine (s_getfI 20 mc_85 dX7_become_17 rfl mo_85 fs_7_28 ff_7_28 (Or.inl rfl)).trans ?_
  refine gI_c fun g3 => ?_
  refine (s_putfI 23 mc_85 dX7_become_20 rfl mo_85 ff_7_28 rfl (Or.inl rfl)).trans ?_
  refine fI_c fun h2 => ?_
  refine (s_aload_n 24 mc_85 dX7_become_23 rfl rfl rfl).trans ?_
  refine (s_aload_n 25 mc_85 dX7_become_24 rfl rfl rfl).trans ?_
  refine (s_getfI 28 mc_85 dX7_become_25 rfl mo_85 fs_7_31 ff_7_31 (Or.inl rfl)).trans ?_
  refine gI_c fun g4 => ?_
  refine (s_putfI 31 mc_85 dX7_become_28 rfl mo_85 ff_7_31 rfl (Or.inl rfl)).trans ?_
  refine fI_c fun h3 => ?_
  refine (s_aload_n 32 mc_85 dX7_become_31 rfl rfl rfl).trans ?_
  refine (s_aload_n 33 mc_85 dX7_become_32 rfl rfl rfl).trans ?_
  refine (s_getfI 36 mc_85 dX7_become_33 rfl mo_85 fs_7_15 ff_7_15 (Or.inl rfl)).trans ?_
  refine gI_c fun g5 => ?_
  refine (s_putfI 39 mc_85 dX7_become_36 rfl mo_85 ff_7_15 rfl (Or.inl rfl)).trans ?_
  refine fI_c fun h4 => ?_
  refine (s_aload_n 40 mc_85 dX7_become_39 rfl rfl rfl).trans ?_
  refine (s_aload_n 41 mc_85 dX7_become_40 rfl rfl rfl).trans ?_
  refine (s_getfI 44 mc_85 dX7_become_41 rfl mo_85 fs_7_19 ff_7_19 (Or.inl rfl)).trans ?_
  refine gI_c fun g6 => ?_
  refine (s_putfI 47 mc_85 dX7_become_44 rfl mo_85 ff_7_19 rfl (Or.inl rfl)).trans ?_
  refine fI_c fun h5 => ?_
  exact s_vret mc_85 dX7_become_47 mt_85
/-- FiveLands$Stay.shift(III)V -/
theorem k_86 {X : Ctx} {d : Nat} (x0 : Nat) (x1 : Int32) (x2 : Int32) (x3 : Int32) (h : Hp) : K X (d + 1) 86 [.ref x0, .int x1, .int x2, .int x3] h = gR h 7 x0 0 fun g1 => aI X h g1 x1 fun g2 => wI h g1 x1 (g2 - x3) fun h1 => gR h1 7 x0 0 fun g3 => aI X h1 g3 x2 fun g4 => wI h1 g3 x2 (g4 + x3) fun h2 => some (none, h2) := by
  show sem (X, K X d) 86 0 [some (.ref x0), some (.int x1), some (.int x2), some (.int x3)] [] h = _
  refine (s_aload_n 1 mc_86 dX7_shift_0 rfl rfl rfl).trans ?_
  refine (s_getfR 4 mc_86 dX7_shift_1 rfl mo_86 fs_7_9 ff_7_9 rfl).trans ?_
  refine gR_c fun g1 => ?_
  refine (s_iload_n 5 mc_86 dX7_shift_4 rfl rfl rfl).trans ?_
  refine (s_dup2 6 mc_86 dX7_shift_5 rfl rfl rfl).trans ?_
  refine (s_iaload 7 mc_86 dX7_shift_6 rfl).trans ?_
  refine aI_c fun g2 => ?_
  refine (s_iload_n 8 mc_86 dX7_shift_7 rfl rfl rfl).trans ?_
  refine (s_isub 9 mc_86 dX7_shift_8 rfl).trans ?_
  refine (s_iastore 10 mc_86 dX7_shift_9 rfl).trans ?_
  refine wI_c fun h1 => ?_
  refine (s_aload_n 11 mc_86 dX7_shift_10 rfl rfl rfl).trans ?_
  refine (s_getfR 14 mc_86 dX7_shift_11 rfl mo_86 fs_7_9 ff_7_9 rfl).trans ?_
  refine gR_c fun g3 => ?_
  refine (s_iload_n 15 mc_86 dX7_shift_14 rfl rfl rfl).trans ?_
  refine (s_dup2 16 mc_86 dX7_shift_15 rfl rfl rfl).trans ?_
  refine (s_iaload 17 mc_86 dX7_shift_16 rfl).trans ?_
  refine aI_c fun g4 => ?_
  refine (s_iload_n 18 mc_86 dX7_shift_17 rfl rfl rfl).trans ?_
  refine (s_iadd 19 mc_86 dX7_shift_18 rfl).trans ?_
  refine (s_iastore 20 mc_86 dX7_shift_19 rfl).trans ?_
  refine wI_c fun h2 => ?_
  exact s_vret mc_86 dX7_shift_20 mt_86
/-- FiveLands$Stay.add(II)V -/
theorem k_87 {X : Ctx} {d : Nat} (x0 : Nat) (x1 : Int32) (x2 : Int32) (h : Hp) : K X (d + 1) 87 [.ref x0, .int x1, .int x2] h = if ¬ x1 = (-1) then gR h 7 x0 0 fun g1 => aI X h g1 x1 fun g2 => wI h g1 x1 (g2 + x2) fun h1 => some (none, h1) else gI h 7 x0 1 fun g3 => fI h 7 x0 1 (g3 + x2) fun h2 => some (none, h2) := by
  show sem (X, K X d) 87 0 [some (.ref x0), some (.int x1), some (.int x2)] [] h = _
  refine (s_iload_n 1 mc_87 dX7_add_0 rfl rfl rfl).trans ?_
  refine (s_iconst 2 (-1) mc_87 dX7_add_1 rfl (by decide)).trans ?_
  refine (s_icmp_ne 18 5 mc_87 dX7_add_2 rfl rfl).trans ?_
  refine ite_c ?_ ?_
  · skip
    refine (s_aload_n 19 mc_87 dX7_add_18 rfl rfl rfl).trans ?_
    refine (s_getfR 22 mc_87 dX7_add_19 rfl mo_87 fs_7_9 ff_7_9 rfl).trans ?_
    refine gR_c fun g1 => ?_
    refine (s_iload_n 23 mc_87 dX7_add_22 rfl rfl rfl).trans ?_
    refine (s_dup2 24 mc_87 dX7_add_23 rfl rfl rfl).trans ?_
    refine (s_iaload 25 mc_87 dX7_add_24 rfl).trans ?_
    refine aI_c fun g2 => ?_
    refine (s_iload_n 26 mc_87 dX7_add_25 rfl rfl rfl).trans ?_
    refine (s_iadd 27 mc_87 dX7_add_26 rfl).trans ?_
    refine (s_iastore 28 mc_87 dX7_add_27 rfl).trans ?_
    refine wI_c fun h1 => ?_
    exact s_vret mc_87 dX7_add_28 mt_87
  · skip
    refine (s_aload_n 6 mc_87 dX7_add_5 rfl rfl rfl).trans ?_
    refine (s_dup 7 mc_87 dX7_add_6 rfl rfl).trans ?_
    refine (s_getfI 10 mc_87 dX7_add_7 rfl mo_87 fs_7_28 ff_7_28 (Or.inl rfl)).trans ?_
    refine gI_c fun g3 => ?_
    refine (s_iload_n 11 mc_87 dX7_add_10 rfl rfl rfl).trans ?_
    refine (s_iadd 12 mc_87 dX7_add_11 rfl).trans ?_
    refine (s_putfI 15 mc_87 dX7_add_12 rfl mo_87 ff_7_28 rfl (Or.inl rfl)).trans ?_
    refine fI_c fun h2 => ?_
    refine (s_goto 28 mc_87 dX7_add_15 rfl).trans ?_
    exact s_vret mc_87 dX7_add_28 mt_87
/-- FiveLands$Stay.fill(I[I)V -/
theorem k_88 {X : Ctx} {d : Nat} (x0 : Nat) (x1 : Int32) (x2 : Nat) (h : Hp) : K X (d + 1) 88 [.ref x0, .int x1, .ref x2] h = gR h 7 x0 0 fun g1 => aI X h g1 x1 fun g2 => wI h x2 0 g2 fun h1 => gI h1 7 x0 2 fun g3 => bI (K X d 140 [.long (g3 : Int32).toInt64, .int x1] h1) fun r4 h2 => if r4 = 0 then sem (X, K X d) 88 28 [some (.ref x0), some (.int x1), some (.ref x2)] [.int 0, .int 1, .ref x2] h2 else sem (X, K X d) 88 28 [some (.ref x0), some (.int x1), some (.ref x2)] [.int 1, .int 1, .ref x2] h2 := by
  show sem (X, K X d) 88 0 [some (.ref x0), some (.int x1), some (.ref x2)] [] h = _
  refine (s_aload_n 1 mc_88 dX7_fill_0 rfl rfl rfl).trans ?_
  refine (s_iconst 2 0 mc_88 dX7_fill_1 rfl (by decide)).trans ?_
  refine (s_aload_n 3 mc_88 dX7_fill_2 rfl rfl rfl).trans ?_
  refine (s_getfR 6 mc_88 dX7_fill_3 rfl mo_88 fs_7_9 ff_7_9 rfl).trans ?_
  refine gR_c fun g1 => ?_
  refine (s_iload_n 7 mc_88 dX7_fill_6 rfl rfl rfl).trans ?_
  refine (s_iaload 8 mc_88 dX7_fill_7 rfl).trans ?_
  refine aI_c fun g2 => ?_
  refine (s_iastore 9 mc_88 dX7_fill_8 rfl).trans ?_
  refine wI_c fun h1 => ?_
  refine (s_aload_n 10 mc_88 dX7_fill_9 rfl rfl rfl).trans ?_
  refine (s_iconst 11 1 mc_88 dX7_fill_10 rfl (by decide)).trans ?_
  refine (s_aload_n 12 mc_88 dX7_fill_11 rfl rfl rfl).trans ?_
  refine (s_getfI 15 mc_88 dX7_fill_12 rfl mo_88 fs_7_31 ff_7_31 (Or.inl rfl)).trans ?_
  refine gI_c fun g3 => ?_
  refine (s_i2l 16 mc_88 dX7_fill_15 rfl).trans ?_
  refine (s_iload_n 17 mc_88 dX7_fill_16 rfl rfl rfl).trans ?_
  refine (s_istI 20 mc_88 dX7_fill_17 rfl mo_88 mm_7_34 (by decide) ms_140 mr_140 ma_140 (Nat.le_of_ble_eq_true rfl) rfl rfl (Nat.le_of_ble_eq_true rfl)).trans ?_
  refine bI_c fun r4 h2 => ?_
  refine (s_if_eq 27 23 mc_88 dX7_fill_20 rfl rfl).trans ?_
  refine ite_c ?_ ?_
  · skip
    refine (s_iconst 28 0 mc_88 dX7_fill_27 rfl (by decide)).trans ?_
    rfl
  · skip
    refine (s_iconst 24 1 mc_88 dX7_fill_23 rfl (by decide)).trans ?_
    refine (s_goto 28 mc_88 dX7_fill_24 rfl).trans ?_
    rfl
theorem b_88_28 {X : Ctx} {d : Nat} (x0 : Nat) (x1 : Int32) (x2 : Nat) (s0 : Nat) (s1 : Int32) (s2 : Int32) (h : Hp) : sem (X, K X d) 88 28 [some (.ref x0), some (.int x1), some (.ref x2)] [.int s2, .int s1, .ref s0] h = wI h s0 s1 s2 fun h1 => gI h1 7 x0 3 fun g1 => if ¬ g1 = x1 then wI h1 x2 2 0 fun h2 => gI h2 7 x0 4 fun g2 => if ¬ g2 = x1 then sem (X, K X d) 88 60 [some (.ref x0), some (.int x1), some (.ref x2)] [.int 0, .int 3, .ref x2] h2 else sem (X, K X d) 88 60 [some (.ref x0), some (.int x1), some (.ref x2)] [.int 1, .int 3, .ref x2] h2 else wI h1 x2 2 1 fun h3 => gI h3 7 x0 4 fun g3 => if ¬ g3 = x1 then sem (X, K X d) 88 60 [some (.ref x0), some (.int x1), some (.ref x2)] [.int 0, .int 3, .ref x2] h3 else sem (X, K X d) 88 60 [some (.ref x0), some (.int x1), some (.ref x2)] [.int 1, .int 3, .ref x2] h3 := by
  refine (s_iastore 29 mc_88 dX7_fill_28 rfl).trans ?_
  refine wI_c fun h1 => ?_
  refine (s_aload_n 30 mc_88 dX7_fill_29 rfl rfl rfl).trans ?_
  refine (s_iconst 31 2 mc_88 dX7_fill_30 rfl (by decide)).trans ?_
  refine (s_aload_n 32 mc_88 dX7_fill_31 rfl rfl rfl).trans ?_
  refine (s_getfI 35 mc_88 dX7_fill_32 rfl mo_88 fs_7_15 ff_7_15 (Or.inl rfl)).trans ?_
  refine gI_c fun g1 => ?_
  refine (s_iload_n 36 mc_88 dX7_fill_35 rfl rfl rfl).trans ?_
  refine (s_icmp_ne 43 39 mc_88 dX7_fill_36 rfl rfl).trans ?_
  refine ite_c ?_ ?_
  · skip
    refine (s_iconst 44 0 mc_88 dX7_fill_43 rfl (by decide)).trans ?_
    refine (s_iastore 45 mc_88 dX7_fill_44 rfl).trans ?_
    refine wI_c fun h2 => ?_
    refine (s_aload_n 46 mc_88 dX7_fill_45 rfl rfl rfl).trans ?_
    refine (s_iconst 47 3 mc_88 dX7_fill_46 rfl (by decide)).trans ?_
    refine (s_aload_n 48 mc_88 dX7_fill_47 rfl rfl rfl).trans ?_
    refine (s_getfI 51 mc_88 dX7_fill_48 rfl mo_88 fs_7_19 ff_7_19 (Or.inl rfl)).trans ?_
    refine gI_c fun g2 => ?_
    refine (s_iload_n 52 mc_88 dX7_fill_51 rfl rfl rfl).trans ?_
    refine (s_icmp_ne 59 55 mc_88 dX7_fill_52 rfl rfl).trans ?_
    refine ite_c ?_ ?_
    · skip
      refine (s_iconst 60 0 mc_88 dX7_fill_59 rfl (by decide)).trans ?_
      rfl
    · skip
      refine (s_iconst 56 1 mc_88 dX7_fill_55 rfl (by decide)).trans ?_
      refine (s_goto 60 mc_88 dX7_fill_56 rfl).trans ?_
      rfl
  · skip
    refine (s_iconst 40 1 mc_88 dX7_fill_39 rfl (by decide)).trans ?_
    refine (s_goto 44 mc_88 dX7_fill_40 rfl).trans ?_
    refine (s_iastore 45 mc_88 dX7_fill_44 rfl).trans ?_
    refine wI_c fun h3 => ?_
    refine (s_aload_n 46 mc_88 dX7_fill_45 rfl rfl rfl).trans ?_
    refine (s_iconst 47 3 mc_88 dX7_fill_46 rfl (by decide)).trans ?_
    refine (s_aload_n 48 mc_88 dX7_fill_47 rfl rfl rfl).trans ?_
    refine (s_getfI 51 mc_88 dX7_fill_48 rfl mo_88 fs_7_19 ff_7_19 (Or.inl rfl)).trans ?_
    refine gI_c fun g3 => ?_
    refine (s_iload_n 52 mc_88 dX7_fill_51 rfl rfl rfl).trans ?_
    refine (s_icmp_ne 59 55 mc_88 dX7_fill_52 rfl rfl).trans ?_
    refine ite_c ?_ ?_
    · skip
      refine (s_iconst 60 0 mc_88 dX7_fill_59 rfl (by decide)).trans ?_
      rfl
    · skip
      refine (s_iconst 56 1 mc_88 dX7_fill_55 rfl (by decide)).trans ?_
      refine (s_goto 60 mc_88 dX7_fill_56 rfl).trans ?_
      rfl
theorem b_88_60 {X : Ctx} {d : Nat} (x0 : Nat) (x1 : Int32) (x2 : Nat) (s0 : Nat) (s1 : Int32) (s2 : Int32) (h : Hp) : sem (X, K X d) 88 60 [some (.ref x0), some (.int x1), some (.ref x2)] [.int s2, .int s1, .ref s0] h = wI h s0 s1 s2 fun h1 => gd (hS h1 x0 = (8, 0)) (bI (K X d 89 [.ref x0, .int x1] h1) fun r1 h2 => wI h2 x2 4 r1 fun h3 => wI h3 x2 5 0 fun h4 => wI h4 x2 6 0 fun h5 => wI h5 x2 7 0 fun h6 => some (none, h6)) := by
  refine (s_iastore 61 mc_88 dX7_fill_60 rfl).trans ?_
  refine wI_c fun h1 => ?_
  refine (s_aload_n 62 mc_88 dX7_fill_61 rfl rfl rfl).trans ?_
  refine (s_iconst 63 4 mc_88 dX7_fill_62 rfl (by decide)).trans ?_
  refine (s_aload_n 64 mc_88 dX7_fill_63 rfl rfl rfl).trans ?_
  refine (s_iload_n 65 mc_88 dX7_fill_64 rfl rfl rfl).trans ?_
  refine (s_iviI 68 mc_88 dX7_fill_65 rfl mo_88 mm_7_38 (by decide) ms_89 mi_89 mr_89 ma_89 mo_89 (by decide) (Nat.le_of_ble_eq_true rfl) rfl rfl (Nat.le_of_ble_eq_true rfl)).trans ?_
  refine gd_c ?_
  refine bI_c fun r1 h2 => ?_
  refine (s_iastore 69 mc_88 dX7_fill_68 rfl).trans ?_
  refine wI_c fun h3 => ?_
  refine (s_aload_n 70 mc_88 dX7_fill_69 rfl rfl rfl).trans ?_
  refine (s_iconst 71 5 mc_88 dX7_fill_70 rfl (by decide)).trans ?_
  refine (s_iconst 72 0 mc_88 dX7_fill_71 rfl (by decide)).trans ?_
  refine (s_iastore 73 mc_88 dX7_fill_72 rfl).trans ?_
  refine wI_c fun h4 => ?_
  refine (s_aload_n 74 mc_88 dX7_fill_73 rfl rfl rfl).trans ?_
  refine (s_bipush 76 6 mc_88 dX7_fill_74 rfl (by decide)).trans ?_
  refine (s_iconst 77 0 mc_88 dX7_fill_76 rfl (by decide)).trans ?_
  refine (s_iastore 78 mc_88 dX7_fill_77 rfl).trans ?_
  refine wI_c fun h5 => ?_
  refine (s_aload_n 79 mc_88 dX7_fill_78 rfl rfl rfl).trans ?_
  refine (s_bipush 81 7 mc_88 dX7_fill_79 rfl (by decide)).trans ?_
  refine (s_iconst 82 0 mc_88 dX7_fill_81 rfl (by decide)).trans ?_
  refine (s_iastore 83 mc_88 dX7_fill_82 rfl).trans ?_
  refine wI_c fun h6 => ?_
  exact s_vret mc_88 dX7_fill_83 mt_88
/-- FiveLands$Stay.mostBut(I)I -/
theorem k_89 {X : Ctx} {d : Nat} (x0 : Nat) (x1 : Int32) (h : Hp) : K X (d + 1) 89 [.ref x0, .int x1] h = sem (X, K X d) 89 4 [some (.ref x0), some (.int x1), some (.int 0), some (.int 0)] [] h := by
  show sem (X, K X d) 89 0 [some (.ref x0), some (.int x1), none, none] [] h = _
  refine (s_iconst 1 0 mc_89 dX7_mostBut_0 rfl (by decide)).trans ?_
  refine (s_istore_n 2 mc_89 dX7_mostBut_1 rfl rfl (Nat.le_of_ble_eq_true rfl) rfl).trans ?_
  refine (s_iconst 3 0 mc_89 dX7_mostBut_2 rfl (by decide)).trans ?_
  refine (s_istore_n 4 mc_89 dX7_mostBut_3 rfl rfl (Nat.le_of_ble_eq_true rfl) rfl).trans ?_
  rfl
theorem b_89_4 {X : Ctx} {d : Nat} (x0 : Nat) (x1 : Int32) (x2 : Int32) (x3 : Int32)  (h : Hp) : sem (X, K X d) 89 4 [some (.ref x0), some (.int x1), some (.int x2), some (.int x3)] [] h = if 6 ≤ x3 then some (some (.int x2), h) else if x3 = x1 then sem (X, K X d) 89 4 [some (.ref x0), some (.int x1), some (.int x2), some (.int (x3 + 1))] [] h else gR h 7 x0 0 fun g1 => aI X h g1 x3 fun g2 => sem (X, K X d) 89 4 [some (.ref x0), some (.int x1), some (.int (if x2 < g2 then g2 else x2)), some (.int (x3 + 1))] [] h := by
  refine (s_iload_n 5 mc_89 dX7_mostBut_4 rfl rfl rfl).trans ?_
  refine (s_bipush 7 6 mc_89 dX7_mostBut_5 rfl (by decide)).trans ?_
  refine (s_icmp_ge 32 10 mc_89 dX7_mostBut_7 rfl rfl).trans ?_
  refine ite_c ?_ ?_
  · skip
    refine (s_iload_n 33 mc_89 dX7_mostBut_32 rfl rfl rfl).trans ?_
    exact s_iret mc_89 dX7_mostBut_33 mt_89
  · skip
    refine (s_iload_n 11 mc_89 dX7_mostBut_10 rfl rfl rfl).trans ?_
    refine (s_iload_n 12 mc_89 dX7_mostBut_11 rfl rfl rfl).trans ?_
    refine (s_icmp_eq 26 15 mc_89 dX7_mostBut_12 rfl rfl).trans ?_
    refine ite_c ?_ ?_
    · skip
      refine (s_iinc 1 29 mc_89 dX7_mostBut_26 rfl rfl (Nat.le_of_ble_eq_true rfl) (by decide) rfl).trans ?_
      refine (s_goto 4 mc_89 dX7_mostBut_29 rfl).trans ?_
      rfl
    · skip
      refine (s_iload_n 16 mc_89 dX7_mostBut_15 rfl rfl rfl).trans ?_
      refine (s_aload_n 17 mc_89 dX7_mostBut_16 rfl rfl rfl).trans ?_
      refine (s_getfR 20 mc_89 dX7_mostBut_17 rfl mo_89 fs_7_9 ff_7_9 rfl).trans ?_
      refine gR_c fun g1 => ?_
      refine (s_iload_n 21 mc_89 dX7_mostBut_20 rfl rfl rfl).trans ?_
      refine (s_iaload 22 mc_89 dX7_mostBut_21 rfl).trans ?_
      refine aI_c fun g2 => ?_
      refine (s_mmax 25 mc_89 dX7_mostBut_22 rfl mo_89 mm_7_42 (Nat.le_of_ble_eq_true rfl)).trans ?_
      refine (s_istore_n 26 mc_89 dX7_mostBut_25 rfl rfl (Nat.le_of_ble_eq_true rfl) rfl).trans ?_
      refine (s_iinc 1 29 mc_89 dX7_mostBut_26 rfl rfl (Nat.le_of_ble_eq_true rfl) (by decide) rfl).trans ?_
      refine (s_goto 4 mc_89 dX7_mostBut_29 rfl).trans ?_
      rfl
/-- FiveLands$Sum.<init>()V -/
theorem k_90 {X : Ctx} {d : Nat} (x0 : Nat) (h : Hp) : K X (d + 1) 90 [.ref x0] h = some (none, h) := by
  show sem (X, K X d) 90 0 [some (.ref x0)] [] h = _
  refine (s_aload_n 1 mc_90 dX8_init_0 rfl rfl rfl).trans ?_
  refine (s_obj 4 mc_90 dX8_init_1 rfl mo_90 mm_8_1 mq_90 (Nat.le_of_ble_eq_true rfl)).trans ?_
  exact s_vret mc_90 dX8_init_4 mt_90
/-- FiveLands$Year.<init>()V -/
theorem k_91 {X : Ctx} {d : Nat} (x0 : Nat) (h : Hp) : K X (d + 1) 91 [.ref x0] h = letH (hN h) (alc h (50, 360) 360) fun a1 h1 => fR h1 9 x0 0 a1 fun h2 => letH (hN h2) (alc h2 (8, 0) 5) fun a3 h3 => gd (hS h3 a3 = (8, 0)) (bV (K X d 84 [.ref a3] h3) fun h4 => fR h4 9 x0 1 a3 fun h5 => letH (hN h5) (alc h5 (68, 12) 12) fun a6 h6 => fR h6 9 x0 2 a6 fun h7 => sem (X, K X d) 91 35 [some (.ref x0), some (.int 0)] [] h7) := by
  show sem (X, K X d) 91 0 [some (.ref x0), none] [] h = _
  refine (s_aload_n 1 mc_91 dX9_init_0 rfl rfl rfl).trans ?_
  refine (s_obj 4 mc_91 dX9_init_1 rfl mo_91 mm_9_3 mq_91 (Nat.le_of_ble_eq_true rfl)).trans ?_
  refine (s_aload_n 5 mc_91 dX9_init_4 rfl rfl rfl).trans ?_
  refine (s_sipush 8 360 mc_91 dX9_init_5 rfl (by decide)).trans ?_
  refine (s_newI 10 mc_91 dX9_init_8 rfl mq_91 (by decide) rfl (by decide)).trans ?_
  refine letH_i (F := fun a1 h1 => sem (X, K X d) 91 10 [some (.ref x0), none] [.ref a1, .ref x0] h1) (hN h) (alc h (50, 360) 360) ?_
  intro a1 h1
  refine (s_putfR 13 mc_91 dX9_init_10 rfl mo_91 ff_9_9 rfl (Or.inr ⟨mo_91, mn_91⟩)).trans ?_
  refine fR_c fun h2 => ?_
  refine (s_aload_n 14 mc_91 dX9_init_13 rfl rfl rfl).trans ?_
  refine (s_new 17 mc_91 dX9_init_14 rfl mq_91 mo_91 ck_9_15 (by decide)).trans ?_
  refine letH_i (F := fun a3 h3 => sem (X, K X d) 91 17 [some (.ref x0), none] [.ref a3, .ref x0] h3) (hN h2) (alc h2 (8, 0) 5) ?_
  intro a3 h3
  refine (s_dup 18 mc_91 dX9_init_17 rfl rfl).trans ?_
  refine (s_ispV 21 mc_91 dX9_init_18 rfl mo_91 mm_9_17 (by decide) mq_91 ms_84 mi_84 mr_84 ma_84 mo_84 (by decide) (Nat.le_of_ble_eq_true rfl) rfl rfl (Nat.le_of_ble_eq_true rfl)).trans ?_
  refine gd_c ?_
  refine bV_c fun h4 => ?_
  refine (s_putfR 24 mc_91 dX9_init_21 rfl mo_91 ff_9_18 rfl (Or.inr ⟨mo_91, mn_91⟩)).trans ?_
  refine fR_c fun h5 => ?_
  refine (s_aload_n 25 mc_91 dX9_init_24 rfl rfl rfl).trans ?_
  refine (s_bipush 27 12 mc_91 dX9_init_25 rfl (by decide)).trans ?_
  refine (s_newR 30 mc_91 dX9_init_27 rfl mq_91 mo_91 ck_9_22 (by decide) (by decide) rfl (by decide)).trans ?_
  refine letH_i (F := fun a6 h6 => sem (X, K X d) 91 30 [some (.ref x0), none] [.ref a6, .ref x0] h6) (hN h5) (alc h5 (68, 12) 12) ?_
  intro a6 h6
  refine (s_putfR 33 mc_91 dX9_init_30 rfl mo_91 ff_9_24 rfl (Or.inr ⟨mo_91, mn_91⟩)).trans ?_
  refine fR_c fun h7 => ?_
  refine (s_iconst 34 0 mc_91 dX9_init_33 rfl (by decide)).trans ?_
  refine (s_istore_n 35 mc_91 dX9_init_34 rfl rfl (Nat.le_of_ble_eq_true rfl) rfl).trans ?_
  rfl
theorem b_91_35 {X : Ctx} {d : Nat} (x0 : Nat) (x1 : Int32)  (h : Hp) : sem (X, K X d) 91 35 [some (.ref x0), some (.int x1)] [] h = if 360 ≤ x1 then gR h 9 x0 1 fun g1 => fI h 7 g1 1 360 fun h1 => sem (X, K X d) 91 67 [some (.ref x0), some (.int 0)] [] h1 else gR h 9 x0 0 fun g2 => wI h g2 x1 (-1) fun h2 => sem (X, K X d) 91 35 [some (.ref x0), some (.int (x1 + 1))] [] h2 := by
  refine (s_iload_n 36 mc_91 dX9_init_35 rfl rfl rfl).trans ?_
  refine (s_sipush 39 360 mc_91 dX9_init_36 rfl (by decide)).trans ?_
  refine (s_icmp_ge 55 42 mc_91 dX9_init_39 rfl rfl).trans ?_
  refine ite_c ?_ ?_
  · skip
    refine (s_aload_n 56 mc_91 dX9_init_55 rfl rfl rfl).trans ?_
    refine (s_getfR 59 mc_91 dX9_init_56 rfl mo_91 fs_9_18 ff_9_18 rfl).trans ?_
    refine gR_c fun g1 => ?_
    refine (s_sipush 62 360 mc_91 dX9_init_59 rfl (by decide)).trans ?_
    refine (s_putfI 65 mc_91 dX9_init_62 rfl mo_91 ff_9_28 rfl (Or.inl rfl)).trans ?_
    refine fI_c fun h1 => ?_
    refine (s_iconst 66 0 mc_91 dX9_init_65 rfl (by decide)).trans ?_
    refine (s_istore_n 67 mc_91 dX9_init_66 rfl rfl (Nat.le_of_ble_eq_true rfl) rfl).trans ?_
    rfl
  · skip
    refine (s_aload_n 43 mc_91 dX9_init_42 rfl rfl rfl).trans ?_
    refine (s_getfR 46 mc_91 dX9_init_43 rfl mo_91 fs_9_9 ff_9_9 rfl).trans ?_
    refine gR_c fun g2 => ?_
    refine (s_iload_n 47 mc_91 dX9_init_46 rfl rfl rfl).trans ?_
    refine (s_iconst 48 (-1) mc_91 dX9_init_47 rfl (by decide)).trans ?_
    refine (s_iastore 49 mc_91 dX9_init_48 rfl).trans ?_
    refine wI_c fun h2 => ?_
    refine (s_iinc 1 52 mc_91 dX9_init_49 rfl rfl (Nat.le_of_ble_eq_true rfl) (by decide) rfl).trans ?_
    refine (s_goto 35 mc_91 dX9_init_52 rfl).trans ?_
    rfl
theorem b_91_67 {X : Ctx} {d : Nat} (x0 : Nat) (x1 : Int32)  (h : Hp) : sem (X, K X d) 91 67 [some (.ref x0), some (.int x1)] [] h = if 12 ≤ x1 then some (none, h) else gR h 9 x0 2 fun g1 => letH (hN h) (alc h (9, 0) 5) fun a1 h1 => gd (hS h1 a1 = (9, 0)) (bV (K X d 90 [.ref a1] h1) fun h2 => wR h2 g1 x1 a1 fun h3 => sem (X, K X d) 91 67 [some (.ref x0), some (.int (x1 + 1))] [] h3) := by
  refine (s_iload_n 68 mc_91 dX9_init_67 rfl rfl rfl).trans ?_
  refine (s_bipush 70 12 mc_91 dX9_init_68 rfl (by decide)).trans ?_
  refine (s_icmp_ge 92 73 mc_91 dX9_init_70 rfl rfl).trans ?_
  refine ite_c ?_ ?_
  · skip
    exact s_vret mc_91 dX9_init_92 mt_91
  · skip
    refine (s_aload_n 74 mc_91 dX9_init_73 rfl rfl rfl).trans ?_
    refine (s_getfR 77 mc_91 dX9_init_74 rfl mo_91 fs_9_24 ff_9_24 rfl).trans ?_
    refine gR_c fun g1 => ?_
    refine (s_iload_n 78 mc_91 dX9_init_77 rfl rfl rfl).trans ?_
    refine (s_new 81 mc_91 dX9_init_78 rfl mq_91 mo_91 ck_9_22 (by decide)).trans ?_
    refine letH_i (F := fun a1 h1 => sem (X, K X d) 91 81 [some (.ref x0), some (.int x1)] [.ref a1, .int x1, .ref g1] h1) (hN h) (alc h (9, 0) 5) ?_
    intro a1 h1
    refine (s_dup 82 mc_91 dX9_init_81 rfl rfl).trans ?_
    refine (s_ispV 85 mc_91 dX9_init_82 rfl mo_91 mm_9_32 (by decide) mq_91 ms_90 mi_90 mr_90 ma_90 mo_90 (by decide) (Nat.le_of_ble_eq_true rfl) rfl rfl (Nat.le_of_ble_eq_true rfl)).trans ?_
    refine gd_c ?_
    refine bV_c fun h2 => ?_
    refine (s_aastore 86 mc_91 dX9_init_85 rfl mq_91).trans ?_
    refine wR_c fun h3 => ?_
    refine (s_iinc 1 89 mc_91 dX9_init_86 rfl rfl (Nat.le_of_ble_eq_true rfl) (by decide) rfl).trans ?_
    refine (s_goto 67 mc_91 dX9_init_89 rfl).trans ?_
    rfl
/-- FiveLands$Year.tells(I)Z -/
theorem k_92 {X : Ctx} {d : Nat} (x0 : Nat) (x1 : Int32) (h : Hp) : K X (d + 1) 92 [.ref x0, .int x1] h = if x1 < 0 then some (some (.int 0), h) else gI h 9 x0 3 fun g1 => if g1 ≤ x1 then some (some (.int 0), h) else some (some (.int 1), h) := by
  show sem (X, K X d) 92 0 [some (.ref x0), some (.int x1)] [] h = _
  refine (s_iload_n 1 mc_92 dX9_tells_0 rfl rfl rfl).trans ?_
  refine (s_if_lt 16 4 mc_92 dX9_tells_1 rfl rfl).trans ?_
  refine ite_c ?_ ?_
  · skip
    refine (s_iconst 17 0 mc_92 dX9_tells_16 rfl (by decide)).trans ?_
    exact s_zret0 mc_92 dX9_tells_17 mt_92
  · skip
    refine (s_iload_n 5 mc_92 dX9_tells_4 rfl rfl rfl).trans ?_
    refine (s_aload_n 6 mc_92 dX9_tells_5 rfl rfl rfl).trans ?_
    refine (s_getfI 9 mc_92 dX9_tells_6 rfl mo_92 fs_9_33 ff_9_33 (Or.inl rfl)).trans ?_
    refine gI_c fun g1 => ?_
    refine (s_icmp_ge 16 12 mc_92 dX9_tells_9 rfl rfl).trans ?_
    refine ite_c ?_ ?_
    · skip
      refine (s_iconst 17 0 mc_92 dX9_tells_16 rfl (by decide)).trans ?_
      exact s_zret0 mc_92 dX9_tells_17 mt_92
    · skip
      refine (s_iconst 13 1 mc_92 dX9_tells_12 rfl (by decide)).trans ?_
      refine (s_goto 17 mc_92 dX9_tells_13 rfl).trans ?_
      exact s_zret1 mc_92 dX9_tells_17 mt_92
/-- FiveLands$Year.spend(III)V -/
theorem k_93 {X : Ctx} {d : Nat} (x0 : Nat) (x1 : Int32) (x2 : Int32) (x3 : Int32) (h : Hp) : K X (d + 1) 93 [.ref x0, .int x1, .int x2, .int x3] h = sem (X, K X d) 93 7 [some (.ref x0), some (.int x1), some (.int x2), some (.int x3), some (.int (if x1 < 0 then 0 else x1))] [] h := by
  show sem (X, K X d) 93 0 [some (.ref x0), some (.int x1), some (.int x2), some (.int x3), none] [] h = _
  refine (s_iload_n 1 mc_93 dX9_spend_0 rfl rfl rfl).trans ?_
  refine (s_iconst 2 0 mc_93 dX9_spend_1 rfl (by decide)).trans ?_
  refine (s_mmax 5 mc_93 dX9_spend_2 rfl mo_93 mm_9_36 (Nat.le_of_ble_eq_true rfl)).trans ?_
  refine (s_istore 7 mc_93 dX9_spend_5 rfl (Nat.le_of_ble_eq_true rfl) rfl).trans ?_
  rfl
theorem b_93_7 {X : Ctx} {d : Nat} (x0 : Nat) (v1 : Option Value) (x2 : Int32) (x3 : Int32) (x4 : Int32)  (h : Hp) : sem (X, K X d) 93 7 [some (.ref x0), v1, some (.int x2), some (.int x3), some (.int x4)] [] h = if x2 < x4 then some (none, h) else if 360 ≤ x4 then some (none, h) else gR h 9 x0 1 fun g1 => gR h 9 x0 0 fun g2 => aI X h g2 x4 fun g3 => gd (hS h g1 = (8, 0)) (bV (K X d 87 [.ref g1, .int g3, .int (-1)] h) fun h1 => gR h1 9 x0 1 fun g4 => gd (hS h1 g4 = (8, 0)) (bV (K X d 87 [.ref g4, .int x3, .int 1] h1) fun h2 => gR h2 9 x0 0 fun g5 => wI h2 g5 x4 x3 fun h3 => sem (X, K X d) 93 7 [some (.ref x0), v1, some (.int x2), some (.int x3), some (.int (x4 + 1))] [] h3)) := by
  refine (s_iload 9 mc_93 dX9_spend_7 rfl rfl).trans ?_
  refine (s_iload_n 10 mc_93 dX9_spend_9 rfl rfl rfl).trans ?_
  refine (s_icmp_gt 59 13 mc_93 dX9_spend_10 rfl rfl).trans ?_
  refine ite_c ?_ ?_
  · skip
    exact s_vret mc_93 dX9_spend_59 mt_93
  · skip
    refine (s_iload 15 mc_93 dX9_spend_13 rfl rfl).trans ?_
    refine (s_sipush 18 360 mc_93 dX9_spend_15 rfl (by decide)).trans ?_
    refine (s_icmp_ge 59 21 mc_93 dX9_spend_18 rfl rfl).trans ?_
    refine ite_c ?_ ?_
    · skip
      exact s_vret mc_93 dX9_spend_59 mt_93
    · skip
      refine (s_aload_n 22 mc_93 dX9_spend_21 rfl rfl rfl).trans ?_
      refine (s_getfR 25 mc_93 dX9_spend_22 rfl mo_93 fs_9_18 ff_9_18 rfl).trans ?_
      refine gR_c fun g1 => ?_
      refine (s_aload_n 26 mc_93 dX9_spend_25 rfl rfl rfl).trans ?_
      refine (s_getfR 29 mc_93 dX9_spend_26 rfl mo_93 fs_9_9 ff_9_9 rfl).trans ?_
      refine gR_c fun g2 => ?_
      refine (s_iload 31 mc_93 dX9_spend_29 rfl rfl).trans ?_
      refine (s_iaload 32 mc_93 dX9_spend_31 rfl).trans ?_
      refine aI_c fun g3 => ?_
      refine (s_iconst 33 (-1) mc_93 dX9_spend_32 rfl (by decide)).trans ?_
      refine (s_iviV 36 mc_93 dX9_spend_33 rfl mo_93 mm_9_42 (by decide) ms_87 mi_87 mr_87 ma_87 mo_87 (by decide) (Nat.le_of_ble_eq_true rfl) rfl rfl (Nat.le_of_ble_eq_true rfl)).trans ?_
      refine gd_c ?_
      refine bV_c fun h1 => ?_
      refine (s_aload_n 37 mc_93 dX9_spend_36 rfl rfl rfl).trans ?_
      refine (s_getfR 40 mc_93 dX9_spend_37 rfl mo_93 fs_9_18 ff_9_18 rfl).trans ?_
      refine gR_c fun g4 => ?_
      refine (s_iload_n 41 mc_93 dX9_spend_40 rfl rfl rfl).trans ?_
      refine (s_iconst 42 1 mc_93 dX9_spend_41 rfl (by decide)).trans ?_
      refine (s_iviV 45 mc_93 dX9_spend_42 rfl mo_93 mm_9_42 (by decide) ms_87 mi_87 mr_87 ma_87 mo_87 (by decide) (Nat.le_of_ble_eq_true rfl) rfl rfl (Nat.le_of_ble_eq_true rfl)).trans ?_
      refine gd_c ?_
      refine bV_c fun h2 => ?_
      refine (s_aload_n 46 mc_93 dX9_spend_45 rfl rfl rfl).trans ?_
      refine (s_getfR 49 mc_93 dX9_spend_46 rfl mo_93 fs_9_9 ff_9_9 rfl).trans ?_
      refine gR_c fun g5 => ?_
      refine (s_iload 51 mc_93 dX9_spend_49 rfl rfl).trans ?_
      refine (s_iload_n 52 mc_93 dX9_spend_51 rfl rfl rfl).trans ?_
      refine (s_iastore 53 mc_93 dX9_spend_52 rfl).trans ?_
      refine wI_c fun h3 => ?_
      refine (s_iinc 1 56 mc_93 dX9_spend_53 rfl rfl (Nat.le_of_ble_eq_true rfl) (by decide) rfl).trans ?_
      refine (s_goto 7 mc_93 dX9_spend_56 rfl).trans ?_
      rfl
/-- FiveLands$Year.moved(IILFiveLands$Stay;)V -/
theorem k_94 {X : Ctx} {d : Nat} (x0 : Nat) (x1 : Int32) (x2 : Int32) (x3 : Nat) (h : Hp) : K X (d + 1) 94 [.ref x0, .int x1, .int x2, .ref x3] h = gR h 9 x0 1 fun g1 => gd (hS h x3 = (8, 0)) (bV (K X d 85 [.ref x3, .ref g1] h) fun h1 => sem (X, K X d) 94 15 [some (.ref x0), some (.int x1), some (.int x2), some (.ref x3), some (.int (if x1 < 0 then 0 else x1))] [] h1) := by
  show sem (X, K X d) 94 0 [some (.ref x0), some (.int x1), some (.int x2), some (.ref x3), none] [] h = _
  refine (s_aload_n 1 mc_94 dX9_moved_0 rfl rfl rfl).trans ?_
  refine (s_aload_n 2 mc_94 dX9_moved_1 rfl rfl rfl).trans ?_
  refine (s_getfR 5 mc_94 dX9_moved_2 rfl mo_94 fs_9_18 ff_9_18 rfl).trans ?_
  refine gR_c fun g1 => ?_
  refine (s_iviV 8 mc_94 dX9_moved_5 rfl mo_94 mm_9_46 (by decide) ms_85 mi_85 mr_85 ma_85 mo_85 (by decide) (Nat.le_of_ble_eq_true rfl) rfl rfl (Nat.le_of_ble_eq_true rfl)).trans ?_
  refine gd_c ?_
  refine bV_c fun h1 => ?_
  refine (s_iload_n 9 mc_94 dX9_moved_8 rfl rfl rfl).trans ?_
  refine (s_iconst 10 0 mc_94 dX9_moved_9 rfl (by decide)).trans ?_
  refine (s_mmax 13 mc_94 dX9_moved_10 rfl mo_94 mm_9_36 (Nat.le_of_ble_eq_true rfl)).trans ?_
  refine (s_istore 15 mc_94 dX9_moved_13 rfl (Nat.le_of_ble_eq_true rfl) rfl).trans ?_
  rfl
theorem b_94_15 {X : Ctx} {d : Nat} (x0 : Nat) (v1 : Option Value) (x2 : Int32) (x3 : Nat) (x4 : Int32)  (h : Hp) : sem (X, K X d) 94 15 [some (.ref x0), v1, some (.int x2), some (.ref x3), some (.int x4)] [] h = if 360 ≤ x4 then fI h 7 x3 2 (1 <<< (x2 &&& 31)) fun h1 => some (none, h1) else gR h 9 x0 0 fun g1 => aI X h g1 x4 fun g2 => gd (hS h x3 = (8, 0)) (bV (K X d 87 [.ref x3, .int g2, .int (-1)] h) fun h2 => gd (hS h2 x3 = (8, 0)) (bV (K X d 87 [.ref x3, .int x2, .int 1] h2) fun h3 => sem (X, K X d) 94 15 [some (.ref x0), v1, some (.int x2), some (.ref x3), some (.int (x4 + 1))] [] h3)) := by
  refine (s_iload 17 mc_94 dX9_moved_15 rfl rfl).trans ?_
  refine (s_sipush 20 360 mc_94 dX9_moved_17 rfl (by decide)).trans ?_
  refine (s_icmp_ge 47 23 mc_94 dX9_moved_20 rfl rfl).trans ?_
  refine ite_c ?_ ?_
  · skip
    refine (s_aload_n 48 mc_94 dX9_moved_47 rfl rfl rfl).trans ?_
    refine (s_iconst 49 1 mc_94 dX9_moved_48 rfl (by decide)).trans ?_
    refine (s_iload_n 50 mc_94 dX9_moved_49 rfl rfl rfl).trans ?_
    refine (s_ishl 51 mc_94 dX9_moved_50 rfl).trans ?_
    refine (s_putfI 54 mc_94 dX9_moved_51 rfl mo_94 ff_9_50 rfl (Or.inl rfl)).trans ?_
    refine fI_c fun h1 => ?_
    exact s_vret mc_94 dX9_moved_54 mt_94
  · skip
    refine (s_aload_n 24 mc_94 dX9_moved_23 rfl rfl rfl).trans ?_
    refine (s_aload_n 25 mc_94 dX9_moved_24 rfl rfl rfl).trans ?_
    refine (s_getfR 28 mc_94 dX9_moved_25 rfl mo_94 fs_9_9 ff_9_9 rfl).trans ?_
    refine gR_c fun g1 => ?_
    refine (s_iload 30 mc_94 dX9_moved_28 rfl rfl).trans ?_
    refine (s_iaload 31 mc_94 dX9_moved_30 rfl).trans ?_
    refine aI_c fun g2 => ?_
    refine (s_iconst 32 (-1) mc_94 dX9_moved_31 rfl (by decide)).trans ?_
    refine (s_iviV 35 mc_94 dX9_moved_32 rfl mo_94 mm_9_42 (by decide) ms_87 mi_87 mr_87 ma_87 mo_87 (by decide) (Nat.le_of_ble_eq_true rfl) rfl rfl (Nat.le_of_ble_eq_true rfl)).trans ?_
    refine gd_c ?_
    refine bV_c fun h2 => ?_
    refine (s_aload_n 36 mc_94 dX9_moved_35 rfl rfl rfl).trans ?_
    refine (s_iload_n 37 mc_94 dX9_moved_36 rfl rfl rfl).trans ?_
    refine (s_iconst 38 1 mc_94 dX9_moved_37 rfl (by decide)).trans ?_
    refine (s_iviV 41 mc_94 dX9_moved_38 rfl mo_94 mm_9_42 (by decide) ms_87 mi_87 mr_87 ma_87 mo_87 (by decide) (Nat.le_of_ble_eq_true rfl) rfl rfl (Nat.le_of_ble_eq_true rfl)).trans ?_
    refine gd_c ?_
    refine bV_c fun h3 => ?_
    refine (s_iinc 1 44 mc_94 dX9_moved_41 rfl rfl (Nat.le_of_ble_eq_true rfl) (by decide) rfl).trans ?_
    refine (s_goto 15 mc_94 dX9_moved_44 rfl).trans ?_
    rfl
/-- FiveLands$Year.base()J -/
theorem k_95 {X : Ctx} {d : Nat} (x0 : Nat) (h : Hp) : K X (d + 1) 95 [.ref x0] h = sem (X, K X d) 95 4 [some (.ref x0), some (.long 0), none, some (.int 0)] [] h := by
  show sem (X, K X d) 95 0 [some (.ref x0), none, none, none] [] h = _
  refine (s_lconst 1 0 mc_95 dX9_base_0 rfl (by decide)).trans ?_
  refine (s_lstore_n 2 mc_95 dX9_base_1 rfl rfl (Nat.le_of_ble_eq_true rfl) rfl).trans ?_
  refine (s_iconst 3 0 mc_95 dX9_base_2 rfl (by decide)).trans ?_
  refine (s_istore_n 4 mc_95 dX9_base_3 rfl rfl (Nat.le_of_ble_eq_true rfl) rfl).trans ?_
  rfl
theorem b_95_4 {X : Ctx} {d : Nat} (x0 : Nat) (x1 : Int64) (x3 : Int32)  (h : Hp) : sem (X, K X d) 95 4 [some (.ref x0), some (.long x1), none, some (.int x3)] [] h = gI h 9 x0 3 fun g1 => if g1 ≤ x3 then some (some (.long x1), h) else gR h 9 x0 2 fun g2 => aR h g2 x3 fun g3 => gI h 8 g3 2 fun g4 => sem (X, K X d) 95 4 [some (.ref x0), some (.long (x1 + (g4 : Int32).toInt64)), none, some (.int (x3 + 1))] [] h := by
  refine (s_iload_n 5 mc_95 dX9_base_4 rfl rfl rfl).trans ?_
  refine (s_aload_n 6 mc_95 dX9_base_5 rfl rfl rfl).trans ?_
  refine (s_getfI 9 mc_95 dX9_base_6 rfl mo_95 fs_9_33 ff_9_33 (Or.inl rfl)).trans ?_
  refine gI_c fun g1 => ?_
  refine (s_icmp_ge 31 12 mc_95 dX9_base_9 rfl rfl).trans ?_
  refine ite_c ?_ ?_
  · skip
    refine (s_lload_n 32 mc_95 dX9_base_31 rfl rfl rfl rfl).trans ?_
    exact s_lret mc_95 dX9_base_32 mt_95
  · skip
    refine (s_lload_n 13 mc_95 dX9_base_12 rfl rfl rfl rfl).trans ?_
    refine (s_aload_n 14 mc_95 dX9_base_13 rfl rfl rfl).trans ?_
    refine (s_getfR 17 mc_95 dX9_base_14 rfl mo_95 fs_9_24 ff_9_24 rfl).trans ?_
    refine gR_c fun g2 => ?_
    refine (s_iload_n 18 mc_95 dX9_base_17 rfl rfl rfl).trans ?_
    refine (s_aaload 19 mc_95 dX9_base_18 rfl).trans ?_
    refine aR_c fun g3 => ?_
    refine (s_getfI 22 mc_95 dX9_base_19 rfl mo_95 fs_9_53 ff_9_53 (Or.inl rfl)).trans ?_
    refine gI_c fun g4 => ?_
    refine (s_i2l 23 mc_95 dX9_base_22 rfl).trans ?_
    refine (s_ladd 24 mc_95 dX9_base_23 rfl).trans ?_
    refine (s_lstore_n 25 mc_95 dX9_base_24 rfl rfl (Nat.le_of_ble_eq_true rfl) rfl).trans ?_
    refine (s_iinc 1 28 mc_95 dX9_base_25 rfl rfl (Nat.le_of_ble_eq_true rfl) (by decide) rfl).trans ?_
    refine (s_goto 4 mc_95 dX9_base_28 rfl).trans ?_
    rfl
/-- java/lang/Integer.bitCount(I)I -/
theorem k_234 {X : Ctx} {d : Nat} (x0 : Int32) (h : Hp) : K X (d + 1) 234 [.int x0] h = some (some (.int ((((((((x0 - (((x0).toUInt32 >>> ((1).toUInt32 &&& Int32.toUInt32 31)).toInt32 &&& 1431655765)) &&& 858993459) + ((((x0 - (((x0).toUInt32 >>> ((1).toUInt32 &&& Int32.toUInt32 31)).toInt32 &&& 1431655765))).toUInt32 >>> ((2).toUInt32 &&& Int32.toUInt32 31)).toInt32 &&& 858993459)) + (((((x0 - (((x0).toUInt32 >>> ((1).toUInt32 &&& Int32.toUInt32 31)).toInt32 &&& 1431655765)) &&& 858993459) + ((((x0 - (((x0).toUInt32 >>> ((1).toUInt32 &&& Int32.toUInt32 31)).toInt32 &&& 1431655765))).toUInt32 >>> ((2).toUInt32 &&& Int32.toUInt32 31)).toInt32 &&& 858993459))).toUInt32 >>> ((4).toUInt32 &&& Int32.toUInt32 31)).toInt32) &&& 252645135) + (((((((x0 - (((x0).toUInt32 >>> ((1).toUInt32 &&& Int32.toUInt32 31)).toInt32 &&& 1431655765)) &&& 858993459) + ((((x0 - (((x0).toUInt32 >>> ((1).toUInt32 &&& Int32.toUInt32 31)).toInt32 &&& 1431655765))).toUInt32 >>> ((2).toUInt32 &&& Int32.toUInt32 31)).toInt32 &&& 858993459)) + (((((x0 - (((x0).toUInt32 >>> ((1).toUInt32 &&& Int32.toUInt32 31)).toInt32 &&& 1431655765)) &&& 858993459) + ((((x0 - (((x0).toUInt32 >>> ((1).toUInt32 &&& Int32.toUInt32 31)).toInt32 &&& 1431655765))).toUInt32 >>> ((2).toUInt32 &&& Int32.toUInt32 31)).toInt32 &&& 858993459))).toUInt32 >>> ((4).toUInt32 &&& Int32.toUInt32 31)).toInt32) &&& 252645135)).toUInt32 >>> ((8).toUInt32 &&& Int32.toUInt32 31)).toInt32) + ((((((((x0 - (((x0).toUInt32 >>> ((1).toUInt32 &&& Int32.toUInt32 31)).toInt32 &&& 1431655765)) &&& 858993459) + ((((x0 - (((x0).toUInt32 >>> ((1).toUInt32 &&& Int32.toUInt32 31)).toInt32 &&& 1431655765))).toUInt32 >>> ((2).toUInt32 &&& Int32.toUInt32 31)).toInt32 &&& 858993459)) + (((((x0 - (((x0).toUInt32 >>> ((1).toUInt32 &&& Int32.toUInt32 31)).toInt32 &&& 1431655765)) &&& 858993459) + ((((x0 - (((x0).toUInt32 >>> ((1).toUInt32 &&& Int32.toUInt32 31)).toInt32 &&& 1431655765))).toUInt32 >>> ((2).toUInt32 &&& Int32.toUInt32 31)).toInt32 &&& 858993459))).toUInt32 >>> ((4).toUInt32 &&& Int32.toUInt32 31)).toInt32) &&& 252645135) + (((((((x0 - (((x0).toUInt32 >>> ((1).toUInt32 &&& Int32.toUInt32 31)).toInt32 &&& 1431655765)) &&& 858993459) + ((((x0 - (((x0).toUInt32 >>> ((1).toUInt32 &&& Int32.toUInt32 31)).toInt32 &&& 1431655765))).toUInt32 >>> ((2).toUInt32 &&& Int32.toUInt32 31)).toInt32 &&& 858993459)) + (((((x0 - (((x0).toUInt32 >>> ((1).toUInt32 &&& Int32.toUInt32 31)).toInt32 &&& 1431655765)) &&& 858993459) + ((((x0 - (((x0).toUInt32 >>> ((1).toUInt32 &&& Int32.toUInt32 31)).toInt32 &&& 1431655765))).toUInt32 >>> ((2).toUInt32 &&& Int32.toUInt32 31)).toInt32 &&& 858993459))).toUInt32 >>> ((4).toUInt32 &&& Int32.toUInt32 31)).toInt32) &&& 252645135)).toUInt32 >>> ((8).toUInt32 &&& Int32.toUInt32 31)).toInt32)).toUInt32 >>> ((16).toUInt32 &&& Int32.toUInt32 31)).toInt32) &&& 63)), h) := by
  show sem (X, K X d) 234 0 [some (.int x0)] [] h = _
  refine (s_iload_n 1 mc_234 dJ6_bitCount_0f7a4_0 rfl rfl rfl).trans ?_
  refine (s_iload_n 2 mc_234 dJ6_bitCount_0f7a4_1 rfl rfl rfl).trans ?_
  refine (s_iconst 3 1 mc_234 dJ6_bitCount_0f7a4_2 rfl (by decide)).trans ?_
  refine (s_iushr 4 mc_234 dJ6_bitCount_0f7a4_3 rfl).trans ?_
  refine (s_ldc_w 7 1431655765 mc_234 dJ6_bitCount_0f7a4_4 rfl mo_234 cs_13_265 (by decide)).trans ?_
  refine (s_iand 8 mc_234 dJ6_bitCount_0f7a4_7 rfl).trans ?_
  refine (s_isub 9 mc_234 dJ6_bitCount_0f7a4_8 rfl).trans ?_
  refine (s_istore_n 10 mc_234 dJ6_bitCount_0f7a4_9 rfl rfl (Nat.le_of_ble_eq_true rfl) rfl).trans ?_
  refine (s_iload_n 11 mc_234 dJ6_bitCount_0f7a4_10 rfl rfl rfl).trans ?_
  refine (s_ldc_w 14 858993459 mc_234 dJ6_bitCount_0f7a4_11 rfl mo_234 cs_13_266 (by decide)).trans ?_
  refine (s_iand 15 mc_234 dJ6_bitCount_0f7a4_14 rfl).trans ?_
  refine (s_iload_n 16 mc_234 dJ6_bitCount_0f7a4_15 rfl rfl rfl).trans ?_
  refine (s_iconst 17 2 mc_234 dJ6_bitCount_0f7a4_16 rfl (by decide)).trans ?_
  refine (s_iushr 18 mc_234 dJ6_bitCount_0f7a4_17 rfl).trans ?_
  refine (s_ldc_w 21 858993459 mc_234 dJ6_bitCount_0f7a4_18 rfl mo_234 cs_13_266 (by decide)).trans ?_
  refine (s_iand 22 mc_234 dJ6_bitCount_0f7a4_21 rfl).trans ?_
  refine (s_iadd 23 mc_234 dJ6_bitCount_0f7a4_22 rfl).trans ?_
  refine (s_istore_n 24 mc_234 dJ6_bitCount_0f7a4_23 rfl rfl (Nat.le_of_ble_eq_true rfl) rfl).trans ?_
  refine (s_iload_n 25 mc_234 dJ6_bitCount_0f7a4_24 rfl rfl rfl).trans ?_
  refine (s_iload_n 26 mc_234 dJ6_bitCount_0f7a4_25 rfl rfl rfl).trans ?_
  refine (s_iconst 27 4 mc_234 dJ6_bitCount_0f7a4_26 rfl (by decide)).trans ?_
  refine (s_iushr 28 mc_234 dJ6_bitCount_0f7a4_27 rfl).trans ?_
  refine (s_iadd 29 mc_234 dJ6_bitCount_0f7a4_28 rfl).trans ?_
  refine (s_ldc_w 32 252645135 mc_234 dJ6_bitCount_0f7a4_29 rfl mo_234 cs_13_267 (by decide)).trans ?_
  refine (s_iand 33 mc_234 dJ6_bitCount_0f7a4_32 rfl).trans ?_
  refine (s_istore_n 34 mc_234 dJ6_bitCount_0f7a4_33 rfl rfl (Nat.le_of_ble_eq_true rfl) rfl).trans ?_
  refine (s_iload_n 35 mc_234 dJ6_bitCount_0f7a4_34 rfl rfl rfl).trans ?_
  refine (s_iload_n 36 mc_234 dJ6_bitCount_0f7a4_35 rfl rfl rfl).trans ?_
  refine (s_bipush 38 8 mc_234 dJ6_bitCount_0f7a4_36 rfl (by decide)).trans ?_
  refine (s_iushr 39 mc_234 dJ6_bitCount_0f7a4_38 rfl).trans ?_
  refine (s_iadd 40 mc_234 dJ6_bitCount_0f7a4_39 rfl).trans ?_
  refine (s_istore_n 41 mc_234 dJ6_bitCount_0f7a4_40 rfl rfl (Nat.le_of_ble_eq_true rfl) rfl).trans ?_
  refine (s_iload_n 42 mc_234 dJ6_bitCount_0f7a4_41 rfl rfl rfl).trans ?_
  refine (s_iload_n 43 mc_234 dJ6_bitCount_0f7a4_42 rfl rfl rfl).trans ?_
  refine (s_bipush 45 16 mc_234 dJ6_bitCount_0f7a4_43 rfl (by decide)).trans ?_
  refine (s_iushr 46 mc_234 dJ6_bitCount_0f7a4_45 rfl).trans ?_
  refine (s_iadd 47 mc_234 dJ6_bitCount_0f7a4_46 rfl).trans ?_
  refine (s_istore_n 48 mc_234 dJ6_bitCount_0f7a4_47 rfl rfl (Nat.le_of_ble_eq_true rfl) rfl).trans ?_
  refine (s_iload_n 49 mc_234 dJ6_bitCount_0f7a4_48 rfl rfl rfl).trans ?_
  refine (s_bipush 51 63 mc_234 dJ6_bitCount_0f7a4_49 rfl (by decide)).trans ?_
  refine (s_iand 52 mc_234 dJ6_bitCount_0f7a4_51 rfl).trans ?_
  exact s_iret mc_234 dJ6_bitCount_0f7a4_52 mt_234
/-- java/lang/Math.abs(I)I -/
theorem k_235 {X : Ctx} {d : Nat} (x0 : Int32) (h : Hp) : K X (d + 1) 235 [.int x0] h = if 0 ≤ x0 then some (some (.int x0), h) else some (some (.int (-x0)), h) := by
  show sem (X, K X d) 235 0 [some (.int x0)] [] h = _
  refine (s_iload_n 1 mc_235 dJ9_abs_0f7a4_0 rfl rfl rfl).trans ?_
  refine (s_if_ge 9 4 mc_235 dJ9_abs_0f7a4_1 rfl rfl).trans ?_
  refine ite_c ?_ ?_
  · skip
    refine (s_iload_n 10 mc_235 dJ9_abs_0f7a4_9 rfl rfl rfl).trans ?_
    exact s_iret mc_235 dJ9_abs_0f7a4_10 mt_235
  · skip
    refine (s_iload_n 5 mc_235 dJ9_abs_0f7a4_4 rfl rfl rfl).trans ?_
    refine (s_ineg 6 mc_235 dJ9_abs_0f7a4_5 rfl).trans ?_
    refine (s_goto 10 mc_235 dJ9_abs_0f7a4_6 rfl).trans ?_
    exact s_iret mc_235 dJ9_abs_0f7a4_10 mt_235
/-- java/lang/Math.max(II)I -/
theorem k_236 {X : Ctx} {d : Nat} (x0 : Int32) (x1 : Int32) (h : Hp) : K X (d + 1) 236 [.int x0, .int x1] h = if x0 < x1 then some (some (.int x1), h) else some (some (.int x0), h) := by
  show sem (X, K X d) 236 0 [some (.int x0), some (.int x1)] [] h = _
  refine (s_iload_n 1 mc_236 dJ9_max_7cf53_0 rfl rfl rfl).trans ?_
  refine (s_iload_n 2 mc_236 dJ9_max_7cf53_1 rfl rfl rfl).trans ?_
  refine (s_icmp_lt 9 5 mc_236 dJ9_max_7cf53_2 rfl rfl).trans ?_
  refine ite_c ?_ ?_
  · skip
    refine (s_iload_n 10 mc_236 dJ9_max_7cf53_9 rfl rfl rfl).trans ?_
    exact s_iret mc_236 dJ9_max_7cf53_10 mt_236
  · skip
    refine (s_iload_n 6 mc_236 dJ9_max_7cf53_5 rfl rfl rfl).trans ?_
    refine (s_goto 10 mc_236 dJ9_max_7cf53_6 rfl).trans ?_
    exact s_iret mc_236 dJ9_max_7cf53_10 mt_236
/-- java/lang/Math.max(JJ)J -/
theorem k_237 {X : Ctx} {d : Nat} (x0 : Int64) (x2 : Int64) (h : Hp) : K X (d + 1) 237 [.long x0, .long x2] h = if (lg_cmp x0 x2) < 0 then some (some (.long x2), h) else some (some (.long x0), h) := by
  show sem (X, K X d) 237 0 [some (.long x0), none, some (.long x2), none] [] h = _
  refine (s_lload_n 1 mc_237 dJ9_max_f86c9_0 rfl rfl rfl rfl).trans ?_
  refine (s_lload_n 2 mc_237 dJ9_max_f86c9_1 rfl rfl rfl rfl).trans ?_
  refine (s_lcmp 3 mc_237 dJ9_max_f86c9_2 rfl).trans ?_
  refine (s_if_lt 10 6 mc_237 dJ9_max_f86c9_3 rfl rfl).trans ?_
  refine ite_c ?_ ?_
  · skip
    refine (s_lload_n 11 mc_237 dJ9_max_f86c9_10 rfl rfl rfl rfl).trans ?_
    exact s_lret mc_237 dJ9_max_f86c9_11 mt_237
  · skip
    refine (s_lload_n 7 mc_237 dJ9_max_f86c9_6 rfl rfl rfl rfl).trans ?_
    refine (s_goto 11 mc_237 dJ9_max_f86c9_7 rfl).trans ?_
    exact s_lret mc_237 dJ9_max_f86c9_11 mt_237
/-- java/lang/Math.min(II)I -/
theorem k_238 {X : Ctx} {d : Nat} (x0 : Int32) (x1 : Int32) (h : Hp) : K X (d + 1) 238 [.int x0, .int x1] h = if x1 < x0 then some (some (.int x1), h) else some (some (.int x0), h) := by
  show sem (X, K X d) 238 0 [some (.int x0), some (.int x1)] [] h = _
  refine (s_iload_n 1 mc_238 dJ9_min_7cf53_0 rfl rfl rfl).trans ?_
  refine (s_iload_n 2 mc_238 dJ9_min_7cf53_1 rfl rfl rfl).trans ?_
  refine (s_icmp_gt 9 5 mc_238 dJ9_min_7cf53_2 rfl rfl).trans ?_
  refine ite_c ?_ ?_
  · skip
    refine (s_iload_n 10 mc_238 dJ9_min_7cf53_9 rfl rfl rfl).trans ?_
    exact s_iret mc_238 dJ9_min_7cf53_10 mt_238
  · skip
    refine (s_iload_n 6 mc_238 dJ9_min_7cf53_5 rfl rfl rfl).trans ?_
    refine (s_goto 10 mc_238 dJ9_min_7cf53_6 rfl).trans ?_
    exact s_iret mc_238 dJ9_min_7cf53_10 mt_238
/-- java/lang/Math.min(JJ)J -/
theorem k_239 {X : Ctx} {d : Nat} (x0 : Int64) (x2 : Int64) (h : Hp) : K X (d + 1) 239 [.long x0, .long x2] h = if 0 < (lg_cmp x0 x2) then some (some (.long x2), h) else some (some (.long x0), h) := by
  show sem (X, K X d) 239 0 [some (.long x0), none, some (.long x2), none] [] h = _
  refine (s_lload_n 1 mc_239 dJ9_min_f86c9_0 rfl rfl rfl rfl).trans ?_
  refine (s_lload_n 2 mc_239 dJ9_min_f86c9_1 rfl rfl rfl rfl).trans ?_
  refine (s_lcmp 3 mc_239 dJ9_min_f86c9_2 rfl).trans ?_
  refine (s_if_gt 10 6 mc_239 dJ9_min_f86c9_3 rfl rfl).trans ?_
  refine ite_c ?_ ?_
  · skip
    refine (s_lload_n 11 mc_239 dJ9_min_f86c9_10 rfl rfl rfl rfl).trans ?_
    exact s_lret mc_239 dJ9_min_f86c9_11 mt_239
  · skip
    refine (s_lload_n 7 mc_239 dJ9_min_f86c9_6 rfl rfl rfl rfl).trans ?_
    refine (s_goto 11 mc_239 dJ9_min_f86c9_7 rfl).trans ?_
    exact s_lret mc_239 dJ9_min_f86c9_11 mt_239
/-- java/lang/String.length()I -/
theorem k_240 {X : Ctx} {d : Nat} (x0 : Nat) (h : Hp) (ha : 1 ≤ x0 ∧ x0 < 31) : K X (d + 1) 240 [.ref x0] h = aL X h (x0 + 30) fun g1 => gd (1 ≤ x0 ∧ x0 < 31) (bI (K X d 242 [.ref x0] h) fun r2 h1 => some (some (.int (g1 >>> (r2 &&& 31))), h1)) := by
  show sem (X, K X d) 240 0 [some (.ref x0)] [] h = _
  refine (s_aload_n 1 mc_240 dJ0_length_8abf5_0 rfl rfl rfl).trans ?_
  refine (s_getfS0 4 mc_240 dJ0_length_8abf5_1 rfl mo_240 sf_15_9 ha).trans ?_
  refine (s_alen 5 mc_240 dJ0_length_8abf5_4 rfl).trans ?_
  refine aL_c fun g1 => ?_
  refine (s_aload_n 6 mc_240 dJ0_length_8abf5_5 rfl rfl rfl).trans ?_
  refine (s_iviS 9 mc_240 dJ0_length_8abf5_6 rfl mo_240 mm_15_335 (by decide) ms_242 mi_242 mr_242 ma_242 mo_242 (Nat.le_of_ble_eq_true rfl) rfl rfl (Nat.le_of_ble_eq_true rfl)).trans ?_
  refine gd_c ?_
  refine bI_c fun r2 h1 => ?_
  refine (s_ishr 10 mc_240 dJ0_length_8abf5_9 rfl).trans ?_
  exact s_iret mc_240 dJ0_length_8abf5_10 mt_240
/-- java/lang/String.charAt(I)C -/
theorem k_241 {X : Ctx} {d : Nat} (x0 : Nat) (x1 : Int32) (h : Hp) (ha : 1 ≤ x0 ∧ x0 < 31) : K X (d + 1) 241 [.ref x0, .int x1] h = gd (1 ≤ x0 ∧ x0 < 31) (bI (K X d 243 [.ref x0] h) fun r1 h1 => if r1 = 0 then none else bI (K X d 245 [.ref (x0 + 30), .int x1] h1) fun r2 h2 => gd (okN .char r2) (some (some (.int r2), h2))) := by
  show sem (X, K X d) 241 0 [some (.ref x0), some (.int x1)] [] h = _
  refine (s_aload_n 1 mc_241 dJ0_charAt_5068e_0 rfl rfl rfl).trans ?_
  refine (s_iviS 4 mc_241 dJ0_charAt_5068e_1 rfl mo_241 mm_15_492 (by decide) ms_243 mi_243 mr_243 ma_243 mo_243 (Nat.le_of_ble_eq_true rfl) rfl rfl (Nat.le_of_ble_eq_true rfl)).trans ?_
  refine gd_c ?_
  refine bI_c fun r1 h1 => ?_
  refine (s_if_eq 16 7 mc_241 dJ0_charAt_5068e_4 rfl rfl).trans ?_
  refine ite_c ?_ ?_
  · skip
    refine (s_aload_n 17 mc_241 dJ0_charAt_5068e_16 rfl rfl rfl).trans ?_
    refine (s_getfS0 20 mc_241 dJ0_charAt_5068e_17 rfl mo_241 sf_15_9 ha).trans ?_
    refine (s_iload_n 21 mc_241 dJ0_charAt_5068e_20 rfl rfl rfl).trans ?_
    exact s_stk_invokestatic mc_241 dJ0_charAt_5068e_21 mo_241 (by decide +kernel)
  · skip
    refine (s_aload_n 8 mc_241 dJ0_charAt_5068e_7 rfl rfl rfl).trans ?_
    refine (s_getfS0 11 mc_241 dJ0_charAt_5068e_8 rfl mo_241 sf_15_9 ha).trans ?_
    refine (s_iload_n 12 mc_241 dJ0_charAt_5068e_11 rfl rfl rfl).trans ?_
    refine (s_istI 15 mc_241 dJ0_charAt_5068e_12 rfl mo_241 mm_15_495 (by decide) ms_245 mr_245 ma_245 (Nat.le_of_ble_eq_true rfl) rfl rfl (Nat.le_of_ble_eq_true rfl)).trans ?_
    refine bI_c fun r2 h2 => ?_
    exact s_cret mc_241 dJ0_charAt_5068e_15 mt_241
/-- java/lang/String.coder()B -/
theorem k_242 {X : Ctx} {d : Nat} (x0 : Nat) (h : Hp) (ha : 1 ≤ x0 ∧ x0 < 31) : K X (d + 1) 242 [.ref x0] h = if (1 : Int32) = 0 then gd (okN .byte 1) (some (some (.int 1), h)) else gd (okN .byte 0) (some (some (.int 0), h)) := by
  show sem (X, K X d) 242 0 [some (.ref x0)] [] h = _
  refine (s_getst0 3 mc_242 dJ0_coder_7d493_0 rfl mo_242 sa_15_38).trans ?_
  refine (s_if_eq 13 6 mc_242 dJ0_coder_7d493_3 rfl rfl).trans ?_
  refine ite_c ?_ ?_
  · skip
    refine (s_iconst 14 1 mc_242 dJ0_coder_7d493_13 rfl (by decide)).trans ?_
    exact s_bret mc_242 dJ0_coder_7d493_14 mt_242
  · skip
    refine (s_aload_n 7 mc_242 dJ0_coder_7d493_6 rfl rfl rfl).trans ?_
    refine (s_getfS1 10 mc_242 dJ0_coder_7d493_7 rfl mo_242 sf_15_15 ha).trans ?_
    refine (s_goto 14 mc_242 dJ0_coder_7d493_10 rfl).trans ?_
    exact s_bret mc_242 dJ0_coder_7d493_14 mt_242
/-- java/lang/String.isLatin1()Z -/
theorem k_243 {X : Ctx} {d : Nat} (x0 : Nat) (h : Hp) (ha : 1 ≤ x0 ∧ x0 < 31) : K X (d + 1) 243 [.ref x0] h = if (1 : Int32) = 0 then some (some (.int 0), h) else if ¬ (0 : Int32) = 0 then some (some (.int 0), h) else some (some (.int 1), h) := by
  show sem (X, K X d) 243 0 [some (.ref x0)] [] h = _
  refine (s_getst0 3 mc_243 dJ0_isLatin1_aae02_0 rfl mo_243 sa_15_38).trans ?_
  refine (s_if_eq 17 6 mc_243 dJ0_isLatin1_aae02_3 rfl rfl).trans ?_
  refine ite_c ?_ ?_
  · skip
    refine (s_iconst 18 0 mc_243 dJ0_isLatin1_aae02_17 rfl (by decide)).trans ?_
    exact s_zret0 mc_243 dJ0_isLatin1_aae02_18 mt_243
  · skip
    refine (s_aload_n 7 mc_243 dJ0_isLatin1_aae02_6 rfl rfl rfl).trans ?_
    refine (s_getfS1 10 mc_243 dJ0_isLatin1_aae02_7 rfl mo_243 sf_15_15 ha).trans ?_
    refine (s_if_ne 17 13 mc_243 dJ0_isLatin1_aae02_10 rfl rfl).trans ?_
    refine ite_c ?_ ?_
    · skip
      refine (s_iconst 18 0 mc_243 dJ0_isLatin1_aae02_17 rfl (by decide)).trans ?_
      exact s_zret0 mc_243 dJ0_isLatin1_aae02_18 mt_243
    · skip
      refine (s_iconst 14 1 mc_243 dJ0_isLatin1_aae02_13 rfl (by decide)).trans ?_
      refine (s_goto 18 mc_243 dJ0_isLatin1_aae02_14 rfl).trans ?_
      exact s_zret1 mc_243 dJ0_isLatin1_aae02_18 mt_243
/-- java/lang/String.checkIndex(II)V -/
theorem k_244 {X : Ctx} {d : Nat} (x0 : Int32) (x1 : Int32) (h : Hp) : K X (d + 1) 244 [.int x0, .int x1] h = bI (K X d 246 [.int x0, .int x1, X.2.2] h) fun r1 h1 => some (none, h1) := by
  show sem (X, K X d) 244 0 [some (.int x0), some (.int x1)] [] h = _
  refine (s_iload_n 1 mc_244 dJ0_checkIndex_df160_0 rfl rfl rfl).trans ?_
  refine (s_iload_n 2 mc_244 dJ0_checkIndex_df160_1 rfl rfl rfl).trans ?_
  refine (s_getst1 5 mc_244 dJ0_checkIndex_df160_2 rfl mo_244 sa_15_1053).trans ?_
  refine (s_istI 8 mc_244 dJ0_checkIndex_df160_5 rfl mo_244 mm_15_1059 (by decide) ms_246 mr_246 ma_246 (Nat.le_of_ble_eq_true rfl) rfl rfl (Nat.le_of_ble_eq_true rfl)).trans ?_
  refine bI_c fun r1 h1 => ?_
  refine (s_pop 9 mc_244 dJ0_checkIndex_df160_8 rfl rfl).trans ?_
  exact s_vret mc_244 dJ0_checkIndex_df160_9 mt_244
/-- java/lang/StringLatin1.charAt([BI)C -/
theorem k_245 {X : Ctx} {d : Nat} (x0 : Nat) (x1 : Int32) (h : Hp) : K X (d + 1) 245 [.ref x0, .int x1] h = aL X h x0 fun g1 => bV (K X d 244 [.int x1, .int g1] h) fun h1 => aZ h1 x0 x1 fun g2 => gd (okN .char (((g2 &&& 255) : Int32).toUInt32 % 65536).toInt32) (some (some (.int (((g2 &&& 255) : Int32).toUInt32 % 65536).toInt32), h1)) := by
  show sem (X, K X d) 245 0 [some (.ref x0), some (.int x1)] [] h = _
  refine (s_iload_n 1 mc_245 dJ1_charAt_3b067_0 rfl rfl rfl).trans ?_
  refine (s_aload_n 2 mc_245 dJ1_charAt_3b067_1 rfl rfl rfl).trans ?_
  refine (s_alen 3 mc_245 dJ1_charAt_3b067_2 rfl).trans ?_
  refine aL_c fun g1 => ?_
  refine (s_istV 6 mc_245 dJ1_charAt_3b067_3 rfl mo_245 mm_16_9 (by decide) ms_244 mr_244 ma_244 (Nat.le_of_ble_eq_true rfl) rfl rfl (Nat.le_of_ble_eq_true rfl)).trans ?_
  refine bV_c fun h1 => ?_
  refine (s_aload_n 7 mc_245 dJ1_charAt_3b067_6 rfl rfl rfl).trans ?_
  refine (s_iload_n 8 mc_245 dJ1_charAt_3b067_7 rfl rfl rfl).trans ?_
  refine (s_baload 9 mc_245 dJ1_charAt_3b067_8 rfl).trans ?_
  refine aZ_c fun g2 => ?_
  refine (s_sipush 12 255 mc_245 dJ1_charAt_3b067_9 rfl (by decide)).trans ?_
  refine (s_iand 13 mc_245 dJ1_charAt_3b067_12 rfl).trans ?_
  refine (s_i2c 14 mc_245 dJ1_charAt_3b067_13 rfl).trans ?_
  exact s_cret mc_245 dJ1_charAt_3b067_14 mt_245
/-- jdk/internal/util/Preconditions.checkIndex(IILjava/util/function/BiFunction;)I -/
theorem k_246 {X : Ctx} {d : Nat} (x0 : Int32) (x1 : Int32) (x2 : Nat) (h : Hp) : K X (d + 1) 246 [.int x0, .int x1, .ref x2] h = if x0 < 0 then none else if x0 < x1 then some (some (.int x0), h) else none := by
  show sem (X, K X d) 246 0 [some (.int x0), some (.int x1), some (.ref x2)] [] h = _
  refine (s_iload_n 1 mc_246 dJ3_checkIndex_8e157_0 rfl rfl rfl).trans ?_
  refine (s_if_lt 9 4 mc_246 dJ3_checkIndex_8e157_1 rfl rfl).trans ?_
  refine ite_c ?_ ?_
  · skip
    refine (s_aload_n 10 mc_246 dJ3_checkIndex_8e157_9 rfl rfl rfl).trans ?_
    refine (s_iload_n 11 mc_246 dJ3_checkIndex_8e157_10 rfl rfl rfl).trans ?_
    refine (s_iload_n 12 mc_246 dJ3_checkIndex_8e157_11 rfl rfl rfl).trans ?_
    exact s_stk_invokestatic mc_246 dJ3_checkIndex_8e157_12 mo_246 (by decide +kernel)
  · skip
    refine (s_iload_n 5 mc_246 dJ3_checkIndex_8e157_4 rfl rfl rfl).trans ?_
    refine (s_iload_n 6 mc_246 dJ3_checkIndex_8e157_5 rfl rfl rfl).trans ?_
    refine (s_icmp_lt 16 9 mc_246 dJ3_checkIndex_8e157_6 rfl rfl).trans ?_
    refine ite_c ?_ ?_
    · skip
      refine (s_iload_n 17 mc_246 dJ3_checkIndex_8e157_16 rfl rfl rfl).trans ?_
      exact s_iret mc_246 dJ3_checkIndex_8e157_17 mt_246
    · skip
      refine (s_aload_n 10 mc_246 dJ3_checkIndex_8e157_9 rfl rfl rfl).trans ?_
      refine (s_iload_n 11 mc_246 dJ3_checkIndex_8e157_10 rfl rfl rfl).trans ?_
      refine (s_iload_n 12 mc_246 dJ3_checkIndex_8e157_11 rfl rfl rfl).trans ?_
      exact s_stk_invokestatic mc_246 dJ3_checkIndex_8e157_12 mo_246 (by decide +kernel)
