/-- FiveLands$Reader.<init>()V -/
theorem k_37 {X : Ctx} {d : Nat} (x0 : Nat) (h : Hp) : K X (d + 1) 37 [.ref x0] h = letH (hN h) (alc h (51, 29) 29) fun a1 h1 => fR h1 5 x0 0 a1 fun h2 => letH (hN h2) (alc h2 (50, 601) 601) fun a3 h3 => fR h3 5 x0 1 a3 fun h4 => letH (hN h4) (alc h4 (50, 601) 601) fun a5 h5 => fR h5 5 x0 2 a5 fun h6 => letH (hN h6) (alc h6 (50, 601) 601) fun a7 h7 => fR h7 5 x0 3 a7 fun h8 => letH (hN h8) (alc h8 (50, 64) 64) fun a9 h9 => fR h9 5 x0 4 a9 fun h10 => fI h10 5 x0 12 (-1) fun h11 => sem (X, K X d) 37 56 [some (.ref x0), some (.int 0), some (.int 0), none] [] h11 := by
  show sem (X, K X d) 37 0 [some (.ref x0), none, none, none] [] h = _
  refine (s_aload_n 1 mc_37 dX5_init_0 rfl rfl rfl).trans ?_
  refine (s_obj 4 mc_37 dX5_init_1 rfl mo_37 mm_5_3 mq_37 (Nat.le_of_ble_eq_true rfl)).trans ?_
  refine (s_aload_n 5 mc_37 dX5_init_4 rfl rfl rfl).trans ?_
  refine (s_bipush 7 29 mc_37 dX5_init_5 rfl (by decide)).trans ?_
  refine (s_newJ 9 mc_37 dX5_init_7 rfl mq_37 (by decide) rfl (by decide)).trans ?_
  refine letH_i (F := fun a1 h1 => sem (X, K X d) 37 9 [some (.ref x0), none, none, none] [.ref a1, .ref x0] h1) (hN h) (alc h (51, 29) 29) ?_
  intro a1 h1
  refine (s_putfR 12 mc_37 dX5_init_9 rfl mo_37 ff_5_9 rfl (Or.inr ⟨mo_37, mn_37⟩)).trans ?_
  refine fR_c fun h2 => ?_
  refine (s_aload_n 13 mc_37 dX5_init_12 rfl rfl rfl).trans ?_
  refine (s_sipush 16 601 mc_37 dX5_init_13 rfl (by decide)).trans ?_
  refine (s_newI 18 mc_37 dX5_init_16 rfl mq_37 (by decide) rfl (by decide)).trans ?_
  refine letH_i (F := fun a3 h3 => sem (X, K X d) 37 18 [some (.ref x0), none, none, none] [.ref a3, .ref x0] h3) (hN h2) (alc h2 (50, 601) 601) ?_
  intro a3 h3
  refine (s_putfR 21 mc_37 dX5_init_18 rfl mo_37 ff_5_15 rfl (Or.inr ⟨mo_37, mn_37⟩)).trans ?_
  refine fR_c fun h4 => ?_
  refine (s_aload_n 22 mc_37 dX5_init_21 rfl rfl rfl).trans ?_
  refine (s_sipush 25 601 mc_37 dX5_init_22 rfl (by decide)).trans ?_
  refine (s_newI 27 mc_37 dX5_init_25 rfl mq_37 (by decide) rfl (by decide)).trans ?_
  refine letH_i (F := fun a5 h5 => sem (X, K X d) 37 27 [some (.ref x0), none, none, none] [.ref a5, .ref x0] h5) (hN h4) (alc h4 (50, 601) 601) ?_
  intro a5 h5
  refine (s_putfR 30 mc_37 dX5_init_27 rfl mo_37 ff_5_19 rfl (Or.inr ⟨mo_37, mn_37⟩)).trans ?_
  refine fR_c fun h6 => ?_
  refine (s_aload_n 31 mc_37 dX5_init_30 rfl rfl rfl).trans ?_
  refine (s_sipush 34 601 mc_37 dX5_init_31 rfl (by decide)).trans ?_
  refine (s_newI 36 mc_37 dX5_init_34 rfl mq_37 (by decide) rfl (by decide)).trans ?_
  refine letH_i (F := fun a7 h7 => sem (X, K X d) 37 36 [some (.ref x0), none, none, none] [.ref a7, .ref x0] h7) (hN h6) (alc h6 (50, 601) 601) ?_
  intro a7 h7
  refine (s_putfR 39 mc_37 dX5_init_36 rfl mo_37 ff_5_22 rfl (Or.inr ⟨mo_37, mn_37⟩)).trans ?_
  refine fR_c fun h8 => ?_
  refine (s_aload_n 40 mc_37 dX5_init_39 rfl rfl rfl).trans ?_
  refine (s_bipush 42 64 mc_37 dX5_init_40 rfl (by decide)).trans ?_
  refine (s_newI 44 mc_37 dX5_init_42 rfl mq_37 (by decide) rfl (by decide)).trans ?_
  refine letH_i (F := fun a9 h9 => sem (X, K X d) 37 44 [some (.ref x0), none, none, none] [.ref a9, .ref x0] h9) (hN h8) (alc h8 (50, 64) 64) ?_
  intro a9 h9
  refine (s_putfR 47 mc_37 dX5_init_44 rfl mo_37 ff_5_25 rfl (Or.inr ⟨mo_37, mn_37⟩)).trans ?_
  refine fR_c fun h10 => ?_
  refine (s_aload_n 48 mc_37 dX5_init_47 rfl rfl rfl).trans ?_
  refine (s_iconst 49 (-1) mc_37 dX5_init_48 rfl (by decide)).trans ?_
  refine (s_putfI 52 mc_37 dX5_init_49 rfl mo_37 ff_5_28 rfl (Or.inl rfl)).trans ?_
  refine fI_c fun h11 => ?_
  refine (s_iconst 53 0 mc_37 dX5_init_52 rfl (by decide)).trans ?_
  refine (s_istore_n 54 mc_37 dX5_init_53 rfl rfl (Nat.le_of_ble_eq_true rfl) rfl).trans ?_
  refine (s_iconst 55 0 mc_37 dX5_init_54 rfl (by decide)).trans ?_
  refine (s_istore_n 56 mc_37 dX5_init_55 rfl rfl (Nat.le_of_ble_eq_true rfl) rfl).trans ?_
  rfl
theorem b_37_56 {X : Ctx} {d : Nat} (x0 : Nat) (x1 : Int32) (x2 : Int32) (v3 : Option Value)  (h : Hp) : sem (X, K X d) 37 56 [some (.ref x0), some (.int x1), some (.int x2), v3] [] h = gd (1 ≤ 1 ∧ 1 < 31) (bI (K X d 240 [.ref 1] h) fun r1 h1 => if r1 ≤ x2 then some (none, h1) else if 29 ≤ x1 then some (none, h1) else gd (1 ≤ 1 ∧ 1 < 31) (bI (K X d 241 [.ref 1, .int x2] h1) fun r2 h2 => if ¬ r2 = 32 then gR h2 5 x0 0 fun g3 => gR h2 5 x0 0 fun g4 => aJ h2 g4 x1 fun g5 => wJ h2 g3 x1 ((g5 <<< ((8 : Int32).toInt64 &&& 63)) ||| (r2 : Int32).toInt64) fun h3 => sem (X, K X d) 37 56 [some (.ref x0), some (.int x1), some (.int (x2 + 1)), some (.int r2)] [] h3 else sem (X, K X d) 37 56 [some (.ref x0), some (.int (x1 + 1)), some (.int (x2 + 1)), some (.int r2)] [] h2)) := by
  refine (s_iload_n 57 mc_37 dX5_init_56 rfl rfl rfl).trans ?_
  refine (s_ldcS 59 mc_37 dX5_init_57 rfl mo_37 cn_5_32 sr_5_32 rfl).trans ?_
  refine (s_iviS 62 mc_37 dX5_init_59 rfl mo_37 mm_5_34 (by decide) ms_240 mi_240 mr_240 ma_240 mo_240 (Nat.le_of_ble_eq_true rfl) rfl rfl (Nat.le_of_ble_eq_true rfl)).trans ?_
  refine gd_c ?_
  refine bI_c fun r1 h1 => ?_
  refine (s_icmp_ge 114 65 mc_37 dX5_init_62 rfl rfl).trans ?_
  refine ite_c ?_ ?_
  · skip
    exact s_vret mc_37 dX5_init_114 mt_37
  · skip
    refine (s_iload_n 66 mc_37 dX5_init_65 rfl rfl rfl).trans ?_
    refine (s_bipush 68 29 mc_37 dX5_init_66 rfl (by decide)).trans ?_
    refine (s_icmp_ge 114 71 mc_37 dX5_init_68 rfl rfl).trans ?_
    refine ite_c ?_ ?_
    · skip
      exact s_vret mc_37 dX5_init_114 mt_37
    · skip
      refine (s_ldcS 73 mc_37 dX5_init_71 rfl mo_37 cn_5_32 sr_5_32 rfl).trans ?_
      refine (s_iload_n 74 mc_37 dX5_init_73 rfl rfl rfl).trans ?_
      refine (s_iviS 77 mc_37 dX5_init_74 rfl mo_37 mm_5_40 (by decide) ms_241 mi_241 mr_241 ma_241 mo_241 (Nat.le_of_ble_eq_true rfl) rfl rfl (Nat.le_of_ble_eq_true rfl)).trans ?_
      refine gd_c ?_
      refine bI_c fun r2 h2 => ?_
      refine (s_istore_n 78 mc_37 dX5_init_77 rfl rfl (Nat.le_of_ble_eq_true rfl) rfl).trans ?_
      refine (s_iload_n 79 mc_37 dX5_init_78 rfl rfl rfl).trans ?_
      refine (s_bipush 81 32 mc_37 dX5_init_79 rfl (by decide)).trans ?_
      refine (s_icmp_ne 90 84 mc_37 dX5_init_81 rfl rfl).trans ?_
      refine ite_c ?_ ?_
      · skip
        refine (s_aload_n 91 mc_37 dX5_init_90 rfl rfl rfl).trans ?_
        refine (s_getfR 94 mc_37 dX5_init_91 rfl mo_37 fs_5_9 ff_5_9 rfl).trans ?_
        refine gR_c fun g3 => ?_
        refine (s_iload_n 95 mc_37 dX5_init_94 rfl rfl rfl).trans ?_
        refine (s_aload_n 96 mc_37 dX5_init_95 rfl rfl rfl).trans ?_
        refine (s_getfR 99 mc_37 dX5_init_96 rfl mo_37 fs_5_9 ff_5_9 rfl).trans ?_
        refine gR_c fun g4 => ?_
        refine (s_iload_n 100 mc_37 dX5_init_99 rfl rfl rfl).trans ?_
        refine (s_laload 101 mc_37 dX5_init_100 rfl).trans ?_
        refine aJ_c fun g5 => ?_
        refine (s_bipush 103 8 mc_37 dX5_init_101 rfl (by decide)).trans ?_
        refine (s_lshl 104 mc_37 dX5_init_103 rfl).trans ?_
        refine (s_iload_n 105 mc_37 dX5_init_104 rfl rfl rfl).trans ?_
        refine (s_i2l 106 mc_37 dX5_init_105 rfl).trans ?_
        refine (s_lor 107 mc_37 dX5_init_106 rfl).trans ?_
        refine (s_lastore 108 mc_37 dX5_init_107 rfl).trans ?_
        refine wJ_c fun h3 => ?_
        refine (s_iinc 1 111 mc_37 dX5_init_108 rfl rfl (Nat.le_of_ble_eq_true rfl) (by decide) rfl).trans ?_
        refine (s_goto 56 mc_37 dX5_init_111 rfl).trans ?_
        rfl
      · skip
        refine (s_iinc 1 87 mc_37 dX5_init_84 rfl rfl (Nat.le_of_ble_eq_true rfl) (by decide) rfl).trans ?_
        refine (s_goto 108 mc_37 dX5_init_87 rfl).trans ?_
        refine (s_iinc 1 111 mc_37 dX5_init_108 rfl rfl (Nat.le_of_ble_eq_true rfl) (by decide) rfl).trans ?_
        refine (s_goto 56 mc_37 dX5_init_111 rfl).trans ?_
        rfl
/-- FiveLands$Reader.forget()V -/
theorem k_38 {X : Ctx} {d : Nat} (x0 : Nat) (h : Hp) : K X (d + 1) 38 [.ref x0] h = fI h 5 x0 11 0 fun h1 => fI h1 5 x0 12 (-1) fun h2 => fI h2 5 x0 8 0 fun h3 => fZ h3 5 x0 13 0 fun h4 => fZ h4 5 x0 14 0 fun h5 => some (none, h5) := by
  show sem (X, K X d) 38 0 [some (.ref x0)] [] h = _
  refine (s_aload_n 1 mc_38 dX5_forget_0 rfl rfl rfl).trans ?_
  refine (s_iconst 2 0 mc_38 dX5_forget_1 rfl (by decide)).trans ?_
  refine (s_putfI 5 mc_38 dX5_forget_2 rfl mo_38 ff_5_44 rfl (Or.inl rfl)).trans ?_
  refine fI_c fun h1 => ?_
  refine (s_aload_n 6 mc_38 dX5_forget_5 rfl rfl rfl).trans ?_
  refine (s_iconst 7 (-1) mc_38 dX5_forget_6 rfl (by decide)).trans ?_
  refine (s_putfI 10 mc_38 dX5_forget_7 rfl mo_38 ff_5_28 rfl (Or.inl rfl)).trans ?_
  refine fI_c fun h2 => ?_
  refine (s_aload_n 11 mc_38 dX5_forget_10 rfl rfl rfl).trans ?_
  refine (s_iconst 12 0 mc_38 dX5_forget_11 rfl (by decide)).trans ?_
  refine (s_putfI 15 mc_38 dX5_forget_12 rfl mo_38 ff_5_47 rfl (Or.inl rfl)).trans ?_
  refine fI_c fun h3 => ?_
  refine (s_aload_n 16 mc_38 dX5_forget_15 rfl rfl rfl).trans ?_
  refine (s_iconst 17 0 mc_38 dX5_forget_16 rfl (by decide)).trans ?_
  refine (s_putfZ 20 mc_38 dX5_forget_17 rfl mo_38 ff_5_50 rfl (Or.inl rfl)).trans ?_
  refine fZ_c fun h4 => ?_
  refine (s_aload_n 21 mc_38 dX5_forget_20 rfl rfl rfl).trans ?_
  refine (s_iconst 22 0 mc_38 dX5_forget_21 rfl (by decide)).trans ?_
  refine (s_putfZ 25 mc_38 dX5_forget_22 rfl mo_38 ff_5_54 rfl (Or.inl rfl)).trans ?_
  refine fZ_c fun h5 => ?_
  exact s_vret mc_38 dX5_forget_25 mt_38
/-- FiveLands$Reader.readLaw([IILFiveLands$Law;)I -/
theorem k_39 {X : Ctx} {d : Nat} (x0 : Nat) (x1 : Nat) (x2 : Int32) (x3 : Nat) (h : Hp) : K X (d + 1) 39 [.ref x0, .ref x1, .int x2, .ref x3] h = fR h 5 x0 5 x3 fun h1 => gR h1 5 x0 5 fun g1 => gd (hS h1 g1 = (2, 0)) (bV (K X d 2 [.ref g1] h1) fun h2 => gd (hS h2 x0 = (6, 0)) (bV (K X d 70 [.ref x0, .ref x1, .int x2] h2) fun h3 => sem (X, K X d) 39 21 [some (.ref x0), some (.ref x1), some (.int x2), some (.ref x3), some (.int 0)] [] h3)) := by
  show sem (X, K X d) 39 0 [some (.ref x0), some (.ref x1), some (.int x2), some (.ref x3), none] [] h = _
  refine (s_aload_n 1 mc_39 dX5_readLaw_0 rfl rfl rfl).trans ?_
  refine (s_aload_n 2 mc_39 dX5_readLaw_1 rfl rfl rfl).trans ?_
  refine (s_putfR 5 mc_39 dX5_readLaw_2 rfl mo_39 ff_5_57 rfl (Or.inl rfl)).trans ?_
  refine fR_c fun h1 => ?_
  refine (s_aload_n 6 mc_39 dX5_readLaw_5 rfl rfl rfl).trans ?_
  refine (s_getfR 9 mc_39 dX5_readLaw_6 rfl mo_39 fs_5_57 ff_5_57 rfl).trans ?_
  refine gR_c fun g1 => ?_
  refine (s_iviV 12 mc_39 dX5_readLaw_9 rfl mo_39 mm_5_61 (by decide) ms_2 mi_2 mr_2 ma_2 mo_2 (by decide) (Nat.le_of_ble_eq_true rfl) rfl rfl (Nat.le_of_ble_eq_true rfl)).trans ?_
  refine gd_c ?_
  refine bV_c fun h2 => ?_
  refine (s_aload_n 13 mc_39 dX5_readLaw_12 rfl rfl rfl).trans ?_
  refine (s_aload_n 14 mc_39 dX5_readLaw_13 rfl rfl rfl).trans ?_
  refine (s_iload_n 15 mc_39 dX5_readLaw_14 rfl rfl rfl).trans ?_
  refine (s_iviV 18 mc_39 dX5_readLaw_15 rfl mo_39 mm_5_66 (by decide) ms_70 mi_70 mr_70 ma_70 mo_70 (by decide) (Nat.le_of_ble_eq_true rfl) rfl rfl (Nat.le_of_ble_eq_true rfl)).trans ?_
  refine gd_c ?_
  refine bV_c fun h3 => ?_
  refine (s_iconst 19 0 mc_39 dX5_readLaw_18 rfl (by decide)).trans ?_
  refine (s_istore 21 mc_39 dX5_readLaw_19 rfl (Nat.le_of_ble_eq_true rfl) rfl).trans ?_
  rfl
theorem b_39_21 {X : Ctx} {d : Nat} (x0 : Nat) (v1 : Option Value) (v2 : Option Value) (v3 : Option Value) (x4 : Int32)  (h : Hp) : sem (X, K X d) 39 21 [some (.ref x0), v1, v2, v3, some (.int x4)] [] h = if 20 < x4 then some (some (.int (-1)), h) else gd (hS h x0 = (6, 0)) (bI (K X d 68 [.ref x0] h) fun r1 h1 => if ¬ r1 = 101 then gd (hS h1 x0 = (6, 0)) (bI (K X d 41 [.ref x0, .int x4] h1) fun r2 h2 => if r2 = 0 then some (some (.int (-1)), h2) else gd (hS h2 x0 = (6, 0)) (bI (K X d 67 [.ref x0, .int 59] h2) fun r3 h3 => if ¬ r3 = 0 then sem (X, K X d) 39 21 [some (.ref x0), v1, v2, v3, some (.int (x4 + 1))] [] h3 else some (some (.int (-1)), h3))) else some (some (.int x4), h1)) := by
  refine (s_iload 23 mc_39 dX5_readLaw_21 rfl rfl).trans ?_
  refine (s_bipush 25 20 mc_39 dX5_readLaw_23 rfl (by decide)).trans ?_
  refine (s_icmp_gt 66 28 mc_39 dX5_readLaw_25 rfl rfl).trans ?_
  refine ite_c ?_ ?_
  · skip
    refine (s_iconst 67 (-1) mc_39 dX5_readLaw_66 rfl (by decide)).trans ?_
    exact s_iret mc_39 dX5_readLaw_67 mt_39
  · skip
    refine (s_aload_n 29 mc_39 dX5_readLaw_28 rfl rfl rfl).trans ?_
    refine (s_iviI 32 mc_39 dX5_readLaw_29 rfl mo_39 mm_5_70 (by decide) ms_68 mi_68 mr_68 ma_68 mo_68 (by decide) (Nat.le_of_ble_eq_true rfl) rfl rfl (Nat.le_of_ble_eq_true rfl)).trans ?_
    refine gd_c ?_
    refine bI_c fun r1 h1 => ?_
    refine (s_bipush 34 101 mc_39 dX5_readLaw_32 rfl (by decide)).trans ?_
    refine (s_icmp_ne 40 37 mc_39 dX5_readLaw_34 rfl rfl).trans ?_
    refine ite_c ?_ ?_
    · skip
      refine (s_aload_n 41 mc_39 dX5_readLaw_40 rfl rfl rfl).trans ?_
      refine (s_iload 43 mc_39 dX5_readLaw_41 rfl rfl).trans ?_
      refine (s_iviI 46 mc_39 dX5_readLaw_43 rfl mo_39 mm_5_73 (by decide) ms_41 mi_41 mr_41 ma_41 mo_41 (by decide) (Nat.le_of_ble_eq_true rfl) rfl rfl (Nat.le_of_ble_eq_true rfl)).trans ?_
      refine gd_c ?_
      refine bI_c fun r2 h2 => ?_
      refine (s_if_eq 58 49 mc_39 dX5_readLaw_46 rfl rfl).trans ?_
      refine ite_c ?_ ?_
      · skip
        refine (s_iconst 59 (-1) mc_39 dX5_readLaw_58 rfl (by decide)).trans ?_
        exact s_iret mc_39 dX5_readLaw_59 mt_39
      · skip
        refine (s_aload_n 50 mc_39 dX5_readLaw_49 rfl rfl rfl).trans ?_
        refine (s_bipush 52 59 mc_39 dX5_readLaw_50 rfl (by decide)).trans ?_
        refine (s_iviI 55 mc_39 dX5_readLaw_52 rfl mo_39 mm_5_77 (by decide) ms_67 mi_67 mr_67 ma_67 mo_67 (by decide) (Nat.le_of_ble_eq_true rfl) rfl rfl (Nat.le_of_ble_eq_true rfl)).trans ?_
        refine gd_c ?_
        refine bI_c fun r3 h3 => ?_
        refine (s_if_ne 60 58 mc_39 dX5_readLaw_55 rfl rfl).trans ?_
        refine ite_c ?_ ?_
        · skip
          refine (s_iinc 1 63 mc_39 dX5_readLaw_60 rfl rfl (Nat.le_of_ble_eq_true rfl) (by decide) rfl).trans ?_
          refine (s_goto 21 mc_39 dX5_readLaw_63 rfl).trans ?_
          rfl
        · skip
          refine (s_iconst 59 (-1) mc_39 dX5_readLaw_58 rfl (by decide)).trans ?_
          exact s_iret mc_39 dX5_readLaw_59 mt_39
    · skip
      refine (s_iload 39 mc_39 dX5_readLaw_37 rfl rfl).trans ?_
      exact s_iret mc_39 dX5_readLaw_39 mt_39
/-- FiveLands$Reader.readPact([IILFiveLands$Pact;)I -/
theorem k_40 {X : Ctx} {d : Nat} (x0 : Nat) (x1 : Nat) (x2 : Int32) (x3 : Nat) (h : Hp) : K X (d + 1) 40 [.ref x0, .ref x1, .int x2, .ref x3] h = fR h 5 x0 6 x3 fun h1 => gR h1 5 x0 6 fun g1 => gd (hS h1 g1 = (4, 0)) (bV (K X d 30 [.ref g1] h1) fun h2 => gd (hS h2 x0 = (6, 0)) (bV (K X d 70 [.ref x0, .ref x1, .int x2] h2) fun h3 => sem (X, K X d) 40 21 [some (.ref x0), some (.ref x1), some (.int x2), some (.ref x3), some (.int 0)] [] h3)) := by
  show sem (X, K X d) 40 0 [some (.ref x0), some (.ref x1), some (.int x2), some (.ref x3), none] [] h = _
  refine (s_aload_n 1 mc_40 dX5_readPact_0 rfl rfl rfl).trans ?_
  refine (s_aload_n 2 mc_40 dX5_readPact_1 rfl rfl rfl).trans ?_
  refine (s_putfR 5 mc_40 dX5_readPact_2 rfl mo_40 ff_5_80 rfl (Or.inl rfl)).trans ?_
  refine fR_c fun h1 => ?_
  refine (s_aload_n 6 mc_40 dX5_readPact_5 rfl rfl rfl).trans ?_
  refine (s_getfR 9 mc_40 dX5_readPact_6 rfl mo_40 fs_5_80 ff_5_80 rfl).trans ?_
  refine gR_c fun g1 => ?_
  refine (s_iviV 12 mc_40 dX5_readPact_9 rfl mo_40 mm_5_84 (by decide) ms_30 mi_30 mr_30 ma_30 mo_30 (by decide) (Nat.le_of_ble_eq_true rfl) rfl rfl (Nat.le_of_ble_eq_true rfl)).trans ?_
  refine gd_c ?_
  refine bV_c fun h2 => ?_
  refine (s_aload_n 13 mc_40 dX5_readPact_12 rfl rfl rfl).trans ?_
  refine (s_aload_n 14 mc_40 dX5_readPact_13 rfl rfl rfl).trans ?_
  refine (s_iload_n 15 mc_40 dX5_readPact_14 rfl rfl rfl).trans ?_
  refine (s_iviV 18 mc_40 dX5_readPact_15 rfl mo_40 mm_5_66 (by decide) ms_70 mi_70 mr_70 ma_70 mo_70 (by decide) (Nat.le_of_ble_eq_true rfl) rfl rfl (Nat.le_of_ble_eq_true rfl)).trans ?_
  refine gd_c ?_
  refine bV_c fun h3 => ?_
  refine (s_iconst 19 0 mc_40 dX5_readPact_18 rfl (by decide)).trans ?_
  refine (s_istore 21 mc_40 dX5_readPact_19 rfl (Nat.le_of_ble_eq_true rfl) rfl).trans ?_
  rfl
theorem b_40_21 {X : Ctx} {d : Nat} (x0 : Nat) (v1 : Option Value) (v2 : Option Value) (v3 : Option Value) (x4 : Int32)  (h : Hp) : sem (X, K X d) 40 21 [some (.ref x0), v1, v2, v3, some (.int x4)] [] h = if 20 < x4 then some (some (.int (-1)), h) else gd (hS h x0 = (6, 0)) (bI (K X d 68 [.ref x0] h) fun r1 h1 => if ¬ r1 = 101 then gd (hS h1 x0 = (6, 0)) (bI (K X d 48 [.ref x0, .int x4] h1) fun r2 h2 => if r2 = 0 then some (some (.int (-1)), h2) else gd (hS h2 x0 = (6, 0)) (bI (K X d 67 [.ref x0, .int 59] h2) fun r3 h3 => if ¬ r3 = 0 then sem (X, K X d) 40 21 [some (.ref x0), v1, v2, v3, some (.int (x4 + 1))] [] h3 else some (some (.int (-1)), h3))) else some (some (.int x4), h1)) := by
  refine (s_iload 23 mc_40 dX5_readPact_21 rfl rfl).trans ?_
  refine (s_bipush 25 20 mc_40 dX5_readPact_23 rfl (by decide)).trans ?_
  refine (s_icmp_gt 66 28 mc_40 dX5_readPact_25 rfl rfl).trans ?_
  refine ite_c ?_ ?_
  · skip
    refine (s_iconst 67 (-1) mc_40 dX5_readPact_66 rfl (by decide)).trans ?_
    exact s_iret mc_40 dX5_readPact_67 mt_40
  · skip
    refine (s_aload_n 29 mc_40 dX5_readPact_28 rfl rfl rfl).trans ?_
    refine (s_iviI 32 mc_40 dX5_readPact_29 rfl mo_40 mm_5_70 (by decide) ms_68 mi_68 mr_68 ma_68 mo_68 (by decide) (Nat.le_of_ble_eq_true rfl) rfl rfl (Nat.le_of_ble_eq_true rfl)).trans ?_
    refine gd_c ?_
    refine bI_c fun r1 h1 => ?_
    refine (s_bipush 34 101 mc_40 dX5_readPact_32 rfl (by decide)).trans ?_
    refine (s_icmp_ne 40 37 mc_40 dX5_readPact_34 rfl rfl).trans ?_
    refine ite_c ?_ ?_
    · skip
      refine (s_aload_n 41 mc_40 dX5_readPact_40 rfl rfl rfl).trans ?_
      refine (s_iload 43 mc_40 dX5_readPact_41 rfl rfl).trans ?_
      refine (s_iviI 46 mc_40 dX5_readPact_43 rfl mo_40 mm_5_87 (by decide) ms_48 mi_48 mr_48 ma_48 mo_48 (by decide) (Nat.le_of_ble_eq_true rfl) rfl rfl (Nat.le_of_ble_eq_true rfl)).trans ?_
      refine gd_c ?_
      refine bI_c fun r2 h2 => ?_
      refine (s_if_eq 58 49 mc_40 dX5_readPact_46 rfl rfl).trans ?_
      refine ite_c ?_ ?_
      · skip
        refine (s_iconst 59 (-1) mc_40 dX5_readPact_58 rfl (by decide)).trans ?_
        exact s_iret mc_40 dX5_readPact_59 mt_40
      · skip
        refine (s_aload_n 50 mc_40 dX5_readPact_49 rfl rfl rfl).trans ?_
        refine (s_bipush 52 59 mc_40 dX5_readPact_50 rfl (by decide)).trans ?_
        refine (s_iviI 55 mc_40 dX5_readPact_52 rfl mo_40 mm_5_77 (by decide) ms_67 mi_67 mr_67 ma_67 mo_67 (by decide) (Nat.le_of_ble_eq_true rfl) rfl rfl (Nat.le_of_ble_eq_true rfl)).trans ?_
        refine gd_c ?_
        refine bI_c fun r3 h3 => ?_
        refine (s_if_ne 60 58 mc_40 dX5_readPact_55 rfl rfl).trans ?_
        refine ite_c ?_ ?_
        · skip
          refine (s_iinc 1 63 mc_40 dX5_readPact_60 rfl rfl (Nat.le_of_ble_eq_true rfl) (by decide) rfl).trans ?_
          refine (s_goto 21 mc_40 dX5_readPact_63 rfl).trans ?_
          rfl
        · skip
          refine (s_iconst 59 (-1) mc_40 dX5_readPact_58 rfl (by decide)).trans ?_
          exact s_iret mc_40 dX5_readPact_59 mt_40
    · skip
      refine (s_iload 39 mc_40 dX5_readPact_37 rfl rfl).trans ?_
      exact s_iret mc_40 dX5_readPact_39 mt_40
/-- FiveLands$Reader.lawLine(I)Z -/
theorem k_41 {X : Ctx} {d : Nat} (x0 : Nat) (x1 : Int32) (h : Hp) : K X (d + 1) 41 [.ref x0, .int x1] h = gd (hS h x0 = (6, 0)) (bI (K X d 68 [.ref x0] h) fun r1 h1 => if r1 < 14 then gd (hS h1 x0 = (6, 0)) (bI (K X d 69 [.ref x0, .int 1] h1) fun r2 h2 => gd (okN .boolean r2) (some (some (.int r2), h2))) else if r1 ≤ 18 then if 20 ≤ x1 then gd (hS h1 x0 = (6, 0)) (bI (K X d 69 [.ref x0, .int 3] h1) fun r3 h3 => gd (okN .boolean r3) (some (some (.int r3), h3))) else if ¬ r1 = 16 then sem (X, K X d) 41 42 [some (.ref x0), some (.int x1), some (.int r1)] [] h1 else gI h1 5 x0 13 fun g4 => if ¬ g4 = 0 then gd (hS h1 x0 = (6, 0)) (bI (K X d 69 [.ref x0, .int 3] h1) fun r5 h4 => gd (okN .boolean r5) (some (some (.int r5), h4))) else sem (X, K X d) 41 42 [some (.ref x0), some (.int x1), some (.int r1)] [] h1 else gd (hS h1 x0 = (6, 0)) (bI (K X d 69 [.ref x0, .int 1] h1) fun r6 h5 => gd (okN .boolean r6) (some (some (.int r6), h5)))) := by
  show sem (X, K X d) 41 0 [some (.ref x0), some (.int x1), none] [] h = _
  refine (s_aload_n 1 mc_41 dX5_lawLine_0 rfl rfl rfl).trans ?_
  refine (s_iviI 4 mc_41 dX5_lawLine_1 rfl mo_41 mm_5_70 (by decide) ms_68 mi_68 mr_68 ma_68 mo_68 (by decide) (Nat.le_of_ble_eq_true rfl) rfl rfl (Nat.le_of_ble_eq_true rfl)).trans ?_
  refine gd_c ?_
  refine bI_c fun r1 h1 => ?_
  refine (s_istore_n 5 mc_41 dX5_lawLine_4 rfl rfl (Nat.le_of_ble_eq_true rfl) rfl).trans ?_
  refine (s_iload_n 6 mc_41 dX5_lawLine_5 rfl rfl rfl).trans ?_
  refine (s_bipush 8 14 mc_41 dX5_lawLine_6 rfl (by decide)).trans ?_
  refine (s_icmp_lt 17 11 mc_41 dX5_lawLine_8 rfl rfl).trans ?_
  refine ite_c ?_ ?_
  · skip
    refine (s_aload_n 18 mc_41 dX5_lawLine_17 rfl rfl rfl).trans ?_
    refine (s_iconst 19 1 mc_41 dX5_lawLine_18 rfl (by decide)).trans ?_
    refine (s_iviI 22 mc_41 dX5_lawLine_19 rfl mo_41 mm_5_90 (by decide) ms_69 mi_69 mr_69 ma_69 mo_69 (by decide) (Nat.le_of_ble_eq_true rfl) rfl rfl (Nat.le_of_ble_eq_true rfl)).trans ?_
    refine gd_c ?_
    refine bI_c fun r2 h2 => ?_
    exact s_zret mc_41 dX5_lawLine_22 mt_41
  · skip
    refine (s_iload_n 12 mc_41 dX5_lawLine_11 rfl rfl rfl).trans ?_
    refine (s_bipush 14 18 mc_41 dX5_lawLine_12 rfl (by decide)).trans ?_
    refine (s_icmp_le 23 17 mc_41 dX5_lawLine_14 rfl rfl).trans ?_
    refine ite_c ?_ ?_
    · skip
      refine (s_iload_n 24 mc_41 dX5_lawLine_23 rfl rfl rfl).trans ?_
      refine (s_bipush 26 20 mc_41 dX5_lawLine_24 rfl (by decide)).trans ?_
      refine (s_icmp_ge 55 29 mc_41 dX5_lawLine_26 rfl rfl).trans ?_
      refine ite_c ?_ ?_
      · skip
        refine (s_aload_n 56 mc_41 dX5_lawLine_55 rfl rfl rfl).trans ?_
        refine (s_iconst 57 3 mc_41 dX5_lawLine_56 rfl (by decide)).trans ?_
        refine (s_iviI 60 mc_41 dX5_lawLine_57 rfl mo_41 mm_5_90 (by decide) ms_69 mi_69 mr_69 ma_69 mo_69 (by decide) (Nat.le_of_ble_eq_true rfl) rfl rfl (Nat.le_of_ble_eq_true rfl)).trans ?_
        refine gd_c ?_
        refine bI_c fun r3 h3 => ?_
        exact s_zret mc_41 dX5_lawLine_60 mt_41
      · skip
        refine (s_iload_n 30 mc_41 dX5_lawLine_29 rfl rfl rfl).trans ?_
        refine (s_bipush 32 16 mc_41 dX5_lawLine_30 rfl (by decide)).trans ?_
        refine (s_icmp_ne 42 35 mc_41 dX5_lawLine_32 rfl rfl).trans ?_
        refine ite_c ?_ ?_
        · skip
          rfl
        · skip
          refine (s_aload_n 36 mc_41 dX5_lawLine_35 rfl rfl rfl).trans ?_
          refine (s_getfI 39 mc_41 dX5_lawLine_36 rfl mo_41 fs_5_50 ff_5_50 (Or.inr rfl)).trans ?_
          refine gI_c fun g4 => ?_
          refine (s_if_ne 55 42 mc_41 dX5_lawLine_39 rfl rfl).trans ?_
          refine ite_c ?_ ?_
          · skip
            refine (s_aload_n 56 mc_41 dX5_lawLine_55 rfl rfl rfl).trans ?_
            refine (s_iconst 57 3 mc_41 dX5_lawLine_56 rfl (by decide)).trans ?_
            refine (s_iviI 60 mc_41 dX5_lawLine_57 rfl mo_41 mm_5_90 (by decide) ms_69 mi_69 mr_69 ma_69 mo_69 (by decide) (Nat.le_of_ble_eq_true rfl) rfl rfl (Nat.le_of_ble_eq_true rfl)).trans ?_
            refine gd_c ?_
            refine bI_c fun r5 h4 => ?_
            exact s_zret mc_41 dX5_lawLine_60 mt_41
          · skip
            rfl
    · skip
      refine (s_aload_n 18 mc_41 dX5_lawLine_17 rfl rfl rfl).trans ?_
      refine (s_iconst 19 1 mc_41 dX5_lawLine_18 rfl (by decide)).trans ?_
      refine (s_iviI 22 mc_41 dX5_lawLine_19 rfl mo_41 mm_5_90 (by decide) ms_69 mi_69 mr_69 ma_69 mo_69 (by decide) (Nat.le_of_ble_eq_true rfl) rfl rfl (Nat.le_of_ble_eq_true rfl)).trans ?_
      refine gd_c ?_
      refine bI_c fun r6 h5 => ?_
      exact s_zret mc_41 dX5_lawLine_22 mt_41
theorem b_41_42 {X : Ctx} {d : Nat} (x0 : Nat) (v1 : Option Value) (x2 : Int32)  (h : Hp) : sem (X, K X d) 41 42 [some (.ref x0), v1, some (.int x2)] [] h = if ¬ x2 = 18 then gI h 5 x0 8 fun g1 => fI h 5 x0 8 (g1 + 1) fun h1 => sem (X, K X d) 41 (tsw 14 [104, 109, 114, 119] 124 x2) [some (.ref x0), v1, some (.int x2)] [] h1 else gI h 5 x0 14 fun g2 => if g2 = 0 then gI h 5 x0 8 fun g3 => fI h 5 x0 8 (g3 + 1) fun h2 => sem (X, K X d) 41 (tsw 14 [104, 109, 114, 119] 124 x2) [some (.ref x0), v1, some (.int x2)] [] h2 else gd (hS h x0 = (6, 0)) (bI (K X d 69 [.ref x0, .int 3] h) fun r4 h3 => gd (okN .boolean r4) (some (some (.int r4), h3))) := by
  refine (s_iload_n 43 mc_41 dX5_lawLine_42 rfl rfl rfl).trans ?_
  refine (s_bipush 45 18 mc_41 dX5_lawLine_43 rfl (by decide)).trans ?_
  refine (s_icmp_ne 61 48 mc_41 dX5_lawLine_45 rfl rfl).trans ?_
  refine ite_c ?_ ?_
  · skip
    refine (s_aload_n 62 mc_41 dX5_lawLine_61 rfl rfl rfl).trans ?_
    refine (s_dup 63 mc_41 dX5_lawLine_62 rfl rfl).trans ?_
    refine (s_getfI 66 mc_41 dX5_lawLine_63 rfl mo_41 fs_5_47 ff_5_47 (Or.inl rfl)).trans ?_
    refine gI_c fun g1 => ?_
    refine (s_iconst 67 1 mc_41 dX5_lawLine_66 rfl (by decide)).trans ?_
    refine (s_iadd 68 mc_41 dX5_lawLine_67 rfl).trans ?_
    refine (s_putfI 71 mc_41 dX5_lawLine_68 rfl mo_41 ff_5_47 rfl (Or.inl rfl)).trans ?_
    refine fI_c fun h1 => ?_
    refine (s_iload_n 72 mc_41 dX5_lawLine_71 rfl rfl rfl).trans ?_
    refine (s_tsw [104, 109, 114, 119] 124 mc_41 dX5_lawLine_72 rfl rfl rfl).trans ?_
    rfl
  · skip
    refine (s_aload_n 49 mc_41 dX5_lawLine_48 rfl rfl rfl).trans ?_
    refine (s_getfI 52 mc_41 dX5_lawLine_49 rfl mo_41 fs_5_54 ff_5_54 (Or.inr rfl)).trans ?_
    refine gI_c fun g2 => ?_
    refine (s_if_eq 61 55 mc_41 dX5_lawLine_52 rfl rfl).trans ?_
    refine ite_c ?_ ?_
    · skip
      refine (s_aload_n 62 mc_41 dX5_lawLine_61 rfl rfl rfl).trans ?_
      refine (s_dup 63 mc_41 dX5_lawLine_62 rfl rfl).trans ?_
      refine (s_getfI 66 mc_41 dX5_lawLine_63 rfl mo_41 fs_5_47 ff_5_47 (Or.inl rfl)).trans ?_
      refine gI_c fun g3 => ?_
      refine (s_iconst 67 1 mc_41 dX5_lawLine_66 rfl (by decide)).trans ?_
      refine (s_iadd 68 mc_41 dX5_lawLine_67 rfl).trans ?_
      refine (s_putfI 71 mc_41 dX5_lawLine_68 rfl mo_41 ff_5_47 rfl (Or.inl rfl)).trans ?_
      refine fI_c fun h2 => ?_
      refine (s_iload_n 72 mc_41 dX5_lawLine_71 rfl rfl rfl).trans ?_
      refine (s_tsw [104, 109, 114, 119] 124 mc_41 dX5_lawLine_72 rfl rfl rfl).trans ?_
      rfl
    · skip
      refine (s_aload_n 56 mc_41 dX5_lawLine_55 rfl rfl rfl).trans ?_
      refine (s_iconst 57 3 mc_41 dX5_lawLine_56 rfl (by decide)).trans ?_
      refine (s_iviI 60 mc_41 dX5_lawLine_57 rfl mo_41 mm_5_90 (by decide) ms_69 mi_69 mr_69 ma_69 mo_69 (by decide) (Nat.le_of_ble_eq_true rfl) rfl rfl (Nat.le_of_ble_eq_true rfl)).trans ?_
      refine gd_c ?_
      refine bI_c fun r4 h3 => ?_
      exact s_zret mc_41 dX5_lawLine_60 mt_41
theorem b_41_104 {X : Ctx} {d : Nat} (x0 : Nat) (v1 : Option Value) (v2 : Option Value)  (h : Hp) : sem (X, K X d) 41 104 [some (.ref x0), v1, v2] [] h = gd (hS h x0 = (6, 0)) (bI (K X d 42 [.ref x0] h) fun r1 h1 => gd (okN .boolean r1) (some (some (.int r1), h1))) := by
  refine (s_aload_n 105 mc_41 dX5_lawLine_104 rfl rfl rfl).trans ?_
  refine (s_iviI 108 mc_41 dX5_lawLine_105 rfl mo_41 mm_5_93 (by decide) ms_42 mi_42 mr_42 ma_42 mo_42 (by decide) (Nat.le_of_ble_eq_true rfl) rfl rfl (Nat.le_of_ble_eq_true rfl)).trans ?_
  refine gd_c ?_
  refine bI_c fun r1 h1 => ?_
  exact s_zret mc_41 dX5_lawLine_108 mt_41
theorem b_41_109 {X : Ctx} {d : Nat} (x0 : Nat) (v1 : Option Value) (v2 : Option Value)  (h : Hp) : sem (X, K X d) 41 109 [some (.ref x0), v1, v2] [] h = gd (hS h x0 = (6, 0)) (bI (K X d 43 [.ref x0] h) fun r1 h1 => gd (okN .boolean r1) (some (some (.int r1), h1))) := by
  refine (s_aload_n 110 mc_41 dX5_lawLine_109 rfl rfl rfl).trans ?_
  refine (s_iviI 113 mc_41 dX5_lawLine_110 rfl mo_41 mm_5_97 (by decide) ms_43 mi_43 mr_43 ma_43 mo_43 (by decide) (Nat.le_of_ble_eq_true rfl) rfl rfl (Nat.le_of_ble_eq_true rfl)).trans ?_
  refine gd_c ?_
  refine bI_c fun r1 h1 => ?_
  exact s_zret mc_41 dX5_lawLine_113 mt_41
theorem b_41_114 {X : Ctx} {d : Nat} (x0 : Nat) (v1 : Option Value) (v2 : Option Value)  (h : Hp) : sem (X, K X d) 41 114 [some (.ref x0), v1, v2] [] h = gd (hS h x0 = (6, 0)) (bI (K X d 44 [.ref x0] h) fun r1 h1 => gd (okN .boolean r1) (some (some (.int r1), h1))) := by
  refine (s_aload_n 115 mc_41 dX5_lawLine_114 rfl rfl rfl).trans ?_
  refine (s_iviI 118 mc_41 dX5_lawLine_115 rfl mo_41 mm_5_100 (by decide) ms_44 mi_44 mr_44 ma_44 mo_44 (by decide) (Nat.le_of_ble_eq_true rfl) rfl rfl (Nat.le_of_ble_eq_true rfl)).trans ?_
  refine gd_c ?_
  refine bI_c fun r1 h1 => ?_
  exact s_zret mc_41 dX5_lawLine_118 mt_41
theorem b_41_119 {X : Ctx} {d : Nat} (x0 : Nat) (v1 : Option Value) (v2 : Option Value)  (h : Hp) : sem (X, K X d) 41 119 [some (.ref x0), v1, v2] [] h = gd (hS h x0 = (6, 0)) (bI (K X d 45 [.ref x0] h) fun r1 h1 => gd (okN .boolean r1) (some (some (.int r1), h1))) := by
  refine (s_aload_n 120 mc_41 dX5_lawLine_119 rfl rfl rfl).trans ?_
  refine (s_iviI 123 mc_41 dX5_lawLine_120 rfl mo_41 mm_5_103 (by decide) ms_45 mi_45 mr_45 ma_45 mo_45 (by decide) (Nat.le_of_ble_eq_true rfl) rfl rfl (Nat.le_of_ble_eq_true rfl)).trans ?_
  refine gd_c ?_
  refine bI_c fun r1 h1 => ?_
  exact s_zret mc_41 dX5_lawLine_123 mt_41
theorem b_41_124 {X : Ctx} {d : Nat} (x0 : Nat) (v1 : Option Value) (v2 : Option Value)  (h : Hp) : sem (X, K X d) 41 124 [some (.ref x0), v1, v2] [] h = gd (hS h x0 = (6, 0)) (bI (K X d 46 [.ref x0] h) fun r1 h1 => gd (okN .boolean r1) (some (some (.int r1), h1))) := by
  refine (s_aload_n 125 mc_41 dX5_lawLine_124 rfl rfl rfl).trans ?_
  refine (s_iviI 128 mc_41 dX5_lawLine_125 rfl mo_41 mm_5_106 (by decide) ms_46 mi_46 mr_46 ma_46 mo_46 (by decide) (Nat.le_of_ble_eq_true rfl) rfl rfl (Nat.le_of_ble_eq_true rfl)).trans ?_
  refine gd_c ?_
  refine bI_c fun r1 h1 => ?_
  exact s_zret mc_41 dX5_lawLine_128 mt_41
/-- FiveLands$Reader.mineLine()Z -/
theorem k_42 {X : Ctx} {d : Nat} (x0 : Nat) (h : Hp) : K X (d + 1) 42 [.ref x0] h = gR h 5 x0 5 fun g1 => gI h 1 g1 7 fun g2 => gd (hS h x0 = (6, 0)) (bI (K X d 53 [.ref x0] h) fun r3 h1 => if ¬ r3 = 0 then gR h1 5 x0 5 fun g4 => gd (hS h1 g4 = (2, 0)) (bV (K X d 4 [.ref g4, .int 6, .int g2, .int g2] h1) fun h2 => some (some (.int 1), h2)) else some (some (.int 0), h1)) := by
  show sem (X, K X d) 42 0 [some (.ref x0), none] [] h = _
  refine (s_aload_n 1 mc_42 dX5_mineLine_0 rfl rfl rfl).trans ?_
  refine (s_getfR 4 mc_42 dX5_mineLine_1 rfl mo_42 fs_5_57 ff_5_57 rfl).trans ?_
  refine gR_c fun g1 => ?_
  refine (s_getfI 7 mc_42 dX5_mineLine_4 rfl mo_42 fs_5_109 ff_5_109 (Or.inl rfl)).trans ?_
  refine gI_c fun g2 => ?_
  refine (s_istore_n 8 mc_42 dX5_mineLine_7 rfl rfl (Nat.le_of_ble_eq_true rfl) rfl).trans ?_
  refine (s_aload_n 9 mc_42 dX5_mineLine_8 rfl rfl rfl).trans ?_
  refine (s_iviI 12 mc_42 dX5_mineLine_9 rfl mo_42 mm_5_112 (by decide) ms_53 mi_53 mr_53 ma_53 mo_53 (by decide) (Nat.le_of_ble_eq_true rfl) rfl rfl (Nat.le_of_ble_eq_true rfl)).trans ?_
  refine gd_c ?_
  refine bI_c fun r3 h1 => ?_
  refine (s_if_ne 17 15 mc_42 dX5_mineLine_12 rfl rfl).trans ?_
  refine ite_c ?_ ?_
  · skip
    refine (s_aload_n 18 mc_42 dX5_mineLine_17 rfl rfl rfl).trans ?_
    refine (s_getfR 21 mc_42 dX5_mineLine_18 rfl mo_42 fs_5_57 ff_5_57 rfl).trans ?_
    refine gR_c fun g4 => ?_
    refine (s_bipush 23 6 mc_42 dX5_mineLine_21 rfl (by decide)).trans ?_
    refine (s_iload_n 24 mc_42 dX5_mineLine_23 rfl rfl rfl).trans ?_
    refine (s_iload_n 25 mc_42 dX5_mineLine_24 rfl rfl rfl).trans ?_
    refine (s_iviV 28 mc_42 dX5_mineLine_25 rfl mo_42 mm_5_115 (by decide) ms_4 mi_4 mr_4 ma_4 mo_4 (by decide) (Nat.le_of_ble_eq_true rfl) rfl rfl (Nat.le_of_ble_eq_true rfl)).trans ?_
    refine gd_c ?_
    refine bV_c fun h2 => ?_
    refine (s_iconst 29 1 mc_42 dX5_mineLine_28 rfl (by decide)).trans ?_
    exact s_zret1 mc_42 dX5_mineLine_29 mt_42
  · skip
    refine (s_iconst 16 0 mc_42 dX5_mineLine_15 rfl (by decide)).trans ?_
    exact s_zret0 mc_42 dX5_mineLine_16 mt_42
/-- FiveLands$Reader.takeLine()Z -/
theorem k_43 {X : Ctx} {d : Nat} (x0 : Nat) (h : Hp) : K X (d + 1) 43 [.ref x0] h = gd (hS h x0 = (6, 0)) (bI (K X d 65 [.ref x0] h) fun r1 h1 => if ¬ r1 = 0 then gd (hS h1 x0 = (6, 0)) (bI (K X d 68 [.ref x0] h1) fun r2 h2 => gI h2 5 x0 8 fun g3 => fI h2 5 x0 8 (g3 + 1) fun h3 => gR h3 5 x0 5 fun g4 => gI h3 1 g4 7 fun g5 => gd (hS h3 x0 = (6, 0)) (bI (K X d 60 [.ref x0] h3) fun r6 h4 => if ¬ r6 = 0 then gR h4 5 x0 5 fun g7 => gI h4 1 g7 7 fun g8 => gd (hS h4 x0 = (6, 0)) (bI (K X d 68 [.ref x0] h4) fun r9 h5 => if ¬ r9 = 19 then gR h5 5 x0 5 fun g10 => gd (hS h5 g10 = (2, 0)) (bV (K X d 4 [.ref g10, .int (r2 - 8), .int g5, .int g8] h5) fun h6 => some (some (.int 1), h6)) else gI h5 5 x0 8 fun g11 => fI h5 5 x0 8 (g11 + 1) fun h7 => gd (hS h7 x0 = (6, 0)) (bI (K X d 53 [.ref x0] h7) fun r12 h8 => if ¬ r12 = 0 then gR h8 5 x0 5 fun g13 => gd (hS h8 g13 = (2, 0)) (bV (K X d 4 [.ref g13, .int (r2 - 8), .int g5, .int g8] h8) fun h9 => some (some (.int 1), h9)) else some (some (.int 0), h8))) else some (some (.int 0), h4))) else gd (hS h1 x0 = (6, 0)) (bI (K X d 69 [.ref x0, .int 1] h1) fun r14 h10 => gd (okN .boolean r14) (some (some (.int r14), h10)))) := by
  show sem (X, K X d) 43 0 [some (.ref x0), none, none, none] [] h = _
  refine (s_aload_n 1 mc_43 dX5_takeLine_0 rfl rfl rfl).trans ?_
  refine (s_iviI 4 mc_43 dX5_takeLine_1 rfl mo_43 mm_5_119 (by decide) ms_65 mi_65 mr_65 ma_65 mo_65 (by decide) (Nat.le_of_ble_eq_true rfl) rfl rfl (Nat.le_of_ble_eq_true rfl)).trans ?_
  refine gd_c ?_
  refine bI_c fun r1 h1 => ?_
  refine (s_if_ne 13 7 mc_43 dX5_takeLine_4 rfl rfl).trans ?_
  refine ite_c ?_ ?_
  · skip
    refine (s_aload_n 14 mc_43 dX5_takeLine_13 rfl rfl rfl).trans ?_
    refine (s_iviI 17 mc_43 dX5_takeLine_14 rfl mo_43 mm_5_70 (by decide) ms_68 mi_68 mr_68 ma_68 mo_68 (by decide) (Nat.le_of_ble_eq_true rfl) rfl rfl (Nat.le_of_ble_eq_true rfl)).trans ?_
    refine gd_c ?_
    refine bI_c fun r2 h2 => ?_
    refine (s_bipush 19 8 mc_43 dX5_takeLine_17 rfl (by decide)).trans ?_
    refine (s_isub 20 mc_43 dX5_takeLine_19 rfl).trans ?_
    refine (s_istore_n 21 mc_43 dX5_takeLine_20 rfl rfl (Nat.le_of_ble_eq_true rfl) rfl).trans ?_
    refine (s_aload_n 22 mc_43 dX5_takeLine_21 rfl rfl rfl).trans ?_
    refine (s_dup 23 mc_43 dX5_takeLine_22 rfl rfl).trans ?_
    refine (s_getfI 26 mc_43 dX5_takeLine_23 rfl mo_43 fs_5_47 ff_5_47 (Or.inl rfl)).trans ?_
    refine gI_c fun g3 => ?_
    refine (s_iconst 27 1 mc_43 dX5_takeLine_26 rfl (by decide)).trans ?_
    refine (s_iadd 28 mc_43 dX5_takeLine_27 rfl).trans ?_
    refine (s_putfI 31 mc_43 dX5_takeLine_28 rfl mo_43 ff_5_47 rfl (Or.inl rfl)).trans ?_
    refine fI_c fun h3 => ?_
    refine (s_aload_n 32 mc_43 dX5_takeLine_31 rfl rfl rfl).trans ?_
    refine (s_getfR 35 mc_43 dX5_takeLine_32 rfl mo_43 fs_5_57 ff_5_57 rfl).trans ?_
    refine gR_c fun g4 => ?_
    refine (s_getfI 38 mc_43 dX5_takeLine_35 rfl mo_43 fs_5_109 ff_5_109 (Or.inl rfl)).trans ?_
    refine gI_c fun g5 => ?_
    refine (s_istore_n 39 mc_43 dX5_takeLine_38 rfl rfl (Nat.le_of_ble_eq_true rfl) rfl).trans ?_
    refine (s_aload_n 40 mc_43 dX5_takeLine_39 rfl rfl rfl).trans ?_
    refine (s_iviI 43 mc_43 dX5_takeLine_40 rfl mo_43 mm_5_122 (by decide) ms_60 mi_60 mr_60 ma_60 mo_60 (by decide) (Nat.le_of_ble_eq_true rfl) rfl rfl (Nat.le_of_ble_eq_true rfl)).trans ?_
    refine gd_c ?_
    refine bI_c fun r6 h4 => ?_
    refine (s_if_ne 48 46 mc_43 dX5_takeLine_43 rfl rfl).trans ?_
    refine ite_c ?_ ?_
    · skip
      refine (s_aload_n 49 mc_43 dX5_takeLine_48 rfl rfl rfl).trans ?_
      refine (s_getfR 52 mc_43 dX5_takeLine_49 rfl mo_43 fs_5_57 ff_5_57 rfl).trans ?_
      refine gR_c fun g7 => ?_
      refine (s_getfI 55 mc_43 dX5_takeLine_52 rfl mo_43 fs_5_109 ff_5_109 (Or.inl rfl)).trans ?_
      refine gI_c fun g8 => ?_
      refine (s_istore_n 56 mc_43 dX5_takeLine_55 rfl rfl (Nat.le_of_ble_eq_true rfl) rfl).trans ?_
      refine (s_aload_n 57 mc_43 dX5_takeLine_56 rfl rfl rfl).trans ?_
      refine (s_iviI 60 mc_43 dX5_takeLine_57 rfl mo_43 mm_5_70 (by decide) ms_68 mi_68 mr_68 ma_68 mo_68 (by decide) (Nat.le_of_ble_eq_true rfl) rfl rfl (Nat.le_of_ble_eq_true rfl)).trans ?_
      refine gd_c ?_
      refine bI_c fun r9 h5 => ?_
      refine (s_bipush 62 19 mc_43 dX5_takeLine_60 rfl (by decide)).trans ?_
      refine (s_icmp_ne 84 65 mc_43 dX5_takeLine_62 rfl rfl).trans ?_
      refine ite_c ?_ ?_
      · skip
        refine (s_aload_n 85 mc_43 dX5_takeLine_84 rfl rfl rfl).trans ?_
        refine (s_getfR 88 mc_43 dX5_takeLine_85 rfl mo_43 fs_5_57 ff_5_57 rfl).trans ?_
        refine gR_c fun g10 => ?_
        refine (s_iload_n 89 mc_43 dX5_takeLine_88 rfl rfl rfl).trans ?_
        refine (s_iload_n 90 mc_43 dX5_takeLine_89 rfl rfl rfl).trans ?_
        refine (s_iload_n 91 mc_43 dX5_takeLine_90 rfl rfl rfl).trans ?_
        refine (s_iviV 94 mc_43 dX5_takeLine_91 rfl mo_43 mm_5_115 (by decide) ms_4 mi_4 mr_4 ma_4 mo_4 (by decide) (Nat.le_of_ble_eq_true rfl) rfl rfl (Nat.le_of_ble_eq_true rfl)).trans ?_
        refine gd_c ?_
        refine bV_c fun h6 => ?_
        refine (s_iconst 95 1 mc_43 dX5_takeLine_94 rfl (by decide)).trans ?_
        exact s_zret1 mc_43 dX5_takeLine_95 mt_43
      · skip
        refine (s_aload_n 66 mc_43 dX5_takeLine_65 rfl rfl rfl).trans ?_
        refine (s_dup 67 mc_43 dX5_takeLine_66 rfl rfl).trans ?_
        refine (s_getfI 70 mc_43 dX5_takeLine_67 rfl mo_43 fs_5_47 ff_5_47 (Or.inl rfl)).trans ?_
        refine gI_c fun g11 => ?_
        refine (s_iconst 71 1 mc_43 dX5_takeLine_70 rfl (by decide)).trans ?_
        refine (s_iadd 72 mc_43 dX5_takeLine_71 rfl).trans ?_
        refine (s_putfI 75 mc_43 dX5_takeLine_72 rfl mo_43 ff_5_47 rfl (Or.inl rfl)).trans ?_
        refine fI_c fun h7 => ?_
        refine (s_aload_n 76 mc_43 dX5_takeLine_75 rfl rfl rfl).trans ?_
        refine (s_iviI 79 mc_43 dX5_takeLine_76 rfl mo_43 mm_5_112 (by decide) ms_53 mi_53 mr_53 ma_53 mo_53 (by decide) (Nat.le_of_ble_eq_true rfl) rfl rfl (Nat.le_of_ble_eq_true rfl)).trans ?_
        refine gd_c ?_
        refine bI_c fun r12 h8 => ?_
        refine (s_if_ne 84 82 mc_43 dX5_takeLine_79 rfl rfl).trans ?_
        refine ite_c ?_ ?_
        · skip
          refine (s_aload_n 85 mc_43 dX5_takeLine_84 rfl rfl rfl).trans ?_
          refine (s_getfR 88 mc_43 dX5_takeLine_85 rfl mo_43 fs_5_57 ff_5_57 rfl).trans ?_
          refine gR_c fun g13 => ?_
          refine (s_iload_n 89 mc_43 dX5_takeLine_88 rfl rfl rfl).trans ?_
          refine (s_iload_n 90 mc_43 dX5_takeLine_89 rfl rfl rfl).trans ?_
          refine (s_iload_n 91 mc_43 dX5_takeLine_90 rfl rfl rfl).trans ?_
          refine (s_iviV 94 mc_43 dX5_takeLine_91 rfl mo_43 mm_5_115 (by decide) ms_4 mi_4 mr_4 ma_4 mo_4 (by decide) (Nat.le_of_ble_eq_true rfl) rfl rfl (Nat.le_of_ble_eq_true rfl)).trans ?_
          refine gd_c ?_
          refine bV_c fun h9 => ?_
          refine (s_iconst 95 1 mc_43 dX5_takeLine_94 rfl (by decide)).trans ?_
          exact s_zret1 mc_43 dX5_takeLine_95 mt_43
        · skip
          refine (s_iconst 83 0 mc_43 dX5_takeLine_82 rfl (by decide)).trans ?_
          exact s_zret0 mc_43 dX5_takeLine_83 mt_43
    · skip
      refine (s_iconst 47 0 mc_43 dX5_takeLine_46 rfl (by decide)).trans ?_
      exact s_zret0 mc_43 dX5_takeLine_47 mt_43
  · skip
    refine (s_aload_n 8 mc_43 dX5_takeLine_7 rfl rfl rfl).trans ?_
    refine (s_iconst 9 1 mc_43 dX5_takeLine_8 rfl (by decide)).trans ?_
    refine (s_iviI 12 mc_43 dX5_takeLine_9 rfl mo_43 mm_5_90 (by decide) ms_69 mi_69 mr_69 ma_69 mo_69 (by decide) (Nat.le_of_ble_eq_true rfl) rfl rfl (Nat.le_of_ble_eq_true rfl)).trans ?_
    refine gd_c ?_
    refine bI_c fun r14 h10 => ?_
    exact s_zret mc_43 dX5_takeLine_12 mt_43
/-- FiveLands$Reader.freeLine()Z -/
theorem k_44 {X : Ctx} {d : Nat} (x0 : Nat) (h : Hp) : K X (d + 1) 44 [.ref x0] h = gd (hS h x0 = (6, 0)) (bI (K X d 68 [.ref x0] h) fun r1 h1 => if r1 = 100 then fZ h1 5 x0 13 1 fun h2 => gR h2 5 x0 5 fun g2 => gR h2 5 x0 2 fun g3 => gI h2 5 x0 8 fun g4 => aI X h2 g3 g4 fun g5 => fI h2 1 g2 10 g5 fun h3 => gI h3 5 x0 8 fun g6 => fI h3 5 x0 8 (g6 + 1) fun h4 => some (some (.int 1), h4) else gd (hS h1 x0 = (6, 0)) (bI (K X d 69 [.ref x0, .int 1] h1) fun r7 h5 => gd (okN .boolean r7) (some (some (.int r7), h5)))) := by
  show sem (X, K X d) 44 0 [some (.ref x0)] [] h = _
  refine (s_aload_n 1 mc_44 dX5_freeLine_0 rfl rfl rfl).trans ?_
  refine (s_iviI 4 mc_44 dX5_freeLine_1 rfl mo_44 mm_5_70 (by decide) ms_68 mi_68 mr_68 ma_68 mo_68 (by decide) (Nat.le_of_ble_eq_true rfl) rfl rfl (Nat.le_of_ble_eq_true rfl)).trans ?_
  refine gd_c ?_
  refine bI_c fun r1 h1 => ?_
  refine (s_bipush 6 100 mc_44 dX5_freeLine_4 rfl (by decide)).trans ?_
  refine (s_icmp_eq 15 9 mc_44 dX5_freeLine_6 rfl rfl).trans ?_
  refine ite_c ?_ ?_
  · skip
    refine (s_aload_n 16 mc_44 dX5_freeLine_15 rfl rfl rfl).trans ?_
    refine (s_iconst 17 1 mc_44 dX5_freeLine_16 rfl (by decide)).trans ?_
    refine (s_putfZ 20 mc_44 dX5_freeLine_17 rfl mo_44 ff_5_50 rfl (Or.inl rfl)).trans ?_
    refine fZ_c fun h2 => ?_
    refine (s_aload_n 21 mc_44 dX5_freeLine_20 rfl rfl rfl).trans ?_
    refine (s_getfR 24 mc_44 dX5_freeLine_21 rfl mo_44 fs_5_57 ff_5_57 rfl).trans ?_
    refine gR_c fun g2 => ?_
    refine (s_aload_n 25 mc_44 dX5_freeLine_24 rfl rfl rfl).trans ?_
    refine (s_getfR 28 mc_44 dX5_freeLine_25 rfl mo_44 fs_5_19 ff_5_19 rfl).trans ?_
    refine gR_c fun g3 => ?_
    refine (s_aload_n 29 mc_44 dX5_freeLine_28 rfl rfl rfl).trans ?_
    refine (s_getfI 32 mc_44 dX5_freeLine_29 rfl mo_44 fs_5_47 ff_5_47 (Or.inl rfl)).trans ?_
    refine gI_c fun g4 => ?_
    refine (s_iaload 33 mc_44 dX5_freeLine_32 rfl).trans ?_
    refine aI_c fun g5 => ?_
    refine (s_putfI 36 mc_44 dX5_freeLine_33 rfl mo_44 ff_5_125 rfl (Or.inl rfl)).trans ?_
    refine fI_c fun h3 => ?_
    refine (s_aload_n 37 mc_44 dX5_freeLine_36 rfl rfl rfl).trans ?_
    refine (s_dup 38 mc_44 dX5_freeLine_37 rfl rfl).trans ?_
    refine (s_getfI 41 mc_44 dX5_freeLine_38 rfl mo_44 fs_5_47 ff_5_47 (Or.inl rfl)).trans ?_
    refine gI_c fun g6 => ?_
    refine (s_iconst 42 1 mc_44 dX5_freeLine_41 rfl (by decide)).trans ?_
    refine (s_iadd 43 mc_44 dX5_freeLine_42 rfl).trans ?_
    refine (s_putfI 46 mc_44 dX5_freeLine_43 rfl mo_44 ff_5_47 rfl (Or.inl rfl)).trans ?_
    refine fI_c fun h4 => ?_
    refine (s_iconst 47 1 mc_44 dX5_freeLine_46 rfl (by decide)).trans ?_
    exact s_zret1 mc_44 dX5_freeLine_47 mt_44
  · skip
    refine (s_aload_n 10 mc_44 dX5_freeLine_9 rfl rfl rfl).trans ?_
    refine (s_iconst 11 1 mc_44 dX5_freeLine_10 rfl (by decide)).trans ?_
    refine (s_iviI 14 mc_44 dX5_freeLine_11 rfl mo_44 mm_5_90 (by decide) ms_69 mi_69 mr_69 ma_69 mo_69 (by decide) (Nat.le_of_ble_eq_true rfl) rfl rfl (Nat.le_of_ble_eq_true rfl)).trans ?_
    refine gd_c ?_
    refine bI_c fun r7 h5 => ?_
    exact s_zret mc_44 dX5_freeLine_14 mt_44
/-- FiveLands$Reader.stepLine()Z -/
theorem k_45 {X : Ctx} {d : Nat} (x0 : Nat) (h : Hp) : K X (d + 1) 45 [.ref x0] h = gd (hS h x0 = (6, 0)) (bI (K X d 68 [.ref x0] h) fun r1 h1 => if r1 = 100 then gR h1 5 x0 2 fun g2 => gI h1 5 x0 8 fun g3 => aI X h1 g2 g3 fun g4 => gR h1 5 x0 5 fun g5 => gI h1 1 g5 9 fun g6 => if g6 ≤ 0 then sem (X, K X d) 45 62 [some (.ref x0), some (.int g4)] [] h1 else gR h1 5 x0 5 fun g7 => gR h1 1 g7 5 fun g8 => gR h1 5 x0 5 fun g9 => gI h1 1 g9 9 fun g10 => aI X h1 g8 (g10 - 1) fun g11 => if g11 < g4 then sem (X, K X d) 45 62 [some (.ref x0), some (.int g4)] [] h1 else gd (hS h1 x0 = (6, 0)) (bI (K X d 69 [.ref x0, .int 2] h1) fun r12 h2 => gd (okN .boolean r12) (some (some (.int r12), h2))) else gd (hS h1 x0 = (6, 0)) (bI (K X d 69 [.ref x0, .int 1] h1) fun r13 h3 => gd (okN .boolean r13) (some (some (.int r13), h3)))) := by
  show sem (X, K X d) 45 0 [some (.ref x0), none] [] h = _
  refine (s_aload_n 1 mc_45 dX5_stepLine_0 rfl rfl rfl).trans ?_
  refine (s_iviI 4 mc_45 dX5_stepLine_1 rfl mo_45 mm_5_70 (by decide) ms_68 mi_68 mr_68 ma_68 mo_68 (by decide) (Nat.le_of_ble_eq_true rfl) rfl rfl (Nat.le_of_ble_eq_true rfl)).trans ?_
  refine gd_c ?_
  refine bI_c fun r1 h1 => ?_
  refine (s_bipush 6 100 mc_45 dX5_stepLine_4 rfl (by decide)).trans ?_
  refine (s_icmp_eq 15 9 mc_45 dX5_stepLine_6 rfl rfl).trans ?_
  refine ite_c ?_ ?_
  · skip
    refine (s_aload_n 16 mc_45 dX5_stepLine_15 rfl rfl rfl).trans ?_
    refine (s_getfR 19 mc_45 dX5_stepLine_16 rfl mo_45 fs_5_19 ff_5_19 rfl).trans ?_
    refine gR_c fun g2 => ?_
    refine (s_aload_n 20 mc_45 dX5_stepLine_19 rfl rfl rfl).trans ?_
    refine (s_getfI 23 mc_45 dX5_stepLine_20 rfl mo_45 fs_5_47 ff_5_47 (Or.inl rfl)).trans ?_
    refine gI_c fun g3 => ?_
    refine (s_iaload 24 mc_45 dX5_stepLine_23 rfl).trans ?_
    refine aI_c fun g4 => ?_
    refine (s_istore_n 25 mc_45 dX5_stepLine_24 rfl rfl (Nat.le_of_ble_eq_true rfl) rfl).trans ?_
    refine (s_aload_n 26 mc_45 dX5_stepLine_25 rfl rfl rfl).trans ?_
    refine (s_getfR 29 mc_45 dX5_stepLine_26 rfl mo_45 fs_5_57 ff_5_57 rfl).trans ?_
    refine gR_c fun g5 => ?_
    refine (s_getfI 32 mc_45 dX5_stepLine_29 rfl mo_45 fs_5_128 ff_5_128 (Or.inl rfl)).trans ?_
    refine gI_c fun g6 => ?_
    refine (s_if_le 62 35 mc_45 dX5_stepLine_32 rfl rfl).trans ?_
    refine ite_c ?_ ?_
    · skip
      rfl
    · skip
      refine (s_iload_n 36 mc_45 dX5_stepLine_35 rfl rfl rfl).trans ?_
      refine (s_aload_n 37 mc_45 dX5_stepLine_36 rfl rfl rfl).trans ?_
      refine (s_getfR 40 mc_45 dX5_stepLine_37 rfl mo_45 fs_5_57 ff_5_57 rfl).trans ?_
      refine gR_c fun g7 => ?_
      refine (s_getfR 43 mc_45 dX5_stepLine_40 rfl mo_45 fs_5_131 ff_5_131 rfl).trans ?_
      refine gR_c fun g8 => ?_
      refine (s_aload_n 44 mc_45 dX5_stepLine_43 rfl rfl rfl).trans ?_
      refine (s_getfR 47 mc_45 dX5_stepLine_44 rfl mo_45 fs_5_57 ff_5_57 rfl).trans ?_
      refine gR_c fun g9 => ?_
      refine (s_getfI 50 mc_45 dX5_stepLine_47 rfl mo_45 fs_5_128 ff_5_128 (Or.inl rfl)).trans ?_
      refine gI_c fun g10 => ?_
      refine (s_iconst 51 1 mc_45 dX5_stepLine_50 rfl (by decide)).trans ?_
      refine (s_isub 52 mc_45 dX5_stepLine_51 rfl).trans ?_
      refine (s_iaload 53 mc_45 dX5_stepLine_52 rfl).trans ?_
      refine aI_c fun g11 => ?_
      refine (s_icmp_gt 62 56 mc_45 dX5_stepLine_53 rfl rfl).trans ?_
      refine ite_c ?_ ?_
      · skip
        rfl
      · skip
        refine (s_aload_n 57 mc_45 dX5_stepLine_56 rfl rfl rfl).trans ?_
        refine (s_iconst 58 2 mc_45 dX5_stepLine_57 rfl (by decide)).trans ?_
        refine (s_iviI 61 mc_45 dX5_stepLine_58 rfl mo_45 mm_5_90 (by decide) ms_69 mi_69 mr_69 ma_69 mo_69 (by decide) (Nat.le_of_ble_eq_true rfl) rfl rfl (Nat.le_of_ble_eq_true rfl)).trans ?_
        refine gd_c ?_
        refine bI_c fun r12 h2 => ?_
        exact s_zret mc_45 dX5_stepLine_61 mt_45
  · skip
    refine (s_aload_n 10 mc_45 dX5_stepLine_9 rfl rfl rfl).trans ?_
    refine (s_iconst 11 1 mc_45 dX5_stepLine_10 rfl (by decide)).trans ?_
    refine (s_iviI 14 mc_45 dX5_stepLine_11 rfl mo_45 mm_5_90 (by decide) ms_69 mi_69 mr_69 ma_69 mo_69 (by decide) (Nat.le_of_ble_eq_true rfl) rfl rfl (Nat.le_of_ble_eq_true rfl)).trans ?_
    refine gd_c ?_
    refine bI_c fun r13 h3 => ?_
    exact s_zret mc_45 dX5_stepLine_14 mt_45
theorem b_45_62 {X : Ctx} {d : Nat} (x0 : Nat) (x1 : Int32)  (h : Hp) : sem (X, K X d) 45 62 [some (.ref x0), some (.int x1)] [] h = gI h 5 x0 8 fun g1 => fI h 5 x0 8 (g1 + 1) fun h1 => gd (hS h1 x0 = (6, 0)) (bI (K X d 64 [.ref x0] h1) fun r2 h2 => if ¬ r2 = 0 then gR h2 5 x0 5 fun g3 => gR h2 5 x0 2 fun g4 => gI h2 5 x0 8 fun g5 => aI X h2 g4 g5 fun g6 => gd (hS h2 g3 = (2, 0)) (bV (K X d 5 [.ref g3, .int x1, .int g6] h2) fun h3 => gI h3 5 x0 8 fun g7 => fI h3 5 x0 8 (g7 + 1) fun h4 => some (some (.int 1), h4)) else some (some (.int 0), h2)) := by
  refine (s_aload_n 63 mc_45 dX5_stepLine_62 rfl rfl rfl).trans ?_
  refine (s_dup 64 mc_45 dX5_stepLine_63 rfl rfl).trans ?_
  refine (s_getfI 67 mc_45 dX5_stepLine_64 rfl mo_45 fs_5_47 ff_5_47 (Or.inl rfl)).trans ?_
  refine gI_c fun g1 => ?_
  refine (s_iconst 68 1 mc_45 dX5_stepLine_67 rfl (by decide)).trans ?_
  refine (s_iadd 69 mc_45 dX5_stepLine_68 rfl).trans ?_
  refine (s_putfI 72 mc_45 dX5_stepLine_69 rfl mo_45 ff_5_47 rfl (Or.inl rfl)).trans ?_
  refine fI_c fun h1 => ?_
  refine (s_aload_n 73 mc_45 dX5_stepLine_72 rfl rfl rfl).trans ?_
  refine (s_iviI 76 mc_45 dX5_stepLine_73 rfl mo_45 mm_5_134 (by decide) ms_64 mi_64 mr_64 ma_64 mo_64 (by decide) (Nat.le_of_ble_eq_true rfl) rfl rfl (Nat.le_of_ble_eq_true rfl)).trans ?_
  refine gd_c ?_
  refine bI_c fun r2 h2 => ?_
  refine (s_if_ne 81 79 mc_45 dX5_stepLine_76 rfl rfl).trans ?_
  refine ite_c ?_ ?_
  · skip
    refine (s_aload_n 82 mc_45 dX5_stepLine_81 rfl rfl rfl).trans ?_
    refine (s_getfR 85 mc_45 dX5_stepLine_82 rfl mo_45 fs_5_57 ff_5_57 rfl).trans ?_
    refine gR_c fun g3 => ?_
    refine (s_iload_n 86 mc_45 dX5_stepLine_85 rfl rfl rfl).trans ?_
    refine (s_aload_n 87 mc_45 dX5_stepLine_86 rfl rfl rfl).trans ?_
    refine (s_getfR 90 mc_45 dX5_stepLine_87 rfl mo_45 fs_5_19 ff_5_19 rfl).trans ?_
    refine gR_c fun g4 => ?_
    refine (s_aload_n 91 mc_45 dX5_stepLine_90 rfl rfl rfl).trans ?_
    refine (s_getfI 94 mc_45 dX5_stepLine_91 rfl mo_45 fs_5_47 ff_5_47 (Or.inl rfl)).trans ?_
    refine gI_c fun g5 => ?_
    refine (s_iaload 95 mc_45 dX5_stepLine_94 rfl).trans ?_
    refine aI_c fun g6 => ?_
    refine (s_iviV 98 mc_45 dX5_stepLine_95 rfl mo_45 mm_5_137 (by decide) ms_5 mi_5 mr_5 ma_5 mo_5 (by decide) (Nat.le_of_ble_eq_true rfl) rfl rfl (Nat.le_of_ble_eq_true rfl)).trans ?_
    refine gd_c ?_
    refine bV_c fun h3 => ?_
    refine (s_aload_n 99 mc_45 dX5_stepLine_98 rfl rfl rfl).trans ?_
    refine (s_dup 100 mc_45 dX5_stepLine_99 rfl rfl).trans ?_
    refine (s_getfI 103 mc_45 dX5_stepLine_100 rfl mo_45 fs_5_47 ff_5_47 (Or.inl rfl)).trans ?_
    refine gI_c fun g7 => ?_
    refine (s_iconst 104 1 mc_45 dX5_stepLine_103 rfl (by decide)).trans ?_
    refine (s_iadd 105 mc_45 dX5_stepLine_104 rfl).trans ?_
    refine (s_putfI 108 mc_45 dX5_stepLine_105 rfl mo_45 ff_5_47 rfl (Or.inl rfl)).trans ?_
    refine fI_c fun h4 => ?_
    refine (s_iconst 109 1 mc_45 dX5_stepLine_108 rfl (by decide)).trans ?_
    exact s_zret1 mc_45 dX5_stepLine_109 mt_45
  · skip
    refine (s_iconst 80 0 mc_45 dX5_stepLine_79 rfl (by decide)).trans ?_
    exact s_zret0 mc_45 dX5_stepLine_80 mt_45
/-- FiveLands$Reader.reliefLine()Z -/
theorem k_46 {X : Ctx} {d : Nat} (x0 : Nat) (h : Hp) : K X (d + 1) 46 [.ref x0] h = gd (hS h x0 = (6, 0)) (bI (K X d 68 [.ref x0] h) fun r1 h1 => if r1 = 20 then sem (X, K X d) 46 29 [some (.ref x0), some (.int r1)] [] h1 else if r1 = 21 then sem (X, K X d) 46 29 [some (.ref x0), some (.int r1)] [] h1 else if r1 = 16 then sem (X, K X d) 46 29 [some (.ref x0), some (.int r1)] [] h1 else gd (hS h1 x0 = (6, 0)) (bI (K X d 69 [.ref x0, .int 1] h1) fun r2 h2 => gd (okN .boolean r2) (some (some (.int r2), h2)))) := by
  show sem (X, K X d) 46 0 [some (.ref x0), none] [] h = _
  refine (s_aload_n 1 mc_46 dX5_reliefLine_0 rfl rfl rfl).trans ?_
  refine (s_iviI 4 mc_46 dX5_reliefLine_1 rfl mo_46 mm_5_70 (by decide) ms_68 mi_68 mr_68 ma_68 mo_68 (by decide) (Nat.le_of_ble_eq_true rfl) rfl rfl (Nat.le_of_ble_eq_true rfl)).trans ?_
  refine gd_c ?_
  refine bI_c fun r1 h1 => ?_
  refine (s_istore_n 5 mc_46 dX5_reliefLine_4 rfl rfl (Nat.le_of_ble_eq_true rfl) rfl).trans ?_
  refine (s_iload_n 6 mc_46 dX5_reliefLine_5 rfl rfl rfl).trans ?_
  refine (s_bipush 8 20 mc_46 dX5_reliefLine_6 rfl (by decide)).trans ?_
  refine (s_icmp_eq 29 11 mc_46 dX5_reliefLine_8 rfl rfl).trans ?_
  refine ite_c ?_ ?_
  · skip
    rfl
  · skip
    refine (s_iload_n 12 mc_46 dX5_reliefLine_11 rfl rfl rfl).trans ?_
    refine (s_bipush 14 21 mc_46 dX5_reliefLine_12 rfl (by decide)).trans ?_
    refine (s_icmp_eq 29 17 mc_46 dX5_reliefLine_14 rfl rfl).trans ?_
    refine ite_c ?_ ?_
    · skip
      rfl
    · skip
      refine (s_iload_n 18 mc_46 dX5_reliefLine_17 rfl rfl rfl).trans ?_
      refine (s_bipush 20 16 mc_46 dX5_reliefLine_18 rfl (by decide)).trans ?_
      refine (s_icmp_eq 29 23 mc_46 dX5_reliefLine_20 rfl rfl).trans ?_
      refine ite_c ?_ ?_
      · skip
        rfl
      · skip
        refine (s_aload_n 24 mc_46 dX5_reliefLine_23 rfl rfl rfl).trans ?_
        refine (s_iconst 25 1 mc_46 dX5_reliefLine_24 rfl (by decide)).trans ?_
        refine (s_iviI 28 mc_46 dX5_reliefLine_25 rfl mo_46 mm_5_90 (by decide) ms_69 mi_69 mr_69 ma_69 mo_69 (by decide) (Nat.le_of_ble_eq_true rfl) rfl rfl (Nat.le_of_ble_eq_true rfl)).trans ?_
        refine gd_c ?_
        refine bI_c fun r2 h2 => ?_
        exact s_zret mc_46 dX5_reliefLine_28 mt_46
theorem b_46_29 {X : Ctx} {d : Nat} (x0 : Nat) (x1 : Int32)  (h : Hp) : sem (X, K X d) 46 29 [some (.ref x0), some (.int x1)] [] h = fZ h 5 x0 14 1 fun h1 => gR h1 5 x0 5 fun g1 => bI (K X d 47 [.int x1] h1) fun r2 h2 => fI h2 1 g1 11 r2 fun h3 => gI h3 5 x0 8 fun g3 => fI h3 5 x0 8 (g3 + 1) fun h4 => some (some (.int 1), h4) := by
  refine (s_aload_n 30 mc_46 dX5_reliefLine_29 rfl rfl rfl).trans ?_
  refine (s_iconst 31 1 mc_46 dX5_reliefLine_30 rfl (by decide)).trans ?_
  refine (s_putfZ 34 mc_46 dX5_reliefLine_31 rfl mo_46 ff_5_54 rfl (Or.inl rfl)).trans ?_
  refine fZ_c fun h1 => ?_
  refine (s_aload_n 35 mc_46 dX5_reliefLine_34 rfl rfl rfl).trans ?_
  refine (s_getfR 38 mc_46 dX5_reliefLine_35 rfl mo_46 fs_5_57 ff_5_57 rfl).trans ?_
  refine gR_c fun g1 => ?_
  refine (s_iload_n 39 mc_46 dX5_reliefLine_38 rfl rfl rfl).trans ?_
  refine (s_istI 42 mc_46 dX5_reliefLine_39 rfl mo_46 mm_5_141 (by decide) ms_47 mr_47 ma_47 (Nat.le_of_ble_eq_true rfl) rfl rfl (Nat.le_of_ble_eq_true rfl)).trans ?_
  refine bI_c fun r2 h2 => ?_
  refine (s_putfI 45 mc_46 dX5_reliefLine_42 rfl mo_46 ff_5_145 rfl (Or.inl rfl)).trans ?_
  refine fI_c fun h3 => ?_
  refine (s_aload_n 46 mc_46 dX5_reliefLine_45 rfl rfl rfl).trans ?_
  refine (s_dup 47 mc_46 dX5_reliefLine_46 rfl rfl).trans ?_
  refine (s_getfI 50 mc_46 dX5_reliefLine_47 rfl mo_46 fs_5_47 ff_5_47 (Or.inl rfl)).trans ?_
  refine gI_c fun g3 => ?_
  refine (s_iconst 51 1 mc_46 dX5_reliefLine_50 rfl (by decide)).trans ?_
  refine (s_iadd 52 mc_46 dX5_reliefLine_51 rfl).trans ?_
  refine (s_putfI 55 mc_46 dX5_reliefLine_52 rfl mo_46 ff_5_47 rfl (Or.inl rfl)).trans ?_
  refine fI_c fun h4 => ?_
  refine (s_iconst 56 1 mc_46 dX5_reliefLine_55 rfl (by decide)).trans ?_
  exact s_zret1 mc_46 dX5_reliefLine_56 mt_46
/-- FiveLands$Reader.reliefOf(I)I -/
theorem k_47 {X : Ctx} {d : Nat} (x0 : Int32) (h : Hp) : K X (d + 1) 47 [.int x0] h = if ¬ x0 = 21 then if ¬ x0 = 16 then some (some (.int 0), h) else some (some (.int 2), h) else some (some (.int 1), h) := by
  show sem (X, K X d) 47 0 [some (.int x0)] [] h = _
  refine (s_iload_n 1 mc_47 dX5_reliefOf_0 rfl rfl rfl).trans ?_
  refine (s_bipush 3 21 mc_47 dX5_reliefOf_1 rfl (by decide)).trans ?_
  refine (s_icmp_ne 8 6 mc_47 dX5_reliefOf_3 rfl rfl).trans ?_
  refine ite_c ?_ ?_
  · skip
    refine (s_iload_n 9 mc_47 dX5_reliefOf_8 rfl rfl rfl).trans ?_
    refine (s_bipush 11 16 mc_47 dX5_reliefOf_9 rfl (by decide)).trans ?_
    refine (s_icmp_ne 18 14 mc_47 dX5_reliefOf_11 rfl rfl).trans ?_
    refine ite_c ?_ ?_
    · skip
      refine (s_iconst 19 0 mc_47 dX5_reliefOf_18 rfl (by decide)).trans ?_
      exact s_iret mc_47 dX5_reliefOf_19 mt_47
    · skip
      refine (s_iconst 15 2 mc_47 dX5_reliefOf_14 rfl (by decide)).trans ?_
      refine (s_goto 19 mc_47 dX5_reliefOf_15 rfl).trans ?_
      exact s_iret mc_47 dX5_reliefOf_19 mt_47
  · skip
    refine (s_iconst 7 1 mc_47 dX5_reliefOf_6 rfl (by decide)).trans ?_
    exact s_iret mc_47 dX5_reliefOf_7 mt_47
/-- FiveLands$Reader.pactLine(I)Z -/
theorem k_48 {X : Ctx} {d : Nat} (x0 : Nat) (x1 : Int32) (h : Hp) : K X (d + 1) 48 [.ref x0, .int x1] h = gd (hS h x0 = (6, 0)) (bI (K X d 68 [.ref x0] h) fun r1 h1 => if r1 = 18 then sem (X, K X d) 48 29 [some (.ref x0), some (.int x1), some (.int r1)] [] h1 else if r1 < 25 then gd (hS h1 x0 = (6, 0)) (bI (K X d 69 [.ref x0, .int 1] h1) fun r2 h2 => gd (okN .boolean r2) (some (some (.int r2), h2))) else if r1 ≤ 28 then sem (X, K X d) 48 29 [some (.ref x0), some (.int x1), some (.int r1)] [] h1 else gd (hS h1 x0 = (6, 0)) (bI (K X d 69 [.ref x0, .int 1] h1) fun r3 h3 => gd (okN .boolean r3) (some (some (.int r3), h3)))) := by
  show sem (X, K X d) 48 0 [some (.ref x0), some (.int x1), none] [] h = _
  refine (s_aload_n 1 mc_48 dX5_pactLine_0 rfl rfl rfl).trans ?_
  refine (s_iviI 4 mc_48 dX5_pactLine_1 rfl mo_48 mm_5_70 (by decide) ms_68 mi_68 mr_68 ma_68 mo_68 (by decide) (Nat.le_of_ble_eq_true rfl) rfl rfl (Nat.le_of_ble_eq_true rfl)).trans ?_
  refine gd_c ?_
  refine bI_c fun r1 h1 => ?_
  refine (s_istore_n 5 mc_48 dX5_pactLine_4 rfl rfl (Nat.le_of_ble_eq_true rfl) rfl).trans ?_
  refine (s_iload_n 6 mc_48 dX5_pactLine_5 rfl rfl rfl).trans ?_
  refine (s_bipush 8 18 mc_48 dX5_pactLine_6 rfl (by decide)).trans ?_
  refine (s_icmp_eq 29 11 mc_48 dX5_pactLine_8 rfl rfl).trans ?_
  refine ite_c ?_ ?_
  · skip
    rfl
  · skip
    refine (s_iload_n 12 mc_48 dX5_pactLine_11 rfl rfl rfl).trans ?_
    refine (s_bipush 14 25 mc_48 dX5_pactLine_12 rfl (by decide)).trans ?_
    refine (s_icmp_lt 23 17 mc_48 dX5_pactLine_14 rfl rfl).trans ?_
    refine ite_c ?_ ?_
    · skip
      refine (s_aload_n 24 mc_48 dX5_pactLine_23 rfl rfl rfl).trans ?_
      refine (s_iconst 25 1 mc_48 dX5_pactLine_24 rfl (by decide)).trans ?_
      refine (s_iviI 28 mc_48 dX5_pactLine_25 rfl mo_48 mm_5_90 (by decide) ms_69 mi_69 mr_69 ma_69 mo_69 (by decide) (Nat.le_of_ble_eq_true rfl) rfl rfl (Nat.le_of_ble_eq_true rfl)).trans ?_
      refine gd_c ?_
      refine bI_c fun r2 h2 => ?_
      exact s_zret mc_48 dX5_pactLine_28 mt_48
    · skip
      refine (s_iload_n 18 mc_48 dX5_pactLine_17 rfl rfl rfl).trans ?_
      refine (s_bipush 20 28 mc_48 dX5_pactLine_18 rfl (by decide)).trans ?_
      refine (s_icmp_le 29 23 mc_48 dX5_pactLine_20 rfl rfl).trans ?_
      refine ite_c ?_ ?_
      · skip
        rfl
      · skip
        refine (s_aload_n 24 mc_48 dX5_pactLine_23 rfl rfl rfl).trans ?_
        refine (s_iconst 25 1 mc_48 dX5_pactLine_24 rfl (by decide)).trans ?_
        refine (s_iviI 28 mc_48 dX5_pactLine_25 rfl mo_48 mm_5_90 (by decide) ms_69 mi_69 mr_69 ma_69 mo_69 (by decide) (Nat.le_of_ble_eq_true rfl) rfl rfl (Nat.le_of_ble_eq_true rfl)).trans ?_
        refine gd_c ?_
        refine bI_c fun r3 h3 => ?_
        exact s_zret mc_48 dX5_pactLine_28 mt_48
theorem b_48_29 {X : Ctx} {d : Nat} (x0 : Nat) (x1 : Int32) (x2 : Int32)  (h : Hp) : sem (X, K X d) 48 29 [some (.ref x0), some (.int x1), some (.int x2)] [] h = if 20 ≤ x1 then gd (hS h x0 = (6, 0)) (bI (K X d 69 [.ref x0, .int 3] h) fun r1 h1 => gd (okN .boolean r1) (some (some (.int r1), h1))) else if ¬ x2 = 18 then sem (X, K X d) 48 51 [some (.ref x0), some (.int x1), some (.int x2)] [] h else gR h 5 x0 6 fun g2 => gI h 3 g2 5 fun g3 => if ¬ g3 = 0 then gd (hS h x0 = (6, 0)) (bI (K X d 69 [.ref x0, .int 3] h) fun r4 h2 => gd (okN .boolean r4) (some (some (.int r4), h2))) else sem (X, K X d) 48 51 [some (.ref x0), some (.int x1), some (.int x2)] [] h := by
  refine (s_iload_n 30 mc_48 dX5_pactLine_29 rfl rfl rfl).trans ?_
  refine (s_bipush 32 20 mc_48 dX5_pactLine_30 rfl (by decide)).trans ?_
  refine (s_icmp_ge 67 35 mc_48 dX5_pactLine_32 rfl rfl).trans ?_
  refine ite_c ?_ ?_
  · skip
    refine (s_aload_n 68 mc_48 dX5_pactLine_67 rfl rfl rfl).trans ?_
    refine (s_iconst 69 3 mc_48 dX5_pactLine_68 rfl (by decide)).trans ?_
    refine (s_iviI 72 mc_48 dX5_pactLine_69 rfl mo_48 mm_5_90 (by decide) ms_69 mi_69 mr_69 ma_69 mo_69 (by decide) (Nat.le_of_ble_eq_true rfl) rfl rfl (Nat.le_of_ble_eq_true rfl)).trans ?_
    refine gd_c ?_
    refine bI_c fun r1 h1 => ?_
    exact s_zret mc_48 dX5_pactLine_72 mt_48
  · skip
    refine (s_iload_n 36 mc_48 dX5_pactLine_35 rfl rfl rfl).trans ?_
    refine (s_bipush 38 18 mc_48 dX5_pactLine_36 rfl (by decide)).trans ?_
    refine (s_icmp_ne 51 41 mc_48 dX5_pactLine_38 rfl rfl).trans ?_
    refine ite_c ?_ ?_
    · skip
      rfl
    · skip
      refine (s_aload_n 42 mc_48 dX5_pactLine_41 rfl rfl rfl).trans ?_
      refine (s_getfR 45 mc_48 dX5_pactLine_42 rfl mo_48 fs_5_80 ff_5_80 rfl).trans ?_
      refine gR_c fun g2 => ?_
      refine (s_getfI 48 mc_48 dX5_pactLine_45 rfl mo_48 fs_5_148 ff_5_148 (Or.inl rfl)).trans ?_
      refine gI_c fun g3 => ?_
      refine (s_if_ne 67 51 mc_48 dX5_pactLine_48 rfl rfl).trans ?_
      refine ite_c ?_ ?_
      · skip
        refine (s_aload_n 68 mc_48 dX5_pactLine_67 rfl rfl rfl).trans ?_
        refine (s_iconst 69 3 mc_48 dX5_pactLine_68 rfl (by decide)).trans ?_
        refine (s_iviI 72 mc_48 dX5_pactLine_69 rfl mo_48 mm_5_90 (by decide) ms_69 mi_69 mr_69 ma_69 mo_69 (by decide) (Nat.le_of_ble_eq_true rfl) rfl rfl (Nat.le_of_ble_eq_true rfl)).trans ?_
        refine gd_c ?_
        refine bI_c fun r4 h2 => ?_
        exact s_zret mc_48 dX5_pactLine_72 mt_48
      · skip
        rfl
theorem b_48_51 {X : Ctx} {d : Nat} (x0 : Nat) (v1 : Option Value) (x2 : Int32)  (h : Hp) : sem (X, K X d) 48 51 [some (.ref x0), v1, some (.int x2)] [] h = if ¬ x2 = 28 then gI h 5 x0 8 fun g1 => fI h 5 x0 8 (g1 + 1) fun h1 => sem (X, K X d) 48 (tsw 18 [155, 160, 160, 160, 160, 160, 160, 140, 145, 150] 160 x2) [some (.ref x0), v1, some (.int x2)] [] h1 else gR h 5 x0 6 fun g2 => gI h 3 g2 6 fun g3 => if g3 = 0 then gI h 5 x0 8 fun g4 => fI h 5 x0 8 (g4 + 1) fun h2 => sem (X, K X d) 48 (tsw 18 [155, 160, 160, 160, 160, 160, 160, 140, 145, 150] 160 x2) [some (.ref x0), v1, some (.int x2)] [] h2 else gd (hS h x0 = (6, 0)) (bI (K X d 69 [.ref x0, .int 3] h) fun r5 h3 => gd (okN .boolean r5) (some (some (.int r5), h3))) := by
  refine (s_iload_n 52 mc_48 dX5_pactLine_51 rfl rfl rfl).trans ?_
  refine (s_bipush 54 28 mc_48 dX5_pactLine_52 rfl (by decide)).trans ?_
  refine (s_icmp_ne 73 57 mc_48 dX5_pactLine_54 rfl rfl).trans ?_
  refine ite_c ?_ ?_
  · skip
    refine (s_aload_n 74 mc_48 dX5_pactLine_73 rfl rfl rfl).trans ?_
    refine (s_dup 75 mc_48 dX5_pactLine_74 rfl rfl).trans ?_
    refine (s_getfI 78 mc_48 dX5_pactLine_75 rfl mo_48 fs_5_47 ff_5_47 (Or.inl rfl)).trans ?_
    refine gI_c fun g1 => ?_
    refine (s_iconst 79 1 mc_48 dX5_pactLine_78 rfl (by decide)).trans ?_
    refine (s_iadd 80 mc_48 dX5_pactLine_79 rfl).trans ?_
    refine (s_putfI 83 mc_48 dX5_pactLine_80 rfl mo_48 ff_5_47 rfl (Or.inl rfl)).trans ?_
    refine fI_c fun h1 => ?_
    refine (s_iload_n 84 mc_48 dX5_pactLine_83 rfl rfl rfl).trans ?_
    refine (s_tsw [155, 160, 160, 160, 160, 160, 160, 140, 145, 150] 160 mc_48 dX5_pactLine_84 rfl rfl rfl).trans ?_
    rfl
  · skip
    refine (s_aload_n 58 mc_48 dX5_pactLine_57 rfl rfl rfl).trans ?_
    refine (s_getfR 61 mc_48 dX5_pactLine_58 rfl mo_48 fs_5_80 ff_5_80 rfl).trans ?_
    refine gR_c fun g2 => ?_
    refine (s_getfI 64 mc_48 dX5_pactLine_61 rfl mo_48 fs_5_149 ff_5_149 (Or.inr rfl)).trans ?_
    refine gI_c fun g3 => ?_
    refine (s_if_eq 73 67 mc_48 dX5_pactLine_64 rfl rfl).trans ?_
    refine ite_c ?_ ?_
    · skip
      refine (s_aload_n 74 mc_48 dX5_pactLine_73 rfl rfl rfl).trans ?_
      refine (s_dup 75 mc_48 dX5_pactLine_74 rfl rfl).trans ?_
      refine (s_getfI 78 mc_48 dX5_pactLine_75 rfl mo_48 fs_5_47 ff_5_47 (Or.inl rfl)).trans ?_
      refine gI_c fun g4 => ?_
      refine (s_iconst 79 1 mc_48 dX5_pactLine_78 rfl (by decide)).trans ?_
      refine (s_iadd 80 mc_48 dX5_pactLine_79 rfl).trans ?_
      refine (s_putfI 83 mc_48 dX5_pactLine_80 rfl mo_48 ff_5_47 rfl (Or.inl rfl)).trans ?_
      refine fI_c fun h2 => ?_
      refine (s_iload_n 84 mc_48 dX5_pactLine_83 rfl rfl rfl).trans ?_
      refine (s_tsw [155, 160, 160, 160, 160, 160, 160, 140, 145, 150] 160 mc_48 dX5_pactLine_84 rfl rfl rfl).trans ?_
      rfl
    · skip
      refine (s_aload_n 68 mc_48 dX5_pactLine_67 rfl rfl rfl).trans ?_
      refine (s_iconst 69 3 mc_48 dX5_pactLine_68 rfl (by decide)).trans ?_
      refine (s_iviI 72 mc_48 dX5_pactLine_69 rfl mo_48 mm_5_90 (by decide) ms_69 mi_69 mr_69 ma_69 mo_69 (by decide) (Nat.le_of_ble_eq_true rfl) rfl rfl (Nat.le_of_ble_eq_true rfl)).trans ?_
      refine gd_c ?_
      refine bI_c fun r5 h3 => ?_
      exact s_zret mc_48 dX5_pactLine_72 mt_48
theorem b_48_140 {X : Ctx} {d : Nat} (x0 : Nat) (v1 : Option Value) (v2 : Option Value)  (h : Hp) : sem (X, K X d) 48 140 [some (.ref x0), v1, v2] [] h = gd (hS h x0 = (6, 0)) (bI (K X d 49 [.ref x0] h) fun r1 h1 => gd (okN .boolean r1) (some (some (.int r1), h1))) := by
  refine (s_aload_n 141 mc_48 dX5_pactLine_140 rfl rfl rfl).trans ?_
  refine (s_iviI 144 mc_48 dX5_pactLine_141 rfl mo_48 mm_5_152 (by decide) ms_49 mi_49 mr_49 ma_49 mo_49 (by decide) (Nat.le_of_ble_eq_true rfl) rfl rfl (Nat.le_of_ble_eq_true rfl)).trans ?_
  refine gd_c ?_
  refine bI_c fun r1 h1 => ?_
  exact s_zret mc_48 dX5_pactLine_144 mt_48
theorem b_48_145 {X : Ctx} {d : Nat} (x0 : Nat) (v1 : Option Value) (v2 : Option Value)  (h : Hp) : sem (X, K X d) 48 145 [some (.ref x0), v1, v2] [] h = gd (hS h x0 = (6, 0)) (bI (K X d 50 [.ref x0] h) fun r1 h1 => gd (okN .boolean r1) (some (some (.int r1), h1))) := by
  refine (s_aload_n 146 mc_48 dX5_pactLine_145 rfl rfl rfl).trans ?_
  refine (s_iviI 149 mc_48 dX5_pactLine_146 rfl mo_48 mm_5_155 (by decide) ms_50 mi_50 mr_50 ma_50 mo_50 (by decide) (Nat.le_of_ble_eq_true rfl) rfl rfl (Nat.le_of_ble_eq_true rfl)).trans ?_
  refine gd_c ?_
  refine bI_c fun r1 h1 => ?_
  exact s_zret mc_48 dX5_pactLine_149 mt_48
theorem b_48_150 {X : Ctx} {d : Nat} (x0 : Nat) (v1 : Option Value) (v2 : Option Value)  (h : Hp) : sem (X, K X d) 48 150 [some (.ref x0), v1, v2] [] h = gd (hS h x0 = (6, 0)) (bI (K X d 51 [.ref x0] h) fun r1 h1 => gd (okN .boolean r1) (some (some (.int r1), h1))) := by
  refine (s_aload_n 151 mc_48 dX5_pactLine_150 rfl rfl rfl).trans ?_
  refine (s_iviI 154 mc_48 dX5_pactLine_151 rfl mo_48 mm_5_158 (by decide) ms_51 mi_51 mr_51 ma_51 mo_51 (by decide) (Nat.le_of_ble_eq_true rfl) rfl rfl (Nat.le_of_ble_eq_true rfl)).trans ?_
  refine gd_c ?_
  refine bI_c fun r1 h1 => ?_
  exact s_zret mc_48 dX5_pactLine_154 mt_48
theorem b_48_155 {X : Ctx} {d : Nat} (x0 : Nat) (v1 : Option Value) (v2 : Option Value)  (h : Hp) : sem (X, K X d) 48 155 [some (.ref x0), v1, v2] [] h = gd (hS h x0 = (6, 0)) (bI (K X d 52 [.ref x0] h) fun r1 h1 => gd (okN .boolean r1) (some (some (.int r1), h1))) := by
  refine (s_aload_n 156 mc_48 dX5_pactLine_155 rfl rfl rfl).trans ?_
  refine (s_iviI 159 mc_48 dX5_pactLine_156 rfl mo_48 mm_5_161 (by decide) ms_52 mi_52 mr_52 ma_52 mo_52 (by decide) (Nat.le_of_ble_eq_true rfl) rfl rfl (Nat.le_of_ble_eq_true rfl)).trans ?_
  refine gd_c ?_
  refine bI_c fun r1 h1 => ?_
  exact s_zret mc_48 dX5_pactLine_159 mt_48
theorem b_48_160 {X : Ctx} {d : Nat} (x0 : Nat) (v1 : Option Value) (v2 : Option Value)  (h : Hp) : sem (X, K X d) 48 160 [some (.ref x0), v1, v2] [] h = gR h 5 x0 6 fun g1 => fZ h 3 g1 6 1 fun h1 => some (some (.int 1), h1) := by
  refine (s_aload_n 161 mc_48 dX5_pactLine_160 rfl rfl rfl).trans ?_
  refine (s_getfR 164 mc_48 dX5_pactLine_161 rfl mo_48 fs_5_80 ff_5_80 rfl).trans ?_
  refine gR_c fun g1 => ?_
  refine (s_iconst 165 1 mc_48 dX5_pactLine_164 rfl (by decide)).trans ?_
  refine (s_putfZ 168 mc_48 dX5_pactLine_165 rfl mo_48 ff_5_149 rfl (Or.inl rfl)).trans ?_
  refine fZ_c fun h1 => ?_
  refine (s_iconst 169 1 mc_48 dX5_pactLine_168 rfl (by decide)).trans ?_
  exact s_zret1 mc_48 dX5_pactLine_169 mt_48
/-- FiveLands$Reader.testLine()Z -/
theorem k_49 {X : Ctx} {d : Nat} (x0 : Nat) (h : Hp) : K X (d + 1) 49 [.ref x0] h = gd (hS h x0 = (6, 0)) (bI (K X d 68 [.ref x0] h) fun r1 h1 => if r1 < 0 then gd (hS h1 x0 = (6, 0)) (bI (K X d 69 [.ref x0, .int 1] h1) fun r2 h2 => gd (okN .boolean r2) (some (some (.int r2), h2))) else gd (hS h1 x0 = (6, 0)) (bI (K X d 68 [.ref x0] h1) fun r3 h3 => if r3 ≤ 3 then gR h3 5 x0 6 fun g4 => gd (hS h3 x0 = (6, 0)) (bI (K X d 68 [.ref x0] h3) fun r5 h4 => gd (hS h4 g4 = (4, 0)) (bV (K X d 32 [.ref g4, .int r5] h4) fun h5 => gI h5 5 x0 8 fun g6 => fI h5 5 x0 8 (g6 + 1) fun h6 => some (some (.int 1), h6))) else gd (hS h3 x0 = (6, 0)) (bI (K X d 69 [.ref x0, .int 1] h3) fun r7 h7 => gd (okN .boolean r7) (some (some (.int r7), h7))))) := by
  show sem (X, K X d) 49 0 [some (.ref x0)] [] h = _
  refine (s_aload_n 1 mc_49 dX5_testLine_0 rfl rfl rfl).trans ?_
  refine (s_iviI 4 mc_49 dX5_testLine_1 rfl mo_49 mm_5_70 (by decide) ms_68 mi_68 mr_68 ma_68 mo_68 (by decide) (Nat.le_of_ble_eq_true rfl) rfl rfl (Nat.le_of_ble_eq_true rfl)).trans ?_
  refine gd_c ?_
  refine bI_c fun r1 h1 => ?_
  refine (s_if_lt 15 7 mc_49 dX5_testLine_4 rfl rfl).trans ?_
  refine ite_c ?_ ?_
  · skip
    refine (s_aload_n 16 mc_49 dX5_testLine_15 rfl rfl rfl).trans ?_
    refine (s_iconst 17 1 mc_49 dX5_testLine_16 rfl (by decide)).trans ?_
    refine (s_iviI 20 mc_49 dX5_testLine_17 rfl mo_49 mm_5_90 (by decide) ms_69 mi_69 mr_69 ma_69 mo_69 (by decide) (Nat.le_of_ble_eq_true rfl) rfl rfl (Nat.le_of_ble_eq_true rfl)).trans ?_
    refine gd_c ?_
    refine bI_c fun r2 h2 => ?_
    exact s_zret mc_49 dX5_testLine_20 mt_49
  · skip
    refine (s_aload_n 8 mc_49 dX5_testLine_7 rfl rfl rfl).trans ?_
    refine (s_iviI 11 mc_49 dX5_testLine_8 rfl mo_49 mm_5_70 (by decide) ms_68 mi_68 mr_68 ma_68 mo_68 (by decide) (Nat.le_of_ble_eq_true rfl) rfl rfl (Nat.le_of_ble_eq_true rfl)).trans ?_
    refine gd_c ?_
    refine bI_c fun r3 h3 => ?_
    refine (s_iconst 12 3 mc_49 dX5_testLine_11 rfl (by decide)).trans ?_
    refine (s_icmp_le 21 15 mc_49 dX5_testLine_12 rfl rfl).trans ?_
    refine ite_c ?_ ?_
    · skip
      refine (s_aload_n 22 mc_49 dX5_testLine_21 rfl rfl rfl).trans ?_
      refine (s_getfR 25 mc_49 dX5_testLine_22 rfl mo_49 fs_5_80 ff_5_80 rfl).trans ?_
      refine gR_c fun g4 => ?_
      refine (s_aload_n 26 mc_49 dX5_testLine_25 rfl rfl rfl).trans ?_
      refine (s_iviI 29 mc_49 dX5_testLine_26 rfl mo_49 mm_5_70 (by decide) ms_68 mi_68 mr_68 ma_68 mo_68 (by decide) (Nat.le_of_ble_eq_true rfl) rfl rfl (Nat.le_of_ble_eq_true rfl)).trans ?_
      refine gd_c ?_
      refine bI_c fun r5 h4 => ?_
      refine (s_iviV 32 mc_49 dX5_testLine_29 rfl mo_49 mm_5_164 (by decide) ms_32 mi_32 mr_32 ma_32 mo_32 (by decide) (Nat.le_of_ble_eq_true rfl) rfl rfl (Nat.le_of_ble_eq_true rfl)).trans ?_
      refine gd_c ?_
      refine bV_c fun h5 => ?_
      refine (s_aload_n 33 mc_49 dX5_testLine_32 rfl rfl rfl).trans ?_
      refine (s_dup 34 mc_49 dX5_testLine_33 rfl rfl).trans ?_
      refine (s_getfI 37 mc_49 dX5_testLine_34 rfl mo_49 fs_5_47 ff_5_47 (Or.inl rfl)).trans ?_
      refine gI_c fun g6 => ?_
      refine (s_iconst 38 1 mc_49 dX5_testLine_37 rfl (by decide)).trans ?_
      refine (s_iadd 39 mc_49 dX5_testLine_38 rfl).trans ?_
      refine (s_putfI 42 mc_49 dX5_testLine_39 rfl mo_49 ff_5_47 rfl (Or.inl rfl)).trans ?_
      refine fI_c fun h6 => ?_
      refine (s_iconst 43 1 mc_49 dX5_testLine_42 rfl (by decide)).trans ?_
      exact s_zret1 mc_49 dX5_testLine_43 mt_49
    · skip
      refine (s_aload_n 16 mc_49 dX5_testLine_15 rfl rfl rfl).trans ?_
      refine (s_iconst 17 1 mc_49 dX5_testLine_16 rfl (by decide)).trans ?_
      refine (s_iviI 20 mc_49 dX5_testLine_17 rfl mo_49 mm_5_90 (by decide) ms_69 mi_69 mr_69 ma_69 mo_69 (by decide) (Nat.le_of_ble_eq_true rfl) rfl rfl (Nat.le_of_ble_eq_true rfl)).trans ?_
      refine gd_c ?_
      refine bI_c fun r7 h7 => ?_
      exact s_zret mc_49 dX5_testLine_20 mt_49
/-- FiveLands$Reader.onlyLine()Z -/
theorem k_50 {X : Ctx} {d : Nat} (x0 : Nat) (h : Hp) : K X (d + 1) 50 [.ref x0] h = gR h 5 x0 6 fun g1 => gI h 3 g1 3 fun g2 => gd (hS h x0 = (6, 0)) (bI (K X d 66 [.ref x0, .int g2] h) fun r3 h1 => if ¬ r3 = 0 then gR h1 5 x0 6 fun g4 => gI h1 3 g4 3 fun g5 => gd (hS h1 x0 = (6, 0)) (bI (K X d 68 [.ref x0] h1) fun r6 h2 => fI h2 3 g4 3 (g5 ||| (1 <<< ((r6 - 8) &&& 31))) fun h3 => gI h3 5 x0 8 fun g7 => fI h3 5 x0 8 (g7 + 1) fun h4 => some (some (.int 1), h4)) else some (some (.int 0), h1)) := by
  show sem (X, K X d) 50 0 [some (.ref x0)] [] h = _
  refine (s_aload_n 1 mc_50 dX5_onlyLine_0 rfl rfl rfl).trans ?_
  refine (s_aload_n 2 mc_50 dX5_onlyLine_1 rfl rfl rfl).trans ?_
  refine (s_getfR 5 mc_50 dX5_onlyLine_2 rfl mo_50 fs_5_80 ff_5_80 rfl).trans ?_
  refine gR_c fun g1 => ?_
  refine (s_getfI 8 mc_50 dX5_onlyLine_5 rfl mo_50 fs_5_168 ff_5_168 (Or.inl rfl)).trans ?_
  refine gI_c fun g2 => ?_
  refine (s_iviI 11 mc_50 dX5_onlyLine_8 rfl mo_50 mm_5_171 (by decide) ms_66 mi_66 mr_66 ma_66 mo_66 (by decide) (Nat.le_of_ble_eq_true rfl) rfl rfl (Nat.le_of_ble_eq_true rfl)).trans ?_
  refine gd_c ?_
  refine bI_c fun r3 h1 => ?_
  refine (s_if_ne 16 14 mc_50 dX5_onlyLine_11 rfl rfl).trans ?_
  refine ite_c ?_ ?_
  · skip
    refine (s_aload_n 17 mc_50 dX5_onlyLine_16 rfl rfl rfl).trans ?_
    refine (s_getfR 20 mc_50 dX5_onlyLine_17 rfl mo_50 fs_5_80 ff_5_80 rfl).trans ?_
    refine gR_c fun g4 => ?_
    refine (s_dup 21 mc_50 dX5_onlyLine_20 rfl rfl).trans ?_
    refine (s_getfI 24 mc_50 dX5_onlyLine_21 rfl mo_50 fs_5_168 ff_5_168 (Or.inl rfl)).trans ?_
    refine gI_c fun g5 => ?_
    refine (s_iconst 25 1 mc_50 dX5_onlyLine_24 rfl (by decide)).trans ?_
    refine (s_aload_n 26 mc_50 dX5_onlyLine_25 rfl rfl rfl).trans ?_
    refine (s_iviI 29 mc_50 dX5_onlyLine_26 rfl mo_50 mm_5_70 (by decide) ms_68 mi_68 mr_68 ma_68 mo_68 (by decide) (Nat.le_of_ble_eq_true rfl) rfl rfl (Nat.le_of_ble_eq_true rfl)).trans ?_
    refine gd_c ?_
    refine bI_c fun r6 h2 => ?_
    refine (s_bipush 31 8 mc_50 dX5_onlyLine_29 rfl (by decide)).trans ?_
    refine (s_isub 32 mc_50 dX5_onlyLine_31 rfl).trans ?_
    refine (s_ishl 33 mc_50 dX5_onlyLine_32 rfl).trans ?_
    refine (s_ior 34 mc_50 dX5_onlyLine_33 rfl).trans ?_
    refine (s_putfI 37 mc_50 dX5_onlyLine_34 rfl mo_50 ff_5_168 rfl (Or.inl rfl)).trans ?_
    refine fI_c fun h3 => ?_
    refine (s_aload_n 38 mc_50 dX5_onlyLine_37 rfl rfl rfl).trans ?_
    refine (s_dup 39 mc_50 dX5_onlyLine_38 rfl rfl).trans ?_
    refine (s_getfI 42 mc_50 dX5_onlyLine_39 rfl mo_50 fs_5_47 ff_5_47 (Or.inl rfl)).trans ?_
    refine gI_c fun g7 => ?_
    refine (s_iconst 43 1 mc_50 dX5_onlyLine_42 rfl (by decide)).trans ?_
    refine (s_iadd 44 mc_50 dX5_onlyLine_43 rfl).trans ?_
    refine (s_putfI 47 mc_50 dX5_onlyLine_44 rfl mo_50 ff_5_47 rfl (Or.inl rfl)).trans ?_
    refine fI_c fun h4 => ?_
    refine (s_iconst 48 1 mc_50 dX5_onlyLine_47 rfl (by decide)).trans ?_
    exact s_zret1 mc_50 dX5_onlyLine_48 mt_50
  · skip
    refine (s_iconst 15 0 mc_50 dX5_onlyLine_14 rfl (by decide)).trans ?_
    exact s_zret0 mc_50 dX5_onlyLine_15 mt_50
/-- FiveLands$Reader.topLine()Z -/
theorem k_51 {X : Ctx} {d : Nat} (x0 : Nat) (h : Hp) : K X (d + 1) 51 [.ref x0] h = gR h 5 x0 6 fun g1 => gI h 3 g1 4 fun g2 => gd (hS h x0 = (6, 0)) (bI (K X d 66 [.ref x0, .int g2] h) fun r3 h1 => if ¬ r3 = 0 then gd (hS h1 x0 = (6, 0)) (bI (K X d 68 [.ref x0] h1) fun r4 h2 => gR h2 5 x0 6 fun g5 => gI h2 3 g5 4 fun g6 => fI h2 3 g5 4 (g6 ||| (1 <<< ((r4 - 8) &&& 31))) fun h3 => gI h3 5 x0 8 fun g7 => fI h3 5 x0 8 (g7 + 1) fun h4 => gd (hS h4 x0 = (6, 0)) (bI (K X d 64 [.ref x0] h4) fun r8 h5 => if ¬ r8 = 0 then gR h5 5 x0 6 fun g9 => gR h5 3 g9 1 fun g10 => gR h5 5 x0 2 fun g11 => gI h5 5 x0 8 fun g12 => aI X h5 g11 g12 fun g13 => wI h5 g10 (r4 - 8) g13 fun h6 => gI h6 5 x0 8 fun g14 => fI h6 5 x0 8 (g14 + 1) fun h7 => some (some (.int 1), h7) else some (some (.int 0), h5))) else some (some (.int 0), h1)) := by
  show sem (X, K X d) 51 0 [some (.ref x0), none] [] h = _
  refine (s_aload_n 1 mc_51 dX5_topLine_0 rfl rfl rfl).trans ?_
  refine (s_aload_n 2 mc_51 dX5_topLine_1 rfl rfl rfl).trans ?_
  refine (s_getfR 5 mc_51 dX5_topLine_2 rfl mo_51 fs_5_80 ff_5_80 rfl).trans ?_
  refine gR_c fun g1 => ?_
  refine (s_getfI 8 mc_51 dX5_topLine_5 rfl mo_51 fs_5_174 ff_5_174 (Or.inl rfl)).trans ?_
  refine gI_c fun g2 => ?_
  refine (s_iviI 11 mc_51 dX5_topLine_8 rfl mo_51 mm_5_171 (by decide) ms_66 mi_66 mr_66 ma_66 mo_66 (by decide) (Nat.le_of_ble_eq_true rfl) rfl rfl (Nat.le_of_ble_eq_true rfl)).trans ?_
  refine gd_c ?_
  refine bI_c fun r3 h1 => ?_
  refine (s_if_ne 16 14 mc_51 dX5_topLine_11 rfl rfl).trans ?_
  refine ite_c ?_ ?_
  · skip
    refine (s_aload_n 17 mc_51 dX5_topLine_16 rfl rfl rfl).trans ?_
    refine (s_iviI 20 mc_51 dX5_topLine_17 rfl mo_51 mm_5_70 (by decide) ms_68 mi_68 mr_68 ma_68 mo_68 (by decide) (Nat.le_of_ble_eq_true rfl) rfl rfl (Nat.le_of_ble_eq_true rfl)).trans ?_
    refine gd_c ?_
    refine bI_c fun r4 h2 => ?_
    refine (s_bipush 22 8 mc_51 dX5_topLine_20 rfl (by decide)).trans ?_
    refine (s_isub 23 mc_51 dX5_topLine_22 rfl).trans ?_
    refine (s_istore_n 24 mc_51 dX5_topLine_23 rfl rfl (Nat.le_of_ble_eq_true rfl) rfl).trans ?_
    refine (s_aload_n 25 mc_51 dX5_topLine_24 rfl rfl rfl).trans ?_
    refine (s_getfR 28 mc_51 dX5_topLine_25 rfl mo_51 fs_5_80 ff_5_80 rfl).trans ?_
    refine gR_c fun g5 => ?_
    refine (s_dup 29 mc_51 dX5_topLine_28 rfl rfl).trans ?_
    refine (s_getfI 32 mc_51 dX5_topLine_29 rfl mo_51 fs_5_174 ff_5_174 (Or.inl rfl)).trans ?_
    refine gI_c fun g6 => ?_
    refine (s_iconst 33 1 mc_51 dX5_topLine_32 rfl (by decide)).trans ?_
    refine (s_iload_n 34 mc_51 dX5_topLine_33 rfl rfl rfl).trans ?_
    refine (s_ishl 35 mc_51 dX5_topLine_34 rfl).trans ?_
    refine (s_ior 36 mc_51 dX5_topLine_35 rfl).trans ?_
    refine (s_putfI 39 mc_51 dX5_topLine_36 rfl mo_51 ff_5_174 rfl (Or.inl rfl)).trans ?_
    refine fI_c fun h3 => ?_
    refine (s_aload_n 40 mc_51 dX5_topLine_39 rfl rfl rfl).trans ?_
    refine (s_dup 41 mc_51 dX5_topLine_40 rfl rfl).trans ?_
    refine (s_getfI 44 mc_51 dX5_topLine_41 rfl mo_51 fs_5_47 ff_5_47 (Or.inl rfl)).trans ?_
    refine gI_c fun g7 => ?_
    refine (s_iconst 45 1 mc_51 dX5_topLine_44 rfl (by decide)).trans ?_
    refine (s_iadd 46 mc_51 dX5_topLine_45 rfl).trans ?_
    refine (s_putfI 49 mc_51 dX5_topLine_46 rfl mo_51 ff_5_47 rfl (Or.inl rfl)).trans ?_
    refine fI_c fun h4 => ?_
    refine (s_aload_n 50 mc_51 dX5_topLine_49 rfl rfl rfl).trans ?_
    refine (s_iviI 53 mc_51 dX5_topLine_50 rfl mo_51 mm_5_134 (by decide) ms_64 mi_64 mr_64 ma_64 mo_64 (by decide) (Nat.le_of_ble_eq_true rfl) rfl rfl (Nat.le_of_ble_eq_true rfl)).trans ?_
    refine gd_c ?_
    refine bI_c fun r8 h5 => ?_
    refine (s_if_ne 58 56 mc_51 dX5_topLine_53 rfl rfl).trans ?_
    refine ite_c ?_ ?_
    · skip
      refine (s_aload_n 59 mc_51 dX5_topLine_58 rfl rfl rfl).trans ?_
      refine (s_getfR 62 mc_51 dX5_topLine_59 rfl mo_51 fs_5_80 ff_5_80 rfl).trans ?_
      refine gR_c fun g9 => ?_
      refine (s_getfR 65 mc_51 dX5_topLine_62 rfl mo_51 fs_5_177 ff_5_177 rfl).trans ?_
      refine gR_c fun g10 => ?_
      refine (s_iload_n 66 mc_51 dX5_topLine_65 rfl rfl rfl).trans ?_
      refine (s_aload_n 67 mc_51 dX5_topLine_66 rfl rfl rfl).trans ?_
      refine (s_getfR 70 mc_51 dX5_topLine_67 rfl mo_51 fs_5_19 ff_5_19 rfl).trans ?_
      refine gR_c fun g11 => ?_
      refine (s_aload_n 71 mc_51 dX5_topLine_70 rfl rfl rfl).trans ?_
      refine (s_getfI 74 mc_51 dX5_topLine_71 rfl mo_51 fs_5_47 ff_5_47 (Or.inl rfl)).trans ?_
      refine gI_c fun g12 => ?_
      refine (s_iaload 75 mc_51 dX5_topLine_74 rfl).trans ?_
      refine aI_c fun g13 => ?_
      refine (s_iastore 76 mc_51 dX5_topLine_75 rfl).trans ?_
      refine wI_c fun h6 => ?_
      refine (s_aload_n 77 mc_51 dX5_topLine_76 rfl rfl rfl).trans ?_
      refine (s_dup 78 mc_51 dX5_topLine_77 rfl rfl).trans ?_
      refine (s_getfI 81 mc_51 dX5_topLine_78 rfl mo_51 fs_5_47 ff_5_47 (Or.inl rfl)).trans ?_
      refine gI_c fun g14 => ?_
      refine (s_iconst 82 1 mc_51 dX5_topLine_81 rfl (by decide)).trans ?_
      refine (s_iadd 83 mc_51 dX5_topLine_82 rfl).trans ?_
      refine (s_putfI 86 mc_51 dX5_topLine_83 rfl mo_51 ff_5_47 rfl (Or.inl rfl)).trans ?_
      refine fI_c fun h7 => ?_
      refine (s_iconst 87 1 mc_51 dX5_topLine_86 rfl (by decide)).trans ?_
      exact s_zret1 mc_51 dX5_topLine_87 mt_51
    · skip
      refine (s_iconst 57 0 mc_51 dX5_topLine_56 rfl (by decide)).trans ?_
      exact s_zret0 mc_51 dX5_topLine_57 mt_51
  · skip
    refine (s_iconst 15 0 mc_51 dX5_topLine_14 rfl (by decide)).trans ?_
    exact s_zret0 mc_51 dX5_topLine_15 mt_51
/-- FiveLands$Reader.pactRelief()Z -/
theorem k_52 {X : Ctx} {d : Nat} (x0 : Nat) (h : Hp) : K X (d + 1) 52 [.ref x0] h = gd (hS h x0 = (6, 0)) (bI (K X d 68 [.ref x0] h) fun r1 h1 => if r1 = 21 then sem (X, K X d) 52 24 [some (.ref x0)] [] h1 else gd (hS h1 x0 = (6, 0)) (bI (K X d 68 [.ref x0] h1) fun r2 h2 => if r2 = 16 then sem (X, K X d) 52 24 [some (.ref x0)] [] h2 else gd (hS h2 x0 = (6, 0)) (bI (K X d 69 [.ref x0, .int 1] h2) fun r3 h3 => gd (okN .boolean r3) (some (some (.int r3), h3))))) := by
  show sem (X, K X d) 52 0 [some (.ref x0)] [] h = _
  refine (s_aload_n 1 mc_52 dX5_pactRelief_0 rfl rfl rfl).trans ?_
  refine (s_iviI 4 mc_52 dX5_pactRelief_1 rfl mo_52 mm_5_70 (by decide) ms_68 mi_68 mr_68 ma_68 mo_68 (by decide) (Nat.le_of_ble_eq_true rfl) rfl rfl (Nat.le_of_ble_eq_true rfl)).trans ?_
  refine gd_c ?_
  refine bI_c fun r1 h1 => ?_
  refine (s_bipush 6 21 mc_52 dX5_pactRelief_4 rfl (by decide)).trans ?_
  refine (s_icmp_eq 24 9 mc_52 dX5_pactRelief_6 rfl rfl).trans ?_
  refine ite_c ?_ ?_
  · skip
    rfl
  · skip
    refine (s_aload_n 10 mc_52 dX5_pactRelief_9 rfl rfl rfl).trans ?_
    refine (s_iviI 13 mc_52 dX5_pactRelief_10 rfl mo_52 mm_5_70 (by decide) ms_68 mi_68 mr_68 ma_68 mo_68 (by decide) (Nat.le_of_ble_eq_true rfl) rfl rfl (Nat.le_of_ble_eq_true rfl)).trans ?_
    refine gd_c ?_
    refine bI_c fun r2 h2 => ?_
    refine (s_bipush 15 16 mc_52 dX5_pactRelief_13 rfl (by decide)).trans ?_
    refine (s_icmp_eq 24 18 mc_52 dX5_pactRelief_15 rfl rfl).trans ?_
    refine ite_c ?_ ?_
    · skip
      rfl
    · skip
      refine (s_aload_n 19 mc_52 dX5_pactRelief_18 rfl rfl rfl).trans ?_
      refine (s_iconst 20 1 mc_52 dX5_pactRelief_19 rfl (by decide)).trans ?_
      refine (s_iviI 23 mc_52 dX5_pactRelief_20 rfl mo_52 mm_5_90 (by decide) ms_69 mi_69 mr_69 ma_69 mo_69 (by decide) (Nat.le_of_ble_eq_true rfl) rfl rfl (Nat.le_of_ble_eq_true rfl)).trans ?_
      refine gd_c ?_
      refine bI_c fun r3 h3 => ?_
      exact s_zret mc_52 dX5_pactRelief_23 mt_52
theorem b_52_24 {X : Ctx} {d : Nat} (x0 : Nat)  (h : Hp) : sem (X, K X d) 52 24 [some (.ref x0)] [] h = gR h 5 x0 6 fun g1 => gd (hS h x0 = (6, 0)) (bI (K X d 68 [.ref x0] h) fun r2 h1 => bI (K X d 47 [.int r2] h1) fun r3 h2 => fI h2 3 g1 5 r3 fun h3 => gI h3 5 x0 8 fun g4 => fI h3 5 x0 8 (g4 + 1) fun h4 => some (some (.int 1), h4)) := by
  refine (s_aload_n 25 mc_52 dX5_pactRelief_24 rfl rfl rfl).trans ?_
  refine (s_getfR 28 mc_52 dX5_pactRelief_25 rfl mo_52 fs_5_80 ff_5_80 rfl).trans ?_
  refine gR_c fun g1 => ?_
  refine (s_aload_n 29 mc_52 dX5_pactRelief_28 rfl rfl rfl).trans ?_
  refine (s_iviI 32 mc_52 dX5_pactRelief_29 rfl mo_52 mm_5_70 (by decide) ms_68 mi_68 mr_68 ma_68 mo_68 (by decide) (Nat.le_of_ble_eq_true rfl) rfl rfl (Nat.le_of_ble_eq_true rfl)).trans ?_
  refine gd_c ?_
  refine bI_c fun r2 h1 => ?_
  refine (s_istI 35 mc_52 dX5_pactRelief_32 rfl mo_52 mm_5_141 (by decide) ms_47 mr_47 ma_47 (Nat.le_of_ble_eq_true rfl) rfl rfl (Nat.le_of_ble_eq_true rfl)).trans ?_
  refine bI_c fun r3 h2 => ?_
  refine (s_putfI 38 mc_52 dX5_pactRelief_35 rfl mo_52 ff_5_148 rfl (Or.inl rfl)).trans ?_
  refine fI_c fun h3 => ?_
  refine (s_aload_n 39 mc_52 dX5_pactRelief_38 rfl rfl rfl).trans ?_
  refine (s_dup 40 mc_52 dX5_pactRelief_39 rfl rfl).trans ?_
  refine (s_getfI 43 mc_52 dX5_pactRelief_40 rfl mo_52 fs_5_47 ff_5_47 (Or.inl rfl)).trans ?_
  refine gI_c fun g4 => ?_
  refine (s_iconst 44 1 mc_52 dX5_pactRelief_43 rfl (by decide)).trans ?_
  refine (s_iadd 45 mc_52 dX5_pactRelief_44 rfl).trans ?_
  refine (s_putfI 48 mc_52 dX5_pactRelief_45 rfl mo_52 ff_5_47 rfl (Or.inl rfl)).trans ?_
  refine fI_c fun h4 => ?_
  refine (s_iconst 49 1 mc_52 dX5_pactRelief_48 rfl (by decide)).trans ?_
  exact s_zret1 mc_52 dX5_pactRelief_49 mt_52
/-- FiveLands$Reader.condition()Z -/
theorem k_53 {X : Ctx} {d : Nat} (x0 : Nat) (h : Hp) : K X (d + 1) 53 [.ref x0] h = fI h 5 x0 9 0 fun h1 => fI h1 5 x0 10 0 fun h2 => sem (X, K X d) 53 12 [some (.ref x0), some (.int 0), none] [] h2 := by
  show sem (X, K X d) 53 0 [some (.ref x0), none, none] [] h = _
  refine (s_aload_n 1 mc_53 dX5_condition_0 rfl rfl rfl).trans ?_
  refine (s_iconst 2 0 mc_53 dX5_condition_1 rfl (by decide)).trans ?_
  refine (s_putfI 5 mc_53 dX5_condition_2 rfl mo_53 ff_5_180 rfl (Or.inl rfl)).trans ?_
  refine fI_c fun h1 => ?_
  refine (s_aload_n 6 mc_53 dX5_condition_5 rfl rfl rfl).trans ?_
  refine (s_iconst 7 0 mc_53 dX5_condition_6 rfl (by decide)).trans ?_
  refine (s_putfI 10 mc_53 dX5_condition_7 rfl mo_53 ff_5_183 rfl (Or.inl rfl)).trans ?_
  refine fI_c fun h2 => ?_
  refine (s_iconst 11 0 mc_53 dX5_condition_10 rfl (by decide)).trans ?_
  refine (s_istore_n 12 mc_53 dX5_condition_11 rfl rfl (Nat.le_of_ble_eq_true rfl) rfl).trans ?_
  rfl
theorem b_53_12 {X : Ctx} {d : Nat} (x0 : Nat) (x1 : Int32) (v2 : Option Value)  (h : Hp) : sem (X, K X d) 53 12 [some (.ref x0), some (.int x1), v2] [] h = gI h 5 x0 7 fun g1 => if g1 < x1 then gd (hS h x0 = (6, 0)) (bI (K X d 69 [.ref x0, .int 1] h) fun r2 h1 => gd (okN .boolean r2) (some (some (.int r2), h1))) else gd (hS h x0 = (6, 0)) (bI (K X d 68 [.ref x0] h) fun r3 h2 => if r3 = 40 then sem (X, K X d) 53 38 [some (.ref x0), some (.int x1), v2] [] h2 else gd (hS h2 x0 = (6, 0)) (bI (K X d 68 [.ref x0] h2) fun r4 h3 => if ¬ r4 = 24 then gd (hS h3 x0 = (6, 0)) (bI (K X d 60 [.ref x0] h3) fun r5 h4 => if ¬ r5 = 0 then gd (hS h4 x0 = (6, 0)) (bI (K X d 68 [.ref x0] h4) fun r6 h5 => bI (K X d 59 [.int r6] h5) fun r7 h6 => if ¬ r7 = 0 then gI h6 5 x0 8 fun g8 => fI h6 5 x0 8 (g8 + 1) fun h7 => gd (hS h7 x0 = (6, 0)) (bI (K X d 60 [.ref x0] h7) fun r9 h8 => if ¬ r9 = 0 then gR h8 5 x0 5 fun g10 => gd (hS h8 g10 = (2, 0)) (bV (K X d 3 [.ref g10, .int r7] h8) fun h9 => gd (hS h9 x0 = (6, 0)) (bV (K X d 56 [.ref x0] h9) fun h10 => gd (hS h10 x0 = (6, 0)) (bI (K X d 68 [.ref x0] h10) fun r11 h11 => if r11 = 23 then sem (X, K X d) 53 147 [some (.ref x0), some (.int x1), some (.int r7)] [] h11 else gd (hS h11 x0 = (6, 0)) (bI (K X d 68 [.ref x0] h11) fun r12 h12 => if r12 = 22 then sem (X, K X d) 53 147 [some (.ref x0), some (.int x1), some (.int r7)] [] h12 else gd (hS h12 x0 = (6, 0)) (bI (K X d 58 [.ref x0] h12) fun r13 h13 => gd (okN .boolean r13) (some (some (.int r13), h13))))))) else some (some (.int 0), h8)) else gd (hS h6 x0 = (6, 0)) (bI (K X d 69 [.ref x0, .int 1] h6) fun r14 h14 => gd (okN .boolean r14) (some (some (.int r14), h14)))) else some (some (.int 0), h4)) else sem (X, K X d) 53 38 [some (.ref x0), some (.int x1), v2] [] h3)) := by
  refine (s_iload_n 13 mc_53 dX5_condition_12 rfl rfl rfl).trans ?_
  refine (s_aload_n 14 mc_53 dX5_condition_13 rfl rfl rfl).trans ?_
  refine (s_getfI 17 mc_53 dX5_condition_14 rfl mo_53 fs_5_186 ff_5_186 (Or.inl rfl)).trans ?_
  refine gI_c fun g1 => ?_
  refine (s_icmp_gt 179 20 mc_53 dX5_condition_17 rfl rfl).trans ?_
  refine ite_c ?_ ?_
  · skip
    refine (s_aload_n 180 mc_53 dX5_condition_179 rfl rfl rfl).trans ?_
    refine (s_iconst 181 1 mc_53 dX5_condition_180 rfl (by decide)).trans ?_
    refine (s_iviI 184 mc_53 dX5_condition_181 rfl mo_53 mm_5_90 (by decide) ms_69 mi_69 mr_69 ma_69 mo_69 (by decide) (Nat.le_of_ble_eq_true rfl) rfl rfl (Nat.le_of_ble_eq_true rfl)).trans ?_
    refine gd_c ?_
    refine bI_c fun r2 h1 => ?_
    exact s_zret mc_53 dX5_condition_184 mt_53
  · skip
    refine (s_aload_n 21 mc_53 dX5_condition_20 rfl rfl rfl).trans ?_
    refine (s_iviI 24 mc_53 dX5_condition_21 rfl mo_53 mm_5_70 (by decide) ms_68 mi_68 mr_68 ma_68 mo_68 (by decide) (Nat.le_of_ble_eq_true rfl) rfl rfl (Nat.le_of_ble_eq_true rfl)).trans ?_
    refine gd_c ?_
    refine bI_c fun r3 h2 => ?_
    refine (s_bipush 26 40 mc_53 dX5_condition_24 rfl (by decide)).trans ?_
    refine (s_icmp_eq 38 29 mc_53 dX5_condition_26 rfl rfl).trans ?_
    refine ite_c ?_ ?_
    · skip
      rfl
    · skip
      refine (s_aload_n 30 mc_53 dX5_condition_29 rfl rfl rfl).trans ?_
      refine (s_iviI 33 mc_53 dX5_condition_30 rfl mo_53 mm_5_70 (by decide) ms_68 mi_68 mr_68 ma_68 mo_68 (by decide) (Nat.le_of_ble_eq_true rfl) rfl rfl (Nat.le_of_ble_eq_true rfl)).trans ?_
      refine gd_c ?_
      refine bI_c fun r4 h3 => ?_
      refine (s_bipush 35 24 mc_53 dX5_condition_33 rfl (by decide)).trans ?_
      refine (s_icmp_ne 66 38 mc_53 dX5_condition_35 rfl rfl).trans ?_
      refine ite_c ?_ ?_
      · skip
        refine (s_aload_n 67 mc_53 dX5_condition_66 rfl rfl rfl).trans ?_
        refine (s_iviI 70 mc_53 dX5_condition_67 rfl mo_53 mm_5_122 (by decide) ms_60 mi_60 mr_60 ma_60 mo_60 (by decide) (Nat.le_of_ble_eq_true rfl) rfl rfl (Nat.le_of_ble_eq_true rfl)).trans ?_
        refine gd_c ?_
        refine bI_c fun r5 h4 => ?_
        refine (s_if_ne 75 73 mc_53 dX5_condition_70 rfl rfl).trans ?_
        refine ite_c ?_ ?_
        · skip
          refine (s_aload_n 76 mc_53 dX5_condition_75 rfl rfl rfl).trans ?_
          refine (s_iviI 79 mc_53 dX5_condition_76 rfl mo_53 mm_5_70 (by decide) ms_68 mi_68 mr_68 ma_68 mo_68 (by decide) (Nat.le_of_ble_eq_true rfl) rfl rfl (Nat.le_of_ble_eq_true rfl)).trans ?_
          refine gd_c ?_
          refine bI_c fun r6 h5 => ?_
          refine (s_istI 82 mc_53 dX5_condition_79 rfl mo_53 mm_5_189 (by decide) ms_59 mr_59 ma_59 (Nat.le_of_ble_eq_true rfl) rfl rfl (Nat.le_of_ble_eq_true rfl)).trans ?_
          refine bI_c fun r7 h6 => ?_
          refine (s_istore_n 83 mc_53 dX5_condition_82 rfl rfl (Nat.le_of_ble_eq_true rfl) rfl).trans ?_
          refine (s_iload_n 84 mc_53 dX5_condition_83 rfl rfl rfl).trans ?_
          refine (s_if_ne 93 87 mc_53 dX5_condition_84 rfl rfl).trans ?_
          refine ite_c ?_ ?_
          · skip
            refine (s_aload_n 94 mc_53 dX5_condition_93 rfl rfl rfl).trans ?_
            refine (s_dup 95 mc_53 dX5_condition_94 rfl rfl).trans ?_
            refine (s_getfI 98 mc_53 dX5_condition_95 rfl mo_53 fs_5_47 ff_5_47 (Or.inl rfl)).trans ?_
            refine gI_c fun g8 => ?_
            refine (s_iconst 99 1 mc_53 dX5_condition_98 rfl (by decide)).trans ?_
            refine (s_iadd 100 mc_53 dX5_condition_99 rfl).trans ?_
            refine (s_putfI 103 mc_53 dX5_condition_100 rfl mo_53 ff_5_47 rfl (Or.inl rfl)).trans ?_
            refine fI_c fun h7 => ?_
            refine (s_aload_n 104 mc_53 dX5_condition_103 rfl rfl rfl).trans ?_
            refine (s_iviI 107 mc_53 dX5_condition_104 rfl mo_53 mm_5_122 (by decide) ms_60 mi_60 mr_60 ma_60 mo_60 (by decide) (Nat.le_of_ble_eq_true rfl) rfl rfl (Nat.le_of_ble_eq_true rfl)).trans ?_
            refine gd_c ?_
            refine bI_c fun r9 h8 => ?_
            refine (s_if_ne 112 110 mc_53 dX5_condition_107 rfl rfl).trans ?_
            refine ite_c ?_ ?_
            · skip
              refine (s_aload_n 113 mc_53 dX5_condition_112 rfl rfl rfl).trans ?_
              refine (s_getfR 116 mc_53 dX5_condition_113 rfl mo_53 fs_5_57 ff_5_57 rfl).trans ?_
              refine gR_c fun g10 => ?_
              refine (s_iload_n 117 mc_53 dX5_condition_116 rfl rfl rfl).trans ?_
              refine (s_iviV 120 mc_53 dX5_condition_117 rfl mo_53 mm_5_192 (by decide) ms_3 mi_3 mr_3 ma_3 mo_3 (by decide) (Nat.le_of_ble_eq_true rfl) rfl rfl (Nat.le_of_ble_eq_true rfl)).trans ?_
              refine gd_c ?_
              refine bV_c fun h9 => ?_
              refine (s_aload_n 121 mc_53 dX5_condition_120 rfl rfl rfl).trans ?_
              refine (s_iviV 124 mc_53 dX5_condition_121 rfl mo_53 mm_5_195 (by decide) ms_56 mi_56 mr_56 ma_56 mo_56 (by decide) (Nat.le_of_ble_eq_true rfl) rfl rfl (Nat.le_of_ble_eq_true rfl)).trans ?_
              refine gd_c ?_
              refine bV_c fun h10 => ?_
              refine (s_aload_n 125 mc_53 dX5_condition_124 rfl rfl rfl).trans ?_
              refine (s_iviI 128 mc_53 dX5_condition_125 rfl mo_53 mm_5_70 (by decide) ms_68 mi_68 mr_68 ma_68 mo_68 (by decide) (Nat.le_of_ble_eq_true rfl) rfl rfl (Nat.le_of_ble_eq_true rfl)).trans ?_
              refine gd_c ?_
              refine bI_c fun r11 h11 => ?_
              refine (s_bipush 130 23 mc_53 dX5_condition_128 rfl (by decide)).trans ?_
              refine (s_icmp_eq 147 133 mc_53 dX5_condition_130 rfl rfl).trans ?_
              refine ite_c ?_ ?_
              · skip
                rfl
              · skip
                refine (s_aload_n 134 mc_53 dX5_condition_133 rfl rfl rfl).trans ?_
                refine (s_iviI 137 mc_53 dX5_condition_134 rfl mo_53 mm_5_70 (by decide) ms_68 mi_68 mr_68 ma_68 mo_68 (by decide) (Nat.le_of_ble_eq_true rfl) rfl rfl (Nat.le_of_ble_eq_true rfl)).trans ?_
                refine gd_c ?_
                refine bI_c fun r12 h12 => ?_
                refine (s_bipush 139 22 mc_53 dX5_condition_137 rfl (by decide)).trans ?_
                refine (s_icmp_eq 147 142 mc_53 dX5_condition_139 rfl rfl).trans ?_
                refine ite_c ?_ ?_
                · skip
                  rfl
                · skip
                  refine (s_aload_n 143 mc_53 dX5_condition_142 rfl rfl rfl).trans ?_
                  refine (s_iviI 146 mc_53 dX5_condition_143 rfl mo_53 mm_5_198 (by decide) ms_58 mi_58 mr_58 ma_58 mo_58 (by decide) (Nat.le_of_ble_eq_true rfl) rfl rfl (Nat.le_of_ble_eq_true rfl)).trans ?_
                  refine gd_c ?_
                  refine bI_c fun r13 h13 => ?_
                  exact s_zret mc_53 dX5_condition_146 mt_53
            · skip
              refine (s_iconst 111 0 mc_53 dX5_condition_110 rfl (by decide)).trans ?_
              exact s_zret0 mc_53 dX5_condition_111 mt_53
          · skip
            refine (s_aload_n 88 mc_53 dX5_condition_87 rfl rfl rfl).trans ?_
            refine (s_iconst 89 1 mc_53 dX5_condition_88 rfl (by decide)).trans ?_
            refine (s_iviI 92 mc_53 dX5_condition_89 rfl mo_53 mm_5_90 (by decide) ms_69 mi_69 mr_69 ma_69 mo_69 (by decide) (Nat.le_of_ble_eq_true rfl) rfl rfl (Nat.le_of_ble_eq_true rfl)).trans ?_
            refine gd_c ?_
            refine bI_c fun r14 h14 => ?_
            exact s_zret mc_53 dX5_condition_92 mt_53
        · skip
          refine (s_iconst 74 0 mc_53 dX5_condition_73 rfl (by decide)).trans ?_
          exact s_zret0 mc_53 dX5_condition_74 mt_53
      · skip
        rfl
theorem b_53_38 {X : Ctx} {d : Nat} (x0 : Nat) (x1 : Int32) (v2 : Option Value)  (h : Hp) : sem (X, K X d) 53 38 [some (.ref x0), some (.int x1), v2] [] h = gI h 5 x0 10 fun g1 => if g1 < 8 then gI h 5 x0 10 fun g2 => fI h 5 x0 10 (g2 + 1) fun h1 => gd (hS h1 x0 = (6, 0)) (bI (K X d 68 [.ref x0] h1) fun r3 h2 => gd (hS h2 x0 = (6, 0)) (bV (K X d 54 [.ref x0, .int r3] h2) fun h3 => sem (X, K X d) 53 12 [some (.ref x0), some (.int (x1 + 1)), v2] [] h3)) else gd (hS h x0 = (6, 0)) (bI (K X d 69 [.ref x0, .int 3] h) fun r4 h4 => gd (okN .boolean r4) (some (some (.int r4), h4))) := by
  refine (s_aload_n 39 mc_53 dX5_condition_38 rfl rfl rfl).trans ?_
  refine (s_getfI 42 mc_53 dX5_condition_39 rfl mo_53 fs_5_183 ff_5_183 (Or.inl rfl)).trans ?_
  refine gI_c fun g1 => ?_
  refine (s_bipush 44 8 mc_53 dX5_condition_42 rfl (by decide)).trans ?_
  refine (s_icmp_lt 53 47 mc_53 dX5_condition_44 rfl rfl).trans ?_
  refine ite_c ?_ ?_
  · skip
    refine (s_aload_n 54 mc_53 dX5_condition_53 rfl rfl rfl).trans ?_
    refine (s_dup 55 mc_53 dX5_condition_54 rfl rfl).trans ?_
    refine (s_getfI 58 mc_53 dX5_condition_55 rfl mo_53 fs_5_183 ff_5_183 (Or.inl rfl)).trans ?_
    refine gI_c fun g2 => ?_
    refine (s_iconst 59 1 mc_53 dX5_condition_58 rfl (by decide)).trans ?_
    refine (s_iadd 60 mc_53 dX5_condition_59 rfl).trans ?_
    refine (s_putfI 63 mc_53 dX5_condition_60 rfl mo_53 ff_5_183 rfl (Or.inl rfl)).trans ?_
    refine fI_c fun h1 => ?_
    refine (s_goto 165 mc_53 dX5_condition_63 rfl).trans ?_
    refine (s_aload_n 166 mc_53 dX5_condition_165 rfl rfl rfl).trans ?_
    refine (s_aload_n 167 mc_53 dX5_condition_166 rfl rfl rfl).trans ?_
    refine (s_iviI 170 mc_53 dX5_condition_167 rfl mo_53 mm_5_70 (by decide) ms_68 mi_68 mr_68 ma_68 mo_68 (by decide) (Nat.le_of_ble_eq_true rfl) rfl rfl (Nat.le_of_ble_eq_true rfl)).trans ?_
    refine gd_c ?_
    refine bI_c fun r3 h2 => ?_
    refine (s_iviV 173 mc_53 dX5_condition_170 rfl mo_53 mm_5_205 (by decide) ms_54 mi_54 mr_54 ma_54 mo_54 (by decide) (Nat.le_of_ble_eq_true rfl) rfl rfl (Nat.le_of_ble_eq_true rfl)).trans ?_
    refine gd_c ?_
    refine bV_c fun h3 => ?_
    refine (s_iinc 1 176 mc_53 dX5_condition_173 rfl rfl (Nat.le_of_ble_eq_true rfl) (by decide) rfl).trans ?_
    refine (s_goto 12 mc_53 dX5_condition_176 rfl).trans ?_
    rfl
  · skip
    refine (s_aload_n 48 mc_53 dX5_condition_47 rfl rfl rfl).trans ?_
    refine (s_iconst 49 3 mc_53 dX5_condition_48 rfl (by decide)).trans ?_
    refine (s_iviI 52 mc_53 dX5_condition_49 rfl mo_53 mm_5_90 (by decide) ms_69 mi_69 mr_69 ma_69 mo_69 (by decide) (Nat.le_of_ble_eq_true rfl) rfl rfl (Nat.le_of_ble_eq_true rfl)).trans ?_
    refine gd_c ?_
    refine bI_c fun r4 h4 => ?_
    exact s_zret mc_53 dX5_condition_52 mt_53
theorem b_53_147 {X : Ctx} {d : Nat} (x0 : Nat) (x1 : Int32) (v2 : Option Value)  (h : Hp) : sem (X, K X d) 53 147 [some (.ref x0), some (.int x1), v2] [] h = gd (hS h x0 = (6, 0)) (bI (K X d 68 [.ref x0] h) fun r1 h1 => if ¬ r1 = 22 then gd (hS h1 x0 = (6, 0)) (bV (K X d 57 [.ref x0, .int 0] h1) fun h2 => gd (hS h2 x0 = (6, 0)) (bI (K X d 68 [.ref x0] h2) fun r2 h3 => gd (hS h3 x0 = (6, 0)) (bV (K X d 54 [.ref x0, .int r2] h3) fun h4 => sem (X, K X d) 53 12 [some (.ref x0), some (.int (x1 + 1)), v2] [] h4))) else gd (hS h1 x0 = (6, 0)) (bV (K X d 57 [.ref x0, .int 1] h1) fun h5 => gd (hS h5 x0 = (6, 0)) (bI (K X d 68 [.ref x0] h5) fun r3 h6 => gd (hS h6 x0 = (6, 0)) (bV (K X d 54 [.ref x0, .int r3] h6) fun h7 => sem (X, K X d) 53 12 [some (.ref x0), some (.int (x1 + 1)), v2] [] h7)))) := by
  refine (s_aload_n 148 mc_53 dX5_condition_147 rfl rfl rfl).trans ?_
  refine (s_aload_n 149 mc_53 dX5_condition_148 rfl rfl rfl).trans ?_
  refine (s_iviI 152 mc_53 dX5_condition_149 rfl mo_53 mm_5_70 (by decide) ms_68 mi_68 mr_68 ma_68 mo_68 (by decide) (Nat.le_of_ble_eq_true rfl) rfl rfl (Nat.le_of_ble_eq_true rfl)).trans ?_
  refine gd_c ?_
  refine bI_c fun r1 h1 => ?_
  refine (s_bipush 154 22 mc_53 dX5_condition_152 rfl (by decide)).trans ?_
  refine (s_icmp_ne 161 157 mc_53 dX5_condition_154 rfl rfl).trans ?_
  refine ite_c ?_ ?_
  · skip
    refine (s_iconst 162 0 mc_53 dX5_condition_161 rfl (by decide)).trans ?_
    refine (s_iviV 165 mc_53 dX5_condition_162 rfl mo_53 mm_5_201 (by decide) ms_57 mi_57 mr_57 ma_57 mo_57 (by decide) (Nat.le_of_ble_eq_true rfl) rfl rfl (Nat.le_of_ble_eq_true rfl)).trans ?_
    refine gd_c ?_
    refine bV_c fun h2 => ?_
    refine (s_aload_n 166 mc_53 dX5_condition_165 rfl rfl rfl).trans ?_
    refine (s_aload_n 167 mc_53 dX5_condition_166 rfl rfl rfl).trans ?_
    refine (s_iviI 170 mc_53 dX5_condition_167 rfl mo_53 mm_5_70 (by decide) ms_68 mi_68 mr_68 ma_68 mo_68 (by decide) (Nat.le_of_ble_eq_true rfl) rfl rfl (Nat.le_of_ble_eq_true rfl)).trans ?_
    refine gd_c ?_
    refine bI_c fun r2 h3 => ?_
    refine (s_iviV 173 mc_53 dX5_condition_170 rfl mo_53 mm_5_205 (by decide) ms_54 mi_54 mr_54 ma_54 mo_54 (by decide) (Nat.le_of_ble_eq_true rfl) rfl rfl (Nat.le_of_ble_eq_true rfl)).trans ?_
    refine gd_c ?_
    refine bV_c fun h4 => ?_
    refine (s_iinc 1 176 mc_53 dX5_condition_173 rfl rfl (Nat.le_of_ble_eq_true rfl) (by decide) rfl).trans ?_
    refine (s_goto 12 mc_53 dX5_condition_176 rfl).trans ?_
    rfl
  · skip
    refine (s_iconst 158 1 mc_53 dX5_condition_157 rfl (by decide)).trans ?_
    refine (s_goto 162 mc_53 dX5_condition_158 rfl).trans ?_
    refine (s_iviV 165 mc_53 dX5_condition_162 rfl mo_53 mm_5_201 (by decide) ms_57 mi_57 mr_57 ma_57 mo_57 (by decide) (Nat.le_of_ble_eq_true rfl) rfl rfl (Nat.le_of_ble_eq_true rfl)).trans ?_
    refine gd_c ?_
    refine bV_c fun h5 => ?_
    refine (s_aload_n 166 mc_53 dX5_condition_165 rfl rfl rfl).trans ?_
    refine (s_aload_n 167 mc_53 dX5_condition_166 rfl rfl rfl).trans ?_
    refine (s_iviI 170 mc_53 dX5_condition_167 rfl mo_53 mm_5_70 (by decide) ms_68 mi_68 mr_68 ma_68 mo_68 (by decide) (Nat.le_of_ble_eq_true rfl) rfl rfl (Nat.le_of_ble_eq_true rfl)).trans ?_
    refine gd_c ?_
    refine bI_c fun r3 h6 => ?_
    refine (s_iviV 173 mc_53 dX5_condition_170 rfl mo_53 mm_5_205 (by decide) ms_54 mi_54 mr_54 ma_54 mo_54 (by decide) (Nat.le_of_ble_eq_true rfl) rfl rfl (Nat.le_of_ble_eq_true rfl)).trans ?_
    refine gd_c ?_
    refine bV_c fun h7 => ?_
    refine (s_iinc 1 176 mc_53 dX5_condition_173 rfl rfl (Nat.le_of_ble_eq_true rfl) (by decide) rfl).trans ?_
    refine (s_goto 12 mc_53 dX5_condition_176 rfl).trans ?_
    rfl
/-- FiveLands$Reader.await(I)V -/
theorem k_54 {X : Ctx} {d : Nat} (x0 : Nat) (x1 : Int32) (h : Hp) : K X (d + 1) 54 [.ref x0, .int x1] h = gI h 5 x0 9 fun g1 => if 64 ≤ g1 then gI h 5 x0 8 fun g2 => fI h 5 x0 8 (g2 + 1) fun h1 => some (none, h1) else gR h 5 x0 4 fun g3 => gI h 5 x0 9 fun g4 => wI h g3 g4 x1 fun h2 => gI h2 5 x0 9 fun g5 => fI h2 5 x0 9 (g5 + 1) fun h3 => gI h3 5 x0 8 fun g6 => fI h3 5 x0 8 (g6 + 1) fun h4 => some (none, h4) := by
  show sem (X, K X d) 54 0 [some (.ref x0), some (.int x1)] [] h = _
  refine (s_aload_n 1 mc_54 dX5_await_0 rfl rfl rfl).trans ?_
  refine (s_getfI 4 mc_54 dX5_await_1 rfl mo_54 fs_5_180 ff_5_180 (Or.inl rfl)).trans ?_
  refine gI_c fun g1 => ?_
  refine (s_bipush 6 64 mc_54 dX5_await_4 rfl (by decide)).trans ?_
  refine (s_icmp_ge 29 9 mc_54 dX5_await_6 rfl rfl).trans ?_
  refine ite_c ?_ ?_
  · skip
    refine (s_aload_n 30 mc_54 dX5_await_29 rfl rfl rfl).trans ?_
    refine (s_dup 31 mc_54 dX5_await_30 rfl rfl).trans ?_
    refine (s_getfI 34 mc_54 dX5_await_31 rfl mo_54 fs_5_47 ff_5_47 (Or.inl rfl)).trans ?_
    refine gI_c fun g2 => ?_
    refine (s_iconst 35 1 mc_54 dX5_await_34 rfl (by decide)).trans ?_
    refine (s_iadd 36 mc_54 dX5_await_35 rfl).trans ?_
    refine (s_putfI 39 mc_54 dX5_await_36 rfl mo_54 ff_5_47 rfl (Or.inl rfl)).trans ?_
    refine fI_c fun h1 => ?_
    exact s_vret mc_54 dX5_await_39 mt_54
  · skip
    refine (s_aload_n 10 mc_54 dX5_await_9 rfl rfl rfl).trans ?_
    refine (s_getfR 13 mc_54 dX5_await_10 rfl mo_54 fs_5_25 ff_5_25 rfl).trans ?_
    refine gR_c fun g3 => ?_
    refine (s_aload_n 14 mc_54 dX5_await_13 rfl rfl rfl).trans ?_
    refine (s_getfI 17 mc_54 dX5_await_14 rfl mo_54 fs_5_180 ff_5_180 (Or.inl rfl)).trans ?_
    refine gI_c fun g4 => ?_
    refine (s_iload_n 18 mc_54 dX5_await_17 rfl rfl rfl).trans ?_
    refine (s_iastore 19 mc_54 dX5_await_18 rfl).trans ?_
    refine wI_c fun h2 => ?_
    refine (s_aload_n 20 mc_54 dX5_await_19 rfl rfl rfl).trans ?_
    refine (s_dup 21 mc_54 dX5_await_20 rfl rfl).trans ?_
    refine (s_getfI 24 mc_54 dX5_await_21 rfl mo_54 fs_5_180 ff_5_180 (Or.inl rfl)).trans ?_
    refine gI_c fun g5 => ?_
    refine (s_iconst 25 1 mc_54 dX5_await_24 rfl (by decide)).trans ?_
    refine (s_iadd 26 mc_54 dX5_await_25 rfl).trans ?_
    refine (s_putfI 29 mc_54 dX5_await_26 rfl mo_54 ff_5_180 rfl (Or.inl rfl)).trans ?_
    refine fI_c fun h3 => ?_
    refine (s_aload_n 30 mc_54 dX5_await_29 rfl rfl rfl).trans ?_
    refine (s_dup 31 mc_54 dX5_await_30 rfl rfl).trans ?_
    refine (s_getfI 34 mc_54 dX5_await_31 rfl mo_54 fs_5_47 ff_5_47 (Or.inl rfl)).trans ?_
    refine gI_c fun g6 => ?_
    refine (s_iconst 35 1 mc_54 dX5_await_34 rfl (by decide)).trans ?_
    refine (s_iadd 36 mc_54 dX5_await_35 rfl).trans ?_
    refine (s_putfI 39 mc_54 dX5_await_36 rfl mo_54 ff_5_47 rfl (Or.inl rfl)).trans ?_
    refine fI_c fun h4 => ?_
    exact s_vret mc_54 dX5_await_39 mt_54
/-- FiveLands$Reader.top()I -/
theorem k_55 {X : Ctx} {d : Nat} (x0 : Nat) (h : Hp) : K X (d + 1) 55 [.ref x0] h = gI h 5 x0 9 fun g1 => if g1 ≤ 0 then some (some (.int 102), h) else gI h 5 x0 9 fun g2 => if 64 < g2 then some (some (.int 102), h) else gR h 5 x0 4 fun g3 => gI h 5 x0 9 fun g4 => aI X h g3 (g4 - 1) fun g5 => some (some (.int g5), h) := by
  show sem (X, K X d) 55 0 [some (.ref x0)] [] h = _
  refine (s_aload_n 1 mc_55 dX5_top_0 rfl rfl rfl).trans ?_
  refine (s_getfI 4 mc_55 dX5_top_1 rfl mo_55 fs_5_180 ff_5_180 (Or.inl rfl)).trans ?_
  refine gI_c fun g1 => ?_
  refine (s_if_le 30 7 mc_55 dX5_top_4 rfl rfl).trans ?_
  refine ite_c ?_ ?_
  · skip
    refine (s_bipush 32 102 mc_55 dX5_top_30 rfl (by decide)).trans ?_
    exact s_iret mc_55 dX5_top_32 mt_55
  · skip
    refine (s_aload_n 8 mc_55 dX5_top_7 rfl rfl rfl).trans ?_
    refine (s_getfI 11 mc_55 dX5_top_8 rfl mo_55 fs_5_180 ff_5_180 (Or.inl rfl)).trans ?_
    refine gI_c fun g2 => ?_
    refine (s_bipush 13 64 mc_55 dX5_top_11 rfl (by decide)).trans ?_
    refine (s_icmp_gt 30 16 mc_55 dX5_top_13 rfl rfl).trans ?_
    refine ite_c ?_ ?_
    · skip
      refine (s_bipush 32 102 mc_55 dX5_top_30 rfl (by decide)).trans ?_
      exact s_iret mc_55 dX5_top_32 mt_55
    · skip
      refine (s_aload_n 17 mc_55 dX5_top_16 rfl rfl rfl).trans ?_
      refine (s_getfR 20 mc_55 dX5_top_17 rfl mo_55 fs_5_25 ff_5_25 rfl).trans ?_
      refine gR_c fun g3 => ?_
      refine (s_aload_n 21 mc_55 dX5_top_20 rfl rfl rfl).trans ?_
      refine (s_getfI 24 mc_55 dX5_top_21 rfl mo_55 fs_5_180 ff_5_180 (Or.inl rfl)).trans ?_
      refine gI_c fun g4 => ?_
      refine (s_iconst 25 1 mc_55 dX5_top_24 rfl (by decide)).trans ?_
      refine (s_isub 26 mc_55 dX5_top_25 rfl).trans ?_
      refine (s_iaload 27 mc_55 dX5_top_26 rfl).trans ?_
      refine aI_c fun g5 => ?_
      refine (s_goto 32 mc_55 dX5_top_27 rfl).trans ?_
      exact s_iret mc_55 dX5_top_32 mt_55
/-- FiveLands$Reader.closeClauses()V -/
theorem k_56 {X : Ctx} {d : Nat} (x0 : Nat) (h : Hp) : K X (d + 1) 56 [.ref x0] h = sem (X, K X d) 56 2 [some (.ref x0), some (.int 0)] [] h := by
  show sem (X, K X d) 56 0 [some (.ref x0), none] [] h = _
  refine (s_iconst 1 0 mc_56 dX5_closeClauses_0 rfl (by decide)).trans ?_
  refine (s_istore_n 2 mc_56 dX5_closeClauses_1 rfl rfl (Nat.le_of_ble_eq_true rfl) rfl).trans ?_
  rfl
theorem b_56_2 {X : Ctx} {d : Nat} (x0 : Nat) (x1 : Int32)  (h : Hp) : sem (X, K X d) 56 2 [some (.ref x0), some (.int x1)] [] h = if 600 < x1 then some (none, h) else gd (hS h x0 = (6, 0)) (bI (K X d 55 [.ref x0] h) fun r1 h1 => if ¬ r1 = 24 then gd (hS h1 x0 = (6, 0)) (bI (K X d 68 [.ref x0] h1) fun r2 h2 => if ¬ r2 = 41 then some (none, h2) else gd (hS h2 x0 = (6, 0)) (bV (K X d 57 [.ref x0, .int 1] h2) fun h3 => gd (hS h3 x0 = (6, 0)) (bI (K X d 55 [.ref x0] h3) fun r3 h4 => if r3 = 40 then gI h4 5 x0 8 fun g4 => fI h4 5 x0 8 (g4 + 1) fun h5 => sem (X, K X d) 56 68 [some (.ref x0), some (.int x1)] [] h5 else some (none, h4)))) else gR h1 5 x0 5 fun g5 => gd (hS h1 g5 = (2, 0)) (bV (K X d 3 [.ref g5, .int (-18)] h1) fun h6 => sem (X, K X d) 56 68 [some (.ref x0), some (.int x1)] [] h6)) := by
  refine (s_iload_n 3 mc_56 dX5_closeClauses_2 rfl rfl rfl).trans ?_
  refine (s_sipush 6 600 mc_56 dX5_closeClauses_3 rfl (by decide)).trans ?_
  refine (s_icmp_gt 94 9 mc_56 dX5_closeClauses_6 rfl rfl).trans ?_
  refine ite_c ?_ ?_
  · skip
    exact s_vret mc_56 dX5_closeClauses_94 mt_56
  · skip
    refine (s_aload_n 10 mc_56 dX5_closeClauses_9 rfl rfl rfl).trans ?_
    refine (s_iviI 13 mc_56 dX5_closeClauses_10 rfl mo_56 mm_5_208 (by decide) ms_55 mi_55 mr_55 ma_55 mo_55 (by decide) (Nat.le_of_ble_eq_true rfl) rfl rfl (Nat.le_of_ble_eq_true rfl)).trans ?_
    refine gd_c ?_
    refine bI_c fun r1 h1 => ?_
    refine (s_bipush 15 24 mc_56 dX5_closeClauses_13 rfl (by decide)).trans ?_
    refine (s_icmp_ne 30 18 mc_56 dX5_closeClauses_15 rfl rfl).trans ?_
    refine ite_c ?_ ?_
    · skip
      refine (s_aload_n 31 mc_56 dX5_closeClauses_30 rfl rfl rfl).trans ?_
      refine (s_iviI 34 mc_56 dX5_closeClauses_31 rfl mo_56 mm_5_70 (by decide) ms_68 mi_68 mr_68 ma_68 mo_68 (by decide) (Nat.le_of_ble_eq_true rfl) rfl rfl (Nat.le_of_ble_eq_true rfl)).trans ?_
      refine gd_c ?_
      refine bI_c fun r2 h2 => ?_
      refine (s_bipush 36 41 mc_56 dX5_closeClauses_34 rfl (by decide)).trans ?_
      refine (s_icmp_ne 67 39 mc_56 dX5_closeClauses_36 rfl rfl).trans ?_
      refine ite_c ?_ ?_
      · skip
        exact s_vret mc_56 dX5_closeClauses_67 mt_56
      · skip
        refine (s_aload_n 40 mc_56 dX5_closeClauses_39 rfl rfl rfl).trans ?_
        refine (s_iconst 41 1 mc_56 dX5_closeClauses_40 rfl (by decide)).trans ?_
        refine (s_iviV 44 mc_56 dX5_closeClauses_41 rfl mo_56 mm_5_201 (by decide) ms_57 mi_57 mr_57 ma_57 mo_57 (by decide) (Nat.le_of_ble_eq_true rfl) rfl rfl (Nat.le_of_ble_eq_true rfl)).trans ?_
        refine gd_c ?_
        refine bV_c fun h3 => ?_
        refine (s_aload_n 45 mc_56 dX5_closeClauses_44 rfl rfl rfl).trans ?_
        refine (s_iviI 48 mc_56 dX5_closeClauses_45 rfl mo_56 mm_5_208 (by decide) ms_55 mi_55 mr_55 ma_55 mo_55 (by decide) (Nat.le_of_ble_eq_true rfl) rfl rfl (Nat.le_of_ble_eq_true rfl)).trans ?_
        refine gd_c ?_
        refine bI_c fun r3 h4 => ?_
        refine (s_bipush 50 40 mc_56 dX5_closeClauses_48 rfl (by decide)).trans ?_
        refine (s_icmp_eq 54 53 mc_56 dX5_closeClauses_50 rfl rfl).trans ?_
        refine ite_c ?_ ?_
        · skip
          refine (s_aload_n 55 mc_56 dX5_closeClauses_54 rfl rfl rfl).trans ?_
          refine (s_dup 56 mc_56 dX5_closeClauses_55 rfl rfl).trans ?_
          refine (s_getfI 59 mc_56 dX5_closeClauses_56 rfl mo_56 fs_5_47 ff_5_47 (Or.inl rfl)).trans ?_
          refine gI_c fun g4 => ?_
          refine (s_iconst 60 1 mc_56 dX5_closeClauses_59 rfl (by decide)).trans ?_
          refine (s_iadd 61 mc_56 dX5_closeClauses_60 rfl).trans ?_
          refine (s_putfI 64 mc_56 dX5_closeClauses_61 rfl mo_56 ff_5_47 rfl (Or.inl rfl)).trans ?_
          refine fI_c fun h5 => ?_
          refine (s_goto 68 mc_56 dX5_closeClauses_64 rfl).trans ?_
          rfl
        · skip
          exact s_vret mc_56 dX5_closeClauses_53 mt_56
    · skip
      refine (s_aload_n 19 mc_56 dX5_closeClauses_18 rfl rfl rfl).trans ?_
      refine (s_getfR 22 mc_56 dX5_closeClauses_19 rfl mo_56 fs_5_57 ff_5_57 rfl).trans ?_
      refine gR_c fun g5 => ?_
      refine (s_bipush 24 (-18) mc_56 dX5_closeClauses_22 rfl (by decide)).trans ?_
      refine (s_iviV 27 mc_56 dX5_closeClauses_24 rfl mo_56 mm_5_192 (by decide) ms_3 mi_3 mr_3 ma_3 mo_3 (by decide) (Nat.le_of_ble_eq_true rfl) rfl rfl (Nat.le_of_ble_eq_true rfl)).trans ?_
      refine gd_c ?_
      refine bV_c fun h6 => ?_
      refine (s_goto 68 mc_56 dX5_closeClauses_27 rfl).trans ?_
      rfl
theorem b_56_68 {X : Ctx} {d : Nat} (x0 : Nat) (x1 : Int32)  (h : Hp) : sem (X, K X d) 56 68 [some (.ref x0), some (.int x1)] [] h = gI h 5 x0 9 fun g1 => fI h 5 x0 9 (g1 - 1) fun h1 => gI h1 5 x0 10 fun g2 => fI h1 5 x0 10 (g2 - 1) fun h2 => sem (X, K X d) 56 2 [some (.ref x0), some (.int (x1 + 1))] [] h2 := by
  refine (s_aload_n 69 mc_56 dX5_closeClauses_68 rfl rfl rfl).trans ?_
  refine (s_dup 70 mc_56 dX5_closeClauses_69 rfl rfl).trans ?_
  refine (s_getfI 73 mc_56 dX5_closeClauses_70 rfl mo_56 fs_5_180 ff_5_180 (Or.inl rfl)).trans ?_
  refine gI_c fun g1 => ?_
  refine (s_iconst 74 1 mc_56 dX5_closeClauses_73 rfl (by decide)).trans ?_
  refine (s_isub 75 mc_56 dX5_closeClauses_74 rfl).trans ?_
  refine (s_putfI 78 mc_56 dX5_closeClauses_75 rfl mo_56 ff_5_180 rfl (Or.inl rfl)).trans ?_
  refine fI_c fun h1 => ?_
  refine (s_aload_n 79 mc_56 dX5_closeClauses_78 rfl rfl rfl).trans ?_
  refine (s_dup 80 mc_56 dX5_closeClauses_79 rfl rfl).trans ?_
  refine (s_getfI 83 mc_56 dX5_closeClauses_80 rfl mo_56 fs_5_183 ff_5_183 (Or.inl rfl)).trans ?_
  refine gI_c fun g2 => ?_
  refine (s_iconst 84 1 mc_56 dX5_closeClauses_83 rfl (by decide)).trans ?_
  refine (s_isub 85 mc_56 dX5_closeClauses_84 rfl).trans ?_
  refine (s_putfI 88 mc_56 dX5_closeClauses_85 rfl mo_56 ff_5_183 rfl (Or.inl rfl)).trans ?_
  refine fI_c fun h2 => ?_
  refine (s_iinc 1 91 mc_56 dX5_closeClauses_88 rfl rfl (Nat.le_of_ble_eq_true rfl) (by decide) rfl).trans ?_
  refine (s_goto 2 mc_56 dX5_closeClauses_91 rfl).trans ?_
  rfl
/-- FiveLands$Reader.emitJoins(Z)V -/
theorem k_57 {X : Ctx} {d : Nat} (x0 : Nat) (x1 : Int32) (h : Hp) : K X (d + 1) 57 [.ref x0, .int x1] h = sem (X, K X d) 57 2 [some (.ref x0), some (.int x1), some (.int 0)] [] h := by
  show sem (X, K X d) 57 0 [some (.ref x0), some (.int x1), none] [] h = _
  refine (s_iconst 1 0 mc_57 dX5_emitJoins_0 rfl (by decide)).trans ?_
  refine (s_istore_n 2 mc_57 dX5_emitJoins_1 rfl rfl (Nat.le_of_ble_eq_true rfl) rfl).trans ?_
  rfl
theorem b_57_2 {X : Ctx} {d : Nat} (x0 : Nat) (x1 : Int32) (x2 : Int32)  (h : Hp) : sem (X, K X d) 57 2 [some (.ref x0), some (.int x1), some (.int x2)] [] h = if 64 ≤ x2 then some (none, h) else gd (hS h x0 = (6, 0)) (bI (K X d 55 [.ref x0] h) fun r1 h1 => if ¬ r1 = 23 then gd (hS h1 x0 = (6, 0)) (bI (K X d 55 [.ref x0] h1) fun r2 h2 => if ¬ r2 = 22 then some (none, h2) else if x1 = 0 then some (none, h2) else gR h2 5 x0 5 fun g3 => gd (hS h2 g3 = (2, 0)) (bV (K X d 3 [.ref g3, .int (-17)] h2) fun h3 => gI h3 5 x0 9 fun g4 => fI h3 5 x0 9 (g4 - 1) fun h4 => sem (X, K X d) 57 2 [some (.ref x0), some (.int x1), some (.int (x2 + 1))] [] h4)) else gR h1 5 x0 5 fun g5 => gd (hS h1 g5 = (2, 0)) (bV (K X d 3 [.ref g5, .int (-16)] h1) fun h5 => gI h5 5 x0 9 fun g6 => fI h5 5 x0 9 (g6 - 1) fun h6 => sem (X, K X d) 57 2 [some (.ref x0), some (.int x1), some (.int (x2 + 1))] [] h6)) := by
  refine (s_iload_n 3 mc_57 dX5_emitJoins_2 rfl rfl rfl).trans ?_
  refine (s_bipush 5 64 mc_57 dX5_emitJoins_3 rfl (by decide)).trans ?_
  refine (s_icmp_ge 71 8 mc_57 dX5_emitJoins_5 rfl rfl).trans ?_
  refine ite_c ?_ ?_
  · skip
    exact s_vret mc_57 dX5_emitJoins_71 mt_57
  · skip
    refine (s_aload_n 9 mc_57 dX5_emitJoins_8 rfl rfl rfl).trans ?_
    refine (s_iviI 12 mc_57 dX5_emitJoins_9 rfl mo_57 mm_5_208 (by decide) ms_55 mi_55 mr_55 ma_55 mo_55 (by decide) (Nat.le_of_ble_eq_true rfl) rfl rfl (Nat.le_of_ble_eq_true rfl)).trans ?_
    refine gd_c ?_
    refine bI_c fun r1 h1 => ?_
    refine (s_bipush 14 23 mc_57 dX5_emitJoins_12 rfl (by decide)).trans ?_
    refine (s_icmp_ne 29 17 mc_57 dX5_emitJoins_14 rfl rfl).trans ?_
    refine ite_c ?_ ?_
    · skip
      refine (s_aload_n 30 mc_57 dX5_emitJoins_29 rfl rfl rfl).trans ?_
      refine (s_iviI 33 mc_57 dX5_emitJoins_30 rfl mo_57 mm_5_208 (by decide) ms_55 mi_55 mr_55 ma_55 mo_55 (by decide) (Nat.le_of_ble_eq_true rfl) rfl rfl (Nat.le_of_ble_eq_true rfl)).trans ?_
      refine gd_c ?_
      refine bI_c fun r2 h2 => ?_
      refine (s_bipush 35 22 mc_57 dX5_emitJoins_33 rfl (by decide)).trans ?_
      refine (s_icmp_ne 54 38 mc_57 dX5_emitJoins_35 rfl rfl).trans ?_
      refine ite_c ?_ ?_
      · skip
        exact s_vret mc_57 dX5_emitJoins_54 mt_57
      · skip
        refine (s_iload_n 39 mc_57 dX5_emitJoins_38 rfl rfl rfl).trans ?_
        refine (s_if_eq 54 42 mc_57 dX5_emitJoins_39 rfl rfl).trans ?_
        refine ite_c ?_ ?_
        · skip
          exact s_vret mc_57 dX5_emitJoins_54 mt_57
        · skip
          refine (s_aload_n 43 mc_57 dX5_emitJoins_42 rfl rfl rfl).trans ?_
          refine (s_getfR 46 mc_57 dX5_emitJoins_43 rfl mo_57 fs_5_57 ff_5_57 rfl).trans ?_
          refine gR_c fun g3 => ?_
          refine (s_bipush 48 (-17) mc_57 dX5_emitJoins_46 rfl (by decide)).trans ?_
          refine (s_iviV 51 mc_57 dX5_emitJoins_48 rfl mo_57 mm_5_192 (by decide) ms_3 mi_3 mr_3 ma_3 mo_3 (by decide) (Nat.le_of_ble_eq_true rfl) rfl rfl (Nat.le_of_ble_eq_true rfl)).trans ?_
          refine gd_c ?_
          refine bV_c fun h3 => ?_
          refine (s_goto 55 mc_57 dX5_emitJoins_51 rfl).trans ?_
          refine (s_aload_n 56 mc_57 dX5_emitJoins_55 rfl rfl rfl).trans ?_
          refine (s_dup 57 mc_57 dX5_emitJoins_56 rfl rfl).trans ?_
          refine (s_getfI 60 mc_57 dX5_emitJoins_57 rfl mo_57 fs_5_180 ff_5_180 (Or.inl rfl)).trans ?_
          refine gI_c fun g4 => ?_
          refine (s_iconst 61 1 mc_57 dX5_emitJoins_60 rfl (by decide)).trans ?_
          refine (s_isub 62 mc_57 dX5_emitJoins_61 rfl).trans ?_
          refine (s_putfI 65 mc_57 dX5_emitJoins_62 rfl mo_57 ff_5_180 rfl (Or.inl rfl)).trans ?_
          refine fI_c fun h4 => ?_
          refine (s_iinc 1 68 mc_57 dX5_emitJoins_65 rfl rfl (Nat.le_of_ble_eq_true rfl) (by decide) rfl).trans ?_
          refine (s_goto 2 mc_57 dX5_emitJoins_68 rfl).trans ?_
          rfl
    · skip
      refine (s_aload_n 18 mc_57 dX5_emitJoins_17 rfl rfl rfl).trans ?_
      refine (s_getfR 21 mc_57 dX5_emitJoins_18 rfl mo_57 fs_5_57 ff_5_57 rfl).trans ?_
      refine gR_c fun g5 => ?_
      refine (s_bipush 23 (-16) mc_57 dX5_emitJoins_21 rfl (by decide)).trans ?_
      refine (s_iviV 26 mc_57 dX5_emitJoins_23 rfl mo_57 mm_5_192 (by decide) ms_3 mi_3 mr_3 ma_3 mo_3 (by decide) (Nat.le_of_ble_eq_true rfl) rfl rfl (Nat.le_of_ble_eq_true rfl)).trans ?_
      refine gd_c ?_
      refine bV_c fun h5 => ?_
      refine (s_goto 55 mc_57 dX5_emitJoins_26 rfl).trans ?_
      refine (s_aload_n 56 mc_57 dX5_emitJoins_55 rfl rfl rfl).trans ?_
      refine (s_dup 57 mc_57 dX5_emitJoins_56 rfl rfl).trans ?_
      refine (s_getfI 60 mc_57 dX5_emitJoins_57 rfl mo_57 fs_5_180 ff_5_180 (Or.inl rfl)).trans ?_
      refine gI_c fun g6 => ?_
      refine (s_iconst 61 1 mc_57 dX5_emitJoins_60 rfl (by decide)).trans ?_
      refine (s_isub 62 mc_57 dX5_emitJoins_61 rfl).trans ?_
      refine (s_putfI 65 mc_57 dX5_emitJoins_62 rfl mo_57 ff_5_180 rfl (Or.inl rfl)).trans ?_
      refine fI_c fun h6 => ?_
      refine (s_iinc 1 68 mc_57 dX5_emitJoins_65 rfl rfl (Nat.le_of_ble_eq_true rfl) (by decide) rfl).trans ?_
      refine (s_goto 2 mc_57 dX5_emitJoins_68 rfl).trans ?_
      rfl
/-- FiveLands$Reader.endCondition()Z -/
theorem k_58 {X : Ctx} {d : Nat} (x0 : Nat) (h : Hp) : K X (d + 1) 58 [.ref x0] h = gd (hS h x0 = (6, 0)) (bV (K X d 57 [.ref x0, .int 1] h) fun h1 => gI h1 5 x0 9 fun g1 => if g1 = 0 then some (some (.int 1), h1) else gd (hS h1 x0 = (6, 0)) (bI (K X d 69 [.ref x0, .int 1] h1) fun r2 h2 => if r2 = 0 then some (some (.int 0), h2) else some (some (.int 1), h2))) := by
  show sem (X, K X d) 58 0 [some (.ref x0)] [] h = _
  refine (s_aload_n 1 mc_58 dX5_endCondition_0 rfl rfl rfl).trans ?_
  refine (s_iconst 2 1 mc_58 dX5_endCondition_1 rfl (by decide)).trans ?_
  refine (s_iviV 5 mc_58 dX5_endCondition_2 rfl mo_58 mm_5_201 (by decide) ms_57 mi_57 mr_57 ma_57 mo_57 (by decide) (Nat.le_of_ble_eq_true rfl) rfl rfl (Nat.le_of_ble_eq_true rfl)).trans ?_
  refine gd_c ?_
  refine bV_c fun h1 => ?_
  refine (s_aload_n 6 mc_58 dX5_endCondition_5 rfl rfl rfl).trans ?_
  refine (s_getfI 9 mc_58 dX5_endCondition_6 rfl mo_58 fs_5_180 ff_5_180 (Or.inl rfl)).trans ?_
  refine gI_c fun g1 => ?_
  refine (s_if_eq 20 12 mc_58 dX5_endCondition_9 rfl rfl).trans ?_
  refine ite_c ?_ ?_
  · skip
    refine (s_iconst 21 1 mc_58 dX5_endCondition_20 rfl (by decide)).trans ?_
    refine (s_goto 25 mc_58 dX5_endCondition_21 rfl).trans ?_
    exact s_zret1 mc_58 dX5_endCondition_25 mt_58
  · skip
    refine (s_aload_n 13 mc_58 dX5_endCondition_12 rfl rfl rfl).trans ?_
    refine (s_iconst 14 1 mc_58 dX5_endCondition_13 rfl (by decide)).trans ?_
    refine (s_iviI 17 mc_58 dX5_endCondition_14 rfl mo_58 mm_5_90 (by decide) ms_69 mi_69 mr_69 ma_69 mo_69 (by decide) (Nat.le_of_ble_eq_true rfl) rfl rfl (Nat.le_of_ble_eq_true rfl)).trans ?_
    refine gd_c ?_
    refine bI_c fun r2 h2 => ?_
    refine (s_if_eq 24 20 mc_58 dX5_endCondition_17 rfl rfl).trans ?_
    refine ite_c ?_ ?_
    · skip
      refine (s_iconst 25 0 mc_58 dX5_endCondition_24 rfl (by decide)).trans ?_
      exact s_zret0 mc_58 dX5_endCondition_25 mt_58
    · skip
      refine (s_iconst 21 1 mc_58 dX5_endCondition_20 rfl (by decide)).trans ?_
      refine (s_goto 25 mc_58 dX5_endCondition_21 rfl).trans ?_
      exact s_zret1 mc_58 dX5_endCondition_25 mt_58
/-- FiveLands$Reader.comparing(I)I -/
theorem k_59 {X : Ctx} {d : Nat} (x0 : Int32) (h : Hp) : K X (d + 1) 59 [.int x0] h = if ¬ x0 = 60 then if ¬ x0 = 61 then if ¬ x0 = 62 then some (some (.int 0), h) else some (some (.int (-15)), h) else some (some (.int (-14)), h) else some (some (.int (-13)), h) := by
  show sem (X, K X d) 59 0 [some (.int x0)] [] h = _
  refine (s_iload_n 1 mc_59 dX5_comparing_0 rfl rfl rfl).trans ?_
  refine (s_bipush 3 60 mc_59 dX5_comparing_1 rfl (by decide)).trans ?_
  refine (s_icmp_ne 9 6 mc_59 dX5_comparing_3 rfl rfl).trans ?_
  refine ite_c ?_ ?_
  · skip
    refine (s_iload_n 10 mc_59 dX5_comparing_9 rfl rfl rfl).trans ?_
    refine (s_bipush 12 61 mc_59 dX5_comparing_10 rfl (by decide)).trans ?_
    refine (s_icmp_ne 18 15 mc_59 dX5_comparing_12 rfl rfl).trans ?_
    refine ite_c ?_ ?_
    · skip
      refine (s_iload_n 19 mc_59 dX5_comparing_18 rfl rfl rfl).trans ?_
      refine (s_bipush 21 62 mc_59 dX5_comparing_19 rfl (by decide)).trans ?_
      refine (s_icmp_ne 29 24 mc_59 dX5_comparing_21 rfl rfl).trans ?_
      refine ite_c ?_ ?_
      · skip
        refine (s_iconst 30 0 mc_59 dX5_comparing_29 rfl (by decide)).trans ?_
        exact s_iret mc_59 dX5_comparing_30 mt_59
      · skip
        refine (s_bipush 26 (-15) mc_59 dX5_comparing_24 rfl (by decide)).trans ?_
        refine (s_goto 30 mc_59 dX5_comparing_26 rfl).trans ?_
        exact s_iret mc_59 dX5_comparing_30 mt_59
    · skip
      refine (s_bipush 17 (-14) mc_59 dX5_comparing_15 rfl (by decide)).trans ?_
      exact s_iret mc_59 dX5_comparing_17 mt_59
  · skip
    refine (s_bipush 8 (-13) mc_59 dX5_comparing_6 rfl (by decide)).trans ?_
    exact s_iret mc_59 dX5_comparing_8 mt_59
/-- FiveLands$Reader.expression()Z -/
theorem k_60 {X : Ctx} {d : Nat} (x0 : Nat) (h : Hp) : K X (d + 1) 60 [.ref x0] h = gd (hS h x0 = (6, 0)) (bI (K X d 62 [.ref x0] h) fun r1 h1 => if ¬ r1 = 0 then sem (X, K X d) 60 13 [some (.ref x0), some (.int 0), some (.int 0), none] [] h1 else some (some (.int 0), h1)) := by
  show sem (X, K X d) 60 0 [some (.ref x0), none, none, none] [] h = _
  refine (s_iconst 1 0 mc_60 dX5_expression_0 rfl (by decide)).trans ?_
  refine (s_istore_n 2 mc_60 dX5_expression_1 rfl rfl (Nat.le_of_ble_eq_true rfl) rfl).trans ?_
  refine (s_aload_n 3 mc_60 dX5_expression_2 rfl rfl rfl).trans ?_
  refine (s_iviI 6 mc_60 dX5_expression_3 rfl mo_60 mm_5_211 (by decide) ms_62 mi_62 mr_62 ma_62 mo_62 (by decide) (Nat.le_of_ble_eq_true rfl) rfl rfl (Nat.le_of_ble_eq_true rfl)).trans ?_
  refine gd_c ?_
  refine bI_c fun r1 h1 => ?_
  refine (s_if_ne 11 9 mc_60 dX5_expression_6 rfl rfl).trans ?_
  refine ite_c ?_ ?_
  · skip
    refine (s_iconst 12 0 mc_60 dX5_expression_11 rfl (by decide)).trans ?_
    refine (s_istore_n 13 mc_60 dX5_expression_12 rfl rfl (Nat.le_of_ble_eq_true rfl) rfl).trans ?_
    rfl
  · skip
    refine (s_iconst 10 0 mc_60 dX5_expression_9 rfl (by decide)).trans ?_
    exact s_zret0 mc_60 dX5_expression_10 mt_60
theorem b_60_13 {X : Ctx} {d : Nat} (x0 : Nat) (x1 : Int32) (x2 : Int32) (v3 : Option Value)  (h : Hp) : sem (X, K X d) 60 13 [some (.ref x0), some (.int x1), some (.int x2), v3] [] h = gI h 5 x0 7 fun g1 => if g1 < x2 then gd (hS h x0 = (6, 0)) (bV (K X d 61 [.ref x0, .int x1] h) fun h1 => some (some (.int 1), h1)) else gd (hS h x0 = (6, 0)) (bI (K X d 68 [.ref x0] h) fun r2 h2 => if r2 = 43 then sem (X, K X d) 60 38 [some (.ref x0), some (.int x1), some (.int x2), some (.int r2)] [] h2 else if ¬ r2 = 45 then if r2 = 42 then sem (X, K X d) 60 75 [some (.ref x0), some (.int x1), some (.int x2), some (.int r2)] [] h2 else if r2 = 47 then sem (X, K X d) 60 75 [some (.ref x0), some (.int x1), some (.int x2), some (.int r2)] [] h2 else gd (hS h2 x0 = (6, 0)) (bV (K X d 61 [.ref x0, .int x1] h2) fun h3 => some (some (.int 1), h3)) else sem (X, K X d) 60 38 [some (.ref x0), some (.int x1), some (.int x2), some (.int r2)] [] h2) := by
  refine (s_iload_n 14 mc_60 dX5_expression_13 rfl rfl rfl).trans ?_
  refine (s_aload_n 15 mc_60 dX5_expression_14 rfl rfl rfl).trans ?_
  refine (s_getfI 18 mc_60 dX5_expression_15 rfl mo_60 fs_5_186 ff_5_186 (Or.inl rfl)).trans ?_
  refine gI_c fun g1 => ?_
  refine (s_icmp_gt 145 21 mc_60 dX5_expression_18 rfl rfl).trans ?_
  refine ite_c ?_ ?_
  · skip
    refine (s_aload_n 146 mc_60 dX5_expression_145 rfl rfl rfl).trans ?_
    refine (s_iload_n 147 mc_60 dX5_expression_146 rfl rfl rfl).trans ?_
    refine (s_iviV 150 mc_60 dX5_expression_147 rfl mo_60 mm_5_214 (by decide) ms_61 mi_61 mr_61 ma_61 mo_61 (by decide) (Nat.le_of_ble_eq_true rfl) rfl rfl (Nat.le_of_ble_eq_true rfl)).trans ?_
    refine gd_c ?_
    refine bV_c fun h1 => ?_
    refine (s_iconst 151 1 mc_60 dX5_expression_150 rfl (by decide)).trans ?_
    exact s_zret1 mc_60 dX5_expression_151 mt_60
  · skip
    refine (s_aload_n 22 mc_60 dX5_expression_21 rfl rfl rfl).trans ?_
    refine (s_iviI 25 mc_60 dX5_expression_22 rfl mo_60 mm_5_70 (by decide) ms_68 mi_68 mr_68 ma_68 mo_68 (by decide) (Nat.le_of_ble_eq_true rfl) rfl rfl (Nat.le_of_ble_eq_true rfl)).trans ?_
    refine gd_c ?_
    refine bI_c fun r2 h2 => ?_
    refine (s_istore_n 26 mc_60 dX5_expression_25 rfl rfl (Nat.le_of_ble_eq_true rfl) rfl).trans ?_
    refine (s_iload_n 27 mc_60 dX5_expression_26 rfl rfl rfl).trans ?_
    refine (s_bipush 29 43 mc_60 dX5_expression_27 rfl (by decide)).trans ?_
    refine (s_icmp_eq 38 32 mc_60 dX5_expression_29 rfl rfl).trans ?_
    refine ite_c ?_ ?_
    · skip
      rfl
    · skip
      refine (s_iload_n 33 mc_60 dX5_expression_32 rfl rfl rfl).trans ?_
      refine (s_bipush 35 45 mc_60 dX5_expression_33 rfl (by decide)).trans ?_
      refine (s_icmp_ne 60 38 mc_60 dX5_expression_35 rfl rfl).trans ?_
      refine ite_c ?_ ?_
      · skip
        refine (s_iload_n 61 mc_60 dX5_expression_60 rfl rfl rfl).trans ?_
        refine (s_bipush 63 42 mc_60 dX5_expression_61 rfl (by decide)).trans ?_
        refine (s_icmp_eq 75 66 mc_60 dX5_expression_63 rfl rfl).trans ?_
        refine ite_c ?_ ?_
        · skip
          rfl
        · skip
          refine (s_iload_n 67 mc_60 dX5_expression_66 rfl rfl rfl).trans ?_
          refine (s_bipush 69 47 mc_60 dX5_expression_67 rfl (by decide)).trans ?_
          refine (s_icmp_eq 75 72 mc_60 dX5_expression_69 rfl rfl).trans ?_
          refine ite_c ?_ ?_
          · skip
            rfl
          · skip
            refine (s_goto 145 mc_60 dX5_expression_72 rfl).trans ?_
            refine (s_aload_n 146 mc_60 dX5_expression_145 rfl rfl rfl).trans ?_
            refine (s_iload_n 147 mc_60 dX5_expression_146 rfl rfl rfl).trans ?_
            refine (s_iviV 150 mc_60 dX5_expression_147 rfl mo_60 mm_5_214 (by decide) ms_61 mi_61 mr_61 ma_61 mo_61 (by decide) (Nat.le_of_ble_eq_true rfl) rfl rfl (Nat.le_of_ble_eq_true rfl)).trans ?_
            refine gd_c ?_
            refine bV_c fun h3 => ?_
            refine (s_iconst 151 1 mc_60 dX5_expression_150 rfl (by decide)).trans ?_
            exact s_zret1 mc_60 dX5_expression_151 mt_60
      · skip
        rfl
theorem b_60_38 {X : Ctx} {d : Nat} (x0 : Nat) (x1 : Int32) (v2 : Option Value) (x3 : Int32)  (h : Hp) : sem (X, K X d) 60 38 [some (.ref x0), some (.int x1), v2, some (.int x3)] [] h = gd (hS h x0 = (6, 0)) (bV (K X d 61 [.ref x0, .int x1] h) fun h1 => if ¬ x3 = 43 then sem (X, K X d) 60 75 [some (.ref x0), some (.int (-10)), v2, some (.int x3)] [] h1 else sem (X, K X d) 60 75 [some (.ref x0), some (.int (-9)), v2, some (.int x3)] [] h1) := by
  refine (s_aload_n 39 mc_60 dX5_expression_38 rfl rfl rfl).trans ?_
  refine (s_iload_n 40 mc_60 dX5_expression_39 rfl rfl rfl).trans ?_
  refine (s_iviV 43 mc_60 dX5_expression_40 rfl mo_60 mm_5_214 (by decide) ms_61 mi_61 mr_61 ma_61 mo_61 (by decide) (Nat.le_of_ble_eq_true rfl) rfl rfl (Nat.le_of_ble_eq_true rfl)).trans ?_
  refine gd_c ?_
  refine bV_c fun h1 => ?_
  refine (s_iload_n 44 mc_60 dX5_expression_43 rfl rfl rfl).trans ?_
  refine (s_bipush 46 43 mc_60 dX5_expression_44 rfl (by decide)).trans ?_
  refine (s_icmp_ne 54 49 mc_60 dX5_expression_46 rfl rfl).trans ?_
  refine ite_c ?_ ?_
  · skip
    refine (s_bipush 56 (-10) mc_60 dX5_expression_54 rfl (by decide)).trans ?_
    refine (s_istore_n 57 mc_60 dX5_expression_56 rfl rfl (Nat.le_of_ble_eq_true rfl) rfl).trans ?_
    refine (s_goto 75 mc_60 dX5_expression_57 rfl).trans ?_
    rfl
  · skip
    refine (s_bipush 51 (-9) mc_60 dX5_expression_49 rfl (by decide)).trans ?_
    refine (s_goto 56 mc_60 dX5_expression_51 rfl).trans ?_
    refine (s_istore_n 57 mc_60 dX5_expression_56 rfl rfl (Nat.le_of_ble_eq_true rfl) rfl).trans ?_
    refine (s_goto 75 mc_60 dX5_expression_57 rfl).trans ?_
    rfl
theorem b_60_75 {X : Ctx} {d : Nat} (x0 : Nat) (v1 : Option Value) (v2 : Option Value) (x3 : Int32)  (h : Hp) : sem (X, K X d) 60 75 [some (.ref x0), v1, v2, some (.int x3)] [] h = gI h 5 x0 8 fun g1 => fI h 5 x0 8 (g1 + 1) fun h1 => if ¬ x3 = 47 then sem (X, K X d) 60 98 [some (.ref x0), v1, v2, some (.int x3)] [] h1 else gd (hS h1 x0 = (6, 0)) (bI (K X d 63 [.ref x0] h1) fun r2 h2 => if r2 = 0 then some (some (.int 0), h2) else sem (X, K X d) 60 98 [some (.ref x0), v1, v2, some (.int x3)] [] h2) := by
  refine (s_aload_n 76 mc_60 dX5_expression_75 rfl rfl rfl).trans ?_
  refine (s_dup 77 mc_60 dX5_expression_76 rfl rfl).trans ?_
  refine (s_getfI 80 mc_60 dX5_expression_77 rfl mo_60 fs_5_47 ff_5_47 (Or.inl rfl)).trans ?_
  refine gI_c fun g1 => ?_
  refine (s_iconst 81 1 mc_60 dX5_expression_80 rfl (by decide)).trans ?_
  refine (s_iadd 82 mc_60 dX5_expression_81 rfl).trans ?_
  refine (s_putfI 85 mc_60 dX5_expression_82 rfl mo_60 ff_5_47 rfl (Or.inl rfl)).trans ?_
  refine fI_c fun h1 => ?_
  refine (s_iload_n 86 mc_60 dX5_expression_85 rfl rfl rfl).trans ?_
  refine (s_bipush 88 47 mc_60 dX5_expression_86 rfl (by decide)).trans ?_
  refine (s_icmp_ne 98 91 mc_60 dX5_expression_88 rfl rfl).trans ?_
  refine ite_c ?_ ?_
  · skip
    rfl
  · skip
    refine (s_aload_n 92 mc_60 dX5_expression_91 rfl rfl rfl).trans ?_
    refine (s_iviI 95 mc_60 dX5_expression_92 rfl mo_60 mm_5_217 (by decide) ms_63 mi_63 mr_63 ma_63 mo_63 (by decide) (Nat.le_of_ble_eq_true rfl) rfl rfl (Nat.le_of_ble_eq_true rfl)).trans ?_
    refine gd_c ?_
    refine bI_c fun r2 h2 => ?_
    refine (s_if_eq 105 98 mc_60 dX5_expression_95 rfl rfl).trans ?_
    refine ite_c ?_ ?_
    · skip
      refine (s_iconst 106 0 mc_60 dX5_expression_105 rfl (by decide)).trans ?_
      exact s_zret0 mc_60 dX5_expression_106 mt_60
    · skip
      rfl
theorem b_60_98 {X : Ctx} {d : Nat} (x0 : Nat) (v1 : Option Value) (x2 : Int32) (x3 : Int32)  (h : Hp) : sem (X, K X d) 60 98 [some (.ref x0), v1, some (.int x2), some (.int x3)] [] h = gd (hS h x0 = (6, 0)) (bI (K X d 62 [.ref x0] h) fun r1 h1 => if ¬ r1 = 0 then if x3 = 42 then sem (X, K X d) 60 119 [some (.ref x0), v1, some (.int x2), some (.int x3)] [] h1 else if ¬ x3 = 47 then sem (X, K X d) 60 13 [some (.ref x0), v1, some (.int (x2 + 1)), some (.int x3)] [] h1 else sem (X, K X d) 60 119 [some (.ref x0), v1, some (.int x2), some (.int x3)] [] h1 else some (some (.int 0), h1)) := by
  refine (s_aload_n 99 mc_60 dX5_expression_98 rfl rfl rfl).trans ?_
  refine (s_iviI 102 mc_60 dX5_expression_99 rfl mo_60 mm_5_211 (by decide) ms_62 mi_62 mr_62 ma_62 mo_62 (by decide) (Nat.le_of_ble_eq_true rfl) rfl rfl (Nat.le_of_ble_eq_true rfl)).trans ?_
  refine gd_c ?_
  refine bI_c fun r1 h1 => ?_
  refine (s_if_ne 107 105 mc_60 dX5_expression_102 rfl rfl).trans ?_
  refine ite_c ?_ ?_
  · skip
    refine (s_iload_n 108 mc_60 dX5_expression_107 rfl rfl rfl).trans ?_
    refine (s_bipush 110 42 mc_60 dX5_expression_108 rfl (by decide)).trans ?_
    refine (s_icmp_eq 119 113 mc_60 dX5_expression_110 rfl rfl).trans ?_
    refine ite_c ?_ ?_
    · skip
      rfl
    · skip
      refine (s_iload_n 114 mc_60 dX5_expression_113 rfl rfl rfl).trans ?_
      refine (s_bipush 116 47 mc_60 dX5_expression_114 rfl (by decide)).trans ?_
      refine (s_icmp_ne 139 119 mc_60 dX5_expression_116 rfl rfl).trans ?_
      refine ite_c ?_ ?_
      · skip
        refine (s_iinc 1 142 mc_60 dX5_expression_139 rfl rfl (Nat.le_of_ble_eq_true rfl) (by decide) rfl).trans ?_
        refine (s_goto 13 mc_60 dX5_expression_142 rfl).trans ?_
        rfl
      · skip
        rfl
  · skip
    refine (s_iconst 106 0 mc_60 dX5_expression_105 rfl (by decide)).trans ?_
    exact s_zret0 mc_60 dX5_expression_106 mt_60
theorem b_60_119 {X : Ctx} {d : Nat} (x0 : Nat) (v1 : Option Value) (x2 : Int32) (x3 : Int32)  (h : Hp) : sem (X, K X d) 60 119 [some (.ref x0), v1, some (.int x2), some (.int x3)] [] h = gR h 5 x0 5 fun g1 => if ¬ x3 = 42 then gd (hS h g1 = (2, 0)) (bV (K X d 3 [.ref g1, .int (-12)] h) fun h1 => sem (X, K X d) 60 13 [some (.ref x0), v1, some (.int (x2 + 1)), some (.int x3)] [] h1) else gd (hS h g1 = (2, 0)) (bV (K X d 3 [.ref g1, .int (-11)] h) fun h2 => sem (X, K X d) 60 13 [some (.ref x0), v1, some (.int (x2 + 1)), some (.int x3)] [] h2) := by
  refine (s_aload_n 120 mc_60 dX5_expression_119 rfl rfl rfl).trans ?_
  refine (s_getfR 123 mc_60 dX5_expression_120 rfl mo_60 fs_5_57 ff_5_57 rfl).trans ?_
  refine gR_c fun g1 => ?_
  refine (s_iload_n 124 mc_60 dX5_expression_123 rfl rfl rfl).trans ?_
  refine (s_bipush 126 42 mc_60 dX5_expression_124 rfl (by decide)).trans ?_
  refine (s_icmp_ne 134 129 mc_60 dX5_expression_126 rfl rfl).trans ?_
  refine ite_c ?_ ?_
  · skip
    refine (s_bipush 136 (-12) mc_60 dX5_expression_134 rfl (by decide)).trans ?_
    refine (s_iviV 139 mc_60 dX5_expression_136 rfl mo_60 mm_5_192 (by decide) ms_3 mi_3 mr_3 ma_3 mo_3 (by decide) (Nat.le_of_ble_eq_true rfl) rfl rfl (Nat.le_of_ble_eq_true rfl)).trans ?_
    refine gd_c ?_
    refine bV_c fun h1 => ?_
    refine (s_iinc 1 142 mc_60 dX5_expression_139 rfl rfl (Nat.le_of_ble_eq_true rfl) (by decide) rfl).trans ?_
    refine (s_goto 13 mc_60 dX5_expression_142 rfl).trans ?_
    rfl
  · skip
    refine (s_bipush 131 (-11) mc_60 dX5_expression_129 rfl (by decide)).trans ?_
    refine (s_goto 136 mc_60 dX5_expression_131 rfl).trans ?_
    refine (s_iviV 139 mc_60 dX5_expression_136 rfl mo_60 mm_5_192 (by decide) ms_3 mi_3 mr_3 ma_3 mo_3 (by decide) (Nat.le_of_ble_eq_true rfl) rfl rfl (Nat.le_of_ble_eq_true rfl)).trans ?_
    refine gd_c ?_
    refine bV_c fun h2 => ?_
    refine (s_iinc 1 142 mc_60 dX5_expression_139 rfl rfl (Nat.le_of_ble_eq_true rfl) (by decide) rfl).trans ?_
    refine (s_goto 13 mc_60 dX5_expression_142 rfl).trans ?_
    rfl
/-- FiveLands$Reader.emitPending(I)V -/
theorem k_61 {X : Ctx} {d : Nat} (x0 : Nat) (x1 : Int32) (h : Hp) : K X (d + 1) 61 [.ref x0, .int x1] h = if x1 = 0 then some (none, h) else gR h 5 x0 5 fun g1 => gd (hS h g1 = (2, 0)) (bV (K X d 3 [.ref g1, .int x1] h) fun h1 => some (none, h1)) := by
  show sem (X, K X d) 61 0 [some (.ref x0), some (.int x1)] [] h = _
  refine (s_iload_n 1 mc_61 dX5_emitPending_0 rfl rfl rfl).trans ?_
  refine (s_if_eq 12 4 mc_61 dX5_emitPending_1 rfl rfl).trans ?_
  refine ite_c ?_ ?_
  · skip
    exact s_vret mc_61 dX5_emitPending_12 mt_61
  · skip
    refine (s_aload_n 5 mc_61 dX5_emitPending_4 rfl rfl rfl).trans ?_
    refine (s_getfR 8 mc_61 dX5_emitPending_5 rfl mo_61 fs_5_57 ff_5_57 rfl).trans ?_
    refine gR_c fun g1 => ?_
    refine (s_iload_n 9 mc_61 dX5_emitPending_8 rfl rfl rfl).trans ?_
    refine (s_iviV 12 mc_61 dX5_emitPending_9 rfl mo_61 mm_5_192 (by decide) ms_3 mi_3 mr_3 ma_3 mo_3 (by decide) (Nat.le_of_ble_eq_true rfl) rfl rfl (Nat.le_of_ble_eq_true rfl)).trans ?_
    refine gd_c ?_
    refine bV_c fun h1 => ?_
    exact s_vret mc_61 dX5_emitPending_12 mt_61
/-- FiveLands$Reader.unit()Z -/
theorem k_62 {X : Ctx} {d : Nat} (x0 : Nat) (h : Hp) : K X (d + 1) 62 [.ref x0] h = gd (hS h x0 = (6, 0)) (bI (K X d 68 [.ref x0] h) fun r1 h1 => if ¬ r1 = 100 then if r1 < 0 then gd (hS h1 x0 = (6, 0)) (bI (K X d 69 [.ref x0, .int 1] h1) fun r2 h2 => gd (okN .boolean r2) (some (some (.int r2), h2))) else if 8 ≤ r1 then gd (hS h1 x0 = (6, 0)) (bI (K X d 69 [.ref x0, .int 1] h1) fun r3 h3 => gd (okN .boolean r3) (some (some (.int r3), h3))) else gR h1 5 x0 5 fun g4 => gd (hS h1 g4 = (2, 0)) (bV (K X d 3 [.ref g4, .int ((-1) - r1)] h1) fun h4 => gI h4 5 x0 8 fun g5 => fI h4 5 x0 8 (g5 + 1) fun h5 => some (some (.int 1), h5)) else gR h1 5 x0 5 fun g6 => gR h1 5 x0 2 fun g7 => gI h1 5 x0 8 fun g8 => aI X h1 g7 g8 fun g9 => gd (hS h1 g6 = (2, 0)) (bV (K X d 3 [.ref g6, .int g9] h1) fun h6 => gI h6 5 x0 8 fun g10 => fI h6 5 x0 8 (g10 + 1) fun h7 => some (some (.int 1), h7))) := by
  show sem (X, K X d) 62 0 [some (.ref x0), none] [] h = _
  refine (s_aload_n 1 mc_62 dX5_unit_0 rfl rfl rfl).trans ?_
  refine (s_iviI 4 mc_62 dX5_unit_1 rfl mo_62 mm_5_70 (by decide) ms_68 mi_68 mr_68 ma_68 mo_68 (by decide) (Nat.le_of_ble_eq_true rfl) rfl rfl (Nat.le_of_ble_eq_true rfl)).trans ?_
  refine gd_c ?_
  refine bI_c fun r1 h1 => ?_
  refine (s_istore_n 5 mc_62 dX5_unit_4 rfl rfl (Nat.le_of_ble_eq_true rfl) rfl).trans ?_
  refine (s_iload_n 6 mc_62 dX5_unit_5 rfl rfl rfl).trans ?_
  refine (s_bipush 8 100 mc_62 dX5_unit_6 rfl (by decide)).trans ?_
  refine (s_icmp_ne 30 11 mc_62 dX5_unit_8 rfl rfl).trans ?_
  refine ite_c ?_ ?_
  · skip
    refine (s_iload_n 31 mc_62 dX5_unit_30 rfl rfl rfl).trans ?_
    refine (s_if_lt 53 34 mc_62 dX5_unit_31 rfl rfl).trans ?_
    refine ite_c ?_ ?_
    · skip
      refine (s_aload_n 54 mc_62 dX5_unit_53 rfl rfl rfl).trans ?_
      refine (s_iconst 55 1 mc_62 dX5_unit_54 rfl (by decide)).trans ?_
      refine (s_iviI 58 mc_62 dX5_unit_55 rfl mo_62 mm_5_90 (by decide) ms_69 mi_69 mr_69 ma_69 mo_69 (by decide) (Nat.le_of_ble_eq_true rfl) rfl rfl (Nat.le_of_ble_eq_true rfl)).trans ?_
      refine gd_c ?_
      refine bI_c fun r2 h2 => ?_
      exact s_zret mc_62 dX5_unit_58 mt_62
    · skip
      refine (s_iload_n 35 mc_62 dX5_unit_34 rfl rfl rfl).trans ?_
      refine (s_bipush 37 8 mc_62 dX5_unit_35 rfl (by decide)).trans ?_
      refine (s_icmp_ge 53 40 mc_62 dX5_unit_37 rfl rfl).trans ?_
      refine ite_c ?_ ?_
      · skip
        refine (s_aload_n 54 mc_62 dX5_unit_53 rfl rfl rfl).trans ?_
        refine (s_iconst 55 1 mc_62 dX5_unit_54 rfl (by decide)).trans ?_
        refine (s_iviI 58 mc_62 dX5_unit_55 rfl mo_62 mm_5_90 (by decide) ms_69 mi_69 mr_69 ma_69 mo_69 (by decide) (Nat.le_of_ble_eq_true rfl) rfl rfl (Nat.le_of_ble_eq_true rfl)).trans ?_
        refine gd_c ?_
        refine bI_c fun r3 h3 => ?_
        exact s_zret mc_62 dX5_unit_58 mt_62
      · skip
        refine (s_aload_n 41 mc_62 dX5_unit_40 rfl rfl rfl).trans ?_
        refine (s_getfR 44 mc_62 dX5_unit_41 rfl mo_62 fs_5_57 ff_5_57 rfl).trans ?_
        refine gR_c fun g4 => ?_
        refine (s_iconst 45 (-1) mc_62 dX5_unit_44 rfl (by decide)).trans ?_
        refine (s_iload_n 46 mc_62 dX5_unit_45 rfl rfl rfl).trans ?_
        refine (s_isub 47 mc_62 dX5_unit_46 rfl).trans ?_
        refine (s_iviV 50 mc_62 dX5_unit_47 rfl mo_62 mm_5_192 (by decide) ms_3 mi_3 mr_3 ma_3 mo_3 (by decide) (Nat.le_of_ble_eq_true rfl) rfl rfl (Nat.le_of_ble_eq_true rfl)).trans ?_
        refine gd_c ?_
        refine bV_c fun h4 => ?_
        refine (s_goto 59 mc_62 dX5_unit_50 rfl).trans ?_
        refine (s_aload_n 60 mc_62 dX5_unit_59 rfl rfl rfl).trans ?_
        refine (s_dup 61 mc_62 dX5_unit_60 rfl rfl).trans ?_
        refine (s_getfI 64 mc_62 dX5_unit_61 rfl mo_62 fs_5_47 ff_5_47 (Or.inl rfl)).trans ?_
        refine gI_c fun g5 => ?_
        refine (s_iconst 65 1 mc_62 dX5_unit_64 rfl (by decide)).trans ?_
        refine (s_iadd 66 mc_62 dX5_unit_65 rfl).trans ?_
        refine (s_putfI 69 mc_62 dX5_unit_66 rfl mo_62 ff_5_47 rfl (Or.inl rfl)).trans ?_
        refine fI_c fun h5 => ?_
        refine (s_iconst 70 1 mc_62 dX5_unit_69 rfl (by decide)).trans ?_
        exact s_zret1 mc_62 dX5_unit_70 mt_62
  · skip
    refine (s_aload_n 12 mc_62 dX5_unit_11 rfl rfl rfl).trans ?_
    refine (s_getfR 15 mc_62 dX5_unit_12 rfl mo_62 fs_5_57 ff_5_57 rfl).trans ?_
    refine gR_c fun g6 => ?_
    refine (s_aload_n 16 mc_62 dX5_unit_15 rfl rfl rfl).trans ?_
    refine (s_getfR 19 mc_62 dX5_unit_16 rfl mo_62 fs_5_19 ff_5_19 rfl).trans ?_
    refine gR_c fun g7 => ?_
    refine (s_aload_n 20 mc_62 dX5_unit_19 rfl rfl rfl).trans ?_
    refine (s_getfI 23 mc_62 dX5_unit_20 rfl mo_62 fs_5_47 ff_5_47 (Or.inl rfl)).trans ?_
    refine gI_c fun g8 => ?_
    refine (s_iaload 24 mc_62 dX5_unit_23 rfl).trans ?_
    refine aI_c fun g9 => ?_
    refine (s_iviV 27 mc_62 dX5_unit_24 rfl mo_62 mm_5_192 (by decide) ms_3 mi_3 mr_3 ma_3 mo_3 (by decide) (Nat.le_of_ble_eq_true rfl) rfl rfl (Nat.le_of_ble_eq_true rfl)).trans ?_
    refine gd_c ?_
    refine bV_c fun h6 => ?_
    refine (s_goto 59 mc_62 dX5_unit_27 rfl).trans ?_
    refine (s_aload_n 60 mc_62 dX5_unit_59 rfl rfl rfl).trans ?_
    refine (s_dup 61 mc_62 dX5_unit_60 rfl rfl).trans ?_
    refine (s_getfI 64 mc_62 dX5_unit_61 rfl mo_62 fs_5_47 ff_5_47 (Or.inl rfl)).trans ?_
    refine gI_c fun g10 => ?_
    refine (s_iconst 65 1 mc_62 dX5_unit_64 rfl (by decide)).trans ?_
    refine (s_iadd 66 mc_62 dX5_unit_65 rfl).trans ?_
    refine (s_putfI 69 mc_62 dX5_unit_66 rfl mo_62 ff_5_47 rfl (Or.inl rfl)).trans ?_
    refine fI_c fun h7 => ?_
    refine (s_iconst 70 1 mc_62 dX5_unit_69 rfl (by decide)).trans ?_
    exact s_zret1 mc_62 dX5_unit_70 mt_62
/-- FiveLands$Reader.isDivisor()Z -/
theorem k_63 {X : Ctx} {d : Nat} (x0 : Nat) (h : Hp) : K X (d + 1) 63 [.ref x0] h = gd (hS h x0 = (6, 0)) (bI (K X d 68 [.ref x0] h) fun r1 h1 => if r1 = 100 then gR h1 5 x0 2 fun g2 => gI h1 5 x0 8 fun g3 => aI X h1 g2 g3 fun g4 => if ¬ g4 = 0 then some (some (.int 1), h1) else gd (hS h1 x0 = (6, 0)) (bI (K X d 69 [.ref x0, .int 2] h1) fun r5 h2 => if r5 = 0 then some (some (.int 0), h2) else some (some (.int 1), h2)) else gd (hS h1 x0 = (6, 0)) (bI (K X d 69 [.ref x0, .int 1] h1) fun r6 h3 => gd (okN .boolean r6) (some (some (.int r6), h3)))) := by
  show sem (X, K X d) 63 0 [some (.ref x0)] [] h = _
  refine (s_aload_n 1 mc_63 dX5_isDivisor_0 rfl rfl rfl).trans ?_
  refine (s_iviI 4 mc_63 dX5_isDivisor_1 rfl mo_63 mm_5_70 (by decide) ms_68 mi_68 mr_68 ma_68 mo_68 (by decide) (Nat.le_of_ble_eq_true rfl) rfl rfl (Nat.le_of_ble_eq_true rfl)).trans ?_
  refine gd_c ?_
  refine bI_c fun r1 h1 => ?_
  refine (s_bipush 6 100 mc_63 dX5_isDivisor_4 rfl (by decide)).trans ?_
  refine (s_icmp_eq 15 9 mc_63 dX5_isDivisor_6 rfl rfl).trans ?_
  refine ite_c ?_ ?_
  · skip
    refine (s_aload_n 16 mc_63 dX5_isDivisor_15 rfl rfl rfl).trans ?_
    refine (s_getfR 19 mc_63 dX5_isDivisor_16 rfl mo_63 fs_5_19 ff_5_19 rfl).trans ?_
    refine gR_c fun g2 => ?_
    refine (s_aload_n 20 mc_63 dX5_isDivisor_19 rfl rfl rfl).trans ?_
    refine (s_getfI 23 mc_63 dX5_isDivisor_20 rfl mo_63 fs_5_47 ff_5_47 (Or.inl rfl)).trans ?_
    refine gI_c fun g3 => ?_
    refine (s_iaload 24 mc_63 dX5_isDivisor_23 rfl).trans ?_
    refine aI_c fun g4 => ?_
    refine (s_if_ne 35 27 mc_63 dX5_isDivisor_24 rfl rfl).trans ?_
    refine ite_c ?_ ?_
    · skip
      refine (s_iconst 36 1 mc_63 dX5_isDivisor_35 rfl (by decide)).trans ?_
      refine (s_goto 40 mc_63 dX5_isDivisor_36 rfl).trans ?_
      exact s_zret1 mc_63 dX5_isDivisor_40 mt_63
    · skip
      refine (s_aload_n 28 mc_63 dX5_isDivisor_27 rfl rfl rfl).trans ?_
      refine (s_iconst 29 2 mc_63 dX5_isDivisor_28 rfl (by decide)).trans ?_
      refine (s_iviI 32 mc_63 dX5_isDivisor_29 rfl mo_63 mm_5_90 (by decide) ms_69 mi_69 mr_69 ma_69 mo_69 (by decide) (Nat.le_of_ble_eq_true rfl) rfl rfl (Nat.le_of_ble_eq_true rfl)).trans ?_
      refine gd_c ?_
      refine bI_c fun r5 h2 => ?_
      refine (s_if_eq 39 35 mc_63 dX5_isDivisor_32 rfl rfl).trans ?_
      refine ite_c ?_ ?_
      · skip
        refine (s_iconst 40 0 mc_63 dX5_isDivisor_39 rfl (by decide)).trans ?_
        exact s_zret0 mc_63 dX5_isDivisor_40 mt_63
      · skip
        refine (s_iconst 36 1 mc_63 dX5_isDivisor_35 rfl (by decide)).trans ?_
        refine (s_goto 40 mc_63 dX5_isDivisor_36 rfl).trans ?_
        exact s_zret1 mc_63 dX5_isDivisor_40 mt_63
  · skip
    refine (s_aload_n 10 mc_63 dX5_isDivisor_9 rfl rfl rfl).trans ?_
    refine (s_iconst 11 1 mc_63 dX5_isDivisor_10 rfl (by decide)).trans ?_
    refine (s_iviI 14 mc_63 dX5_isDivisor_11 rfl mo_63 mm_5_90 (by decide) ms_69 mi_69 mr_69 ma_69 mo_69 (by decide) (Nat.le_of_ble_eq_true rfl) rfl rfl (Nat.le_of_ble_eq_true rfl)).trans ?_
    refine gd_c ?_
    refine bI_c fun r6 h3 => ?_
    exact s_zret mc_63 dX5_isDivisor_14 mt_63
/-- FiveLands$Reader.isPart()Z -/
theorem k_64 {X : Ctx} {d : Nat} (x0 : Nat) (h : Hp) : K X (d + 1) 64 [.ref x0] h = gd (hS h x0 = (6, 0)) (bI (K X d 68 [.ref x0] h) fun r1 h1 => if r1 = 100 then gR h1 5 x0 2 fun g2 => gI h1 5 x0 8 fun g3 => aI X h1 g2 g3 fun g4 => if g4 ≤ 100 then some (some (.int 1), h1) else gd (hS h1 x0 = (6, 0)) (bI (K X d 69 [.ref x0, .int 2] h1) fun r5 h2 => if r5 = 0 then some (some (.int 0), h2) else some (some (.int 1), h2)) else gd (hS h1 x0 = (6, 0)) (bI (K X d 69 [.ref x0, .int 1] h1) fun r6 h3 => gd (okN .boolean r6) (some (some (.int r6), h3)))) := by
  show sem (X, K X d) 64 0 [some (.ref x0)] [] h = _
  refine (s_aload_n 1 mc_64 dX5_isPart_0 rfl rfl rfl).trans ?_
  refine (s_iviI 4 mc_64 dX5_isPart_1 rfl mo_64 mm_5_70 (by decide) ms_68 mi_68 mr_68 ma_68 mo_68 (by decide) (Nat.le_of_ble_eq_true rfl) rfl rfl (Nat.le_of_ble_eq_true rfl)).trans ?_
  refine gd_c ?_
  refine bI_c fun r1 h1 => ?_
  refine (s_bipush 6 100 mc_64 dX5_isPart_4 rfl (by decide)).trans ?_
  refine (s_icmp_eq 15 9 mc_64 dX5_isPart_6 rfl rfl).trans ?_
  refine ite_c ?_ ?_
  · skip
    refine (s_aload_n 16 mc_64 dX5_isPart_15 rfl rfl rfl).trans ?_
    refine (s_getfR 19 mc_64 dX5_isPart_16 rfl mo_64 fs_5_19 ff_5_19 rfl).trans ?_
    refine gR_c fun g2 => ?_
    refine (s_aload_n 20 mc_64 dX5_isPart_19 rfl rfl rfl).trans ?_
    refine (s_getfI 23 mc_64 dX5_isPart_20 rfl mo_64 fs_5_47 ff_5_47 (Or.inl rfl)).trans ?_
    refine gI_c fun g3 => ?_
    refine (s_iaload 24 mc_64 dX5_isPart_23 rfl).trans ?_
    refine aI_c fun g4 => ?_
    refine (s_bipush 26 100 mc_64 dX5_isPart_24 rfl (by decide)).trans ?_
    refine (s_icmp_le 37 29 mc_64 dX5_isPart_26 rfl rfl).trans ?_
    refine ite_c ?_ ?_
    · skip
      refine (s_iconst 38 1 mc_64 dX5_isPart_37 rfl (by decide)).trans ?_
      refine (s_goto 42 mc_64 dX5_isPart_38 rfl).trans ?_
      exact s_zret1 mc_64 dX5_isPart_42 mt_64
    · skip
      refine (s_aload_n 30 mc_64 dX5_isPart_29 rfl rfl rfl).trans ?_
      refine (s_iconst 31 2 mc_64 dX5_isPart_30 rfl (by decide)).trans ?_
      refine (s_iviI 34 mc_64 dX5_isPart_31 rfl mo_64 mm_5_90 (by decide) ms_69 mi_69 mr_69 ma_69 mo_69 (by decide) (Nat.le_of_ble_eq_true rfl) rfl rfl (Nat.le_of_ble_eq_true rfl)).trans ?_
      refine gd_c ?_
      refine bI_c fun r5 h2 => ?_
      refine (s_if_eq 41 37 mc_64 dX5_isPart_34 rfl rfl).trans ?_
      refine ite_c ?_ ?_
      · skip
        refine (s_iconst 42 0 mc_64 dX5_isPart_41 rfl (by decide)).trans ?_
        exact s_zret0 mc_64 dX5_isPart_42 mt_64
      · skip
        refine (s_iconst 38 1 mc_64 dX5_isPart_37 rfl (by decide)).trans ?_
        refine (s_goto 42 mc_64 dX5_isPart_38 rfl).trans ?_
        exact s_zret1 mc_64 dX5_isPart_42 mt_64
  · skip
    refine (s_aload_n 10 mc_64 dX5_isPart_9 rfl rfl rfl).trans ?_
    refine (s_iconst 11 1 mc_64 dX5_isPart_10 rfl (by decide)).trans ?_
    refine (s_iviI 14 mc_64 dX5_isPart_11 rfl mo_64 mm_5_90 (by decide) ms_69 mi_69 mr_69 ma_69 mo_69 (by decide) (Nat.le_of_ble_eq_true rfl) rfl rfl (Nat.le_of_ble_eq_true rfl)).trans ?_
    refine gd_c ?_
    refine bI_c fun r6 h3 => ?_
    exact s_zret mc_64 dX5_isPart_14 mt_64
/-- FiveLands$Reader.isKind()Z -/
theorem k_65 {X : Ctx} {d : Nat} (x0 : Nat) (h : Hp) : K X (d + 1) 65 [.ref x0] h = gd (hS h x0 = (6, 0)) (bI (K X d 68 [.ref x0] h) fun r1 h1 => if r1 < 8 then some (some (.int 0), h1) else gd (hS h1 x0 = (6, 0)) (bI (K X d 68 [.ref x0] h1) fun r2 h2 => if 13 < r2 then some (some (.int 0), h2) else some (some (.int 1), h2))) := by
  show sem (X, K X d) 65 0 [some (.ref x0)] [] h = _
  refine (s_aload_n 1 mc_65 dX5_isKind_0 rfl rfl rfl).trans ?_
  refine (s_iviI 4 mc_65 dX5_isKind_1 rfl mo_65 mm_5_70 (by decide) ms_68 mi_68 mr_68 ma_68 mo_68 (by decide) (Nat.le_of_ble_eq_true rfl) rfl rfl (Nat.le_of_ble_eq_true rfl)).trans ?_
  refine gd_c ?_
  refine bI_c fun r1 h1 => ?_
  refine (s_bipush 6 8 mc_65 dX5_isKind_4 rfl (by decide)).trans ?_
  refine (s_icmp_lt 22 9 mc_65 dX5_isKind_6 rfl rfl).trans ?_
  refine ite_c ?_ ?_
  · skip
    refine (s_iconst 23 0 mc_65 dX5_isKind_22 rfl (by decide)).trans ?_
    exact s_zret0 mc_65 dX5_isKind_23 mt_65
  · skip
    refine (s_aload_n 10 mc_65 dX5_isKind_9 rfl rfl rfl).trans ?_
    refine (s_iviI 13 mc_65 dX5_isKind_10 rfl mo_65 mm_5_70 (by decide) ms_68 mi_68 mr_68 ma_68 mo_68 (by decide) (Nat.le_of_ble_eq_true rfl) rfl rfl (Nat.le_of_ble_eq_true rfl)).trans ?_
    refine gd_c ?_
    refine bI_c fun r2 h2 => ?_
    refine (s_bipush 15 13 mc_65 dX5_isKind_13 rfl (by decide)).trans ?_
    refine (s_icmp_gt 22 18 mc_65 dX5_isKind_15 rfl rfl).trans ?_
    refine ite_c ?_ ?_
    · skip
      refine (s_iconst 23 0 mc_65 dX5_isKind_22 rfl (by decide)).trans ?_
      exact s_zret0 mc_65 dX5_isKind_23 mt_65
    · skip
      refine (s_iconst 19 1 mc_65 dX5_isKind_18 rfl (by decide)).trans ?_
      refine (s_goto 23 mc_65 dX5_isKind_19 rfl).trans ?_
      exact s_zret1 mc_65 dX5_isKind_23 mt_65
/-- FiveLands$Reader.isNewKind(I)Z -/
theorem k_66 {X : Ctx} {d : Nat} (x0 : Nat) (x1 : Int32) (h : Hp) : K X (d + 1) 66 [.ref x0, .int x1] h = gd (hS h x0 = (6, 0)) (bI (K X d 65 [.ref x0] h) fun r1 h1 => if ¬ r1 = 0 then gd (hS h1 x0 = (6, 0)) (bI (K X d 68 [.ref x0] h1) fun r2 h2 => bI (K X d 140 [.long (x1 : Int32).toInt64, .int (r2 - 8)] h2) fun r3 h3 => if r3 = 0 then some (some (.int 1), h3) else gd (hS h3 x0 = (6, 0)) (bI (K X d 69 [.ref x0, .int 3] h3) fun r4 h4 => if r4 = 0 then some (some (.int 0), h4) else some (some (.int 1), h4))) else gd (hS h1 x0 = (6, 0)) (bI (K X d 69 [.ref x0, .int 1] h1) fun r5 h5 => gd (okN .boolean r5) (some (some (.int r5), h5)))) := by
  show sem (X, K X d) 66 0 [some (.ref x0), some (.int x1)] [] h = _
  refine (s_aload_n 1 mc_66 dX5_isNewKind_0 rfl rfl rfl).trans ?_
  refine (s_iviI 4 mc_66 dX5_isNewKind_1 rfl mo_66 mm_5_119 (by decide) ms_65 mi_65 mr_65 ma_65 mo_65 (by decide) (Nat.le_of_ble_eq_true rfl) rfl rfl (Nat.le_of_ble_eq_true rfl)).trans ?_
  refine gd_c ?_
  refine bI_c fun r1 h1 => ?_
  refine (s_if_ne 13 7 mc_66 dX5_isNewKind_4 rfl rfl).trans ?_
  refine ite_c ?_ ?_
  · skip
    refine (s_iload_n 14 mc_66 dX5_isNewKind_13 rfl rfl rfl).trans ?_
    refine (s_i2l 15 mc_66 dX5_isNewKind_14 rfl).trans ?_
    refine (s_aload_n 16 mc_66 dX5_isNewKind_15 rfl rfl rfl).trans ?_
    refine (s_iviI 19 mc_66 dX5_isNewKind_16 rfl mo_66 mm_5_70 (by decide) ms_68 mi_68 mr_68 ma_68 mo_68 (by decide) (Nat.le_of_ble_eq_true rfl) rfl rfl (Nat.le_of_ble_eq_true rfl)).trans ?_
    refine gd_c ?_
    refine bI_c fun r2 h2 => ?_
    refine (s_bipush 21 8 mc_66 dX5_isNewKind_19 rfl (by decide)).trans ?_
    refine (s_isub 22 mc_66 dX5_isNewKind_21 rfl).trans ?_
    refine (s_istI 25 mc_66 dX5_isNewKind_22 rfl mo_66 mm_5_220 (by decide) ms_140 mr_140 ma_140 (Nat.le_of_ble_eq_true rfl) rfl rfl (Nat.le_of_ble_eq_true rfl)).trans ?_
    refine bI_c fun r3 h3 => ?_
    refine (s_if_eq 36 28 mc_66 dX5_isNewKind_25 rfl rfl).trans ?_
    refine ite_c ?_ ?_
    · skip
      refine (s_iconst 37 1 mc_66 dX5_isNewKind_36 rfl (by decide)).trans ?_
      refine (s_goto 41 mc_66 dX5_isNewKind_37 rfl).trans ?_
      exact s_zret1 mc_66 dX5_isNewKind_41 mt_66
    · skip
      refine (s_aload_n 29 mc_66 dX5_isNewKind_28 rfl rfl rfl).trans ?_
      refine (s_iconst 30 3 mc_66 dX5_isNewKind_29 rfl (by decide)).trans ?_
      refine (s_iviI 33 mc_66 dX5_isNewKind_30 rfl mo_66 mm_5_90 (by decide) ms_69 mi_69 mr_69 ma_69 mo_69 (by decide) (Nat.le_of_ble_eq_true rfl) rfl rfl (Nat.le_of_ble_eq_true rfl)).trans ?_
      refine gd_c ?_
      refine bI_c fun r4 h4 => ?_
      refine (s_if_eq 40 36 mc_66 dX5_isNewKind_33 rfl rfl).trans ?_
      refine ite_c ?_ ?_
      · skip
        refine (s_iconst 41 0 mc_66 dX5_isNewKind_40 rfl (by decide)).trans ?_
        exact s_zret0 mc_66 dX5_isNewKind_41 mt_66
      · skip
        refine (s_iconst 37 1 mc_66 dX5_isNewKind_36 rfl (by decide)).trans ?_
        refine (s_goto 41 mc_66 dX5_isNewKind_37 rfl).trans ?_
        exact s_zret1 mc_66 dX5_isNewKind_41 mt_66
  · skip
    refine (s_aload_n 8 mc_66 dX5_isNewKind_7 rfl rfl rfl).trans ?_
    refine (s_iconst 9 1 mc_66 dX5_isNewKind_8 rfl (by decide)).trans ?_
    refine (s_iviI 12 mc_66 dX5_isNewKind_9 rfl mo_66 mm_5_90 (by decide) ms_69 mi_69 mr_69 ma_69 mo_69 (by decide) (Nat.le_of_ble_eq_true rfl) rfl rfl (Nat.le_of_ble_eq_true rfl)).trans ?_
    refine gd_c ?_
    refine bI_c fun r5 h5 => ?_
    exact s_zret mc_66 dX5_isNewKind_12 mt_66
/-- FiveLands$Reader.pass(I)Z -/
theorem k_67 {X : Ctx} {d : Nat} (x0 : Nat) (x1 : Int32) (h : Hp) : K X (d + 1) 67 [.ref x0, .int x1] h = gd (hS h x0 = (6, 0)) (bI (K X d 68 [.ref x0] h) fun r1 h1 => if r1 = x1 then gI h1 5 x0 8 fun g2 => fI h1 5 x0 8 (g2 + 1) fun h2 => some (some (.int 1), h2) else gd (hS h1 x0 = (6, 0)) (bI (K X d 69 [.ref x0, .int 1] h1) fun r3 h3 => gd (okN .boolean r3) (some (some (.int r3), h3)))) := by
  show sem (X, K X d) 67 0 [some (.ref x0), some (.int x1)] [] h = _
  refine (s_aload_n 1 mc_67 dX5_pass_0 rfl rfl rfl).trans ?_
  refine (s_iviI 4 mc_67 dX5_pass_1 rfl mo_67 mm_5_70 (by decide) ms_68 mi_68 mr_68 ma_68 mo_68 (by decide) (Nat.le_of_ble_eq_true rfl) rfl rfl (Nat.le_of_ble_eq_true rfl)).trans ?_
  refine gd_c ?_
  refine bI_c fun r1 h1 => ?_
  refine (s_iload_n 5 mc_67 dX5_pass_4 rfl rfl rfl).trans ?_
  refine (s_icmp_eq 14 8 mc_67 dX5_pass_5 rfl rfl).trans ?_
  refine ite_c ?_ ?_
  · skip
    refine (s_aload_n 15 mc_67 dX5_pass_14 rfl rfl rfl).trans ?_
    refine (s_dup 16 mc_67 dX5_pass_15 rfl rfl).trans ?_
    refine (s_getfI 19 mc_67 dX5_pass_16 rfl mo_67 fs_5_47 ff_5_47 (Or.inl rfl)).trans ?_
    refine gI_c fun g2 => ?_
    refine (s_iconst 20 1 mc_67 dX5_pass_19 rfl (by decide)).trans ?_
    refine (s_iadd 21 mc_67 dX5_pass_20 rfl).trans ?_
    refine (s_putfI 24 mc_67 dX5_pass_21 rfl mo_67 ff_5_47 rfl (Or.inl rfl)).trans ?_
    refine fI_c fun h2 => ?_
    refine (s_iconst 25 1 mc_67 dX5_pass_24 rfl (by decide)).trans ?_
    exact s_zret1 mc_67 dX5_pass_25 mt_67
  · skip
    refine (s_aload_n 9 mc_67 dX5_pass_8 rfl rfl rfl).trans ?_
    refine (s_iconst 10 1 mc_67 dX5_pass_9 rfl (by decide)).trans ?_
    refine (s_iviI 13 mc_67 dX5_pass_10 rfl mo_67 mm_5_90 (by decide) ms_69 mi_69 mr_69 ma_69 mo_69 (by decide) (Nat.le_of_ble_eq_true rfl) rfl rfl (Nat.le_of_ble_eq_true rfl)).trans ?_
    refine gd_c ?_
    refine bI_c fun r3 h3 => ?_
    exact s_zret mc_67 dX5_pass_13 mt_67
/-- FiveLands$Reader.sign()I -/
theorem k_68 {X : Ctx} {d : Nat} (x0 : Nat) (h : Hp) : K X (d + 1) 68 [.ref x0] h = gI h 5 x0 8 fun g1 => if g1 < 0 then some (some (.int 101), h) else gI h 5 x0 8 fun g2 => gI h 5 x0 7 fun g3 => if g3 ≤ g2 then some (some (.int 101), h) else gR h 5 x0 1 fun g4 => gI h 5 x0 8 fun g5 => aI X h g4 g5 fun g6 => some (some (.int g6), h) := by
  show sem (X, K X d) 68 0 [some (.ref x0)] [] h = _
  refine (s_aload_n 1 mc_68 dX5_sign_0 rfl rfl rfl).trans ?_
  refine (s_getfI 4 mc_68 dX5_sign_1 rfl mo_68 fs_5_47 ff_5_47 (Or.inl rfl)).trans ?_
  refine gI_c fun g1 => ?_
  refine (s_if_lt 30 7 mc_68 dX5_sign_4 rfl rfl).trans ?_
  refine ite_c ?_ ?_
  · skip
    refine (s_bipush 32 101 mc_68 dX5_sign_30 rfl (by decide)).trans ?_
    exact s_iret mc_68 dX5_sign_32 mt_68
  · skip
    refine (s_aload_n 8 mc_68 dX5_sign_7 rfl rfl rfl).trans ?_
    refine (s_getfI 11 mc_68 dX5_sign_8 rfl mo_68 fs_5_47 ff_5_47 (Or.inl rfl)).trans ?_
    refine gI_c fun g2 => ?_
    refine (s_aload_n 12 mc_68 dX5_sign_11 rfl rfl rfl).trans ?_
    refine (s_getfI 15 mc_68 dX5_sign_12 rfl mo_68 fs_5_186 ff_5_186 (Or.inl rfl)).trans ?_
    refine gI_c fun g3 => ?_
    refine (s_icmp_ge 30 18 mc_68 dX5_sign_15 rfl rfl).trans ?_
    refine ite_c ?_ ?_
    · skip
      refine (s_bipush 32 101 mc_68 dX5_sign_30 rfl (by decide)).trans ?_
      exact s_iret mc_68 dX5_sign_32 mt_68
    · skip
      refine (s_aload_n 19 mc_68 dX5_sign_18 rfl rfl rfl).trans ?_
      refine (s_getfR 22 mc_68 dX5_sign_19 rfl mo_68 fs_5_15 ff_5_15 rfl).trans ?_
      refine gR_c fun g4 => ?_
      refine (s_aload_n 23 mc_68 dX5_sign_22 rfl rfl rfl).trans ?_
      refine (s_getfI 26 mc_68 dX5_sign_23 rfl mo_68 fs_5_47 ff_5_47 (Or.inl rfl)).trans ?_
      refine gI_c fun g5 => ?_
      refine (s_iaload 27 mc_68 dX5_sign_26 rfl).trans ?_
      refine aI_c fun g6 => ?_
      refine (s_goto 32 mc_68 dX5_sign_27 rfl).trans ?_
      exact s_iret mc_68 dX5_sign_32 mt_68
/-- FiveLands$Reader.wrong(I)Z -/
theorem k_69 {X : Ctx} {d : Nat} (x0 : Nat) (x1 : Int32) (h : Hp) : K X (d + 1) 69 [.ref x0, .int x1] h = fI h 5 x0 11 x1 fun h1 => gI h1 5 x0 8 fun g1 => if g1 < 0 then fI h1 5 x0 12 (-1) fun h2 => some (some (.int 0), h2) else gI h1 5 x0 8 fun g2 => gI h1 5 x0 7 fun g3 => if g3 ≤ g2 then fI h1 5 x0 12 (-1) fun h3 => some (some (.int 0), h3) else gR h1 5 x0 3 fun g4 => gI h1 5 x0 8 fun g5 => aI X h1 g4 g5 fun g6 => fI h1 5 x0 12 g6 fun h4 => some (some (.int 0), h4) := by
  show sem (X, K X d) 69 0 [some (.ref x0), some (.int x1)] [] h = _
  refine (s_aload_n 1 mc_69 dX5_wrong_0 rfl rfl rfl).trans ?_
  refine (s_iload_n 2 mc_69 dX5_wrong_1 rfl rfl rfl).trans ?_
  refine (s_putfI 5 mc_69 dX5_wrong_2 rfl mo_69 ff_5_44 rfl (Or.inl rfl)).trans ?_
  refine fI_c fun h1 => ?_
  refine (s_aload_n 6 mc_69 dX5_wrong_5 rfl rfl rfl).trans ?_
  refine (s_aload_n 7 mc_69 dX5_wrong_6 rfl rfl rfl).trans ?_
  refine (s_getfI 10 mc_69 dX5_wrong_7 rfl mo_69 fs_5_47 ff_5_47 (Or.inl rfl)).trans ?_
  refine gI_c fun g1 => ?_
  refine (s_if_lt 36 13 mc_69 dX5_wrong_10 rfl rfl).trans ?_
  refine ite_c ?_ ?_
  · skip
    refine (s_iconst 37 (-1) mc_69 dX5_wrong_36 rfl (by decide)).trans ?_
    refine (s_putfI 40 mc_69 dX5_wrong_37 rfl mo_69 ff_5_28 rfl (Or.inl rfl)).trans ?_
    refine fI_c fun h2 => ?_
    refine (s_iconst 41 0 mc_69 dX5_wrong_40 rfl (by decide)).trans ?_
    exact s_zret0 mc_69 dX5_wrong_41 mt_69
  · skip
    refine (s_aload_n 14 mc_69 dX5_wrong_13 rfl rfl rfl).trans ?_
    refine (s_getfI 17 mc_69 dX5_wrong_14 rfl mo_69 fs_5_47 ff_5_47 (Or.inl rfl)).trans ?_
    refine gI_c fun g2 => ?_
    refine (s_aload_n 18 mc_69 dX5_wrong_17 rfl rfl rfl).trans ?_
    refine (s_getfI 21 mc_69 dX5_wrong_18 rfl mo_69 fs_5_186 ff_5_186 (Or.inl rfl)).trans ?_
    refine gI_c fun g3 => ?_
    refine (s_icmp_ge 36 24 mc_69 dX5_wrong_21 rfl rfl).trans ?_
    refine ite_c ?_ ?_
    · skip
      refine (s_iconst 37 (-1) mc_69 dX5_wrong_36 rfl (by decide)).trans ?_
      refine (s_putfI 40 mc_69 dX5_wrong_37 rfl mo_69 ff_5_28 rfl (Or.inl rfl)).trans ?_
      refine fI_c fun h3 => ?_
      refine (s_iconst 41 0 mc_69 dX5_wrong_40 rfl (by decide)).trans ?_
      exact s_zret0 mc_69 dX5_wrong_41 mt_69
    · skip
      refine (s_aload_n 25 mc_69 dX5_wrong_24 rfl rfl rfl).trans ?_
      refine (s_getfR 28 mc_69 dX5_wrong_25 rfl mo_69 fs_5_22 ff_5_22 rfl).trans ?_
      refine gR_c fun g4 => ?_
      refine (s_aload_n 29 mc_69 dX5_wrong_28 rfl rfl rfl).trans ?_
      refine (s_getfI 32 mc_69 dX5_wrong_29 rfl mo_69 fs_5_47 ff_5_47 (Or.inl rfl)).trans ?_
      refine gI_c fun g5 => ?_
      refine (s_iaload 33 mc_69 dX5_wrong_32 rfl).trans ?_
      refine aI_c fun g6 => ?_
      refine (s_goto 37 mc_69 dX5_wrong_33 rfl).trans ?_
      refine (s_putfI 40 mc_69 dX5_wrong_37 rfl mo_69 ff_5_28 rfl (Or.inl rfl)).trans ?_
      refine fI_c fun h4 => ?_
      refine (s_iconst 41 0 mc_69 dX5_wrong_40 rfl (by decide)).trans ?_
      exact s_zret0 mc_69 dX5_wrong_41 mt_69
/-- FiveLands$Reader.scan([II)V -/
theorem k_70 {X : Ctx} {d : Nat} (x0 : Nat) (x1 : Nat) (x2 : Int32) (h : Hp) : K X (d + 1) 70 [.ref x0, .ref x1, .int x2] h = aL X h x1 fun g1 => fI h 5 x0 7 0 fun h1 => sem (X, K X d) 70 22 [some (.ref x0), some (.ref x1), some (.int x2), some (.int (if 0 < (if g1 < x2 then g1 else x2) then (if g1 < x2 then g1 else x2) else 0)), some (.int 0), some (.int 0), none] [] h1 := by
  show sem (X, K X d) 70 0 [some (.ref x0), some (.ref x1), some (.int x2), none, none, none, none] [] h = _
  refine (s_iconst 1 0 mc_70 dX5_scan_0 rfl (by decide)).trans ?_
  refine (s_iload_n 2 mc_70 dX5_scan_1 rfl rfl rfl).trans ?_
  refine (s_aload_n 3 mc_70 dX5_scan_2 rfl rfl rfl).trans ?_
  refine (s_alen 4 mc_70 dX5_scan_3 rfl).trans ?_
  refine aL_c fun g1 => ?_
  refine (s_mmin 7 mc_70 dX5_scan_4 rfl mo_70 mm_5_224 (Nat.le_of_ble_eq_true rfl)).trans ?_
  refine (s_mmax 10 mc_70 dX5_scan_7 rfl mo_70 mm_5_230 (Nat.le_of_ble_eq_true rfl)).trans ?_
  refine (s_istore_n 11 mc_70 dX5_scan_10 rfl rfl (Nat.le_of_ble_eq_true rfl) rfl).trans ?_
  refine (s_aload_n 12 mc_70 dX5_scan_11 rfl rfl rfl).trans ?_
  refine (s_iconst 13 0 mc_70 dX5_scan_12 rfl (by decide)).trans ?_
  refine (s_putfI 16 mc_70 dX5_scan_13 rfl mo_70 ff_5_186 rfl (Or.inl rfl)).trans ?_
  refine fI_c fun h1 => ?_
  refine (s_iconst 17 0 mc_70 dX5_scan_16 rfl (by decide)).trans ?_
  refine (s_istore 19 mc_70 dX5_scan_17 rfl (Nat.le_of_ble_eq_true rfl) rfl).trans ?_
  refine (s_iconst 20 0 mc_70 dX5_scan_19 rfl (by decide)).trans ?_
  refine (s_istore 22 mc_70 dX5_scan_20 rfl (Nat.le_of_ble_eq_true rfl) rfl).trans ?_
  rfl
theorem b_70_22 {X : Ctx} {d : Nat} (x0 : Nat) (x1 : Nat) (v2 : Option Value) (x3 : Int32) (v4 : Option Value) (x5 : Int32) (v6 : Option Value)  (h : Hp) : sem (X, K X d) 70 22 [some (.ref x0), some (.ref x1), v2, some (.int x3), v4, some (.int x5), v6] [] h = if x3 ≤ x5 then gd (hS h x0 = (6, 0)) (bV (K X d 71 [.ref x0, .int 101, .int x3, .int 0] h) fun h1 => some (none, h1)) else aI X h x1 x5 fun g1 => bI (K X d 72 [.int g1] h) fun r2 h2 => if r2 = 0 then bI (K X d 73 [.int g1] h2) fun r3 h3 => if r3 = 0 then if g1 = 32 then sem (X, K X d) 70 22 [some (.ref x0), some (.ref x1), v2, some (.int x3), some (.int (x5 + 1)), some (.int (x5 + 1)), some (.int g1)] [] h3 else if g1 = 10 then sem (X, K X d) 70 22 [some (.ref x0), some (.ref x1), v2, some (.int x3), some (.int (x5 + 1)), some (.int (x5 + 1)), some (.int g1)] [] h3 else bI (K X d 74 [.int g1] h3) fun r4 h4 => if r4 = 0 then gd (hS h4 x0 = (6, 0)) (bV (K X d 71 [.ref x0, .int 102, .int x5, .int 0] h4) fun h5 => sem (X, K X d) 70 22 [some (.ref x0), some (.ref x1), v2, some (.int x3), some (.int (x5 + 1)), some (.int (x5 + 1)), some (.int g1)] [] h5) else gd (hS h4 x0 = (6, 0)) (bV (K X d 71 [.ref x0, .int g1, .int x5, .int 0] h4) fun h6 => sem (X, K X d) 70 22 [some (.ref x0), some (.ref x1), v2, some (.int x3), some (.int (x5 + 1)), some (.int (x5 + 1)), some (.int g1)] [] h6) else sem (X, K X d) 70 97 [some (.ref x0), some (.ref x1), v2, some (.int x3), some (.int (x5 + 1)), some (.int x5), some (.int g1)] [] h3 else sem (X, K X d) 70 48 [some (.ref x0), some (.ref x1), v2, some (.int x3), some (.int (x5 + 1)), some (.int x5), some (.int g1)] [] h2 := by
  refine (s_iload 24 mc_70 dX5_scan_22 rfl rfl).trans ?_
  refine (s_iload_n 25 mc_70 dX5_scan_24 rfl rfl rfl).trans ?_
  refine (s_icmp_ge 196 28 mc_70 dX5_scan_25 rfl rfl).trans ?_
  refine ite_c ?_ ?_
  · skip
    refine (s_aload_n 197 mc_70 dX5_scan_196 rfl rfl rfl).trans ?_
    refine (s_bipush 199 101 mc_70 dX5_scan_197 rfl (by decide)).trans ?_
    refine (s_iload_n 200 mc_70 dX5_scan_199 rfl rfl rfl).trans ?_
    refine (s_iconst 201 0 mc_70 dX5_scan_200 rfl (by decide)).trans ?_
    refine (s_iviV 204 mc_70 dX5_scan_201 rfl mo_70 mm_5_240 (by decide) ms_71 mi_71 mr_71 ma_71 mo_71 (by decide) (Nat.le_of_ble_eq_true rfl) rfl rfl (Nat.le_of_ble_eq_true rfl)).trans ?_
    refine gd_c ?_
    refine bV_c fun h1 => ?_
    exact s_vret mc_70 dX5_scan_204 mt_70
  · skip
    refine (s_aload_n 29 mc_70 dX5_scan_28 rfl rfl rfl).trans ?_
    refine (s_iload 31 mc_70 dX5_scan_29 rfl rfl).trans ?_
    refine (s_iaload 32 mc_70 dX5_scan_31 rfl).trans ?_
    refine aI_c fun g1 => ?_
    refine (s_istore 34 mc_70 dX5_scan_32 rfl (Nat.le_of_ble_eq_true rfl) rfl).trans ?_
    refine (s_iload 36 mc_70 dX5_scan_34 rfl rfl).trans ?_
    refine (s_iconst 37 1 mc_70 dX5_scan_36 rfl (by decide)).trans ?_
    refine (s_iadd 38 mc_70 dX5_scan_37 rfl).trans ?_
    refine (s_istore 40 mc_70 dX5_scan_38 rfl (Nat.le_of_ble_eq_true rfl) rfl).trans ?_
    refine (s_iload 42 mc_70 dX5_scan_40 rfl rfl).trans ?_
    refine (s_istI 45 mc_70 dX5_scan_42 rfl mo_70 mm_5_233 (by decide) ms_72 mr_72 ma_72 (Nat.le_of_ble_eq_true rfl) rfl rfl (Nat.le_of_ble_eq_true rfl)).trans ?_
    refine bI_c fun r2 h2 => ?_
    refine (s_if_eq 89 48 mc_70 dX5_scan_45 rfl rfl).trans ?_
    refine ite_c ?_ ?_
    · skip
      refine (s_iload 91 mc_70 dX5_scan_89 rfl rfl).trans ?_
      refine (s_istI 94 mc_70 dX5_scan_91 rfl mo_70 mm_5_243 (by decide) ms_73 mr_73 ma_73 (Nat.le_of_ble_eq_true rfl) rfl rfl (Nat.le_of_ble_eq_true rfl)).trans ?_
      refine bI_c fun r3 h3 => ?_
      refine (s_if_eq 153 97 mc_70 dX5_scan_94 rfl rfl).trans ?_
      refine ite_c ?_ ?_
      · skip
        refine (s_iload 155 mc_70 dX5_scan_153 rfl rfl).trans ?_
        refine (s_bipush 157 32 mc_70 dX5_scan_155 rfl (by decide)).trans ?_
        refine (s_icmp_eq 189 160 mc_70 dX5_scan_157 rfl rfl).trans ?_
        refine ite_c ?_ ?_
        · skip
          refine (s_iload 191 mc_70 dX5_scan_189 rfl rfl).trans ?_
          refine (s_istore 193 mc_70 dX5_scan_191 rfl (Nat.le_of_ble_eq_true rfl) rfl).trans ?_
          refine (s_goto 22 mc_70 dX5_scan_193 rfl).trans ?_
          rfl
        · skip
          refine (s_iload 162 mc_70 dX5_scan_160 rfl rfl).trans ?_
          refine (s_bipush 164 10 mc_70 dX5_scan_162 rfl (by decide)).trans ?_
          refine (s_icmp_eq 189 167 mc_70 dX5_scan_164 rfl rfl).trans ?_
          refine ite_c ?_ ?_
          · skip
            refine (s_iload 191 mc_70 dX5_scan_189 rfl rfl).trans ?_
            refine (s_istore 193 mc_70 dX5_scan_191 rfl (Nat.le_of_ble_eq_true rfl) rfl).trans ?_
            refine (s_goto 22 mc_70 dX5_scan_193 rfl).trans ?_
            rfl
          · skip
            refine (s_aload_n 168 mc_70 dX5_scan_167 rfl rfl rfl).trans ?_
            refine (s_iload 170 mc_70 dX5_scan_168 rfl rfl).trans ?_
            refine (s_istI 173 mc_70 dX5_scan_170 rfl mo_70 mm_5_249 (by decide) ms_74 mr_74 ma_74 (Nat.le_of_ble_eq_true rfl) rfl rfl (Nat.le_of_ble_eq_true rfl)).trans ?_
            refine bI_c fun r4 h4 => ?_
            refine (s_if_eq 181 176 mc_70 dX5_scan_173 rfl rfl).trans ?_
            refine ite_c ?_ ?_
            · skip
              refine (s_bipush 183 102 mc_70 dX5_scan_181 rfl (by decide)).trans ?_
              refine (s_iload 185 mc_70 dX5_scan_183 rfl rfl).trans ?_
              refine (s_iconst 186 0 mc_70 dX5_scan_185 rfl (by decide)).trans ?_
              refine (s_iviV 189 mc_70 dX5_scan_186 rfl mo_70 mm_5_240 (by decide) ms_71 mi_71 mr_71 ma_71 mo_71 (by decide) (Nat.le_of_ble_eq_true rfl) rfl rfl (Nat.le_of_ble_eq_true rfl)).trans ?_
              refine gd_c ?_
              refine bV_c fun h5 => ?_
              refine (s_iload 191 mc_70 dX5_scan_189 rfl rfl).trans ?_
              refine (s_istore 193 mc_70 dX5_scan_191 rfl (Nat.le_of_ble_eq_true rfl) rfl).trans ?_
              refine (s_goto 22 mc_70 dX5_scan_193 rfl).trans ?_
              rfl
            · skip
              refine (s_iload 178 mc_70 dX5_scan_176 rfl rfl).trans ?_
              refine (s_goto 183 mc_70 dX5_scan_178 rfl).trans ?_
              refine (s_iload 185 mc_70 dX5_scan_183 rfl rfl).trans ?_
              refine (s_iconst 186 0 mc_70 dX5_scan_185 rfl (by decide)).trans ?_
              refine (s_iviV 189 mc_70 dX5_scan_186 rfl mo_70 mm_5_240 (by decide) ms_71 mi_71 mr_71 ma_71 mo_71 (by decide) (Nat.le_of_ble_eq_true rfl) rfl rfl (Nat.le_of_ble_eq_true rfl)).trans ?_
              refine gd_c ?_
              refine bV_c fun h6 => ?_
              refine (s_iload 191 mc_70 dX5_scan_189 rfl rfl).trans ?_
              refine (s_istore 193 mc_70 dX5_scan_191 rfl (Nat.le_of_ble_eq_true rfl) rfl).trans ?_
              refine (s_goto 22 mc_70 dX5_scan_193 rfl).trans ?_
              rfl
      · skip
        rfl
    · skip
      rfl
theorem b_70_48 {X : Ctx} {d : Nat} (v0 : Option Value) (x1 : Nat) (v2 : Option Value) (x3 : Int32) (x4 : Int32) (v5 : Option Value) (v6 : Option Value)  (h : Hp) : sem (X, K X d) 70 48 [v0, some (.ref x1), v2, some (.int x3), some (.int x4), v5, v6] [] h = if x3 ≤ x4 then sem (X, K X d) 70 70 [v0, some (.ref x1), v2, some (.int x3), some (.int x4), v5, v6] [] h else aI X h x1 x4 fun g1 => bI (K X d 72 [.int g1] h) fun r2 h1 => if r2 = 0 then sem (X, K X d) 70 70 [v0, some (.ref x1), v2, some (.int x3), some (.int x4), v5, v6] [] h1 else sem (X, K X d) 70 48 [v0, some (.ref x1), v2, some (.int x3), some (.int (x4 + 1)), v5, v6] [] h1 := by
  refine (s_iload 50 mc_70 dX5_scan_48 rfl rfl).trans ?_
  refine (s_iload_n 51 mc_70 dX5_scan_50 rfl rfl rfl).trans ?_
  refine (s_icmp_ge 70 54 mc_70 dX5_scan_51 rfl rfl).trans ?_
  refine ite_c ?_ ?_
  · skip
    rfl
  · skip
    refine (s_aload_n 55 mc_70 dX5_scan_54 rfl rfl rfl).trans ?_
    refine (s_iload 57 mc_70 dX5_scan_55 rfl rfl).trans ?_
    refine (s_iaload 58 mc_70 dX5_scan_57 rfl).trans ?_
    refine aI_c fun g1 => ?_
    refine (s_istI 61 mc_70 dX5_scan_58 rfl mo_70 mm_5_233 (by decide) ms_72 mr_72 ma_72 (Nat.le_of_ble_eq_true rfl) rfl rfl (Nat.le_of_ble_eq_true rfl)).trans ?_
    refine bI_c fun r2 h1 => ?_
    refine (s_if_eq 70 64 mc_70 dX5_scan_61 rfl rfl).trans ?_
    refine ite_c ?_ ?_
    · skip
      rfl
    · skip
      refine (s_iinc 1 67 mc_70 dX5_scan_64 rfl rfl (Nat.le_of_ble_eq_true rfl) (by decide) rfl).trans ?_
      refine (s_goto 48 mc_70 dX5_scan_67 rfl).trans ?_
      rfl
theorem b_70_70 {X : Ctx} {d : Nat} (x0 : Nat) (x1 : Nat) (v2 : Option Value) (v3 : Option Value) (x4 : Int32) (x5 : Int32) (v6 : Option Value)  (h : Hp) : sem (X, K X d) 70 70 [some (.ref x0), some (.ref x1), v2, v3, some (.int x4), some (.int x5), v6] [] h = gd (hS h x0 = (6, 0)) (bI (K X d 76 [.ref x0, .ref x1, .int x5, .int x4] h) fun r1 h1 => gd (hS h1 x0 = (6, 0)) (bV (K X d 71 [.ref x0, .int r1, .int x5, .int 0] h1) fun h2 => sem (X, K X d) 70 22 [some (.ref x0), some (.ref x1), v2, v3, some (.int x4), some (.int x4), v6] [] h2)) := by
  refine (s_aload_n 71 mc_70 dX5_scan_70 rfl rfl rfl).trans ?_
  refine (s_aload_n 72 mc_70 dX5_scan_71 rfl rfl rfl).trans ?_
  refine (s_aload_n 73 mc_70 dX5_scan_72 rfl rfl rfl).trans ?_
  refine (s_iload 75 mc_70 dX5_scan_73 rfl rfl).trans ?_
  refine (s_iload 77 mc_70 dX5_scan_75 rfl rfl).trans ?_
  refine (s_iviI 80 mc_70 dX5_scan_77 rfl mo_70 mm_5_236 (by decide) ms_76 mi_76 mr_76 ma_76 mo_76 (by decide) (Nat.le_of_ble_eq_true rfl) rfl rfl (Nat.le_of_ble_eq_true rfl)).trans ?_
  refine gd_c ?_
  refine bI_c fun r1 h1 => ?_
  refine (s_iload 82 mc_70 dX5_scan_80 rfl rfl).trans ?_
  refine (s_iconst 83 0 mc_70 dX5_scan_82 rfl (by decide)).trans ?_
  refine (s_iviV 86 mc_70 dX5_scan_83 rfl mo_70 mm_5_240 (by decide) ms_71 mi_71 mr_71 ma_71 mo_71 (by decide) (Nat.le_of_ble_eq_true rfl) rfl rfl (Nat.le_of_ble_eq_true rfl)).trans ?_
  refine gd_c ?_
  refine bV_c fun h2 => ?_
  refine (s_goto 189 mc_70 dX5_scan_86 rfl).trans ?_
  refine (s_iload 191 mc_70 dX5_scan_189 rfl rfl).trans ?_
  refine (s_istore 193 mc_70 dX5_scan_191 rfl (Nat.le_of_ble_eq_true rfl) rfl).trans ?_
  refine (s_goto 22 mc_70 dX5_scan_193 rfl).trans ?_
  rfl
theorem b_70_97 {X : Ctx} {d : Nat} (v0 : Option Value) (x1 : Nat) (v2 : Option Value) (x3 : Int32) (x4 : Int32) (v5 : Option Value) (v6 : Option Value)  (h : Hp) : sem (X, K X d) 70 97 [v0, some (.ref x1), v2, some (.int x3), some (.int x4), v5, v6] [] h = if x3 ≤ x4 then sem (X, K X d) 70 119 [v0, some (.ref x1), v2, some (.int x3), some (.int x4), v5, v6] [] h else aI X h x1 x4 fun g1 => bI (K X d 73 [.int g1] h) fun r2 h1 => if r2 = 0 then sem (X, K X d) 70 119 [v0, some (.ref x1), v2, some (.int x3), some (.int x4), v5, v6] [] h1 else sem (X, K X d) 70 97 [v0, some (.ref x1), v2, some (.int x3), some (.int (x4 + 1)), v5, v6] [] h1 := by
  refine (s_iload 99 mc_70 dX5_scan_97 rfl rfl).trans ?_
  refine (s_iload_n 100 mc_70 dX5_scan_99 rfl rfl rfl).trans ?_
  refine (s_icmp_ge 119 103 mc_70 dX5_scan_100 rfl rfl).trans ?_
  refine ite_c ?_ ?_
  · skip
    rfl
  · skip
    refine (s_aload_n 104 mc_70 dX5_scan_103 rfl rfl rfl).trans ?_
    refine (s_iload 106 mc_70 dX5_scan_104 rfl rfl).trans ?_
    refine (s_iaload 107 mc_70 dX5_scan_106 rfl).trans ?_
    refine aI_c fun g1 => ?_
    refine (s_istI 110 mc_70 dX5_scan_107 rfl mo_70 mm_5_243 (by decide) ms_73 mr_73 ma_73 (Nat.le_of_ble_eq_true rfl) rfl rfl (Nat.le_of_ble_eq_true rfl)).trans ?_
    refine bI_c fun r2 h1 => ?_
    refine (s_if_eq 119 113 mc_70 dX5_scan_110 rfl rfl).trans ?_
    refine ite_c ?_ ?_
    · skip
      rfl
    · skip
      refine (s_iinc 1 116 mc_70 dX5_scan_113 rfl rfl (Nat.le_of_ble_eq_true rfl) (by decide) rfl).trans ?_
      refine (s_goto 97 mc_70 dX5_scan_116 rfl).trans ?_
      rfl
theorem b_70_119 {X : Ctx} {d : Nat} (x0 : Nat) (x1 : Nat) (v2 : Option Value) (v3 : Option Value) (x4 : Int32) (x5 : Int32) (v6 : Option Value)  (h : Hp) : sem (X, K X d) 70 119 [some (.ref x0), some (.ref x1), v2, v3, some (.int x4), some (.int x5), v6] [] h = if 6 < (x4 - x5) then bI (K X d 75 [.ref x1, .int x5, .int x4] h) fun r1 h1 => gd (hS h1 x0 = (6, 0)) (bV (K X d 71 [.ref x0, .int 102, .int x5, .int r1] h1) fun h2 => sem (X, K X d) 70 22 [some (.ref x0), some (.ref x1), v2, v3, some (.int x4), some (.int x4), v6] [] h2) else bI (K X d 75 [.ref x1, .int x5, .int x4] h) fun r2 h3 => gd (hS h3 x0 = (6, 0)) (bV (K X d 71 [.ref x0, .int 100, .int x5, .int r2] h3) fun h4 => sem (X, K X d) 70 22 [some (.ref x0), some (.ref x1), v2, v3, some (.int x4), some (.int x4), v6] [] h4) := by
  refine (s_aload_n 120 mc_70 dX5_scan_119 rfl rfl rfl).trans ?_
  refine (s_iload 122 mc_70 dX5_scan_120 rfl rfl).trans ?_
  refine (s_iload 124 mc_70 dX5_scan_122 rfl rfl).trans ?_
  refine (s_isub 125 mc_70 dX5_scan_124 rfl).trans ?_
  refine (s_bipush 127 6 mc_70 dX5_scan_125 rfl (by decide)).trans ?_
  refine (s_icmp_gt 135 130 mc_70 dX5_scan_127 rfl rfl).trans ?_
  refine ite_c ?_ ?_
  · skip
    refine (s_bipush 137 102 mc_70 dX5_scan_135 rfl (by decide)).trans ?_
    refine (s_iload 139 mc_70 dX5_scan_137 rfl rfl).trans ?_
    refine (s_aload_n 140 mc_70 dX5_scan_139 rfl rfl rfl).trans ?_
    refine (s_iload 142 mc_70 dX5_scan_140 rfl rfl).trans ?_
    refine (s_iload 144 mc_70 dX5_scan_142 rfl rfl).trans ?_
    refine (s_istI 147 mc_70 dX5_scan_144 rfl mo_70 mm_5_246 (by decide) ms_75 mr_75 ma_75 (Nat.le_of_ble_eq_true rfl) rfl rfl (Nat.le_of_ble_eq_true rfl)).trans ?_
    refine bI_c fun r1 h1 => ?_
    refine (s_iviV 150 mc_70 dX5_scan_147 rfl mo_70 mm_5_240 (by decide) ms_71 mi_71 mr_71 ma_71 mo_71 (by decide) (Nat.le_of_ble_eq_true rfl) rfl rfl (Nat.le_of_ble_eq_true rfl)).trans ?_
    refine gd_c ?_
    refine bV_c fun h2 => ?_
    refine (s_goto 189 mc_70 dX5_scan_150 rfl).trans ?_
    refine (s_iload 191 mc_70 dX5_scan_189 rfl rfl).trans ?_
    refine (s_istore 193 mc_70 dX5_scan_191 rfl (Nat.le_of_ble_eq_true rfl) rfl).trans ?_
    refine (s_goto 22 mc_70 dX5_scan_193 rfl).trans ?_
    rfl
  · skip
    refine (s_bipush 132 100 mc_70 dX5_scan_130 rfl (by decide)).trans ?_
    refine (s_goto 137 mc_70 dX5_scan_132 rfl).trans ?_
    refine (s_iload 139 mc_70 dX5_scan_137 rfl rfl).trans ?_
    refine (s_aload_n 140 mc_70 dX5_scan_139 rfl rfl rfl).trans ?_
    refine (s_iload 142 mc_70 dX5_scan_140 rfl rfl).trans ?_
    refine (s_iload 144 mc_70 dX5_scan_142 rfl rfl).trans ?_
    refine (s_istI 147 mc_70 dX5_scan_144 rfl mo_70 mm_5_246 (by decide) ms_75 mr_75 ma_75 (Nat.le_of_ble_eq_true rfl) rfl rfl (Nat.le_of_ble_eq_true rfl)).trans ?_
    refine bI_c fun r2 h3 => ?_
    refine (s_iviV 150 mc_70 dX5_scan_147 rfl mo_70 mm_5_240 (by decide) ms_71 mi_71 mr_71 ma_71 mo_71 (by decide) (Nat.le_of_ble_eq_true rfl) rfl rfl (Nat.le_of_ble_eq_true rfl)).trans ?_
    refine gd_c ?_
    refine bV_c fun h4 => ?_
    refine (s_goto 189 mc_70 dX5_scan_150 rfl).trans ?_
    refine (s_iload 191 mc_70 dX5_scan_189 rfl rfl).trans ?_
    refine (s_istore 193 mc_70 dX5_scan_191 rfl (Nat.le_of_ble_eq_true rfl) rfl).trans ?_
    refine (s_goto 22 mc_70 dX5_scan_193 rfl).trans ?_
    rfl
/-- FiveLands$Reader.addToken(III)V -/
theorem k_71 {X : Ctx} {d : Nat} (x0 : Nat) (x1 : Int32) (x2 : Int32) (x3 : Int32) (h : Hp) : K X (d + 1) 71 [.ref x0, .int x1, .int x2, .int x3] h = gI h 5 x0 7 fun g1 => gR h 5 x0 1 fun g2 => aL X h g2 fun g3 => if g3 ≤ g1 then some (none, h) else gR h 5 x0 1 fun g4 => gI h 5 x0 7 fun g5 => wI h g4 g5 x1 fun h1 => gR h1 5 x0 3 fun g6 => gI h1 5 x0 7 fun g7 => wI h1 g6 g7 x2 fun h2 => gR h2 5 x0 2 fun g8 => gI h2 5 x0 7 fun g9 => wI h2 g8 g9 x3 fun h3 => gI h3 5 x0 7 fun g10 => fI h3 5 x0 7 (g10 + 1) fun h4 => some (none, h4) := by
  show sem (X, K X d) 71 0 [some (.ref x0), some (.int x1), some (.int x2), some (.int x3)] [] h = _
  refine (s_aload_n 1 mc_71 dX5_addToken_0 rfl rfl rfl).trans ?_
  refine (s_getfI 4 mc_71 dX5_addToken_1 rfl mo_71 fs_5_186 ff_5_186 (Or.inl rfl)).trans ?_
  refine gI_c fun g1 => ?_
  refine (s_aload_n 5 mc_71 dX5_addToken_4 rfl rfl rfl).trans ?_
  refine (s_getfR 8 mc_71 dX5_addToken_5 rfl mo_71 fs_5_15 ff_5_15 rfl).trans ?_
  refine gR_c fun g2 => ?_
  refine (s_alen 9 mc_71 dX5_addToken_8 rfl).trans ?_
  refine aL_c fun g3 => ?_
  refine (s_icmp_ge 52 12 mc_71 dX5_addToken_9 rfl rfl).trans ?_
  refine ite_c ?_ ?_
  · skip
    exact s_vret mc_71 dX5_addToken_52 mt_71
  · skip
    refine (s_aload_n 13 mc_71 dX5_addToken_12 rfl rfl rfl).trans ?_
    refine (s_getfR 16 mc_71 dX5_addToken_13 rfl mo_71 fs_5_15 ff_5_15 rfl).trans ?_
    refine gR_c fun g4 => ?_
    refine (s_aload_n 17 mc_71 dX5_addToken_16 rfl rfl rfl).trans ?_
    refine (s_getfI 20 mc_71 dX5_addToken_17 rfl mo_71 fs_5_186 ff_5_186 (Or.inl rfl)).trans ?_
    refine gI_c fun g5 => ?_
    refine (s_iload_n 21 mc_71 dX5_addToken_20 rfl rfl rfl).trans ?_
    refine (s_iastore 22 mc_71 dX5_addToken_21 rfl).trans ?_
    refine wI_c fun h1 => ?_
    refine (s_aload_n 23 mc_71 dX5_addToken_22 rfl rfl rfl).trans ?_
    refine (s_getfR 26 mc_71 dX5_addToken_23 rfl mo_71 fs_5_22 ff_5_22 rfl).trans ?_
    refine gR_c fun g6 => ?_
    refine (s_aload_n 27 mc_71 dX5_addToken_26 rfl rfl rfl).trans ?_
    refine (s_getfI 30 mc_71 dX5_addToken_27 rfl mo_71 fs_5_186 ff_5_186 (Or.inl rfl)).trans ?_
    refine gI_c fun g7 => ?_
    refine (s_iload_n 31 mc_71 dX5_addToken_30 rfl rfl rfl).trans ?_
    refine (s_iastore 32 mc_71 dX5_addToken_31 rfl).trans ?_
    refine wI_c fun h2 => ?_
    refine (s_aload_n 33 mc_71 dX5_addToken_32 rfl rfl rfl).trans ?_
    refine (s_getfR 36 mc_71 dX5_addToken_33 rfl mo_71 fs_5_19 ff_5_19 rfl).trans ?_
    refine gR_c fun g8 => ?_
    refine (s_aload_n 37 mc_71 dX5_addToken_36 rfl rfl rfl).trans ?_
    refine (s_getfI 40 mc_71 dX5_addToken_37 rfl mo_71 fs_5_186 ff_5_186 (Or.inl rfl)).trans ?_
    refine gI_c fun g9 => ?_
    refine (s_iload_n 41 mc_71 dX5_addToken_40 rfl rfl rfl).trans ?_
    refine (s_iastore 42 mc_71 dX5_addToken_41 rfl).trans ?_
    refine wI_c fun h3 => ?_
    refine (s_aload_n 43 mc_71 dX5_addToken_42 rfl rfl rfl).trans ?_
    refine (s_dup 44 mc_71 dX5_addToken_43 rfl rfl).trans ?_
    refine (s_getfI 47 mc_71 dX5_addToken_44 rfl mo_71 fs_5_186 ff_5_186 (Or.inl rfl)).trans ?_
    refine gI_c fun g10 => ?_
    refine (s_iconst 48 1 mc_71 dX5_addToken_47 rfl (by decide)).trans ?_
    refine (s_iadd 49 mc_71 dX5_addToken_48 rfl).trans ?_
    refine (s_putfI 52 mc_71 dX5_addToken_49 rfl mo_71 ff_5_186 rfl (Or.inl rfl)).trans ?_
    refine fI_c fun h4 => ?_
    exact s_vret mc_71 dX5_addToken_52 mt_71
/-- FiveLands$Reader.isLetter(I)Z -/
theorem k_72 {X : Ctx} {d : Nat} (x0 : Int32) (h : Hp) : K X (d + 1) 72 [.int x0] h = if x0 < 97 then sem (X, K X d) 72 12 [some (.int x0)] [] h else if x0 ≤ 122 then some (some (.int 1), h) else sem (X, K X d) 72 12 [some (.int x0)] [] h := by
  show sem (X, K X d) 72 0 [some (.int x0)] [] h = _
  refine (s_iload_n 1 mc_72 dX5_isLetter_0 rfl rfl rfl).trans ?_
  refine (s_bipush 3 97 mc_72 dX5_isLetter_1 rfl (by decide)).trans ?_
  refine (s_icmp_lt 12 6 mc_72 dX5_isLetter_3 rfl rfl).trans ?_
  refine ite_c ?_ ?_
  · skip
    rfl
  · skip
    refine (s_iload_n 7 mc_72 dX5_isLetter_6 rfl rfl rfl).trans ?_
    refine (s_bipush 9 122 mc_72 dX5_isLetter_7 rfl (by decide)).trans ?_
    refine (s_icmp_le 24 12 mc_72 dX5_isLetter_9 rfl rfl).trans ?_
    refine ite_c ?_ ?_
    · skip
      refine (s_iconst 25 1 mc_72 dX5_isLetter_24 rfl (by decide)).trans ?_
      refine (s_goto 29 mc_72 dX5_isLetter_25 rfl).trans ?_
      exact s_zret1 mc_72 dX5_isLetter_29 mt_72
    · skip
      rfl
theorem b_72_12 {X : Ctx} {d : Nat} (x0 : Int32)  (h : Hp) : sem (X, K X d) 72 12 [some (.int x0)] [] h = if x0 < 65 then some (some (.int 0), h) else if 90 < x0 then some (some (.int 0), h) else some (some (.int 1), h) := by
  refine (s_iload_n 13 mc_72 dX5_isLetter_12 rfl rfl rfl).trans ?_
  refine (s_bipush 15 65 mc_72 dX5_isLetter_13 rfl (by decide)).trans ?_
  refine (s_icmp_lt 28 18 mc_72 dX5_isLetter_15 rfl rfl).trans ?_
  refine ite_c ?_ ?_
  · skip
    refine (s_iconst 29 0 mc_72 dX5_isLetter_28 rfl (by decide)).trans ?_
    exact s_zret0 mc_72 dX5_isLetter_29 mt_72
  · skip
    refine (s_iload_n 19 mc_72 dX5_isLetter_18 rfl rfl rfl).trans ?_
    refine (s_bipush 21 90 mc_72 dX5_isLetter_19 rfl (by decide)).trans ?_
    refine (s_icmp_gt 28 24 mc_72 dX5_isLetter_21 rfl rfl).trans ?_
    refine ite_c ?_ ?_
    · skip
      refine (s_iconst 29 0 mc_72 dX5_isLetter_28 rfl (by decide)).trans ?_
      exact s_zret0 mc_72 dX5_isLetter_29 mt_72
    · skip
      refine (s_iconst 25 1 mc_72 dX5_isLetter_24 rfl (by decide)).trans ?_
      refine (s_goto 29 mc_72 dX5_isLetter_25 rfl).trans ?_
      exact s_zret1 mc_72 dX5_isLetter_29 mt_72
/-- FiveLands$Reader.isDigit(I)Z -/
theorem k_73 {X : Ctx} {d : Nat} (x0 : Int32) (h : Hp) : K X (d + 1) 73 [.int x0] h = if x0 < 48 then some (some (.int 0), h) else if 57 < x0 then some (some (.int 0), h) else some (some (.int 1), h) := by
  show sem (X, K X d) 73 0 [some (.int x0)] [] h = _
  refine (s_iload_n 1 mc_73 dX5_isDigit_0 rfl rfl rfl).trans ?_
  refine (s_bipush 3 48 mc_73 dX5_isDigit_1 rfl (by decide)).trans ?_
  refine (s_icmp_lt 16 6 mc_73 dX5_isDigit_3 rfl rfl).trans ?_
  refine ite_c ?_ ?_
  · skip
    refine (s_iconst 17 0 mc_73 dX5_isDigit_16 rfl (by decide)).trans ?_
    exact s_zret0 mc_73 dX5_isDigit_17 mt_73
  · skip
    refine (s_iload_n 7 mc_73 dX5_isDigit_6 rfl rfl rfl).trans ?_
    refine (s_bipush 9 57 mc_73 dX5_isDigit_7 rfl (by decide)).trans ?_
    refine (s_icmp_gt 16 12 mc_73 dX5_isDigit_9 rfl rfl).trans ?_
    refine ite_c ?_ ?_
    · skip
      refine (s_iconst 17 0 mc_73 dX5_isDigit_16 rfl (by decide)).trans ?_
      exact s_zret0 mc_73 dX5_isDigit_17 mt_73
    · skip
      refine (s_iconst 13 1 mc_73 dX5_isDigit_12 rfl (by decide)).trans ?_
      refine (s_goto 17 mc_73 dX5_isDigit_13 rfl).trans ?_
      exact s_zret1 mc_73 dX5_isDigit_17 mt_73
/-- FiveLands$Reader.isSign(I)Z -/
theorem k_74 {X : Ctx} {d : Nat} (x0 : Int32) (h : Hp) : K X (d + 1) 74 [.int x0] h = if x0 < 40 then sem (X, K X d) 74 12 [some (.int x0)] [] h else if x0 ≤ 43 then some (some (.int 1), h) else sem (X, K X d) 74 12 [some (.int x0)] [] h := by
  show sem (X, K X d) 74 0 [some (.int x0)] [] h = _
  refine (s_iload_n 1 mc_74 dX5_isSign_0 rfl rfl rfl).trans ?_
  refine (s_bipush 3 40 mc_74 dX5_isSign_1 rfl (by decide)).trans ?_
  refine (s_icmp_lt 12 6 mc_74 dX5_isSign_3 rfl rfl).trans ?_
  refine ite_c ?_ ?_
  · skip
    rfl
  · skip
    refine (s_iload_n 7 mc_74 dX5_isSign_6 rfl rfl rfl).trans ?_
    refine (s_bipush 9 43 mc_74 dX5_isSign_7 rfl (by decide)).trans ?_
    refine (s_icmp_le 36 12 mc_74 dX5_isSign_9 rfl rfl).trans ?_
    refine ite_c ?_ ?_
    · skip
      refine (s_iconst 37 1 mc_74 dX5_isSign_36 rfl (by decide)).trans ?_
      refine (s_goto 41 mc_74 dX5_isSign_37 rfl).trans ?_
      exact s_zret1 mc_74 dX5_isSign_41 mt_74
    · skip
      rfl
theorem b_74_12 {X : Ctx} {d : Nat} (x0 : Int32)  (h : Hp) : sem (X, K X d) 74 12 [some (.int x0)] [] h = if x0 = 45 then some (some (.int 1), h) else if x0 = 47 then some (some (.int 1), h) else if x0 < 59 then some (some (.int 0), h) else if 62 < x0 then some (some (.int 0), h) else some (some (.int 1), h) := by
  refine (s_iload_n 13 mc_74 dX5_isSign_12 rfl rfl rfl).trans ?_
  refine (s_bipush 15 45 mc_74 dX5_isSign_13 rfl (by decide)).trans ?_
  refine (s_icmp_eq 36 18 mc_74 dX5_isSign_15 rfl rfl).trans ?_
  refine ite_c ?_ ?_
  · skip
    refine (s_iconst 37 1 mc_74 dX5_isSign_36 rfl (by decide)).trans ?_
    refine (s_goto 41 mc_74 dX5_isSign_37 rfl).trans ?_
    exact s_zret1 mc_74 dX5_isSign_41 mt_74
  · skip
    refine (s_iload_n 19 mc_74 dX5_isSign_18 rfl rfl rfl).trans ?_
    refine (s_bipush 21 47 mc_74 dX5_isSign_19 rfl (by decide)).trans ?_
    refine (s_icmp_eq 36 24 mc_74 dX5_isSign_21 rfl rfl).trans ?_
    refine ite_c ?_ ?_
    · skip
      refine (s_iconst 37 1 mc_74 dX5_isSign_36 rfl (by decide)).trans ?_
      refine (s_goto 41 mc_74 dX5_isSign_37 rfl).trans ?_
      exact s_zret1 mc_74 dX5_isSign_41 mt_74
    · skip
      refine (s_iload_n 25 mc_74 dX5_isSign_24 rfl rfl rfl).trans ?_
      refine (s_bipush 27 59 mc_74 dX5_isSign_25 rfl (by decide)).trans ?_
      refine (s_icmp_lt 40 30 mc_74 dX5_isSign_27 rfl rfl).trans ?_
      refine ite_c ?_ ?_
      · skip
        refine (s_iconst 41 0 mc_74 dX5_isSign_40 rfl (by decide)).trans ?_
        exact s_zret0 mc_74 dX5_isSign_41 mt_74
      · skip
        refine (s_iload_n 31 mc_74 dX5_isSign_30 rfl rfl rfl).trans ?_
        refine (s_bipush 33 62 mc_74 dX5_isSign_31 rfl (by decide)).trans ?_
        refine (s_icmp_gt 40 36 mc_74 dX5_isSign_33 rfl rfl).trans ?_
        refine ite_c ?_ ?_
        · skip
          refine (s_iconst 41 0 mc_74 dX5_isSign_40 rfl (by decide)).trans ?_
          exact s_zret0 mc_74 dX5_isSign_41 mt_74
        · skip
          refine (s_iconst 37 1 mc_74 dX5_isSign_36 rfl (by decide)).trans ?_
          refine (s_goto 41 mc_74 dX5_isSign_37 rfl).trans ?_
          exact s_zret1 mc_74 dX5_isSign_41 mt_74
/-- FiveLands$Reader.number([III)I -/
theorem k_75 {X : Ctx} {d : Nat} (x0 : Nat) (x1 : Int32) (x2 : Int32) (h : Hp) : K X (d + 1) 75 [.ref x0, .int x1, .int x2] h = sem (X, K X d) 75 5 [some (.ref x0), some (.int x1), some (.int x2), some (.int 0), some (.int x1)] [] h := by
  show sem (X, K X d) 75 0 [some (.ref x0), some (.int x1), some (.int x2), none, none] [] h = _
  refine (s_iconst 1 0 mc_75 dX5_number_0 rfl (by decide)).trans ?_
  refine (s_istore_n 2 mc_75 dX5_number_1 rfl rfl (Nat.le_of_ble_eq_true rfl) rfl).trans ?_
  refine (s_iload_n 3 mc_75 dX5_number_2 rfl rfl rfl).trans ?_
  refine (s_istore 5 mc_75 dX5_number_3 rfl (Nat.le_of_ble_eq_true rfl) rfl).trans ?_
  rfl
theorem b_75_5 {X : Ctx} {d : Nat} (x0 : Nat) (v1 : Option Value) (x2 : Int32) (x3 : Int32) (x4 : Int32)  (h : Hp) : sem (X, K X d) 75 5 [some (.ref x0), v1, some (.int x2), some (.int x3), some (.int x4)] [] h = if x2 ≤ x4 then some (some (.int x3), h) else aL X h x0 fun g1 => if g1 ≤ x4 then some (some (.int x3), h) else aI X h x0 x4 fun g2 => sem (X, K X d) 75 5 [some (.ref x0), v1, some (.int x2), some (.int (((x3 * 10) + g2) - 48)), some (.int (x4 + 1))] [] h := by
  refine (s_iload 7 mc_75 dX5_number_5 rfl rfl).trans ?_
  refine (s_iload_n 8 mc_75 dX5_number_7 rfl rfl rfl).trans ?_
  refine (s_icmp_ge 37 11 mc_75 dX5_number_8 rfl rfl).trans ?_
  refine ite_c ?_ ?_
  · skip
    refine (s_iload_n 38 mc_75 dX5_number_37 rfl rfl rfl).trans ?_
    exact s_iret mc_75 dX5_number_38 mt_75
  · skip
    refine (s_iload 13 mc_75 dX5_number_11 rfl rfl).trans ?_
    refine (s_aload_n 14 mc_75 dX5_number_13 rfl rfl rfl).trans ?_
    refine (s_alen 15 mc_75 dX5_number_14 rfl).trans ?_
    refine aL_c fun g1 => ?_
    refine (s_icmp_ge 37 18 mc_75 dX5_number_15 rfl rfl).trans ?_
    refine ite_c ?_ ?_
    · skip
      refine (s_iload_n 38 mc_75 dX5_number_37 rfl rfl rfl).trans ?_
      exact s_iret mc_75 dX5_number_38 mt_75
    · skip
      refine (s_iload_n 19 mc_75 dX5_number_18 rfl rfl rfl).trans ?_
      refine (s_bipush 21 10 mc_75 dX5_number_19 rfl (by decide)).trans ?_
      refine (s_imul 22 mc_75 dX5_number_21 rfl).trans ?_
      refine (s_aload_n 23 mc_75 dX5_number_22 rfl rfl rfl).trans ?_
      refine (s_iload 25 mc_75 dX5_number_23 rfl rfl).trans ?_
      refine (s_iaload 26 mc_75 dX5_number_25 rfl).trans ?_
      refine aI_c fun g2 => ?_
      refine (s_iadd 27 mc_75 dX5_number_26 rfl).trans ?_
      refine (s_bipush 29 48 mc_75 dX5_number_27 rfl (by decide)).trans ?_
      refine (s_isub 30 mc_75 dX5_number_29 rfl).trans ?_
      refine (s_istore_n 31 mc_75 dX5_number_30 rfl rfl (Nat.le_of_ble_eq_true rfl) rfl).trans ?_
      refine (s_iinc 1 34 mc_75 dX5_number_31 rfl rfl (Nat.le_of_ble_eq_true rfl) (by decide) rfl).trans ?_
      refine (s_goto 5 mc_75 dX5_number_34 rfl).trans ?_
      rfl
/-- FiveLands$Reader.keyword([III)I -/
theorem k_76 {X : Ctx} {d : Nat} (x0 : Nat) (x1 : Nat) (x2 : Int32) (x3 : Int32) (h : Hp) : K X (d + 1) 76 [.ref x0, .ref x1, .int x2, .int x3] h = if (x3 - x2) ≤ 7 then sem (X, K X d) 76 17 [some (.ref x0), some (.ref x1), some (.int x2), some (.int x3), some (.long 0), none, some (.int x2)] [] h else some (some (.int 102), h) := by
  show sem (X, K X d) 76 0 [some (.ref x0), some (.ref x1), some (.int x2), some (.int x3), none, none, none] [] h = _
  refine (s_iload_n 1 mc_76 dX5_keyword_0 rfl rfl rfl).trans ?_
  refine (s_iload_n 2 mc_76 dX5_keyword_1 rfl rfl rfl).trans ?_
  refine (s_isub 3 mc_76 dX5_keyword_2 rfl).trans ?_
  refine (s_bipush 5 7 mc_76 dX5_keyword_3 rfl (by decide)).trans ?_
  refine (s_icmp_le 11 8 mc_76 dX5_keyword_5 rfl rfl).trans ?_
  refine ite_c ?_ ?_
  · skip
    refine (s_lconst 12 0 mc_76 dX5_keyword_11 rfl (by decide)).trans ?_
    refine (s_lstore 14 mc_76 dX5_keyword_12 rfl (Nat.le_of_ble_eq_true rfl) rfl).trans ?_
    refine (s_iload_n 15 mc_76 dX5_keyword_14 rfl rfl rfl).trans ?_
    refine (s_istore 17 mc_76 dX5_keyword_15 rfl (Nat.le_of_ble_eq_true rfl) rfl).trans ?_
    rfl
  · skip
    refine (s_bipush 10 102 mc_76 dX5_keyword_8 rfl (by decide)).trans ?_
    exact s_iret mc_76 dX5_keyword_10 mt_76
theorem b_76_17 {X : Ctx} {d : Nat} (v0 : Option Value) (x1 : Nat) (v2 : Option Value) (x3 : Int32) (x4 : Int64) (x6 : Int32)  (h : Hp) : sem (X, K X d) 76 17 [v0, some (.ref x1), v2, some (.int x3), some (.long x4), none, some (.int x6)] [] h = if x3 ≤ x6 then sem (X, K X d) 76 52 [v0, some (.ref x1), v2, some (.int x3), some (.long x4), none, some (.int 0)] [] h else aL X h x1 fun g1 => if g1 ≤ x6 then sem (X, K X d) 76 52 [v0, some (.ref x1), v2, some (.int x3), some (.long x4), none, some (.int 0)] [] h else aI X h x1 x6 fun g2 => sem (X, K X d) 76 17 [v0, some (.ref x1), v2, some (.int x3), some (.long ((x4 <<< ((8 : Int32).toInt64 &&& 63)) ||| (g2 : Int32).toInt64)), none, some (.int (x6 + 1))] [] h := by
  refine (s_iload 19 mc_76 dX5_keyword_17 rfl rfl).trans ?_
  refine (s_iload_n 20 mc_76 dX5_keyword_19 rfl rfl rfl).trans ?_
  refine (s_icmp_ge 49 23 mc_76 dX5_keyword_20 rfl rfl).trans ?_
  refine ite_c ?_ ?_
  · skip
    refine (s_iconst 50 0 mc_76 dX5_keyword_49 rfl (by decide)).trans ?_
    refine (s_istore 52 mc_76 dX5_keyword_50 rfl (Nat.le_of_ble_eq_true rfl) rfl).trans ?_
    rfl
  · skip
    refine (s_iload 25 mc_76 dX5_keyword_23 rfl rfl).trans ?_
    refine (s_aload_n 26 mc_76 dX5_keyword_25 rfl rfl rfl).trans ?_
    refine (s_alen 27 mc_76 dX5_keyword_26 rfl).trans ?_
    refine aL_c fun g1 => ?_
    refine (s_icmp_ge 49 30 mc_76 dX5_keyword_27 rfl rfl).trans ?_
    refine ite_c ?_ ?_
    · skip
      refine (s_iconst 50 0 mc_76 dX5_keyword_49 rfl (by decide)).trans ?_
      refine (s_istore 52 mc_76 dX5_keyword_50 rfl (Nat.le_of_ble_eq_true rfl) rfl).trans ?_
      rfl
    · skip
      refine (s_lload 32 mc_76 dX5_keyword_30 rfl rfl rfl).trans ?_
      refine (s_bipush 34 8 mc_76 dX5_keyword_32 rfl (by decide)).trans ?_
      refine (s_lshl 35 mc_76 dX5_keyword_34 rfl).trans ?_
      refine (s_aload_n 36 mc_76 dX5_keyword_35 rfl rfl rfl).trans ?_
      refine (s_iload 38 mc_76 dX5_keyword_36 rfl rfl).trans ?_
      refine (s_iaload 39 mc_76 dX5_keyword_38 rfl).trans ?_
      refine aI_c fun g2 => ?_
      refine (s_i2l 40 mc_76 dX5_keyword_39 rfl).trans ?_
      refine (s_lor 41 mc_76 dX5_keyword_40 rfl).trans ?_
      refine (s_lstore 43 mc_76 dX5_keyword_41 rfl (Nat.le_of_ble_eq_true rfl) rfl).trans ?_
      refine (s_iinc 1 46 mc_76 dX5_keyword_43 rfl rfl (Nat.le_of_ble_eq_true rfl) (by decide) rfl).trans ?_
      refine (s_goto 17 mc_76 dX5_keyword_46 rfl).trans ?_
      rfl
theorem b_76_52 {X : Ctx} {d : Nat} (x0 : Nat) (v1 : Option Value) (v2 : Option Value) (v3 : Option Value) (x4 : Int64) (x6 : Int32)  (h : Hp) : sem (X, K X d) 76 52 [some (.ref x0), v1, v2, v3, some (.long x4), none, some (.int x6)] [] h = if 29 ≤ x6 then some (some (.int 102), h) else gR h 5 x0 0 fun g1 => aJ h g1 x6 fun g2 => if ¬ (lg_cmp g2 x4) = 0 then sem (X, K X d) 76 52 [some (.ref x0), v1, v2, v3, some (.long x4), none, some (.int (x6 + 1))] [] h else some (some (.int x6), h) := by
  refine (s_iload 54 mc_76 dX5_keyword_52 rfl rfl).trans ?_
  refine (s_bipush 56 29 mc_76 dX5_keyword_54 rfl (by decide)).trans ?_
  refine (s_icmp_ge 81 59 mc_76 dX5_keyword_56 rfl rfl).trans ?_
  refine ite_c ?_ ?_
  · skip
    refine (s_bipush 83 102 mc_76 dX5_keyword_81 rfl (by decide)).trans ?_
    exact s_iret mc_76 dX5_keyword_83 mt_76
  · skip
    refine (s_aload_n 60 mc_76 dX5_keyword_59 rfl rfl rfl).trans ?_
    refine (s_getfR 63 mc_76 dX5_keyword_60 rfl mo_76 fs_5_9 ff_5_9 rfl).trans ?_
    refine gR_c fun g1 => ?_
    refine (s_iload 65 mc_76 dX5_keyword_63 rfl rfl).trans ?_
    refine (s_laload 66 mc_76 dX5_keyword_65 rfl).trans ?_
    refine aJ_c fun g2 => ?_
    refine (s_lload 68 mc_76 dX5_keyword_66 rfl rfl rfl).trans ?_
    refine (s_lcmp 69 mc_76 dX5_keyword_68 rfl).trans ?_
    refine (s_if_ne 75 72 mc_76 dX5_keyword_69 rfl rfl).trans ?_
    refine ite_c ?_ ?_
    · skip
      refine (s_iinc 1 78 mc_76 dX5_keyword_75 rfl rfl (Nat.le_of_ble_eq_true rfl) (by decide) rfl).trans ?_
      refine (s_goto 52 mc_76 dX5_keyword_78 rfl).trans ?_
      rfl
    · skip
      refine (s_iload 74 mc_76 dX5_keyword_72 rfl rfl).trans ?_
      exact s_iret mc_76 dX5_keyword_74 mt_76
