/-! THE TABLES HOLD: each link is a word of lw_tbl at its place -/
def mAux : List (Nat × Nat × Nat) := [(1227, 0, 1006), (1065, 0, 1004), (3106, 3107, 1004), (3166, 3167, 1004), (3201, 3202, 1004), (3225, 3226, 1004), (4075, 4076, 1004), (4160, 4161, 1004), (4096, 4097, 1004), (4080, 34, 1004), (4083, 0, 1004), (1033, 0, 1002), (4061, 4062, 1002), (4057, 4058, 1002), (4088, 35, 1002), (4092, 4093, 1002), (4106, 4107, 1002), (4111, 36, 1002), (4138, 4139, 1002), (4142, 4143, 1002), (4217, 4218, 1002), (4146, 4147, 1002), (4151, 37, 1002), (4156, 38, 1002), (4173, 39, 1002), (4177, 40, 1002), (4206, 45, 1002), (4226, 4227, 1002), (5102, 5103, 1002), (2175, 0, 1014), (2180, 0, 1014), (5080, 5081, 1014), (4013, 4014, 1014), (5085, 5086, 1014), (4166, 4167, 1014), (1179, 0, 1005), (5053, 5054, 1005), (2013, 0, 1007), (3098, 3099, 1007), (3102, 3103, 1007), (4000, 4001, 1007), (3143, 6, 1007), (3151, 8, 1007), (3206, 19, 1007), (3214, 21, 1007), (3218, 22, 1007), (3230, 24, 1007), (3233, 0, 1007), (4006, 26, 1007), (4010, 27, 1007), (4018, 28, 1007), (4029, 30, 1007), (4033, 31, 1007), (3155, 9, 1007), (3198, 18, 1007), (3186, 15, 1007), (3182, 14, 1007), (3190, 16, 1007), (3194, 17, 1007), (3178, 0, 1007), (3159, 10, 1007), (3171, 12, 1007), (3163, 11, 1007), (3175, 13, 1007), (3222, 23, 1007), (3210, 20, 1007), (4022, 29, 1007), (3237, 25, 1007), (3139, 5, 1007), (3147, 7, 1007), (3111, 2, 1007), (3126, 4, 1007), (3118, 0, 1007), (3129, 0, 1007), (3135, 0, 1007), (3132, 0, 1007), (3122, 3, 1007), (1043, 0, 1003), (4183, 4184, 1003), (4188, 41, 1003), (4193, 42, 1003), (4197, 43, 1003), (4202, 44, 1003), (4209, 4210, 1003), (2117, 0, 1012), (5003, 5004, 1012), (5008, 5009, 1012), (3065, 3066, 1012), (4065, 4066, 1012), (4071, 33, 1012), (2146, 0, 1013), (2215, 0, 1015), (4134, 4135, 1015), (3058, 3059, 1015), (5036, 5037, 1015), (4053, 4054, 1015), (1023, 0, 1001), (3045, 3046, 1001), (3069, 3070, 1001), (3073, 3074, 1001), (3077, 3078, 1001), (3082, 3083, 1001), (3087, 1, 1001), (3090, 3091, 1001), (3094, 3095, 1001), (4041, 4042, 1001), (4045, 4046, 1001), (4115, 0, 1001), (4118, 4119, 1001), (4123, 4124, 1001), (4130, 4131, 1001), (4213, 4214, 1001), (4223, 46, 1001), (4230, 4231, 1001), (4235, 47, 1001), (5000, 48, 1001), (5016, 5017, 1001), (5021, 49, 1001), (5024, 5025, 1001), (5028, 5029, 1001), (5033, 50, 1001), (5041, 5042, 1001), (5045, 5046, 1001), (5050, 51, 1001), (5058, 5059, 1001), (5062, 5063, 1001), (5073, 52, 1001), (5073, 52, 1001), (5091, 54, 1001), (5077, 53, 1001), (5094, 5095, 1001), (5099, 55, 1001), (5107, 5108, 1001), (5111, 5112, 1001), (5116, 56, 1001), (5119, 5120, 1001), (4050, 32, 1001), (3049, 0, 1001), (3055, 0, 1001), (3052, 0, 1001), (4025, 0, 1001), (4036, 0, 1001), (6169, 0, 1016), (6166, 0, 1016), (6172, 0, 1016), (8043, 0, 1016), (5125, 0, 1016), (6162, 6163, 1016), (6175, 6176, 1016), (6179, 6180, 1016), (6183, 6184, 1016), (6188, 6189, 1016), (6192, 6193, 1016), (6209, 60, 1016), (6212, 0, 1016), (7018, 0, 1016), (6221, 62, 1016), (7001, 63, 1016), (6216, 61, 1016), (6205, 59, 1016), (7026, 65, 1016), (7046, 70, 1016), (7038, 68, 1016), (7070, 76, 1016), (7086, 80, 1016), (7058, 73, 1016), (7062, 74, 1016), (7066, 75, 1016), (7074, 77, 1016), (7078, 78, 1016), (7082, 79, 1016), (7034, 67, 1016), (7054, 72, 1016), (7090, 81, 1016), (7042, 69, 1016), (7050, 71, 1016), (7030, 66, 1016), (7022, 64, 1016), (6201, 58, 1016), (5130, 57, 1016), (7098, 83, 1016), (7094, 82, 1016), (6196, 6197, 1016), (7101, 7102, 1016), (7141, 0, 1016), (7138, 91, 1016), (7156, 0, 1016), (7118, 86, 1016), (7114, 85, 1016), (7110, 84, 1016), (7134, 90, 1016), (7130, 89, 1016), (7126, 88, 1016), (7160, 95, 1016), (7153, 94, 1016), (7149, 93, 1016), (7145, 92, 1016), (7122, 87, 1016), (7105, 7106, 1016), (7163, 7164, 1016), (7173, 96, 1016), (7167, 7168, 1016), (7194, 100, 1016), (7198, 101, 1016), (7190, 99, 1016), (7202, 102, 1016), (7206, 103, 1016), (7186, 98, 1016), (7214, 105, 1016), (7218, 106, 1016), (7226, 108, 1016), (7222, 107, 1016), (7210, 104, 1016), (7182, 97, 1016), (7177, 7178, 1016), (7234, 109, 1016), (7229, 7230, 1016), (7237, 7238, 1016), (8002, 8003, 1016), (8006, 8007, 1016), (8015, 110, 1016), (8010, 8011, 1016), (8018, 8019, 1016), (8032, 112, 1016), (8027, 111, 1016), (8022, 8023, 1016), (8035, 8036, 1016), (8047, 113, 1016), (8039, 8040, 1016), (8055, 114, 1016), (8050, 8051, 1016), (8058, 8059, 1016), (8062, 8063, 1016), (8069, 8070, 1016), (5066, 0, 1019), (5013, 0, 1017), (3062, 0, 1017), (4100, 0, 1017), (3114, 0, 1017), (4103, 0, 1017), (2018, 2019, 1008), (2028, 2029, 1008), (2022, 2023, 1008), (2032, 2033, 1008), (2039, 0, 1008), (2036, 0, 1009), (2044, 0, 1010)]
def layL : List (List Nat) := [[1239, 2001, 2003, 2005, 2007], [1086, 1088, 1090, 1092, 1094, 1096, 1098, 1100, 1102, 1104, 1106, 1108], [1137, 1139, 1141, 1143, 1145, 1147, 1149, 1151, 1153, 1155, 1157, 1159, 1161, 1163, 1165, 1167, 1169, 1171], [2198, 2200, 2202, 2204, 2206, 2208, 2210], [1201, 1203, 1205, 1207, 1209, 1211, 1213, 1215, 1217, 1219, 1221], [2082, 2084, 2086, 2088, 2090, 2092, 2094, 2096, 2098, 2100, 2102, 2104, 2106, 2108, 2110], [1052, 1054, 1056, 1058], [2132, 2134, 2136, 2138, 2140], [2160, 2162, 2164, 2166, 2168], [2232, 2234, 2236, 2238], [3015, 3019, 3021, 3023, 3025, 3027, 3029, 3031, 3017, 3033, 3035, 3037, 3039, 3041], [5221, 5223, 5225, 5227, 5229, 5231, 5233, 5235, 5237, 5239, 6001, 6003, 6005, 6007, 6009, 6011, 6013, 6015, 6017, 6019, 6021, 6023, 6025, 6027, 6029, 6031, 6033, 6035, 6037, 6039, 6041, 6043, 6045, 6047, 6049, 6051, 6053, 6055, 6057, 6059, 6061, 6063, 6065, 6067, 6069, 6071, 6073, 6075, 6077, 6079, 6081, 6083, 6085, 6087, 6089, 6091, 6093, 6095, 6097, 6099, 6101, 6103, 6105, 6107, 6109, 6111, 6113, 6115, 6117, 6119, 6121, 6123, 6125, 6127, 6129, 6131, 6133, 6135, 6137, 6139, 6141, 6143, 6145, 6147, 6149, 6151, 6153, 6155, 6157]]
def nInst : List Nat := [1225, 1063, 1031, 2173, 1177, 2011, 1041, 2115, 2144, 2213, 1021, 5123]
def nIni : List Nat := [1006, 1004, 1002, 1014, 1005, 1007, 1003, 1012, 1013, 1015, 1001, 1016, 1000, 1019, 1017, 1008, 1009, 1018, 1010]
def fT (ci : Nat) : u_T := match vwCl[ci]? with
  | some r => r.2.1
  | none => fun _ => ("", "", "", true)
def tyF (ci : Nat) : Nat → FieldType := match ci with
  | 0 => tyX0
  | 1 => tyX1
  | 2 => tyX2
  | 3 => tyX3
  | 4 => tyX4
  | 5 => tyX5
  | 6 => tyX6
  | 7 => tyX7
  | 8 => tyX8
  | 9 => tyX9
  | 10 => tyX10
  | _ => tyX11
def lw_good : List Cond := lw_tbl.filter goodWord
def lwC (j : Nat) : List Cond := match j with
  | 0 => k2_sels lw_privs
  | 1 => tables_1_1
  | 2 => tables_1_2
  | 3 => tables_1_3
  | 4 => tables_1_4
  | 5 => tables_1_5
  | 6 => tables_1_6
  | 7 => tables_1_7
  | 8 => tables_1_8
  | _ => []
/-- place p of the words: chunk p / 1000, there p % 1000 -/
def isW0 (p : Nat) (w : Cond) : Bool := decide ((lwC (p / 1000))[p % 1000]? = some w)
def isW (p : Nat) (w : Cond) : Bool := isW0 p w && goodWord w
theorem lwC_in (j : Nat) : ∀ w ∈ lwC j, w ∈ lw_tbl := by
  intro w hw
  unfold lw_tbl tables_1
  simp only [List.mem_append]
  match j, hw with
  | 0, hw => exact Or.inl hw
  | 1, hw => exact Or.inr (Or.inl hw)
  | 2, hw => exact Or.inr (Or.inr (Or.inl hw))
  | 3, hw => exact Or.inr (Or.inr (Or.inr (Or.inl hw)))
  | 4, hw => exact Or.inr (Or.inr (Or.inr (Or.inr (Or.inl hw))))
  | 5, hw => exact Or.inr (Or.inr (Or.inr (Or.inr (Or.inr (Or.inl hw)))))
  | 6, hw => exact Or.inr (Or.inr (Or.inr (Or.inr (Or.inr (Or.inr (Or.inl hw))))))
  | 7, hw => exact Or.inr (Or.inr (Or.inr (Or.inr (Or.inr (Or.inr (Or.inr (Or.inl hw)))))))
  | 8, hw => exact Or.inr (Or.inr (Or.inr (Or.inr (Or.inr (Or.inr (Or.inr (Or.inr (hw))))))))
  | n + 9, hw => cases hw
theorem isW0_in {p : Nat} {w : Cond} (h : isW0 p w = true) : w ∈ lw_tbl := lwC_in _ _ (List.mem_of_getElem? (of_decide_eq_true h))
theorem isW_in {p : Nat} {w : Cond} (h : isW p w = true) : w ∈ lw_good := by
  obtain ⟨h1, h2⟩ := Bool.and_eq_true_iff.mp h
  exact List.mem_filter.mpr ⟨isW0_in h1, h2⟩
theorem lookup_in {β : Type} {i : Nat} {v : β} : ∀ {l : List (Nat × β)}, l.lookup i = some v → (i, v) ∈ l
  | [], h => by cases h
  | (j, w) :: l, h => by
    rw [List.lookup_cons] at h
    by_cases e : i = j
    · subst e
      simp only [beq_self_eq_true, if_true] at h
      cases h
      exact List.mem_cons_self
    · have e2 : (i == j) = false := beq_eq_false_iff_ne.mpr e
      rw [e2] at h
      exact List.mem_cons_of_mem _ (lookup_in h)
theorem tab_in {β : Type} {T : List (List (Nat × β))} {own i : Nat} {v : β} {f : Nat → Nat × β → Bool} (hc : (List.range 19).all (fun o => (T.getD o []).all (f o)) = true) (hn : T.length = 19) (h : (T.getD own []).lookup i = some v) : own < 19 ∧ f own (i, v) = true := by
  have h1 := lookup_in h
  have ho : own < 19 := by
    rcases Nat.lt_or_ge own 19 with q | q
    · exact q
    · have e : T.getD own [] = [] := by rw [List.getD_eq_getElem?_getD, List.getElem?_eq_none (by omega)]; rfl
      rw [e] at h1
      cases h1
  have h2 := List.all_eq_true.mp hc own (List.mem_range.mpr ho)
  exact ⟨ho, List.all_eq_true.mp h2 _ h1⟩
set_option maxRecDepth 100000 in
theorem fld_all : (List.range 19).all (fun o => (fldL.getD o []).all ((fun (o : Nat) (q : Nat × Nat × Nat × Nat) => decide (q.2.1 < 12) && decide (q.2.2.1 < nfl q.2.1) && isW q.2.2.2 (.fieldLink (clsS o) q.1 (clsS q.2.1) (fT q.2.1 q.2.2.1).2.1 (fT q.2.1 q.2.2.1).2.2.1)) o)) = true := by decide +kernel
def mthOK (o : Nat) (q : Nat × Nat × Nat × Nat) : Bool := if q.2.1 = 9999 then isW q.2.2.2 (.methodLink (clsS o) q.1 objectInit) else if q.2.1 = 9998 then isW q.2.2.2 (.methodLink (clsS o) q.1 arraycopyName) else decide (q.2.1 < 247) && (if q.2.2.1 = 0 then isW q.2.2.2 (.methodLink (clsS o) q.1 (mName q.2.1)) else (isW0 q.2.2.2 (.methodLinkNest (clsS o) q.1 (mName q.2.1) "FiveLands") && decide (o < 12)))
set_option maxRecDepth 100000 in
theorem mth_all0 : (mthL.getD 0 []).all (mthOK 0) = true := by decide +kernel
set_option maxRecDepth 100000 in
theorem mth_all1 : (mthL.getD 1 []).all (mthOK 1) = true := by decide +kernel
set_option maxRecDepth 100000 in
theorem mth_all2 : (mthL.getD 2 []).all (mthOK 2) = true := by decide +kernel
set_option maxRecDepth 100000 in
theorem mth_all3 : (mthL.getD 3 []).all (mthOK 3) = true := by decide +kernel
set_option maxRecDepth 100000 in
theorem mth_all4 : (mthL.getD 4 []).all (mthOK 4) = true := by decide +kernel
set_option maxRecDepth 100000 in
theorem mth_all5 : (mthL.getD 5 []).all (mthOK 5) = true := by decide +kernel
set_option maxRecDepth 100000 in
theorem mth_all6 : (mthL.getD 6 []).all (mthOK 6) = true := by decide +kernel
set_option maxRecDepth 100000 in
theorem mth_all7 : (mthL.getD 7 []).all (mthOK 7) = true := by decide +kernel
set_option maxRecDepth 100000 in
theorem mth_all8 : (mthL.getD 8 []).all (mthOK 8) = true := by decide +kernel
set_option maxRecDepth 100000 in
theorem mth_all9 : (mthL.getD 9 []).all (mthOK 9) = true := by decide +kernel
set_option maxRecDepth 100000 in
theorem mth_all10 : (mthL.getD 10 []).all (mthOK 10) = true := by decide +kernel
set_option maxRecDepth 100000 in
theorem mth_all11 : (mthL.getD 11 []).all (mthOK 11) = true := by decide +kernel
set_option maxRecDepth 100000 in
theorem mth_all12 : (mthL.getD 12 []).all (mthOK 12) = true := by decide +kernel
set_option maxRecDepth 100000 in
theorem mth_all13 : (mthL.getD 13 []).all (mthOK 13) = true := by decide +kernel
set_option maxRecDepth 100000 in
theorem mth_all14 : (mthL.getD 14 []).all (mthOK 14) = true := by decide +kernel
set_option maxRecDepth 100000 in
theorem mth_all15 : (mthL.getD 15 []).all (mthOK 15) = true := by decide +kernel
set_option maxRecDepth 100000 in
theorem mth_all16 : (mthL.getD 16 []).all (mthOK 16) = true := by decide +kernel
set_option maxRecDepth 100000 in
theorem mth_all17 : (mthL.getD 17 []).all (mthOK 17) = true := by decide +kernel
set_option maxRecDepth 100000 in
theorem mth_all18 : (mthL.getD 18 []).all (mthOK 18) = true := by decide +kernel
theorem mth_all : (List.range 19).all (fun o => (mthL.getD o []).all ((fun (o : Nat) (q : Nat × Nat × Nat × Nat) => mthOK o q) o)) = true := by
  refine List.all_eq_true.mpr fun o ho => ?_
  have h := List.mem_range.mp ho
  match o, h with
  | 0, _ => exact mth_all0
  | 1, _ => exact mth_all1
  | 2, _ => exact mth_all2
  | 3, _ => exact mth_all3
  | 4, _ => exact mth_all4
  | 5, _ => exact mth_all5
  | 6, _ => exact mth_all6
  | 7, _ => exact mth_all7
  | 8, _ => exact mth_all8
  | 9, _ => exact mth_all9
  | 10, _ => exact mth_all10
  | 11, _ => exact mth_all11
  | 12, _ => exact mth_all12
  | 13, _ => exact mth_all13
  | 14, _ => exact mth_all14
  | 15, _ => exact mth_all15
  | 16, _ => exact mth_all16
  | 17, _ => exact mth_all17
  | 18, _ => exact mth_all18
  | n + 19, h => exact absurd h (by omega)
set_option maxRecDepth 100000 in
theorem kin_all : (List.range 19).all (fun o => (mthL.getD o []).all ((fun (_ : Nat) (q : Nat × Nat × Nat × Nat) => decide (q.2.2.1 ≤ 1)) o)) = true := by decide +kernel
set_option maxRecDepth 100000 in
theorem clk_all : (List.range 19).all (fun o => (clkL.getD o []).all ((fun (o : Nat) (q : Nat × Nat × Nat) => if q.2.1 < 12 then isW q.2.2 (.classLink (clsS o) q.1 (clsS q.2.1)) else if q.2.1 = 80 then isW q.2.2 (.classLink (clsS o) q.1 ("[" ++ (FieldType.array .int).toString)) else if q.2.1 = 81 then isW q.2.2 (.classLink (clsS o) q.1 ("[" ++ (FieldType.array .long).toString)) else true) o)) = true := by decide +kernel
set_option maxRecDepth 100000 in
theorem str_all : (List.range 19).all (fun o => (strL.getD o []).all ((fun (o : Nat) (q : Nat × Nat × Nat) => decide (q.2.1 < 30) && decide (o < 12)) o)) = true := by decide +kernel
set_option maxRecDepth 100000 in
theorem cst_all : (List.range 19).all (fun o => (cstL.getD o []).all ((fun (o : Nat) (q : Nat × Int × Nat) => isW q.2.2 (.constant (clsS o) q.1 (Int32.ofInt q.2.1))) o)) = true := by decide +kernel
set_option maxRecDepth 100000 in
theorem csl_all : (List.range 19).all (fun o => (cslL.getD o []).all ((fun (o : Nat) (q : Nat × Int × Nat) => isW q.2.2 (.constantLong (clsS o) q.1 (Int64.ofInt q.2.1))) o)) = true := by decide +kernel
set_option maxRecDepth 100000 in
theorem sta_all : (List.range 19).all (fun o => (staL.getD o []).all ((fun (o : Nat) (q : Nat × Nat × Nat) => if q.2.1 = 0 then isW q.2.2 (.fieldLink (clsS o) q.1 "java/lang/String" "COMPACT_STRINGS" "Z") else if q.2.1 = 1 then isW q.2.2 (.fieldLink (clsS o) q.1 "jdk/internal/util/Preconditions" "SIOOBE_FORMATTER" "Ljava/util/function/BiFunction;") else false) o)) = true := by decide +kernel
set_option maxRecDepth 100000 in
theorem stf_all : (List.range 19).all (fun o => (stfL.getD o []).all ((fun (o : Nat) (q : Nat × Nat × Nat) => if q.2.1 = 0 then isW q.2.2 (.fieldLink (clsS o) q.1 "java/lang/String" "value" "[B") else if q.2.1 = 1 then isW q.2.2 (.fieldLink (clsS o) q.1 "java/lang/String" "coder" "B") else false) o)) = true := by decide +kernel
def isC (y : Nat) : Prop := (lwC (mPos y / 1000))[mPos y % 1000]? = some (.code (mName y) (mCode y) (mLoc y) (mRet y))

theorem isC_0 : isC 0 := rfl
theorem isC_1 : isC 1 := rfl
theorem isC_2 : isC 2 := rfl
theorem isC_3 : isC 3 := rfl
theorem isC_4 : isC 4 := rfl
theorem isC_5 : isC 5 := rfl
theorem isC_6 : isC 6 := rfl
theorem isC_7 : isC 7 := rfl
theorem isC_8 : isC 8 := rfl
theorem isC_9 : isC 9 := rfl
theorem isC_10 : isC 10 := rfl
theorem isC_11 : isC 11 := rfl
theorem isC_12 : isC 12 := rfl
theorem isC_13 : isC 13 := rfl
theorem isC_14 : isC 14 := rfl
theorem isC_15 : isC 15 := rfl
theorem isC_16 : isC 16 := rfl
theorem isC_17 : isC 17 := rfl
theorem isC_18 : isC 18 := rfl
theorem isC_19 : isC 19 := rfl
theorem isC_20 : isC 20 := rfl
theorem isC_21 : isC 21 := rfl
theorem isC_22 : isC 22 := rfl
theorem isC_23 : isC 23 := rfl
theorem isC_24 : isC 24 := rfl
theorem isC_25 : isC 25 := rfl
theorem isC_26 : isC 26 := rfl
theorem isC_27 : isC 27 := rfl
theorem isC_28 : isC 28 := rfl
theorem isC_29 : isC 29 := rfl
theorem isC_30 : isC 30 := rfl
theorem isC_31 : isC 31 := rfl
theorem isC_32 : isC 32 := rfl
theorem isC_33 : isC 33 := rfl
theorem isC_34 : isC 34 := rfl
theorem isC_35 : isC 35 := rfl
theorem isC_36 : isC 36 := rfl
theorem isC_37 : isC 37 := rfl
theorem isC_38 : isC 38 := rfl
theorem isC_39 : isC 39 := rfl
theorem isC_40 : isC 40 := rfl
theorem isC_41 : isC 41 := rfl
theorem isC_42 : isC 42 := rfl
theorem isC_43 : isC 43 := rfl
theorem isC_44 : isC 44 := rfl
theorem isC_45 : isC 45 := rfl
theorem isC_46 : isC 46 := rfl
theorem isC_47 : isC 47 := rfl
theorem isC_48 : isC 48 := rfl
theorem isC_49 : isC 49 := rfl
theorem isC_50 : isC 50 := rfl
theorem isC_51 : isC 51 := rfl
theorem isC_52 : isC 52 := rfl
theorem isC_53 : isC 53 := rfl
theorem isC_54 : isC 54 := rfl
theorem isC_55 : isC 55 := rfl
theorem isC_56 : isC 56 := rfl
theorem isC_57 : isC 57 := rfl
theorem isC_58 : isC 58 := rfl
theorem isC_59 : isC 59 := rfl
theorem isC_60 : isC 60 := rfl
theorem isC_61 : isC 61 := rfl
theorem isC_62 : isC 62 := rfl
theorem isC_63 : isC 63 := rfl
theorem isC_64 : isC 64 := rfl
theorem isC_65 : isC 65 := rfl
theorem isC_66 : isC 66 := rfl
theorem isC_67 : isC 67 := rfl
theorem isC_68 : isC 68 := rfl
theorem isC_69 : isC 69 := rfl
theorem isC_70 : isC 70 := rfl
theorem isC_71 : isC 71 := rfl
theorem isC_72 : isC 72 := rfl
theorem isC_73 : isC 73 := rfl
theorem isC_74 : isC 74 := rfl
theorem isC_75 : isC 75 := rfl
theorem isC_76 : isC 76 := rfl
theorem isC_77 : isC 77 := rfl
theorem isC_78 : isC 78 := rfl
theorem isC_79 : isC 79 := rfl
theorem isC_80 : isC 80 := rfl
theorem isC_81 : isC 81 := rfl
theorem isC_82 : isC 82 := rfl
theorem isC_83 : isC 83 := rfl
theorem isC_84 : isC 84 := rfl
theorem isC_85 : isC 85 := rfl
theorem isC_86 : isC 86 := rfl
theorem isC_87 : isC 87 := rfl
theorem isC_88 : isC 88 := rfl
theorem isC_89 : isC 89 := rfl
theorem isC_90 : isC 90 := rfl
theorem isC_91 : isC 91 := rfl
theorem isC_92 : isC 92 := rfl
theorem isC_93 : isC 93 := rfl
theorem isC_94 : isC 94 := rfl
theorem isC_95 : isC 95 := rfl
theorem isC_96 : isC 96 := rfl
theorem isC_97 : isC 97 := rfl
theorem isC_98 : isC 98 := rfl
theorem isC_99 : isC 99 := rfl
theorem isC_100 : isC 100 := rfl
theorem isC_101 : isC 101 := rfl
theorem isC_102 : isC 102 := rfl
theorem isC_103 : isC 103 := rfl
theorem isC_104 : isC 104 := rfl
theorem isC_105 : isC 105 := rfl
theorem isC_106 : isC 106 := rfl
theorem isC_107 : isC 107 := rfl
theorem isC_108 : isC 108 := rfl
theorem isC_109 : isC 109 := rfl
theorem isC_110 : isC 110 := rfl
theorem isC_111 : isC 111 := rfl
theorem isC_112 : isC 112 := rfl
theorem isC_113 : isC 113 := rfl
theorem isC_114 : isC 114 := rfl
theorem isC_115 : isC 115 := rfl
theorem isC_116 : isC 116 := rfl
theorem isC_117 : isC 117 := rfl
theorem isC_118 : isC 118 := rfl
theorem isC_119 : isC 119 := rfl
theorem isC_120 : isC 120 := rfl
theorem isC_121 : isC 121 := rfl
theorem isC_122 : isC 122 := rfl
theorem isC_123 : isC 123 := rfl
theorem isC_124 : isC 124 := rfl
theorem isC_125 : isC 125 := rfl
theorem isC_126 : isC 126 := rfl
theorem isC_127 : isC 127 := rfl
theorem isC_128 : isC 128 := rfl
theorem isC_129 : isC 129 := rfl
theorem isC_130 : isC 130 := rfl
theorem isC_131 : isC 131 := rfl
theorem isC_132 : isC 132 := rfl
theorem isC_133 : isC 133 := rfl
theorem isC_134 : isC 134 := rfl
theorem isC_135 : isC 135 := rfl
theorem isC_136 : isC 136 := rfl
theorem isC_137 : isC 137 := rfl
theorem isC_138 : isC 138 := rfl
theorem isC_139 : isC 139 := rfl
theorem isC_140 : isC 140 := rfl
theorem isC_141 : isC 141 := rfl
theorem isC_142 : isC 142 := rfl
theorem isC_143 : isC 143 := rfl
theorem isC_144 : isC 144 := rfl
theorem isC_145 : isC 145 := rfl
theorem isC_146 : isC 146 := rfl
theorem isC_147 : isC 147 := rfl
theorem isC_148 : isC 148 := rfl
theorem isC_149 : isC 149 := rfl
theorem isC_150 : isC 150 := rfl
theorem isC_151 : isC 151 := rfl
theorem isC_152 : isC 152 := rfl
theorem isC_153 : isC 153 := rfl
theorem isC_154 : isC 154 := rfl
theorem isC_155 : isC 155 := rfl
theorem isC_156 : isC 156 := rfl
theorem isC_157 : isC 157 := rfl
theorem isC_158 : isC 158 := rfl
theorem isC_159 : isC 159 := rfl
theorem isC_160 : isC 160 := rfl
theorem isC_161 : isC 161 := rfl
theorem isC_162 : isC 162 := rfl
theorem isC_163 : isC 163 := rfl
theorem isC_164 : isC 164 := rfl
theorem isC_165 : isC 165 := rfl
theorem isC_166 : isC 166 := rfl
theorem isC_167 : isC 167 := rfl
theorem isC_168 : isC 168 := rfl
theorem isC_169 : isC 169 := rfl
theorem isC_170 : isC 170 := rfl
theorem isC_171 : isC 171 := rfl
theorem isC_172 : isC 172 := rfl
theorem isC_173 : isC 173 := rfl
theorem isC_174 : isC 174 := rfl
theorem isC_175 : isC 175 := rfl
theorem isC_176 : isC 176 := rfl
theorem isC_177 : isC 177 := rfl
theorem isC_178 : isC 178 := rfl
theorem isC_179 : isC 179 := rfl
theorem isC_180 : isC 180 := rfl
theorem isC_181 : isC 181 := rfl
theorem isC_182 : isC 182 := rfl
theorem isC_183 : isC 183 := rfl
theorem isC_184 : isC 184 := rfl
theorem isC_185 : isC 185 := rfl
theorem isC_186 : isC 186 := rfl
theorem isC_187 : isC 187 := rfl
theorem isC_188 : isC 188 := rfl
theorem isC_189 : isC 189 := rfl
theorem isC_190 : isC 190 := rfl
theorem isC_191 : isC 191 := rfl
theorem isC_192 : isC 192 := rfl
theorem isC_193 : isC 193 := rfl
theorem isC_194 : isC 194 := rfl
theorem isC_195 : isC 195 := rfl
theorem isC_196 : isC 196 := rfl
theorem isC_197 : isC 197 := rfl
theorem isC_198 : isC 198 := rfl
theorem isC_199 : isC 199 := rfl
theorem isC_200 : isC 200 := rfl
theorem isC_201 : isC 201 := rfl
theorem isC_202 : isC 202 := rfl
theorem isC_203 : isC 203 := rfl
theorem isC_204 : isC 204 := rfl
theorem isC_205 : isC 205 := rfl
theorem isC_206 : isC 206 := rfl
theorem isC_207 : isC 207 := rfl
theorem isC_208 : isC 208 := rfl
theorem isC_209 : isC 209 := rfl
theorem isC_210 : isC 210 := rfl
theorem isC_211 : isC 211 := rfl
theorem isC_212 : isC 212 := rfl
theorem isC_213 : isC 213 := rfl
theorem isC_214 : isC 214 := rfl
theorem isC_215 : isC 215 := rfl
theorem isC_216 : isC 216 := rfl
theorem isC_217 : isC 217 := rfl
theorem isC_218 : isC 218 := rfl
theorem isC_219 : isC 219 := rfl
theorem isC_220 : isC 220 := rfl
theorem isC_221 : isC 221 := rfl
theorem isC_222 : isC 222 := rfl
theorem isC_223 : isC 223 := rfl
theorem isC_224 : isC 224 := rfl
theorem isC_225 : isC 225 := rfl
theorem isC_226 : isC 226 := rfl
theorem isC_227 : isC 227 := rfl
theorem isC_228 : isC 228 := rfl
theorem isC_229 : isC 229 := rfl
theorem isC_230 : isC 230 := rfl
theorem isC_231 : isC 231 := rfl
theorem isC_232 : isC 232 := rfl
theorem isC_233 : isC 233 := rfl
theorem isC_234 : isC 234 := rfl
theorem isC_235 : isC 235 := rfl
theorem isC_236 : isC 236 := rfl
theorem isC_237 : isC 237 := rfl
theorem isC_238 : isC 238 := rfl
theorem isC_239 : isC 239 := rfl
theorem isC_240 : isC 240 := rfl
theorem isC_241 : isC 241 := rfl
theorem isC_242 : isC 242 := rfl
theorem isC_243 : isC 243 := rfl
theorem isC_244 : isC 244 := rfl
theorem isC_245 : isC 245 := rfl
theorem isC_246 : isC 246 := rfl
theorem isCs_0 : ∀ y ∈ [0, 1, 2, 3, 4, 5, 6, 7, 8, 9, 10, 11, 12, 13, 14, 15, 16, 17, 18, 19, 20, 21, 22, 23, 24], isC y := List.forall_mem_cons.mpr ⟨isC_0, List.forall_mem_cons.mpr ⟨isC_1, List.forall_mem_cons.mpr ⟨isC_2, List.forall_mem_cons.mpr ⟨isC_3, List.forall_mem_cons.mpr ⟨isC_4, List.forall_mem_cons.mpr ⟨isC_5, List.forall_mem_cons.mpr ⟨isC_6, List.forall_mem_cons.mpr ⟨isC_7, List.forall_mem_cons.mpr ⟨isC_8, List.forall_mem_cons.mpr ⟨isC_9, List.forall_mem_cons.mpr ⟨isC_10, List.forall_mem_cons.mpr ⟨isC_11, List.forall_mem_cons.mpr ⟨isC_12, List.forall_mem_cons.mpr ⟨isC_13, List.forall_mem_cons.mpr ⟨isC_14, List.forall_mem_cons.mpr ⟨isC_15, List.forall_mem_cons.mpr ⟨isC_16, List.forall_mem_cons.mpr ⟨isC_17, List.forall_mem_cons.mpr ⟨isC_18, List.forall_mem_cons.mpr ⟨isC_19, List.forall_mem_cons.mpr ⟨isC_20, List.forall_mem_cons.mpr ⟨isC_21, List.forall_mem_cons.mpr ⟨isC_22, List.forall_mem_cons.mpr ⟨isC_23, List.forall_mem_cons.mpr ⟨isC_24, fun _ h => absurd h List.not_mem_nil⟩⟩⟩⟩⟩⟩⟩⟩⟩⟩⟩⟩⟩⟩⟩⟩⟩⟩⟩⟩⟩⟩⟩⟩⟩
theorem isCs_1 : ∀ y ∈ [25, 26, 27, 28, 29, 30, 31, 32, 33, 34, 35, 36, 37, 38, 39, 40, 41, 42, 43, 44, 45, 46, 47, 48, 49], isC y := List.forall_mem_cons.mpr ⟨isC_25, List.forall_mem_cons.mpr ⟨isC_26, List.forall_mem_cons.mpr ⟨isC_27, List.forall_mem_cons.mpr ⟨isC_28, List.forall_mem_cons.mpr ⟨isC_29, List.forall_mem_cons.mpr ⟨isC_30, List.forall_mem_cons.mpr ⟨isC_31, List.forall_mem_cons.mpr ⟨isC_32, List.forall_mem_cons.mpr ⟨isC_33, List.forall_mem_cons.mpr ⟨isC_34, List.forall_mem_cons.mpr ⟨isC_35, List.forall_mem_cons.mpr ⟨isC_36, List.forall_mem_cons.mpr ⟨isC_37, List.forall_mem_cons.mpr ⟨isC_38, List.forall_mem_cons.mpr ⟨isC_39, List.forall_mem_cons.mpr ⟨isC_40, List.forall_mem_cons.mpr ⟨isC_41, List.forall_mem_cons.mpr ⟨isC_42, List.forall_mem_cons.mpr ⟨isC_43, List.forall_mem_cons.mpr ⟨isC_44, List.forall_mem_cons.mpr ⟨isC_45, List.forall_mem_cons.mpr ⟨isC_46, List.forall_mem_cons.mpr ⟨isC_47, List.forall_mem_cons.mpr ⟨isC_48, List.forall_mem_cons.mpr ⟨isC_49, fun _ h => absurd h List.not_mem_nil⟩⟩⟩⟩⟩⟩⟩⟩⟩⟩⟩⟩⟩⟩⟩⟩⟩⟩⟩⟩⟩⟩⟩⟩⟩
theorem isCs_2 : ∀ y ∈ [50, 51, 52, 53, 54, 55, 56, 57, 58, 59, 60, 61, 62, 63, 64, 65, 66, 67, 68, 69, 70, 71, 72, 73, 74], isC y := List.forall_mem_cons.mpr ⟨isC_50, List.forall_mem_cons.mpr ⟨isC_51, List.forall_mem_cons.mpr ⟨isC_52, List.forall_mem_cons.mpr ⟨isC_53, List.forall_mem_cons.mpr ⟨isC_54, List.forall_mem_cons.mpr ⟨isC_55, List.forall_mem_cons.mpr ⟨isC_56, List.forall_mem_cons.mpr ⟨isC_57, List.forall_mem_cons.mpr ⟨isC_58, List.forall_mem_cons.mpr ⟨isC_59, List.forall_mem_cons.mpr ⟨isC_60, List.forall_mem_cons.mpr ⟨isC_61, List.forall_mem_cons.mpr ⟨isC_62, List.forall_mem_cons.mpr ⟨isC_63, List.forall_mem_cons.mpr ⟨isC_64, List.forall_mem_cons.mpr ⟨isC_65, List.forall_mem_cons.mpr ⟨isC_66, List.forall_mem_cons.mpr ⟨isC_67, List.forall_mem_cons.mpr ⟨isC_68, List.forall_mem_cons.mpr ⟨isC_69, List.forall_mem_cons.mpr ⟨isC_70, List.forall_mem_cons.mpr ⟨isC_71, List.forall_mem_cons.mpr ⟨isC_72, List.forall_mem_cons.mpr ⟨isC_73, List.forall_mem_cons.mpr ⟨isC_74, fun _ h => absurd h List.not_mem_nil⟩⟩⟩⟩⟩⟩⟩⟩⟩⟩⟩⟩⟩⟩⟩⟩⟩⟩⟩⟩⟩⟩⟩⟩⟩
theorem isCs_3 : ∀ y ∈ [75, 76, 77, 78, 79, 80, 81, 82, 83, 84, 85, 86, 87, 88, 89, 90, 91, 92, 93, 94, 95, 96, 97, 98, 99], isC y := List.forall_mem_cons.mpr ⟨isC_75, List.forall_mem_cons.mpr ⟨isC_76, List.forall_mem_cons.mpr ⟨isC_77, List.forall_mem_cons.mpr ⟨isC_78, List.forall_mem_cons.mpr ⟨isC_79, List.forall_mem_cons.mpr ⟨isC_80, List.forall_mem_cons.mpr ⟨isC_81, List.forall_mem_cons.mpr ⟨isC_82, List.forall_mem_cons.mpr ⟨isC_83, List.forall_mem_cons.mpr ⟨isC_84, List.forall_mem_cons.mpr ⟨isC_85, List.forall_mem_cons.mpr ⟨isC_86, List.forall_mem_cons.mpr ⟨isC_87, List.forall_mem_cons.mpr ⟨isC_88, List.forall_mem_cons.mpr ⟨isC_89, List.forall_mem_cons.mpr ⟨isC_90, List.forall_mem_cons.mpr ⟨isC_91, List.forall_mem_cons.mpr ⟨isC_92, List.forall_mem_cons.mpr ⟨isC_93, List.forall_mem_cons.mpr ⟨isC_94, List.forall_mem_cons.mpr ⟨isC_95, List.forall_mem_cons.mpr ⟨isC_96, List.forall_mem_cons.mpr ⟨isC_97, List.forall_mem_cons.mpr ⟨isC_98, List.forall_mem_cons.mpr ⟨isC_99, fun _ h => absurd h List.not_mem_nil⟩⟩⟩⟩⟩⟩⟩⟩⟩⟩⟩⟩⟩⟩⟩⟩⟩⟩⟩⟩⟩⟩⟩⟩⟩
theorem isCs_4 : ∀ y ∈ [100, 101, 102, 103, 104, 105, 106, 107, 108, 109, 110, 111, 112, 113, 114, 115, 116, 117, 118, 119, 120, 121, 122, 123, 124], isC y := List.forall_mem_cons.mpr ⟨isC_100, List.forall_mem_cons.mpr ⟨isC_101, List.forall_mem_cons.mpr ⟨isC_102, List.forall_mem_cons.mpr ⟨isC_103, List.forall_mem_cons.mpr ⟨isC_104, List.forall_mem_cons.mpr ⟨isC_105, List.forall_mem_cons.mpr ⟨isC_106, List.forall_mem_cons.mpr ⟨isC_107, List.forall_mem_cons.mpr ⟨isC_108, List.forall_mem_cons.mpr ⟨isC_109, List.forall_mem_cons.mpr ⟨isC_110, List.forall_mem_cons.mpr ⟨isC_111, List.forall_mem_cons.mpr ⟨isC_112, List.forall_mem_cons.mpr ⟨isC_113, List.forall_mem_cons.mpr ⟨isC_114, List.forall_mem_cons.mpr ⟨isC_115, List.forall_mem_cons.mpr ⟨isC_116, List.forall_mem_cons.mpr ⟨isC_117, List.forall_mem_cons.mpr ⟨isC_118, List.forall_mem_cons.mpr ⟨isC_119, List.forall_mem_cons.mpr ⟨isC_120, List.forall_mem_cons.mpr ⟨isC_121, List.forall_mem_cons.mpr ⟨isC_122, List.forall_mem_cons.mpr ⟨isC_123, List.forall_mem_cons.mpr ⟨isC_124, fun _ h => absurd h List.not_mem_nil⟩⟩⟩⟩⟩⟩⟩⟩⟩⟩⟩⟩⟩⟩⟩⟩⟩⟩⟩⟩⟩⟩⟩⟩⟩
theorem isCs_5 : ∀ y ∈ [125, 126, 127, 128, 129, 130, 131, 132, 133, 134, 135, 136, 137, 138, 139, 140, 141, 142, 143, 144, 145, 146, 147, 148, 149], isC y := List.forall_mem_cons.mpr ⟨isC_125, List.forall_mem_cons.mpr ⟨isC_126, List.forall_mem_cons.mpr ⟨isC_127, List.forall_mem_cons.mpr ⟨isC_128, List.forall_mem_cons.mpr ⟨isC_129, List.forall_mem_cons.mpr ⟨isC_130, List.forall_mem_cons.mpr ⟨isC_131, List.forall_mem_cons.mpr ⟨isC_132, List.forall_mem_cons.mpr ⟨isC_133, List.forall_mem_cons.mpr ⟨isC_134, List.forall_mem_cons.mpr ⟨isC_135, List.forall_mem_cons.mpr ⟨isC_136, List.forall_mem_cons.mpr ⟨isC_137, List.forall_mem_cons.mpr ⟨isC_138, List.forall_mem_cons.mpr ⟨isC_139, List.forall_mem_cons.mpr ⟨isC_140, List.forall_mem_cons.mpr ⟨isC_141, List.forall_mem_cons.mpr ⟨isC_142, List.forall_mem_cons.mpr ⟨isC_143, List.forall_mem_cons.mpr ⟨isC_144, List.forall_mem_cons.mpr ⟨isC_145, List.forall_mem_cons.mpr ⟨isC_146, List.forall_mem_cons.mpr ⟨isC_147, List.forall_mem_cons.mpr ⟨isC_148, List.forall_mem_cons.mpr ⟨isC_149, fun _ h => absurd h List.not_mem_nil⟩⟩⟩⟩⟩⟩⟩⟩⟩⟩⟩⟩⟩⟩⟩⟩⟩⟩⟩⟩⟩⟩⟩⟩⟩
theorem isCs_6 : ∀ y ∈ [150, 151, 152, 153, 154, 155, 156, 157, 158, 159, 160, 161, 162, 163, 164, 165, 166, 167, 168, 169, 170, 171, 172, 173, 174], isC y := List.forall_mem_cons.mpr ⟨isC_150, List.forall_mem_cons.mpr ⟨isC_151, List.forall_mem_cons.mpr ⟨isC_152, List.forall_mem_cons.mpr ⟨isC_153, List.forall_mem_cons.mpr ⟨isC_154, List.forall_mem_cons.mpr ⟨isC_155, List.forall_mem_cons.mpr ⟨isC_156, List.forall_mem_cons.mpr ⟨isC_157, List.forall_mem_cons.mpr ⟨isC_158, List.forall_mem_cons.mpr ⟨isC_159, List.forall_mem_cons.mpr ⟨isC_160, List.forall_mem_cons.mpr ⟨isC_161, List.forall_mem_cons.mpr ⟨isC_162, List.forall_mem_cons.mpr ⟨isC_163, List.forall_mem_cons.mpr ⟨isC_164, List.forall_mem_cons.mpr ⟨isC_165, List.forall_mem_cons.mpr ⟨isC_166, List.forall_mem_cons.mpr ⟨isC_167, List.forall_mem_cons.mpr ⟨isC_168, List.forall_mem_cons.mpr ⟨isC_169, List.forall_mem_cons.mpr ⟨isC_170, List.forall_mem_cons.mpr ⟨isC_171, List.forall_mem_cons.mpr ⟨isC_172, List.forall_mem_cons.mpr ⟨isC_173, List.forall_mem_cons.mpr ⟨isC_174, fun _ h => absurd h List.not_mem_nil⟩⟩⟩⟩⟩⟩⟩⟩⟩⟩⟩⟩⟩⟩⟩⟩⟩⟩⟩⟩⟩⟩⟩⟩⟩
theorem isCs_7 : ∀ y ∈ [175, 176, 177, 178, 179, 180, 181, 182, 183, 184, 185, 186, 187, 188, 189, 190, 191, 192, 193, 194, 195, 196, 197, 198, 199], isC y := List.forall_mem_cons.mpr ⟨isC_175, List.forall_mem_cons.mpr ⟨isC_176, List.forall_mem_cons.mpr ⟨isC_177, List.forall_mem_cons.mpr ⟨isC_178, List.forall_mem_cons.mpr ⟨isC_179, List.forall_mem_cons.mpr ⟨isC_180, List.forall_mem_cons.mpr ⟨isC_181, List.forall_mem_cons.mpr ⟨isC_182, List.forall_mem_cons.mpr ⟨isC_183, List.forall_mem_cons.mpr ⟨isC_184, List.forall_mem_cons.mpr ⟨isC_185, List.forall_mem_cons.mpr ⟨isC_186, List.forall_mem_cons.mpr ⟨isC_187, List.forall_mem_cons.mpr ⟨isC_188, List.forall_mem_cons.mpr ⟨isC_189, List.forall_mem_cons.mpr ⟨isC_190, List.forall_mem_cons.mpr ⟨isC_191, List.forall_mem_cons.mpr ⟨isC_192, List.forall_mem_cons.mpr ⟨isC_193, List.forall_mem_cons.mpr ⟨isC_194, List.forall_mem_cons.mpr ⟨isC_195, List.forall_mem_cons.mpr ⟨isC_196, List.forall_mem_cons.mpr ⟨isC_197, List.forall_mem_cons.mpr ⟨isC_198, List.forall_mem_cons.mpr ⟨isC_199, fun _ h => absurd h List.not_mem_nil⟩⟩⟩⟩⟩⟩⟩⟩⟩⟩⟩⟩⟩⟩⟩⟩⟩⟩⟩⟩⟩⟩⟩⟩⟩
theorem isCs_8 : ∀ y ∈ [200, 201, 202, 203, 204, 205, 206, 207, 208, 209, 210, 211, 212, 213, 214, 215, 216, 217, 218, 219, 220, 221, 222, 223, 224], isC y := List.forall_mem_cons.mpr ⟨isC_200, List.forall_mem_cons.mpr ⟨isC_201, List.forall_mem_cons.mpr ⟨isC_202, List.forall_mem_cons.mpr ⟨isC_203, List.forall_mem_cons.mpr ⟨isC_204, List.forall_mem_cons.mpr ⟨isC_205, List.forall_mem_cons.mpr ⟨isC_206, List.forall_mem_cons.mpr ⟨isC_207, List.forall_mem_cons.mpr ⟨isC_208, List.forall_mem_cons.mpr ⟨isC_209, List.forall_mem_cons.mpr ⟨isC_210, List.forall_mem_cons.mpr ⟨isC_211, List.forall_mem_cons.mpr ⟨isC_212, List.forall_mem_cons.mpr ⟨isC_213, List.forall_mem_cons.mpr ⟨isC_214, List.forall_mem_cons.mpr ⟨isC_215, List.forall_mem_cons.mpr ⟨isC_216, List.forall_mem_cons.mpr ⟨isC_217, List.forall_mem_cons.mpr ⟨isC_218, List.forall_mem_cons.mpr ⟨isC_219, List.forall_mem_cons.mpr ⟨isC_220, List.forall_mem_cons.mpr ⟨isC_221, List.forall_mem_cons.mpr ⟨isC_222, List.forall_mem_cons.mpr ⟨isC_223, List.forall_mem_cons.mpr ⟨isC_224, fun _ h => absurd h List.not_mem_nil⟩⟩⟩⟩⟩⟩⟩⟩⟩⟩⟩⟩⟩⟩⟩⟩⟩⟩⟩⟩⟩⟩⟩⟩⟩
theorem isCs_9 : ∀ y ∈ [225, 226, 227, 228, 229, 230, 231, 232, 233, 234, 235, 236, 237, 238, 239, 240, 241, 242, 243, 244, 245, 246], isC y := List.forall_mem_cons.mpr ⟨isC_225, List.forall_mem_cons.mpr ⟨isC_226, List.forall_mem_cons.mpr ⟨isC_227, List.forall_mem_cons.mpr ⟨isC_228, List.forall_mem_cons.mpr ⟨isC_229, List.forall_mem_cons.mpr ⟨isC_230, List.forall_mem_cons.mpr ⟨isC_231, List.forall_mem_cons.mpr ⟨isC_232, List.forall_mem_cons.mpr ⟨isC_233, List.forall_mem_cons.mpr ⟨isC_234, List.forall_mem_cons.mpr ⟨isC_235, List.forall_mem_cons.mpr ⟨isC_236, List.forall_mem_cons.mpr ⟨isC_237, List.forall_mem_cons.mpr ⟨isC_238, List.forall_mem_cons.mpr ⟨isC_239, List.forall_mem_cons.mpr ⟨isC_240, List.forall_mem_cons.mpr ⟨isC_241, List.forall_mem_cons.mpr ⟨isC_242, List.forall_mem_cons.mpr ⟨isC_243, List.forall_mem_cons.mpr ⟨isC_244, List.forall_mem_cons.mpr ⟨isC_245, List.forall_mem_cons.mpr ⟨isC_246, fun _ h => absurd h List.not_mem_nil⟩⟩⟩⟩⟩⟩⟩⟩⟩⟩⟩⟩⟩⟩⟩⟩⟩⟩⟩⟩⟩⟩
theorem isC_all {y : Nat} (h : y < 247) : isC y := by
  rcases Nat.lt_or_ge y 25 with q | q
  · exact isCs_0 y (by simp only [List.mem_cons, List.not_mem_nil, or_false]; omega)
  rcases Nat.lt_or_ge y 50 with q | q
  · exact isCs_1 y (by simp only [List.mem_cons, List.not_mem_nil, or_false]; omega)
  rcases Nat.lt_or_ge y 75 with q | q
  · exact isCs_2 y (by simp only [List.mem_cons, List.not_mem_nil, or_false]; omega)
  rcases Nat.lt_or_ge y 100 with q | q
  · exact isCs_3 y (by simp only [List.mem_cons, List.not_mem_nil, or_false]; omega)
  rcases Nat.lt_or_ge y 125 with q | q
  · exact isCs_4 y (by simp only [List.mem_cons, List.not_mem_nil, or_false]; omega)
  rcases Nat.lt_or_ge y 150 with q | q
  · exact isCs_5 y (by simp only [List.mem_cons, List.not_mem_nil, or_false]; omega)
  rcases Nat.lt_or_ge y 175 with q | q
  · exact isCs_6 y (by simp only [List.mem_cons, List.not_mem_nil, or_false]; omega)
  rcases Nat.lt_or_ge y 200 with q | q
  · exact isCs_7 y (by simp only [List.mem_cons, List.not_mem_nil, or_false]; omega)
  rcases Nat.lt_or_ge y 225 with q | q
  · exact isCs_8 y (by simp only [List.mem_cons, List.not_mem_nil, or_false]; omega)
  · exact isCs_9 y (by simp only [List.mem_cons, List.not_mem_nil, or_false]; omega)
def mOK (y : Nat) : Bool := decide ((mName y).cls = clsS (mOwn y)) && decide (mOwn y < 19) && isW (mAux.getD y (0, 0, 0)).2.2 (.initialized (clsS (mOwn y))) &&
    (if mSta y = true then isW (mAux.getD y (0, 0, 0)).1 (.static (mName y)) else (isW (mAux.getD y (0, 0, 0)).1 (.instanceMethod (mName y)) && (decide ((mName y).name = "<init>") || isW (mAux.getD y (0, 0, 0)).2.1 (.selects (mName y).cls (mName y) (mName y))))) &&
    decide ((mName y).cls ≠ "java/lang/invoke/MethodHandle" ∧ (mName y).cls ≠ "java/lang/invoke/VarHandle" ∧ (parseMethodDescriptor (mName y).desc).map (fun d => d.parameters.length) = some (mArg y)) && decide (mLoc y ≤ 20) && (plainName (mName y).cls || (decide (235 ≤ y) && decide (y < 240))) && (decide ((mName y).name ≠ "<init>") || (decide (mRet y = none) && !mSta y))
set_option maxRecDepth 100000 in
theorem m_all0 : (List.range 25).all (fun y => decide (247 ≤ y + 0) || mOK (y + 0)) = true := by decide +kernel
set_option maxRecDepth 100000 in
theorem m_all1 : (List.range 25).all (fun y => decide (247 ≤ y + 25) || mOK (y + 25)) = true := by decide +kernel
set_option maxRecDepth 100000 in
theorem m_all2 : (List.range 25).all (fun y => decide (247 ≤ y + 50) || mOK (y + 50)) = true := by decide +kernel
set_option maxRecDepth 100000 in
theorem m_all3 : (List.range 25).all (fun y => decide (247 ≤ y + 75) || mOK (y + 75)) = true := by decide +kernel
set_option maxRecDepth 100000 in
theorem m_all4 : (List.range 25).all (fun y => decide (247 ≤ y + 100) || mOK (y + 100)) = true := by decide +kernel
set_option maxRecDepth 100000 in
theorem m_all5 : (List.range 25).all (fun y => decide (247 ≤ y + 125) || mOK (y + 125)) = true := by decide +kernel
set_option maxRecDepth 100000 in
theorem m_all6 : (List.range 25).all (fun y => decide (247 ≤ y + 150) || mOK (y + 150)) = true := by decide +kernel
set_option maxRecDepth 100000 in
theorem m_all7 : (List.range 25).all (fun y => decide (247 ≤ y + 175) || mOK (y + 175)) = true := by decide +kernel
set_option maxRecDepth 100000 in
theorem m_all8 : (List.range 25).all (fun y => decide (247 ≤ y + 200) || mOK (y + 200)) = true := by decide +kernel
set_option maxRecDepth 100000 in
theorem m_all9 : (List.range 25).all (fun y => decide (247 ≤ y + 225) || mOK (y + 225)) = true := by decide +kernel

def clsOK (ci : Nat) : Bool := isW (nInst.getD ci 0) (.instantiable (clsS ci) (nfl ci)) && isW (nIni.getD ci 0) (.initialized (clsS ci)) && decide ((vwCl[ci]?).map (fun r => (r.1, r.2.2)) = some (clsS ci, nfl ci)) && (List.range (nfl ci)).all (fun k => decide ((fT ci k).1 = clsS ci) && decide (parseFieldDescriptor (fT ci k).2.2.1 = some (tyF ci k)) && isW ((layL.getD ci []).getD k 0) (u_lay (clsS ci) (fT ci) k) && decide (fty ci k = match tyF ci k with
    | .int => 0
    | .long => 1
    | .boolean => 3
    | .object _ => 2
    | .array _ => 2
    | _ => 9) && decide (fty ci k ≤ 3))
set_option maxRecDepth 100000 in
theorem cls_all0 : clsOK 0 = true := by decide +kernel
set_option maxRecDepth 100000 in
theorem cls_all1 : clsOK 1 = true := by decide +kernel
set_option maxRecDepth 100000 in
theorem cls_all2 : clsOK 2 = true := by decide +kernel
set_option maxRecDepth 100000 in
theorem cls_all3 : clsOK 3 = true := by decide +kernel
set_option maxRecDepth 100000 in
theorem cls_all4 : clsOK 4 = true := by decide +kernel
set_option maxRecDepth 100000 in
theorem cls_all5 : clsOK 5 = true := by decide +kernel
set_option maxRecDepth 100000 in
theorem cls_all6 : clsOK 6 = true := by decide +kernel
set_option maxRecDepth 100000 in
theorem cls_all7 : clsOK 7 = true := by decide +kernel
set_option maxRecDepth 100000 in
theorem cls_all8 : clsOK 8 = true := by decide +kernel
set_option maxRecDepth 100000 in
theorem cls_all9 : clsOK 9 = true := by decide +kernel
set_option maxRecDepth 100000 in
theorem cls_all10 : clsOK 10 = true := by decide +kernel
set_option maxRecDepth 100000 in
theorem cls_all11 : clsOK 11 = true := by decide +kernel
theorem ao_in : (Cond.arrayOver (.object (clsS 9))) ∈ lw_tbl ∧ (Cond.arrayOver (.object (clsS 1))) ∈ lw_tbl ∧ (Cond.arrayOver (.object (clsS 3))) ∈ lw_tbl ∧ (Cond.arrayOver (.object (clsS 8))) ∈ lw_tbl ∧ (Cond.arrayOver (.array .int)) ∈ lw_tbl ∧ (Cond.arrayOver (.array .long)) ∈ lw_tbl ∧ (Cond.arrayClass .int) ∈ lw_good ∧ (Cond.arrayClass .long) ∈ lw_good ∧ (Cond.arrayClass .boolean) ∈ lw_good := ⟨isW0_in (p := 1029) (by decide +kernel), isW0_in (p := 1037) (by decide +kernel), isW0_in (p := 1175) (by decide +kernel), isW0_in (p := 2221) (by decide +kernel), isW0_in (p := 1039) (by decide +kernel), isW0_in (p := 1047) (by decide +kernel), isW_in (p := 1061) (by decide +kernel), isW_in (p := 1062) (by decide +kernel), isW_in (p := 6160) (by decide +kernel)⟩
theorem cp_in : (Cond.native arraycopyName) ∈ lw_good ∧ (Cond.static arraycopyName) ∈ lw_good ∧ (Cond.initialized "java/lang/System") ∈ lw_good ∧ (Cond.instanceMethod objectInit) ∈ lw_good ∧ (Cond.code objectInit ⟨#[0xb1]⟩ 1 none) ∈ lw_good := ⟨isW_in (p := 4181) (by decide +kernel), isW_in (p := 4180) (by decide +kernel), isW_in (p := 1018) (by decide +kernel), isW_in (p := 1026) (by decide +kernel), isW_in (p := 1027) (by decide +kernel)⟩
