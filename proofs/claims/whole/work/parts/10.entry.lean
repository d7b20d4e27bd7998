/-! THE LAW'S ENTRY: what the Statement gives is what the bridge asks -/
def strO : List (String × Nat) := [("FiveLands$Reader", 32), ("FiveLandsModel", 264), ("FiveLandsModel", 266), ("FiveLandsModel", 268), ("FiveLandsModel", 270), ("FiveLandsModel", 271), ("FiveLandsModel", 272), ("FiveLandsModel", 274), ("FiveLandsModel", 275), ("FiveLandsModel", 276), ("FiveLandsModel", 277), ("FiveLandsModel", 279), ("FiveLandsModel", 281), ("FiveLandsModel", 283), ("FiveLandsModel", 285), ("FiveLandsModel", 287), ("FiveLandsModel", 234), ("FiveLandsModel", 240), ("FiveLandsModel", 242), ("FiveLandsModel", 244), ("FiveLandsModel", 246), ("FiveLandsModel", 248), ("FiveLandsModel", 250), ("FiveLandsModel", 251), ("FiveLandsModel", 253), ("FiveLandsModel", 255), ("FiveLandsModel", 257), ("FiveLandsModel", 259), ("FiveLandsModel", 261), ("FiveLandsModel", 263)]
def strX : List String := ["nights home bond birth most in pays amount pay let gain share pension through mine take free step relief when no off or and not test only top look ", "mine", "take", "free", "step", "relief", "test", "only", "top", "look", "when", "or", "and", "not", "no", "off", "pay", "let", "gain", "share", "pension", "through", "nights", "home", "bond", "birth", "most", "in", "pays", "amount"]
def tmS (i : Nat) : Term := .string (strO.getD i ("", 0)).1 (strO.getD i ("", 0)).2
def strC (i : Nat) : List Jvm.Cond := [.exactly (tmS i) "java/lang/String", .eq (.field (tmS i) "java/lang/String" "coder" "B") (.int 0), .arrayOf (.field (tmS i) "java/lang/String" "value" "[B") .byte, .eq (.length (.field (tmS i) "java/lang/String" "value" "[B")) (.int (Int32.ofNat (lenL.getD i 0)))] ++
  (List.range (lenL.getD i 0)).map (fun j => .eq (.elem (.field (tmS i) "java/lang/String" "value" "[B") (.int (Int32.ofNat j))) (.int ((bytL.getD i []).getD j 0)))
set_option maxRecDepth 100000 in
theorem strC_eq : (flatC (Jvm.Cond.and given_1 narrow_1)).drop 57 = (List.range 30).flatMap strC := by decide +kernel
theorem strC_in {i : Nat} (hi : i < 30) : ∀ c ∈ strC i, c ∈ flatC (Jvm.Cond.and given_1 narrow_1) := fun c hc => List.mem_of_mem_drop (by rw [strC_eq]; exact List.mem_flatMap.mpr ⟨i, List.mem_range.mpr hi, hc⟩)
set_option maxRecDepth 100000 in
theorem lenL_ok : (List.range 30).all (fun i => decide (lenL.getD i 0 < 1000)) = true := by decide +kernel
set_option maxRecDepth 100000 in
theorem str_tab : (List.range 19).all (fun o => (strL.getD o []).all ((fun (o : Nat) (q : Nat × Nat × Nat) => decide (q.2.1 < 30) && decide (strO.getD q.2.1 ("", 0) = (clsS o, q.1)) && isW0 q.2.2 (.stringRef (clsS o) q.1 (strX.getD q.2.1 ""))) o)) = true := by decide +kernel
theorem vx_one {args : Array Value} {s : State} {A : Nat → Prop} {i : Nat} (hi : i < 30) (h : ∀ c ∈ strC i, c.before args s = true) (hA : ∀ a : Nat, a < s.heap.size → ¬ A a) : ∃ q : Nat × Nat, (tmS i).eval args s none [] s = some (.ref q.1) ∧ va_O "java/lang/String" q.1 A s s.heap ∧ va_OF "java/lang/String" "coder" "B" (.int 0) q.1 A s s.heap ∧ va_OF "java/lang/String" "value" "[B" (.ref q.2) q.1 A s s.heap ∧ va_T .byte q.2 (lenL.getD i 0) (fun j => .int ((bytL.getD i []).getD j 0)) A s s.heap := by
  have hl : lenL.getD i 0 < 2 ^ 31 := Nat.lt_trans (of_decide_eq_true (List.all_eq_true.mp lenL_ok i (List.mem_range.mpr hi))) (by decide)
  have h1 := h _ (List.mem_append_left _ List.mem_cons_self)
  have h2 := h _ (List.mem_append_left _ (List.mem_cons_of_mem _ List.mem_cons_self))
  have h3 := h _ (List.mem_append_left _ (List.mem_cons_of_mem _ (List.mem_cons_of_mem _ List.mem_cons_self)))
  have h4 := h _ (List.mem_append_left _ (List.mem_cons_of_mem _ (List.mem_cons_of_mem _ (List.mem_cons_of_mem _ List.mem_cons_self))))
  have h5 : ∀ j : Nat, j < lenL.getD i 0 → (Jvm.Cond.eq (.elem (.field (tmS i) "java/lang/String" "value" "[B") (.int (Int32.ofNat j))) (.int ((bytL.getD i []).getD j 0))).before args s = true := fun j hj => h _ (List.mem_append_right _ (List.mem_map.mpr ⟨j, List.mem_range.mpr hj, rfl⟩))
  obtain ⟨a, c, cA, kA, q1, q2, q3, q4, q5, q6, -⟩ := Cond.exactly_spec (args := args) (first := s) (o := none) (s := s) (idx := []) (t := tmS i) (cls := "java/lang/String") h1
  obtain ⟨t, ht, hT⟩ := va_Tof (f := fun j => .int ((bytL.getD i []).getD j 0)) (A := A) hl h3 (va_eqt h4) (fun j hj => va_eqt (h5 j hj)) hA
  exact ⟨(a, t), q1, ⟨cA, q3, q5, by rw [q6]; exact q2, hA a (Array.getElem?_eq_some_iff.mp q3).1⟩, vk_OFof q1 (va_eqt h2) hA, vk_OFof q1 ht hA, hT⟩
/-- the classes of arrays, by their tags -/
theorem arr_at {args : Array Value} {s : State} (hts : ∀ w ∈ lw_tbl, w.before args s = true) : ∃ cT : Nat → ClassId, (∀ t ∈ tagL, ArrOfT s (cT t) (tyT t) ∧ va_RA s (cT t) (tyT t)) ∧ ∃ kA k5 : Class, s.vm.classes[cT 81]? = some kA ∧ kA.kind = .array (cT 51) (.array .long) ∧ s.vm.classes[cT 51]? = some k5 := by
  have good : ∀ w, w ∈ lw_good → w ∈ lw_tbl := fun w hw => (List.mem_filter.mp hw).1
  have prim : ∀ ty : FieldType, (∀ q, ty ≠ .object q) → (Jvm.Cond.arrayClass ty).before args s = true → ∃ (c : ClassId) (k : Class), ArrOfT s c ty ∧ s.vm.findClass ("[" ++ ty.toString) = some c ∧ s.vm.classes[c]? = some k := by
    intro ty hty h
    obtain ⟨c, k, comp, g1, g2, g3⟩ := Cond.arrayClass_spec (args := args) (first := s) (o := none) (s := s) (idx := []) h
    exact ⟨c, k, fun N z => ⟨fun q hq => (by cases hq), k, g2, comp, g3⟩, g1, g2⟩
  have obj : ∀ C : String, va_AO C s → ∃ c : ClassId, ArrOfT s c (.object C) ∧ va_RA s c (.object C) := by
    intro C h
    obtain ⟨comp, c, k, g1, -, g3, g4, g5⟩ := Cond.arrayOver_spec h
    exact ⟨c, fun N z => ⟨fun q hq => (by cases hq), k, g3, comp, g4⟩, k, comp, g3, g4, g1, g5⟩
  obtain ⟨a50, -, x50, y50, -⟩ := prim .int (fun q h => by cases h) (hts _ (good _ ao_in.2.2.2.2.2.2.1))
  obtain ⟨a51, k51, x51, y51, z51⟩ := prim .long (fun q h => by cases h) (hts _ (good _ ao_in.2.2.2.2.2.2.2.1))
  obtain ⟨a52, -, x52, y52, -⟩ := prim .boolean (fun q h => by cases h) (hts _ (good _ ao_in.2.2.2.2.2.2.2.2))
  obtain ⟨a69, x69, y69⟩ := obj (clsS 9) (va_AO.of (hts _ ao_in.1))
  obtain ⟨a61, x61, y61⟩ := obj (clsS 1) (va_AO.of (hts _ ao_in.2.1))
  obtain ⟨a63, x63, y63⟩ := obj (clsS 3) (va_AO.of (hts _ ao_in.2.2.1))
  obtain ⟨a68, x68, y68⟩ := obj (clsS 8) (va_AO.of (hts _ ao_in.2.2.2.1))
  have w80 : vx_AO .int s := hts _ ao_in.2.2.2.2.1
  have w81 : vx_AO .long s := hts _ ao_in.2.2.2.2.2.1
  obtain ⟨c80, a80, k80, -, -, u80, v80, y80⟩ := w80.spec
  obtain ⟨c81, a81, k81, t81, -, u81, v81, y81⟩ := w81.spec
  have e81 : c81 = a51 := Option.some.inj (t81.symm.trans y51)
  refine ⟨fun t => if t = 50 then a50 else if t = 51 then a51 else if t = 52 then a52 else if t = 61 then a61 else if t = 63 then a63 else if t = 68 then a68 else if t = 69 then a69 else if t = 80 then a80 else a81, fun t ht => ?_, k81, k51, u81, by rw [v81, e81]; rfl, z51⟩
  simp only [tagL, List.mem_cons, List.not_mem_nil, or_false] at ht
  rcases ht with rfl | rfl | rfl | rfl | rfl | rfl | rfl | rfl | rfl
  · exact ⟨x50, y50⟩
  · exact ⟨x51, y51⟩
  · exact ⟨x52, y52⟩
  · exact ⟨x61, y61⟩
  · exact ⟨x63, y63⟩
  · exact ⟨x68, y68⟩
  · exact ⟨x69, y69⟩
  · exact ⟨fun N z => ⟨fun q hq => (by cases hq), k80, u80, c80, v80⟩, y80⟩
  · exact ⟨fun N z => ⟨fun q hq => (by cases hq), k81, u81, c81, v81⟩, y81⟩
set_option maxRecDepth 100000 in
theorem en_in : Jvm.Cond.laysStatic "java/lang/String" "COMPACT_STRINGS" "Z" ∈ lw_tbl ∧ Jvm.Cond.laysStatic "jdk/internal/util/Preconditions" "SIOOBE_FORMATTER" "Ljava/util/function/BiFunction;" ∈ lw_tbl ∧ Jvm.Cond.initialized "java/lang/String" ∈ lw_tbl ∧ Jvm.Cond.initialized "jdk/internal/util/Preconditions" ∈ lw_tbl := ⟨isW0_in (p := 2026) (by decide +kernel), isW0_in (p := 2042) (by decide +kernel), isW0_in (p := 1008) (by decide +kernel), isW0_in (p := 1010) (by decide +kernel)⟩
set_option maxRecDepth 100000 in
theorem en_fl : (Jvm.Cond.eq (.static "java/lang/String" "COMPACT_STRINGS" "Z") (.int 1)) ∈ flatC (Jvm.Cond.and given_1 narrow_1) ∧ (Jvm.Cond.isRef (.static "jdk/internal/util/Preconditions" "SIOOBE_FORMATTER" "Ljava/util/function/BiFunction;")) ∈ flatC (Jvm.Cond.and given_1 narrow_1) := by
  constructor <;> decide +kernel
set_option maxRecDepth 100000 in
theorem sp_all : (List.range 19).all (fun o => (mthL.getD o []).all ((fun (_ : Nat) (q : Nat × Nat × Nat × Nat) => decide (q.2.1 < 9000 ∨ q.2.2.1 = 0)) o)) = true := by decide +kernel
theorem no_sp (own i q : Nat) {y : Nat} (hy : 9000 ≤ y) : mthT own i ≠ some (y, 1, q) := by
  intro h
  have h1 : y < 9000 ∨ 1 = 0 := of_decide_eq_true (tab_in sp_all rfl h).2
  omega
theorem fix_at {s : State} {b L : Nat} {xs : Nat → Int32} (hts : ∀ w ∈ lw_tbl, w.before #[Value.ref b] s = true) (hX : va_X b L xs s s.heap) (hbl : b < s.heap.size) (hgv : (Jvm.Cond.and given_1 narrow_1).before #[Value.ref b] s = true) :
    ∃ (aS : Nat → Nat) (cT : Nat → ClassId) (D : va_G) (fm : Value), aS 0 = b ∧ (fm = .null ∨ fm = .ref 61) ∧ Fix s.heap.size aS cT D (L, xs, fm) s s.heap := by
  have hA : ∀ a : Nat, a < s.heap.size → ¬ s.heap.size ≤ a := fun a h => Nat.not_le.mpr h
  have hfl := flat_of_before _ hgv
  have hs : ∀ i : Nat, ∃ q : Nat × Nat, i < 30 → (tmS i).eval #[Value.ref b] s none [] s = some (.ref q.1) ∧ va_O "java/lang/String" q.1 (fun q => s.heap.size ≤ q) s s.heap ∧ va_OF "java/lang/String" "coder" "B" (.int 0) q.1 (fun q => s.heap.size ≤ q) s s.heap ∧ va_OF "java/lang/String" "value" "[B" (.ref q.2) q.1 (fun q => s.heap.size ≤ q) s s.heap ∧ va_T .byte q.2 (lenL.getD i 0) (fun j => .int ((bytL.getD i []).getD j 0)) (fun q => s.heap.size ≤ q) s s.heap := by
    intro i
    by_cases hi : i < 30
    · obtain ⟨q, hq⟩ := vx_one (A := fun q => s.heap.size ≤ q) hi (fun c hc => hfl c (strC_in hi c hc)) hA
      exact ⟨q, fun _ => hq⟩
    · exact ⟨(0, 0), fun h => absurd h hi⟩
  obtain ⟨sa, hsa⟩ := Classical.axiomOfChoice hs
  obtain ⟨cT, hcT, hkA⟩ := arr_at hts
  have hcl : ∀ ci : Nat, ∃ q : ClassId × (Nat → Nat), ci < 12 → u_Kn s (clsS ci) (fT ci) (nfl ci) q.1 q.2 := by
    intro ci
    by_cases hci : ci < 12
    · have good : ∀ w, w ∈ lw_good → w ∈ lw_tbl := fun w hw => (List.mem_filter.mp hw).1
      obtain ⟨c, iS, h⟩ := u_known (C := clsS ci) (T := fT ci) (N := nfl ci) hts (fun w hw => good _ (cl_ws hci w hw)) (hts _ (good _ (isW_in (cl_row hci).1)))
      exact ⟨(c, iS), fun _ => h⟩
    · exact ⟨((0 : Nat), fun _ => 0), fun h => absurd h hci⟩
  obtain ⟨cs, hcs⟩ := Classical.axiomOfChoice hcl
  have hZq := va_Zqof (A := fun q => s.heap.size ≤ q) (hts _ en_in.2.1) (hts _ en_in.2.2.2) (hfl _ en_fl.2) hA
  have hZc := va_Zof (A := fun q => s.heap.size ≤ q) (hts _ en_in.1) (hts _ en_in.2.2.1) (va_eqt (hfl _ en_fl.1)) hA
  obtain ⟨fm, ft, hfn, hfm⟩ : ∃ (fm : Value) (ft : Nat), (fm = .null ∨ fm = .ref 61) ∧ ∀ (B : Nat) (aS : Nat → Nat), aS 61 = ft → va_Z "jdk/internal/util/Preconditions" "SIOOBE_FORMATTER" "Ljava/util/function/BiFunction;" (tr B aS fm) (fun q => s.heap.size ≤ q) s s.heap := by
    rcases hZq with h | ⟨t, h⟩
    · exact ⟨.null, 0, Or.inl rfl, fun _ _ _ => h⟩
    · refine ⟨.ref 61, t, Or.inr rfl, fun B aS e => ?_⟩
      rw [tr_lo (by decide), e]
      exact h
  have hlt1 : ∀ i, i < 30 → ∀ n, 1 ≤ n → (if 1 + i = 0 then b else if 1 + i < 31 then (sa (1 + i - 1)).1 else if 1 + i < 61 then (sa (1 + i - 31)).2 else ft) = (sa i).1 := fun i hi _ _ => by
    rw [if_neg (by omega), if_pos (by omega), show 1 + i - 1 = i by omega]
  have hlt2 : ∀ i, i < 30 → (if 31 + i = 0 then b else if 31 + i < 31 then (sa (31 + i - 1)).1 else if 31 + i < 61 then (sa (31 + i - 31)).2 else ft) = (sa i).2 := fun i hi => by
    rw [if_neg (by omega), if_neg (by omega), if_pos (by omega), show 31 + i - 31 = i by omega]
  refine ⟨fun k => if k = 0 then b else if k < 31 then (sa (k - 1)).1 else if k < 61 then (sa (k - 31)).2 else ft, cT, (fun ci => (cs ci).1, fun ci => (cs ci).2), fm, rfl, hfn, ⟨fun c q hq => ?_, fun k q hq => ?_⟩, hkA, fun i hi => ?_, ⟨hX, hbl⟩, hZc, hfm _ _ rfl, fun own i k q hq => ?_, Nat.le_refl _, ⟨va_AO.of (hts _ ao_in.1), va_AO.of (hts _ ao_in.2.1), va_AO.of (hts _ ao_in.2.2.1), va_AO.of (hts _ ao_in.2.2.2.1), hts _ ao_in.2.2.2.2.1, hts _ ao_in.2.2.2.2.2.1⟩, fun own i y q hq => ?_⟩
  · have hc12 : c < 12 := (List.getElem?_eq_some_iff.mp hq).1
    have e := (cl_at hc12).symm.trans hq
    cases e
    exact hcs c hc12
  · obtain ⟨t, ht, rfl⟩ := List.mem_map.mp (List.mem_of_getElem? hq)
    exact hcT t ht
  · have h := (hsa i hi).2
    simp only [hlt1 i hi 1 (Nat.le_refl _), hlt2 i hi]
    exact h
  · have h1 := (tab_in str_tab rfl hq).2
    simp only [Bool.and_eq_true, decide_eq_true_eq] at h1
    obtain ⟨⟨g1, g2⟩, g3⟩ := h1
    have h2 := (hsa k g1).1
    unfold tmS at h2
    rw [g2] at h2
    refine ⟨strX.getD k "", ?_⟩
    simp only [hlt1 k g1 1 (Nat.le_refl _)]
    exact vk_R.of (hts _ (isW0_in g3)) h2
  · have h1 := (tab_in mth_all rfl hq).2
    simp only [mthOK] at h1
    have h9 : ¬ y = 9999 ∧ ¬ y = 9998 := by
      refine ⟨fun z => ?_, fun z => ?_⟩ <;> subst z <;> exact absurd hq (no_sp _ _ _ (by decide))
    rw [if_neg h9.1, if_neg h9.2] at h1
    simp only [Bool.and_eq_true] at h1
    have h2 := h1.2
    rw [if_neg (by decide)] at h2
    simp only [Bool.and_eq_true] at h2
    exact va_Nw.of rfl (hts _ (isW0_in h2.1))
