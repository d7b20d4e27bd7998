/-! EACH INSTRUCTION OF THE ABSTRACT MACHINE IS ONE OF THE MACHINE -/
theorem nx_inv {pc : Nat} {ls : LV} {st : List Value} {h : Hp} {o : MSt} (e : nx pc ls st h = some (.inl o)) : o = (pc, ls, st, h) := by
  unfold nx at e
  cases e
  rfl
theorem rt_inv {v : Option Value} {h : Hp} {o : MSt} (e : rt v h = some (.inl o)) : False := by
  unfold rt at e
  cases e
theorem ad_hi {B : Nat} {aS : Nat → Nat} {a : Nat} (h : 62 ≤ a) : ad B aS a = B + (a - 62) := if_neg (by omega)
theorem ad_lo {B : Nat} {aS : Nat → Nat} {a : Nat} (h : a < 62) : ad B aS a = aS a := if_pos h
theorem tr_hi {B : Nat} {aS : Nat → Nat} {a : Nat} (h : 62 ≤ a) : tr B aS (.ref a) = .ref (B + (a - 62)) := by
  show Value.ref _ = _
  rw [ad_hi h]
theorem tr_lo {B : Nat} {aS : Nat → Nat} {a : Nat} (h : a < 62) : tr B aS (.ref a) = .ref (aS a) := by
  show Value.ref _ = _
  rw [ad_lo h]
/-- classes -/
theorem cl_row {ci : Nat} (hc : ci < 12) : isW (nInst.getD ci 0) (.instantiable (clsS ci) (nfl ci)) = true ∧ isW (nIni.getD ci 0) (.initialized (clsS ci)) = true ∧ (vwCl[ci]?).map (fun r => (r.1, r.2.2)) = some (clsS ci, nfl ci) ∧ ∀ k, k < nfl ci → (fT ci k).1 = clsS ci ∧ parseFieldDescriptor (fT ci k).2.2.1 = some (tyF ci k) ∧ u_lay (clsS ci) (fT ci) k ∈ lw_good ∧ (fty ci k = match tyF ci k with
    | .int => 0
    | .long => 1
    | .boolean => 3
    | .object _ => 2
    | .array _ => 2
    | _ => 9) ∧ fty ci k ≤ 3 := by
  have h : clsOK ci = true := by
    match ci, hc with
    | 0, _ => exact cls_all0
    | 1, _ => exact cls_all1
    | 2, _ => exact cls_all2
    | 3, _ => exact cls_all3
    | 4, _ => exact cls_all4
    | 5, _ => exact cls_all5
    | 6, _ => exact cls_all6
    | 7, _ => exact cls_all7
    | 8, _ => exact cls_all8
    | 9, _ => exact cls_all9
    | 10, _ => exact cls_all10
    | 11, _ => exact cls_all11
    | n + 12, h => exact absurd h (by omega)
  unfold clsOK at h
  simp only [Bool.and_eq_true, decide_eq_true_eq] at h
  obtain ⟨⟨⟨h1, h2⟩, h3⟩, h4⟩ := h
  refine ⟨h1, h2, h3, fun k hk => ?_⟩
  have h5 := List.all_eq_true.mp h4 k (List.mem_range.mpr hk)
  simp only [Bool.and_eq_true, decide_eq_true_eq] at h5
  obtain ⟨⟨⟨⟨g1, g2⟩, g3⟩, g4⟩, g5⟩ := h5
  exact ⟨g1, g2, isW_in g3, g4, g5⟩
theorem cl_at {ci : Nat} (hc : ci < 12) : vwCl[ci]? = some (clsS ci, fT ci, nfl ci) := by
  have h := (cl_row hc).2.2.1
  cases e : vwCl[ci]? with
  | none => rw [e] at h; cases h
  | some r =>
    rw [e] at h
    obtain ⟨r1, r2, r3⟩ := r
    have h2 : (r1, r3) = (clsS ci, nfl ci) := Option.some.inj h
    have e2 : fT ci = r2 := by unfold fT; rw [e]
    rw [e2]
    rw [show r1 = clsS ci from congrArg Prod.fst h2, show r3 = nfl ci from congrArg Prod.snd h2]
theorem cl_ws {ci : Nat} (hc : ci < 12) : ∀ w ∈ u_ws (clsS ci) (fT ci) (nfl ci), w ∈ lw_good := by
  intro w hw
  obtain ⟨k, hk, rfl⟩ := List.mem_map.mp hw
  exact ((cl_row hc).2.2.2 k (List.mem_range.mp hk)).2.2.1
theorem cl_ty {ci : Nat} (hc : ci < 12) : ∀ k, k < nfl ci → parseFieldDescriptor (fT ci k).2.2.1 = some (tyF ci k) := fun k hk => ((cl_row hc).2.2.2 k hk).2.1
theorem cl_nm {ci : Nat} (hc : ci < 12) : ∀ a, a < nfl ci → ∀ b, b < nfl ci → a ≠ b → (fT ci a).2.1 ≠ (fT ci b).2.1 := by
  match ci, hc with
  | 0, _ => exact nmX0
  | 1, _ => exact nmX1
  | 2, _ => exact nmX2
  | 3, _ => exact nmX3
  | 4, _ => exact nmX4
  | 5, _ => exact nmX5
  | 6, _ => exact nmX6
  | 7, _ => exact nmX7
  | 8, _ => exact nmX8
  | 9, _ => exact nmX9
  | 10, _ => exact nmX10
  | 11, _ => exact nmX11
  | n + 12, h => exact absurd h (by omega)
theorem fld_row {own i ci k q : Nat} (h : fldT own i = some (ci, k, q)) : ci < 12 ∧ k < nfl ci ∧ Cond.fieldLink (clsS own) i (clsS ci) (fT ci k).2.1 (fT ci k).2.2.1 ∈ lw_good := by
  have h1 := (tab_in fld_all rfl h).2
  simp only [Bool.and_eq_true, decide_eq_true_eq] at h1
  exact ⟨h1.1.1, h1.1.2, isW_in h1.2⟩
theorem flds_at {B : Nat} {aS : Nat → Nat} {h : Hp} {a ci k : Nat} (hk : k < nfl ci) : (flds B aS h a ci)[k]? = some (fv B aS h a k (fty ci k)) := by
  unfold flds
  rw [List.getElem?_map, List.getElem?_range hk]
  rfl
theorem cel_obj {B : Nat} {aS : Nat → Nat} {cT : Nat → ClassId} {h : Hp} {a ci : Nat} (hc : ci < 12) (e : hS h a = (ci + 1, 0)) : cel B aS cT h a = .inr (ci, flds B aS h a ci) := by
  unfold cel
  rw [e]
  exact if_pos (show ci + 1 < 13 by omega)
theorem cel_50 {B : Nat} {aS : Nat → Nat} {cT : Nat → ClassId} {h : Hp} {a : Nat} (e : (hS h a).1 = 50) : cel B aS cT h a = .inl (cT 50, (hS h a).2, .inl (hI h a)) := by
  unfold cel
  rw [e]
  rfl
theorem cel_52 {B : Nat} {aS : Nat → Nat} {cT : Nat → ClassId} {h : Hp} {a : Nat} (e : (hS h a).1 = 52) : cel B aS cT h a = .inl (cT 52, (hS h a).2, .inl (hI h a)) := by
  unfold cel
  rw [e]
  rfl
theorem cel_51 {B : Nat} {aS : Nat → Nat} {cT : Nat → ClassId} {h : Hp} {a : Nat} (e : (hS h a).1 = 51) : cel B aS cT h a = .inl (cT 51, (hS h a).2, .inr (.inl (hJ h a))) := by
  unfold cel
  rw [e]
  rfl
theorem cel_rf {B : Nat} {aS : Nat → Nat} {cT : Nat → ClassId} {h : Hp} {a : Nat} (e : 60 ≤ (hS h a).1) : cel B aS cT h a = .inl (cT (hS h a).1, (hS h a).2, .inr (.inr (.inr (.inr fun j => (hP h a j).map (ad B aS))))) := by
  unfold cel
  rw [if_neg (by omega), if_neg (by omega), if_neg (by omega)]
theorem World.one {B : Nat} {aS : Nat → Nat} {cT : Nat → ClassId} {D : va_G} {h : Hp} {H : Heap} {a : Nat} {e : va_E} (hW : World B aS cT D h H) (ha : hS h a ≠ (0, 0)) (he : cel B aS cT h a = e) : va_P D vwCl [(B + (a - 62), e)] H := by
  intro k q hq
  cases k with
  | zero =>
    cases hq
    rw [← he]
    exact hW.2.2 a ha
  | succ k => cases hq
theorem one_D {B a : Nat} {e : va_E} : va_D (fun q => B ≤ q) [(B + (a - 62), e)] := by
  refine ⟨fun i j p q hi hj _ => ?_, fun k q hq => ?_⟩
  · cases i with
    | zero => cases j with
      | zero => rfl
      | succ j => cases hj
    | succ i => cases hi
  · cases k with
    | zero => cases hq; exact Nat.le_add_right _ _
    | succ k => cases hq
theorem ne0_of_fst {h : Hp} {a t : Nat} (ht : t ≠ 0) (e : (hS h a).1 = t) : hS h a ≠ (0, 0) := by
  intro q
  rw [q] at e
  exact ht e.symm
theorem ne0_of {h : Hp} {a : Nat} {q : Nat × Nat} (hq : q.1 ≠ 0) (e : hS h a = q) : hS h a ≠ (0, 0) := by
  intro z
  rw [z] at e
  exact hq (by rw [← e])
def CX (p : Program) (s : State) (m : MethodId) (args : Array Value) (meth : Method) (c : Code) (R : Room) (B : Nat) (aS : Nat → Nat) (cT : Nat → ClassId) (D : va_G) (X : Ctx) (y d : Nat) : Prop :=
  p.tables.exec = Jvm.exec ∧ c.code = mCode y ∧ c.maxLocals = mLoc y ∧ s.vm.findClass (clsS (mOwn y)) = some m.cls ∧ (∀ w ∈ lw_good, w.before args s = true) ∧ meth.sig.returnType = mRet y ∧ meth.locks = false ∧ ((mName y).name = "<init>" → meth.name = "<init>") ∧ Fix B aS cT D X s s.heap ∧ d + 1 ≤ R.frames ∧ 60 * (d + 1) ≤ R.locals
def SI (s : State) (B : Nat) (aS : Nat → Nat) (cT : Nat → ClassId) (D : va_G) (y : Nat) (ls : LV) (Ls : Array Slot) (h : Hp) (H : Heap) (locs : List Loc) : Prop :=
  LR B aS ls Ls ∧ ls.length = mLoc y ∧ World B aS cT D h H ∧ va_S (fun q => B ≤ q) s.heap H locs
def KK (p : Program) (l : Launch) (e : Env) (R : Room) (s : State) (m : MethodId) (args : Array Value) (below : List Frame) (meth : Method) (c : Code) (B : Nat) (aS : Nat → Nat) (cT : Nat → ClassId) (D : va_G) (Q : State → Prop) (y : Nat) (h : Hp) (cells slots : Nat) (o : MSt) : Prop :=
  ∀ (H1 : Heap) (locs1 : List Loc) (Ls1 : Array Slot) (c1 s1 : Nat), SI s B aS cT D y o.2.1 Ls1 o.2.2.2 H1 locs1 → c1 + hN h = cells + hN o.2.2.2 → s1 + hK h = slots + hK o.2.2.2 → W p l e R s m args below meth c H1 locs1 c1 s1 Q (F0 m o.1 Ls1 (o.2.2.1.map (tr B aS)))
section WS
variable {p : Program} {l : Launch} {e : Env} {R : Room} {s : State} {m : MethodId} {args : Array Value} {below : List Frame} {meth : Method} {c : Code} {H : Heap} {locs : List Loc} {cells slots : Nat} {Q : State → Prop}
variable {B : Nat} {aS : Nat → Nat} {cT : Nat → ClassId} {D : va_G} {X : Ctx} {C : Orc} {y d pc len : Nat} {ls : LV} {Ls : Array Slot} {st : List Value} {h : Hp} {o : MSt}
theorem w_strW (hx : p.tables.exec = Jvm.exec) (hb : c.code = mCode y) {own tx : String} {index q : Nat} {rest : List Value} (hown : s.vm.findClass own = some m.cls) (hZ : vk_R own index tx q s) (hdg : decode (mCode y) pc = .ok (.ldc_w index, 3))
    (k : W p l e R s m args below meth c H locs cells slots Q (F0 m (pc + 3) Ls (.ref q :: rest))) : W p l e R s m args below meth c H locs cells slots Q (F0 m pc Ls rest) := by
  intro T hT X
  obtain ⟨t, a1, b1⟩ := k T hT X
  refine ⟨t, ?_, b1⟩
  obtain ⟨k2, cf, i, a', hk, hcf, hcp, -, hr, hev'⟩ := Cond.stringRef_spec hown hZ.1
  cases hZ.2.symm.trans hev'
  obtain ⟨k', hk', he⟩ := X.warmed.alike.2.2 _ _ hk
  have hr' : k'.resolved[index]? = some (some (.string q)) := by
    rcases X.warmed.entry hk hk' index with h | ⟨h, -⟩
    · rw [h]; exact hr
    · rw [hr] at h; cases h
  have hd2 : decode c.code pc = .ok (.ldc_w index, 3) := by rw [hb]; exact hdg
  jvm_step X.here [hx, hd2, ldc_w.wp_string (e := e) (s := T) (f := F0 m pc Ls rest) X.here.top hk' (by rw [he]; exact hcf) hcp hr']
  exact a1
theorem CX.K (cx : CX p s m args meth c R B aS cT D X y d) : va_K D vwCl (tysL cT) s := cx.2.2.2.2.2.2.2.2.1.1
theorem CX.ts (cx : CX p s m args meth c R B aS cT D X y d) : ∀ w ∈ lw_good, w.before args s = true := cx.2.2.2.2.1
theorem CX.own (cx : CX p s m args meth c R B aS cT D X y d) : s.vm.findClass (clsS (mOwn y)) = some m.cls := cx.2.2.2.1
theorem CX.F (cx : CX p s m args meth c R B aS cT D X y d) : Fix B aS cT D X s s.heap := cx.2.2.2.2.2.2.2.2.1
theorem KK.same (kk : KK p l e R s m args below meth c B aS cT D Q y h cells slots o) (I : SI s B aS cT D y ls Ls h H locs) (e1 : o.2.1 = ls) (e2 : o.2.2.2 = h) : W p l e R s m args below meth c H locs cells slots Q (F0 m o.1 Ls (o.2.2.1.map (tr B aS))) := by
  subst e1; subst e2
  exact kk H locs Ls cells slots I rfl rfl

theorem w_aload_n {k : Fin 4} (cx : CX p s m args meth c R B aS cT D X y d) (I : SI s B aS cT D y ls Ls h H locs) (hd : decode (mCode y) pc = .ok (.aload_n k, len)) (hs : stpI (X, C) y (.aload_n k) len pc ls st h = some (.inl o)) (kk : KK p l e R s m args below meth c B aS cT D Q y h cells slots o) : W p l e R s m args below meth c H locs cells slots Q (F0 m pc Ls (st.map (tr B aS))) := by
  simp only [stpI] at hs
  replace hs := gd_inv hs; obtain ⟨rfl, hs⟩ := hs
  replace hs := lR_inv hs; obtain ⟨x, hx, hs⟩ := hs
  obtain rfl := nx_inv hs
  exact lv_aload_n cx.1 cx.2.1 hd rfl (I.1.2.2 _ _ hx (fun q => absurd q (by simp [Value.category]))) (kk.same I rfl rfl)
theorem w_aload {i : Nat} (cx : CX p s m args meth c R B aS cT D X y d) (I : SI s B aS cT D y ls Ls h H locs) (hd : decode (mCode y) pc = .ok (.aload i, len)) (hs : stpI (X, C) y (.aload i) len pc ls st h = some (.inl o)) (kk : KK p l e R s m args below meth c B aS cT D Q y h cells slots o) : W p l e R s m args below meth c H locs cells slots Q (F0 m pc Ls (st.map (tr B aS))) := by
  simp only [stpI] at hs
  replace hs := gd_inv hs; obtain ⟨rfl, hs⟩ := hs
  replace hs := lR_inv hs; obtain ⟨x, hx, hs⟩ := hs
  obtain rfl := nx_inv hs
  exact lv_aload cx.1 cx.2.1 hd (I.1.2.2 _ _ hx (fun q => absurd q (by simp [Value.category]))) (kk.same I rfl rfl)
theorem w_iload_n {k : Fin 4} (cx : CX p s m args meth c R B aS cT D X y d) (I : SI s B aS cT D y ls Ls h H locs) (hd : decode (mCode y) pc = .ok (.iload_n k, len)) (hs : stpI (X, C) y (.iload_n k) len pc ls st h = some (.inl o)) (kk : KK p l e R s m args below meth c B aS cT D Q y h cells slots o) : W p l e R s m args below meth c H locs cells slots Q (F0 m pc Ls (st.map (tr B aS))) := by
  simp only [stpI] at hs
  replace hs := gd_inv hs; obtain ⟨rfl, hs⟩ := hs
  replace hs := lI_inv hs; obtain ⟨x, hx, hs⟩ := hs
  obtain rfl := nx_inv hs
  exact lv_iload_n cx.1 cx.2.1 hd rfl (I.1.2.2 _ _ hx (fun q => absurd q (by simp [Value.category]))) (kk.same I rfl rfl)
theorem w_iload {i : Nat} (cx : CX p s m args meth c R B aS cT D X y d) (I : SI s B aS cT D y ls Ls h H locs) (hd : decode (mCode y) pc = .ok (.iload i, len)) (hs : stpI (X, C) y (.iload i) len pc ls st h = some (.inl o)) (kk : KK p l e R s m args below meth c B aS cT D Q y h cells slots o) : W p l e R s m args below meth c H locs cells slots Q (F0 m pc Ls (st.map (tr B aS))) := by
  simp only [stpI] at hs
  replace hs := gd_inv hs; obtain ⟨rfl, hs⟩ := hs
  replace hs := lI_inv hs; obtain ⟨x, hx, hs⟩ := hs
  obtain rfl := nx_inv hs
  exact lv_iload cx.1 cx.2.1 hd (I.1.2.2 _ _ hx (fun q => absurd q (by simp [Value.category]))) (kk.same I rfl rfl)
theorem w_lload_n {k : Fin 4} (cx : CX p s m args meth c R B aS cT D X y d) (I : SI s B aS cT D y ls Ls h H locs) (hd : decode (mCode y) pc = .ok (.lload_n k, len)) (hs : stpI (X, C) y (.lload_n k) len pc ls st h = some (.inl o)) (kk : KK p l e R s m args below meth c B aS cT D Q y h cells slots o) : W p l e R s m args below meth c H locs cells slots Q (F0 m pc Ls (st.map (tr B aS))) := by
  simp only [stpI] at hs
  replace hs := gd_inv hs; obtain ⟨rfl, hs⟩ := hs
  replace hs := lJ_inv hs; obtain ⟨x, hx, hx2, hs⟩ := hs
  obtain rfl := nx_inv hs
  exact lv_lload_n cx.1 cx.2.1 hd rfl (I.1.2.2 _ _ hx (fun _ => hx2)) (kk.same I rfl rfl)
theorem w_lload {i : Nat} (cx : CX p s m args meth c R B aS cT D X y d) (I : SI s B aS cT D y ls Ls h H locs) (hd : decode (mCode y) pc = .ok (.lload i, len)) (hs : stpI (X, C) y (.lload i) len pc ls st h = some (.inl o)) (kk : KK p l e R s m args below meth c B aS cT D Q y h cells slots o) : W p l e R s m args below meth c H locs cells slots Q (F0 m pc Ls (st.map (tr B aS))) := by
  simp only [stpI] at hs
  replace hs := gd_inv hs; obtain ⟨rfl, hs⟩ := hs
  replace hs := lJ_inv hs; obtain ⟨x, hx, hx2, hs⟩ := hs
  obtain rfl := nx_inv hs
  exact lv_lload cx.1 cx.2.1 hd (I.1.2.2 _ _ hx (fun _ => hx2)) (kk.same I rfl rfl)
theorem w_istore_n {k : Fin 4} (cx : CX p s m args meth c R B aS cT D X y d) (I : SI s B aS cT D y ls Ls h H locs) (hd : decode (mCode y) pc = .ok (.istore_n k, len)) (hs : stpI (X, C) y (.istore_n k) len pc ls st h = some (.inl o)) (kk : KK p l e R s m args below meth c B aS cT D Q y h cells slots o) : W p l e R s m args below meth c H locs cells slots Q (F0 m pc Ls (st.map (tr B aS))) := by
  simp only [stpI] at hs
  replace hs := gd_inv hs; obtain ⟨rfl, hs⟩ := hs
  replace hs := pI_inv hs; obtain ⟨x, st, rfl, hs⟩ := hs
  replace hs := tI_inv hs; obtain ⟨hi, hs⟩ := hs
  obtain rfl := nx_inv hs
  exact lv_istore_n (lv := prs B aS ls) cx.1 cx.2.1 hd rfl I.1.has hi rfl (fun Ls1 hl1 => kk H locs Ls1 cells slots ⟨LR.set1 hi rfl hl1, by rw [List.length_set]; exact I.2.1, I.2.2⟩ rfl rfl)
theorem w_istore {i : Nat} (cx : CX p s m args meth c R B aS cT D X y d) (I : SI s B aS cT D y ls Ls h H locs) (hd : decode (mCode y) pc = .ok (.istore i, len)) (hs : stpI (X, C) y (.istore i) len pc ls st h = some (.inl o)) (kk : KK p l e R s m args below meth c B aS cT D Q y h cells slots o) : W p l e R s m args below meth c H locs cells slots Q (F0 m pc Ls (st.map (tr B aS))) := by
  simp only [stpI] at hs
  replace hs := gd_inv hs; obtain ⟨rfl, hs⟩ := hs
  replace hs := pI_inv hs; obtain ⟨x, st, rfl, hs⟩ := hs
  replace hs := tI_inv hs; obtain ⟨hi, hs⟩ := hs
  obtain rfl := nx_inv hs
  exact lv_istore (lv := prs B aS ls) cx.1 cx.2.1 hd I.1.has hi rfl (fun Ls1 hl1 => kk H locs Ls1 cells slots ⟨LR.set1 hi rfl hl1, by rw [List.length_set]; exact I.2.1, I.2.2⟩ rfl rfl)
theorem w_astore_n {k : Fin 4} (cx : CX p s m args meth c R B aS cT D X y d) (I : SI s B aS cT D y ls Ls h H locs) (hd : decode (mCode y) pc = .ok (.astore_n k, len)) (hs : stpI (X, C) y (.astore_n k) len pc ls st h = some (.inl o)) (kk : KK p l e R s m args below meth c B aS cT D Q y h cells slots o) : W p l e R s m args below meth c H locs cells slots Q (F0 m pc Ls (st.map (tr B aS))) := by
  simp only [stpI] at hs
  replace hs := gd_inv hs; obtain ⟨rfl, hs⟩ := hs
  replace hs := pR_inv hs; obtain ⟨x, st, rfl, hs⟩ := hs
  replace hs := tI_inv hs; obtain ⟨hi, hs⟩ := hs
  obtain rfl := nx_inv hs
  exact lv_astore_n (lv := prs B aS ls) cx.1 cx.2.1 hd rfl I.1.has hi rfl (fun Ls1 hl1 => kk H locs Ls1 cells slots ⟨LR.set1 hi rfl hl1, by rw [List.length_set]; exact I.2.1, I.2.2⟩ rfl rfl)
theorem w_astore {i : Nat} (cx : CX p s m args meth c R B aS cT D X y d) (I : SI s B aS cT D y ls Ls h H locs) (hd : decode (mCode y) pc = .ok (.astore i, len)) (hs : stpI (X, C) y (.astore i) len pc ls st h = some (.inl o)) (kk : KK p l e R s m args below meth c B aS cT D Q y h cells slots o) : W p l e R s m args below meth c H locs cells slots Q (F0 m pc Ls (st.map (tr B aS))) := by
  simp only [stpI] at hs
  replace hs := gd_inv hs; obtain ⟨rfl, hs⟩ := hs
  replace hs := pR_inv hs; obtain ⟨x, st, rfl, hs⟩ := hs
  replace hs := tI_inv hs; obtain ⟨hi, hs⟩ := hs
  obtain rfl := nx_inv hs
  exact lv_astore (lv := prs B aS ls) cx.1 cx.2.1 hd I.1.has hi rfl (fun Ls1 hl1 => kk H locs Ls1 cells slots ⟨LR.set1 hi rfl hl1, by rw [List.length_set]; exact I.2.1, I.2.2⟩ rfl rfl)
theorem w_lstore_n {k : Fin 4} (cx : CX p s m args meth c R B aS cT D X y d) (I : SI s B aS cT D y ls Ls h H locs) (hd : decode (mCode y) pc = .ok (.lstore_n k, len)) (hs : stpI (X, C) y (.lstore_n k) len pc ls st h = some (.inl o)) (kk : KK p l e R s m args below meth c B aS cT D Q y h cells slots o) : W p l e R s m args below meth c H locs cells slots Q (F0 m pc Ls (st.map (tr B aS))) := by
  simp only [stpI] at hs
  replace hs := gd_inv hs; obtain ⟨rfl, hs⟩ := hs
  replace hs := pJ_inv hs; obtain ⟨x, st, rfl, hs⟩ := hs
  replace hs := tJ_inv hs; obtain ⟨hi, hs⟩ := hs
  obtain rfl := nx_inv hs
  exact lv_lstore_n (lv := prs B aS ls) cx.1 cx.2.1 hd rfl I.1.has hi rfl (fun Ls1 hl1 => kk H locs Ls1 cells slots ⟨LR.set2 hi hl1, by rw [List.length_set, List.length_set]; exact I.2.1, I.2.2⟩ rfl rfl)
theorem w_lstore {i : Nat} (cx : CX p s m args meth c R B aS cT D X y d) (I : SI s B aS cT D y ls Ls h H locs) (hd : decode (mCode y) pc = .ok (.lstore i, len)) (hs : stpI (X, C) y (.lstore i) len pc ls st h = some (.inl o)) (kk : KK p l e R s m args below meth c B aS cT D Q y h cells slots o) : W p l e R s m args below meth c H locs cells slots Q (F0 m pc Ls (st.map (tr B aS))) := by
  simp only [stpI] at hs
  replace hs := gd_inv hs; obtain ⟨rfl, hs⟩ := hs
  replace hs := pJ_inv hs; obtain ⟨x, st, rfl, hs⟩ := hs
  replace hs := tJ_inv hs; obtain ⟨hi, hs⟩ := hs
  obtain rfl := nx_inv hs
  exact lv_lstore (lv := prs B aS ls) cx.1 cx.2.1 hd I.1.has hi rfl (fun Ls1 hl1 => kk H locs Ls1 cells slots ⟨LR.set2 hi hl1, by rw [List.length_set, List.length_set]; exact I.2.1, I.2.2⟩ rfl rfl)
theorem w_iinc {i : Nat} {n : Int} (cx : CX p s m args meth c R B aS cT D X y d) (I : SI s B aS cT D y ls Ls h H locs) (hd : decode (mCode y) pc = .ok (.iinc i n, len)) (hs : stpI (X, C) y (.iinc i n) len pc ls st h = some (.inl o)) (kk : KK p l e R s m args below meth c B aS cT D Q y h cells slots o) : W p l e R s m args below meth c H locs cells slots Q (F0 m pc Ls (st.map (tr B aS))) := by
  simp only [stpI] at hs
  replace hs := gd_inv hs; obtain ⟨rfl, hs⟩ := hs
  replace hs := lI_inv hs; obtain ⟨x, hx, hs⟩ := hs
  replace hs := tI_inv hs; obtain ⟨hi, hs⟩ := hs
  obtain rfl := nx_inv hs
  obtain ⟨k, hk⟩ := List.getElem?_of_mem (prs_in (B := B) (aS := aS) hx (fun q => absurd q (by simp [Value.category])))
  exact lv_iinc (lv := prs B aS ls) cx.1 cx.2.1 hd I.1.has hk rfl hi rfl (fun Ls1 hl1 => kk H locs Ls1 cells slots ⟨LR.set1 hi rfl hl1, by rw [List.length_set]; exact I.2.1, I.2.2⟩ rfl rfl)
theorem w_iconst {n : Int} (cx : CX p s m args meth c R B aS cT D X y d) (I : SI s B aS cT D y ls Ls h H locs) (hd : decode (mCode y) pc = .ok (.iconst n, len)) (hs : stpI (X, C) y (.iconst n) len pc ls st h = some (.inl o)) (kk : KK p l e R s m args below meth c B aS cT D Q y h cells slots o) : W p l e R s m args below meth c H locs cells slots Q (F0 m pc Ls (st.map (tr B aS))) := by
  simp only [stpI] at hs
  replace hs := gd_inv hs; obtain ⟨rfl, hs⟩ := hs
  obtain rfl := nx_inv hs
  exact lv_iconst cx.1 cx.2.1 hd rfl (kk.same I rfl rfl)
theorem w_bipush {n : Int} (cx : CX p s m args meth c R B aS cT D X y d) (I : SI s B aS cT D y ls Ls h H locs) (hd : decode (mCode y) pc = .ok (.bipush n, len)) (hs : stpI (X, C) y (.bipush n) len pc ls st h = some (.inl o)) (kk : KK p l e R s m args below meth c B aS cT D Q y h cells slots o) : W p l e R s m args below meth c H locs cells slots Q (F0 m pc Ls (st.map (tr B aS))) := by
  simp only [stpI] at hs
  replace hs := gd_inv hs; obtain ⟨rfl, hs⟩ := hs
  obtain rfl := nx_inv hs
  exact lv_bipush cx.1 cx.2.1 hd rfl (kk.same I rfl rfl)
theorem w_sipush {n : Int} (cx : CX p s m args meth c R B aS cT D X y d) (I : SI s B aS cT D y ls Ls h H locs) (hd : decode (mCode y) pc = .ok (.sipush n, len)) (hs : stpI (X, C) y (.sipush n) len pc ls st h = some (.inl o)) (kk : KK p l e R s m args below meth c B aS cT D Q y h cells slots o) : W p l e R s m args below meth c H locs cells slots Q (F0 m pc Ls (st.map (tr B aS))) := by
  simp only [stpI] at hs
  replace hs := gd_inv hs; obtain ⟨rfl, hs⟩ := hs
  obtain rfl := nx_inv hs
  exact lv_sipush cx.1 cx.2.1 hd rfl (kk.same I rfl rfl)
theorem w_lconst {n : Fin 2} (cx : CX p s m args meth c R B aS cT D X y d) (I : SI s B aS cT D y ls Ls h H locs) (hd : decode (mCode y) pc = .ok (.lconst n, len)) (hs : stpI (X, C) y (.lconst n) len pc ls st h = some (.inl o)) (kk : KK p l e R s m args below meth c B aS cT D Q y h cells slots o) : W p l e R s m args below meth c H locs cells slots Q (F0 m pc Ls (st.map (tr B aS))) := by
  simp only [stpI] at hs
  replace hs := gd_inv hs; obtain ⟨rfl, hs⟩ := hs
  obtain rfl := nx_inv hs
  exact lv_lconst cx.1 cx.2.1 hd rfl (kk.same I rfl rfl)
theorem w_ldc {i : Nat} (cx : CX p s m args meth c R B aS cT D X y d) (I : SI s B aS cT D y ls Ls h H locs) (hd : decode (mCode y) pc = .ok (.ldc i, len)) (hs : stpI (X, C) y (.ldc i) len pc ls st h = some (.inl o)) (kk : KK p l e R s m args below meth c B aS cT D Q y h cells slots o) : W p l e R s m args below meth c H locs cells slots Q (F0 m pc Ls (st.map (tr B aS))) := by
  simp only [stpI] at hs
  replace hs := gd_inv hs; obtain ⟨rfl, hs⟩ := hs
  cases hc : cstT (mOwn y) i with
  | some vq =>
    obtain ⟨v, q⟩ := vq
    simp only [hc] at hs
    obtain rfl := nx_inv hs
    have h1 := (tab_in cst_all rfl hc).2
    exact lv_ldc cx.1 cx.2.1 cx.own (cx.ts _ (isW_in h1)) hd (kk.same I rfl rfl)
  | none =>
    cases hc2 : strT (mOwn y) i with
    | none => simp only [hc, hc2] at hs; cases hs
    | some kq =>
      obtain ⟨k, q⟩ := kq
      simp only [hc, hc2] at hs
      obtain rfl := nx_inv hs
      obtain ⟨tx, hz⟩ := cx.F.2.2.2.2.2.2.1 _ _ _ _ hc2
      have hk : k < 30 := by
        have h1 := (tab_in str_all rfl hc2).2
        simp only [Bool.and_eq_true, decide_eq_true_eq] at h1
        exact h1.1
      have k1 := kk.same I rfl rfl
      have e1 : ((pc + 2, ls, Value.ref (1 + k) :: st, h) : MSt).2.2.1.map (tr B aS) = .ref (aS (1 + k)) :: st.map (tr B aS) := by
        show tr B aS (.ref (1 + k)) :: _ = _
        rw [tr_lo (by omega)]
      rw [e1] at k1
      exact va_ldcS cx.1 cx.2.1 cx.own hz hd k1
theorem w_ldc_w {i : Nat} (cx : CX p s m args meth c R B aS cT D X y d) (I : SI s B aS cT D y ls Ls h H locs) (hd : decode (mCode y) pc = .ok (.ldc_w i, len)) (hs : stpI (X, C) y (.ldc_w i) len pc ls st h = some (.inl o)) (kk : KK p l e R s m args below meth c B aS cT D Q y h cells slots o) : W p l e R s m args below meth c H locs cells slots Q (F0 m pc Ls (st.map (tr B aS))) := by
  simp only [stpI] at hs
  replace hs := gd_inv hs; obtain ⟨rfl, hs⟩ := hs
  cases hc : cstT (mOwn y) i with
  | some vq =>
    obtain ⟨v, q⟩ := vq
    simp only [hc] at hs
    obtain rfl := nx_inv hs
    have h1 := (tab_in cst_all rfl hc).2
    exact lv_ldcw cx.1 cx.2.1 cx.own (cx.ts _ (isW_in h1)) hd (kk.same I rfl rfl)
  | none =>
    cases hc2 : strT (mOwn y) i with
    | none => simp only [hc, hc2] at hs; cases hs
    | some kq =>
      obtain ⟨k, q⟩ := kq
      simp only [hc, hc2] at hs
      obtain rfl := nx_inv hs
      obtain ⟨tx, hz⟩ := cx.F.2.2.2.2.2.2.1 _ _ _ _ hc2
      have hk : k < 30 := by
        have h1 := (tab_in str_all rfl hc2).2
        simp only [Bool.and_eq_true, decide_eq_true_eq] at h1
        exact h1.1
      have k1 := kk.same I rfl rfl
      have e1 : ((pc + 3, ls, Value.ref (1 + k) :: st, h) : MSt).2.2.1.map (tr B aS) = .ref (aS (1 + k)) :: st.map (tr B aS) := by
        show tr B aS (.ref (1 + k)) :: _ = _
        rw [tr_lo (by omega)]
      rw [e1] at k1
      exact w_strW cx.1 cx.2.1 cx.own hz hd k1
theorem w_ldc2_w {i : Nat} (cx : CX p s m args meth c R B aS cT D X y d) (I : SI s B aS cT D y ls Ls h H locs) (hd : decode (mCode y) pc = .ok (.ldc2_w i, len)) (hs : stpI (X, C) y (.ldc2_w i) len pc ls st h = some (.inl o)) (kk : KK p l e R s m args below meth c B aS cT D Q y h cells slots o) : W p l e R s m args below meth c H locs cells slots Q (F0 m pc Ls (st.map (tr B aS))) := by
  simp only [stpI] at hs
  replace hs := gd_inv hs; obtain ⟨rfl, hs⟩ := hs
  split at hs
  · next v q e1 =>
      obtain rfl := nx_inv hs
      have h1 := (tab_in csl_all rfl e1).2
      exact lv_ldc2 cx.1 cx.2.1 cx.own (cx.ts _ (isW_in h1)) hd (kk.same I rfl rfl)
  · cases hs
theorem w_dup  (cx : CX p s m args meth c R B aS cT D X y d) (I : SI s B aS cT D y ls Ls h H locs) (hd : decode (mCode y) pc = .ok (.dup, len)) (hs : stpI (X, C) y (.dup) len pc ls st h = some (.inl o)) (kk : KK p l e R s m args below meth c B aS cT D Q y h cells slots o) : W p l e R s m args below meth c H locs cells slots Q (F0 m pc Ls (st.map (tr B aS))) := by
  simp only [stpI] at hs
  replace hs := gd_inv hs; obtain ⟨rfl, hs⟩ := hs
  replace hs := pV_inv hs; obtain ⟨v, st, rfl, hs⟩ := hs
  replace hs := gd_inv hs; obtain ⟨hv, hs⟩ := hs
  obtain rfl := nx_inv hs
  exact lv_dup cx.1 cx.2.1 hd (by rw [tr_cat]; exact hv) (kk.same I rfl rfl)
theorem w_dup2  (cx : CX p s m args meth c R B aS cT D X y d) (I : SI s B aS cT D y ls Ls h H locs) (hd : decode (mCode y) pc = .ok (.dup2, len)) (hs : stpI (X, C) y (.dup2) len pc ls st h = some (.inl o)) (kk : KK p l e R s m args below meth c B aS cT D Q y h cells slots o) : W p l e R s m args below meth c H locs cells slots Q (F0 m pc Ls (st.map (tr B aS))) := by
  simp only [stpI] at hs
  replace hs := gd_inv hs; obtain ⟨rfl, hs⟩ := hs
  replace hs := pV_inv hs; obtain ⟨v, st, rfl, hs⟩ := hs
  replace hs := pV_inv hs; obtain ⟨w, st, rfl, hs⟩ := hs
  replace hs := gd_inv hs; obtain ⟨⟨hv, hw⟩, hs⟩ := hs
  obtain rfl := nx_inv hs
  exact lv_dup2_11 cx.1 cx.2.1 hd (by rw [tr_cat]; exact hv) (by rw [tr_cat]; exact hw) (kk.same I rfl rfl)
theorem w_pop  (cx : CX p s m args meth c R B aS cT D X y d) (I : SI s B aS cT D y ls Ls h H locs) (hd : decode (mCode y) pc = .ok (.pop, len)) (hs : stpI (X, C) y (.pop) len pc ls st h = some (.inl o)) (kk : KK p l e R s m args below meth c B aS cT D Q y h cells slots o) : W p l e R s m args below meth c H locs cells slots Q (F0 m pc Ls (st.map (tr B aS))) := by
  simp only [stpI] at hs
  replace hs := gd_inv hs; obtain ⟨rfl, hs⟩ := hs
  replace hs := pV_inv hs; obtain ⟨v, st, rfl, hs⟩ := hs
  replace hs := gd_inv hs; obtain ⟨hv, hs⟩ := hs
  obtain rfl := nx_inv hs
  exact lv_pop cx.1 cx.2.1 hd (by rw [tr_cat]; exact hv) (kk.same I rfl rfl)
theorem w_pop2  (cx : CX p s m args meth c R B aS cT D X y d) (I : SI s B aS cT D y ls Ls h H locs) (hd : decode (mCode y) pc = .ok (.pop2, len)) (hs : stpI (X, C) y (.pop2) len pc ls st h = some (.inl o)) (kk : KK p l e R s m args below meth c B aS cT D Q y h cells slots o) : W p l e R s m args below meth c H locs cells slots Q (F0 m pc Ls (st.map (tr B aS))) := by
  simp only [stpI] at hs
  replace hs := gd_inv hs; obtain ⟨rfl, hs⟩ := hs
  replace hs := pJ_inv hs; obtain ⟨x, st, rfl, hs⟩ := hs
  obtain rfl := nx_inv hs
  exact lv_pop2_2 cx.1 cx.2.1 hd rfl (kk.same I rfl rfl)
theorem w_iadd  (cx : CX p s m args meth c R B aS cT D X y d) (I : SI s B aS cT D y ls Ls h H locs) (hd : decode (mCode y) pc = .ok (.iadd, len)) (hs : stpI (X, C) y (.iadd) len pc ls st h = some (.inl o)) (kk : KK p l e R s m args below meth c B aS cT D Q y h cells slots o) : W p l e R s m args below meth c H locs cells slots Q (F0 m pc Ls (st.map (tr B aS))) := by
  simp only [stpI] at hs
  replace hs := gd_inv hs; obtain ⟨rfl, hs⟩ := hs
  replace hs := pI_inv hs; obtain ⟨b, st, rfl, hs⟩ := hs
  replace hs := pI_inv hs; obtain ⟨a, st, rfl, hs⟩ := hs
  obtain rfl := nx_inv hs
  exact lv_iadd cx.1 cx.2.1 hd (kk.same I rfl rfl)
theorem w_isub  (cx : CX p s m args meth c R B aS cT D X y d) (I : SI s B aS cT D y ls Ls h H locs) (hd : decode (mCode y) pc = .ok (.isub, len)) (hs : stpI (X, C) y (.isub) len pc ls st h = some (.inl o)) (kk : KK p l e R s m args below meth c B aS cT D Q y h cells slots o) : W p l e R s m args below meth c H locs cells slots Q (F0 m pc Ls (st.map (tr B aS))) := by
  simp only [stpI] at hs
  replace hs := gd_inv hs; obtain ⟨rfl, hs⟩ := hs
  replace hs := pI_inv hs; obtain ⟨b, st, rfl, hs⟩ := hs
  replace hs := pI_inv hs; obtain ⟨a, st, rfl, hs⟩ := hs
  obtain rfl := nx_inv hs
  exact lv_isub cx.1 cx.2.1 hd (kk.same I rfl rfl)
theorem w_imul  (cx : CX p s m args meth c R B aS cT D X y d) (I : SI s B aS cT D y ls Ls h H locs) (hd : decode (mCode y) pc = .ok (.imul, len)) (hs : stpI (X, C) y (.imul) len pc ls st h = some (.inl o)) (kk : KK p l e R s m args below meth c B aS cT D Q y h cells slots o) : W p l e R s m args below meth c H locs cells slots Q (F0 m pc Ls (st.map (tr B aS))) := by
  simp only [stpI] at hs
  replace hs := gd_inv hs; obtain ⟨rfl, hs⟩ := hs
  replace hs := pI_inv hs; obtain ⟨b, st, rfl, hs⟩ := hs
  replace hs := pI_inv hs; obtain ⟨a, st, rfl, hs⟩ := hs
  obtain rfl := nx_inv hs
  exact lv_imul cx.1 cx.2.1 hd (kk.same I rfl rfl)
theorem w_iand  (cx : CX p s m args meth c R B aS cT D X y d) (I : SI s B aS cT D y ls Ls h H locs) (hd : decode (mCode y) pc = .ok (.iand, len)) (hs : stpI (X, C) y (.iand) len pc ls st h = some (.inl o)) (kk : KK p l e R s m args below meth c B aS cT D Q y h cells slots o) : W p l e R s m args below meth c H locs cells slots Q (F0 m pc Ls (st.map (tr B aS))) := by
  simp only [stpI] at hs
  replace hs := gd_inv hs; obtain ⟨rfl, hs⟩ := hs
  replace hs := pI_inv hs; obtain ⟨b, st, rfl, hs⟩ := hs
  replace hs := pI_inv hs; obtain ⟨a, st, rfl, hs⟩ := hs
  obtain rfl := nx_inv hs
  exact lv_iand cx.1 cx.2.1 hd (kk.same I rfl rfl)
theorem w_ior  (cx : CX p s m args meth c R B aS cT D X y d) (I : SI s B aS cT D y ls Ls h H locs) (hd : decode (mCode y) pc = .ok (.ior, len)) (hs : stpI (X, C) y (.ior) len pc ls st h = some (.inl o)) (kk : KK p l e R s m args below meth c B aS cT D Q y h cells slots o) : W p l e R s m args below meth c H locs cells slots Q (F0 m pc Ls (st.map (tr B aS))) := by
  simp only [stpI] at hs
  replace hs := gd_inv hs; obtain ⟨rfl, hs⟩ := hs
  replace hs := pI_inv hs; obtain ⟨b, st, rfl, hs⟩ := hs
  replace hs := pI_inv hs; obtain ⟨a, st, rfl, hs⟩ := hs
  obtain rfl := nx_inv hs
  exact lv_ior cx.1 cx.2.1 hd (kk.same I rfl rfl)
theorem w_ixor  (cx : CX p s m args meth c R B aS cT D X y d) (I : SI s B aS cT D y ls Ls h H locs) (hd : decode (mCode y) pc = .ok (.ixor, len)) (hs : stpI (X, C) y (.ixor) len pc ls st h = some (.inl o)) (kk : KK p l e R s m args below meth c B aS cT D Q y h cells slots o) : W p l e R s m args below meth c H locs cells slots Q (F0 m pc Ls (st.map (tr B aS))) := by
  simp only [stpI] at hs
  replace hs := gd_inv hs; obtain ⟨rfl, hs⟩ := hs
  replace hs := pI_inv hs; obtain ⟨b, st, rfl, hs⟩ := hs
  replace hs := pI_inv hs; obtain ⟨a, st, rfl, hs⟩ := hs
  obtain rfl := nx_inv hs
  exact lv_ixor cx.1 cx.2.1 hd (kk.same I rfl rfl)
theorem w_ishl  (cx : CX p s m args meth c R B aS cT D X y d) (I : SI s B aS cT D y ls Ls h H locs) (hd : decode (mCode y) pc = .ok (.ishl, len)) (hs : stpI (X, C) y (.ishl) len pc ls st h = some (.inl o)) (kk : KK p l e R s m args below meth c B aS cT D Q y h cells slots o) : W p l e R s m args below meth c H locs cells slots Q (F0 m pc Ls (st.map (tr B aS))) := by
  simp only [stpI] at hs
  replace hs := gd_inv hs; obtain ⟨rfl, hs⟩ := hs
  replace hs := pI_inv hs; obtain ⟨b, st, rfl, hs⟩ := hs
  replace hs := pI_inv hs; obtain ⟨a, st, rfl, hs⟩ := hs
  obtain rfl := nx_inv hs
  exact lv_ishl cx.1 cx.2.1 hd (kk.same I rfl rfl)
theorem w_ishr  (cx : CX p s m args meth c R B aS cT D X y d) (I : SI s B aS cT D y ls Ls h H locs) (hd : decode (mCode y) pc = .ok (.ishr, len)) (hs : stpI (X, C) y (.ishr) len pc ls st h = some (.inl o)) (kk : KK p l e R s m args below meth c B aS cT D Q y h cells slots o) : W p l e R s m args below meth c H locs cells slots Q (F0 m pc Ls (st.map (tr B aS))) := by
  simp only [stpI] at hs
  replace hs := gd_inv hs; obtain ⟨rfl, hs⟩ := hs
  replace hs := pI_inv hs; obtain ⟨b, st, rfl, hs⟩ := hs
  replace hs := pI_inv hs; obtain ⟨a, st, rfl, hs⟩ := hs
  obtain rfl := nx_inv hs
  exact lv_ishr cx.1 cx.2.1 hd (kk.same I rfl rfl)
theorem w_iushr  (cx : CX p s m args meth c R B aS cT D X y d) (I : SI s B aS cT D y ls Ls h H locs) (hd : decode (mCode y) pc = .ok (.iushr, len)) (hs : stpI (X, C) y (.iushr) len pc ls st h = some (.inl o)) (kk : KK p l e R s m args below meth c B aS cT D Q y h cells slots o) : W p l e R s m args below meth c H locs cells slots Q (F0 m pc Ls (st.map (tr B aS))) := by
  simp only [stpI] at hs
  replace hs := gd_inv hs; obtain ⟨rfl, hs⟩ := hs
  replace hs := pI_inv hs; obtain ⟨b, st, rfl, hs⟩ := hs
  replace hs := pI_inv hs; obtain ⟨a, st, rfl, hs⟩ := hs
  obtain rfl := nx_inv hs
  exact lv_iushr cx.1 cx.2.1 hd rfl (kk.same I rfl rfl)
theorem w_idiv  (cx : CX p s m args meth c R B aS cT D X y d) (I : SI s B aS cT D y ls Ls h H locs) (hd : decode (mCode y) pc = .ok (.idiv, len)) (hs : stpI (X, C) y (.idiv) len pc ls st h = some (.inl o)) (kk : KK p l e R s m args below meth c B aS cT D Q y h cells slots o) : W p l e R s m args below meth c H locs cells slots Q (F0 m pc Ls (st.map (tr B aS))) := by
  simp only [stpI] at hs
  replace hs := gd_inv hs; obtain ⟨rfl, hs⟩ := hs
  replace hs := pI_inv hs; obtain ⟨b, st, rfl, hs⟩ := hs
  replace hs := pI_inv hs; obtain ⟨a, st, rfl, hs⟩ := hs
  replace hs := gd_inv hs; obtain ⟨hne, hs⟩ := hs
  obtain rfl := nx_inv hs
  exact lv_idiv cx.1 cx.2.1 hd hne (kk.same I rfl rfl)
theorem w_irem  (cx : CX p s m args meth c R B aS cT D X y d) (I : SI s B aS cT D y ls Ls h H locs) (hd : decode (mCode y) pc = .ok (.irem, len)) (hs : stpI (X, C) y (.irem) len pc ls st h = some (.inl o)) (kk : KK p l e R s m args below meth c B aS cT D Q y h cells slots o) : W p l e R s m args below meth c H locs cells slots Q (F0 m pc Ls (st.map (tr B aS))) := by
  simp only [stpI] at hs
  replace hs := gd_inv hs; obtain ⟨rfl, hs⟩ := hs
  replace hs := pI_inv hs; obtain ⟨b, st, rfl, hs⟩ := hs
  replace hs := pI_inv hs; obtain ⟨a, st, rfl, hs⟩ := hs
  replace hs := gd_inv hs; obtain ⟨hne, hs⟩ := hs
  obtain rfl := nx_inv hs
  exact lv_irem cx.1 cx.2.1 hd hne (kk.same I rfl rfl)
theorem w_ladd  (cx : CX p s m args meth c R B aS cT D X y d) (I : SI s B aS cT D y ls Ls h H locs) (hd : decode (mCode y) pc = .ok (.ladd, len)) (hs : stpI (X, C) y (.ladd) len pc ls st h = some (.inl o)) (kk : KK p l e R s m args below meth c B aS cT D Q y h cells slots o) : W p l e R s m args below meth c H locs cells slots Q (F0 m pc Ls (st.map (tr B aS))) := by
  simp only [stpI] at hs
  replace hs := gd_inv hs; obtain ⟨rfl, hs⟩ := hs
  replace hs := pJ_inv hs; obtain ⟨b, st, rfl, hs⟩ := hs
  replace hs := pJ_inv hs; obtain ⟨a, st, rfl, hs⟩ := hs
  obtain rfl := nx_inv hs
  exact lv_ladd cx.1 cx.2.1 hd (kk.same I rfl rfl)
theorem w_lsub  (cx : CX p s m args meth c R B aS cT D X y d) (I : SI s B aS cT D y ls Ls h H locs) (hd : decode (mCode y) pc = .ok (.lsub, len)) (hs : stpI (X, C) y (.lsub) len pc ls st h = some (.inl o)) (kk : KK p l e R s m args below meth c B aS cT D Q y h cells slots o) : W p l e R s m args below meth c H locs cells slots Q (F0 m pc Ls (st.map (tr B aS))) := by
  simp only [stpI] at hs
  replace hs := gd_inv hs; obtain ⟨rfl, hs⟩ := hs
  replace hs := pJ_inv hs; obtain ⟨b, st, rfl, hs⟩ := hs
  replace hs := pJ_inv hs; obtain ⟨a, st, rfl, hs⟩ := hs
  obtain rfl := nx_inv hs
  exact lv_lsub cx.1 cx.2.1 hd (kk.same I rfl rfl)
theorem w_lmul  (cx : CX p s m args meth c R B aS cT D X y d) (I : SI s B aS cT D y ls Ls h H locs) (hd : decode (mCode y) pc = .ok (.lmul, len)) (hs : stpI (X, C) y (.lmul) len pc ls st h = some (.inl o)) (kk : KK p l e R s m args below meth c B aS cT D Q y h cells slots o) : W p l e R s m args below meth c H locs cells slots Q (F0 m pc Ls (st.map (tr B aS))) := by
  simp only [stpI] at hs
  replace hs := gd_inv hs; obtain ⟨rfl, hs⟩ := hs
  replace hs := pJ_inv hs; obtain ⟨b, st, rfl, hs⟩ := hs
  replace hs := pJ_inv hs; obtain ⟨a, st, rfl, hs⟩ := hs
  obtain rfl := nx_inv hs
  exact lv_lmul cx.1 cx.2.1 hd (kk.same I rfl rfl)
theorem w_land  (cx : CX p s m args meth c R B aS cT D X y d) (I : SI s B aS cT D y ls Ls h H locs) (hd : decode (mCode y) pc = .ok (.land, len)) (hs : stpI (X, C) y (.land) len pc ls st h = some (.inl o)) (kk : KK p l e R s m args below meth c B aS cT D Q y h cells slots o) : W p l e R s m args below meth c H locs cells slots Q (F0 m pc Ls (st.map (tr B aS))) := by
  simp only [stpI] at hs
  replace hs := gd_inv hs; obtain ⟨rfl, hs⟩ := hs
  replace hs := pJ_inv hs; obtain ⟨b, st, rfl, hs⟩ := hs
  replace hs := pJ_inv hs; obtain ⟨a, st, rfl, hs⟩ := hs
  obtain rfl := nx_inv hs
  exact lv_land cx.1 cx.2.1 hd (kk.same I rfl rfl)
theorem w_lor  (cx : CX p s m args meth c R B aS cT D X y d) (I : SI s B aS cT D y ls Ls h H locs) (hd : decode (mCode y) pc = .ok (.lor, len)) (hs : stpI (X, C) y (.lor) len pc ls st h = some (.inl o)) (kk : KK p l e R s m args below meth c B aS cT D Q y h cells slots o) : W p l e R s m args below meth c H locs cells slots Q (F0 m pc Ls (st.map (tr B aS))) := by
  simp only [stpI] at hs
  replace hs := gd_inv hs; obtain ⟨rfl, hs⟩ := hs
  replace hs := pJ_inv hs; obtain ⟨b, st, rfl, hs⟩ := hs
  replace hs := pJ_inv hs; obtain ⟨a, st, rfl, hs⟩ := hs
  obtain rfl := nx_inv hs
  exact lv_lor cx.1 cx.2.1 hd (kk.same I rfl rfl)
theorem w_ldiv  (cx : CX p s m args meth c R B aS cT D X y d) (I : SI s B aS cT D y ls Ls h H locs) (hd : decode (mCode y) pc = .ok (.ldiv, len)) (hs : stpI (X, C) y (.ldiv) len pc ls st h = some (.inl o)) (kk : KK p l e R s m args below meth c B aS cT D Q y h cells slots o) : W p l e R s m args below meth c H locs cells slots Q (F0 m pc Ls (st.map (tr B aS))) := by
  simp only [stpI] at hs
  replace hs := gd_inv hs; obtain ⟨rfl, hs⟩ := hs
  replace hs := pJ_inv hs; obtain ⟨b, st, rfl, hs⟩ := hs
  replace hs := pJ_inv hs; obtain ⟨a, st, rfl, hs⟩ := hs
  replace hs := gd_inv hs; obtain ⟨hne, hs⟩ := hs
  obtain rfl := nx_inv hs
  exact lv_ldiv cx.1 cx.2.1 hd hne (kk.same I rfl rfl)
theorem w_lshl  (cx : CX p s m args meth c R B aS cT D X y d) (I : SI s B aS cT D y ls Ls h H locs) (hd : decode (mCode y) pc = .ok (.lshl, len)) (hs : stpI (X, C) y (.lshl) len pc ls st h = some (.inl o)) (kk : KK p l e R s m args below meth c B aS cT D Q y h cells slots o) : W p l e R s m args below meth c H locs cells slots Q (F0 m pc Ls (st.map (tr B aS))) := by
  simp only [stpI] at hs
  replace hs := gd_inv hs; obtain ⟨rfl, hs⟩ := hs
  replace hs := pI_inv hs; obtain ⟨b, st, rfl, hs⟩ := hs
  replace hs := pJ_inv hs; obtain ⟨a, st, rfl, hs⟩ := hs
  obtain rfl := nx_inv hs
  exact lv_lshl cx.1 cx.2.1 hd rfl (kk.same I rfl rfl)
theorem w_lshr  (cx : CX p s m args meth c R B aS cT D X y d) (I : SI s B aS cT D y ls Ls h H locs) (hd : decode (mCode y) pc = .ok (.lshr, len)) (hs : stpI (X, C) y (.lshr) len pc ls st h = some (.inl o)) (kk : KK p l e R s m args below meth c B aS cT D Q y h cells slots o) : W p l e R s m args below meth c H locs cells slots Q (F0 m pc Ls (st.map (tr B aS))) := by
  simp only [stpI] at hs
  replace hs := gd_inv hs; obtain ⟨rfl, hs⟩ := hs
  replace hs := pI_inv hs; obtain ⟨b, st, rfl, hs⟩ := hs
  replace hs := pJ_inv hs; obtain ⟨a, st, rfl, hs⟩ := hs
  obtain rfl := nx_inv hs
  exact lv_lshr cx.1 cx.2.1 hd rfl (kk.same I rfl rfl)
theorem w_lcmp  (cx : CX p s m args meth c R B aS cT D X y d) (I : SI s B aS cT D y ls Ls h H locs) (hd : decode (mCode y) pc = .ok (.lcmp, len)) (hs : stpI (X, C) y (.lcmp) len pc ls st h = some (.inl o)) (kk : KK p l e R s m args below meth c B aS cT D Q y h cells slots o) : W p l e R s m args below meth c H locs cells slots Q (F0 m pc Ls (st.map (tr B aS))) := by
  simp only [stpI] at hs
  replace hs := gd_inv hs; obtain ⟨rfl, hs⟩ := hs
  replace hs := pJ_inv hs; obtain ⟨b, st, rfl, hs⟩ := hs
  replace hs := pJ_inv hs; obtain ⟨a, st, rfl, hs⟩ := hs
  obtain rfl := nx_inv hs
  exact W.lcmp cx.1 cx.2.1 hd (kk.same I rfl rfl)
theorem w_ineg  (cx : CX p s m args meth c R B aS cT D X y d) (I : SI s B aS cT D y ls Ls h H locs) (hd : decode (mCode y) pc = .ok (.ineg, len)) (hs : stpI (X, C) y (.ineg) len pc ls st h = some (.inl o)) (kk : KK p l e R s m args below meth c B aS cT D Q y h cells slots o) : W p l e R s m args below meth c H locs cells slots Q (F0 m pc Ls (st.map (tr B aS))) := by
  simp only [stpI] at hs
  replace hs := gd_inv hs; obtain ⟨rfl, hs⟩ := hs
  replace hs := pI_inv hs; obtain ⟨a, st, rfl, hs⟩ := hs
  obtain rfl := nx_inv hs
  exact lv_ineg cx.1 cx.2.1 hd (kk.same I rfl rfl)
theorem w_i2l  (cx : CX p s m args meth c R B aS cT D X y d) (I : SI s B aS cT D y ls Ls h H locs) (hd : decode (mCode y) pc = .ok (.i2l, len)) (hs : stpI (X, C) y (.i2l) len pc ls st h = some (.inl o)) (kk : KK p l e R s m args below meth c B aS cT D Q y h cells slots o) : W p l e R s m args below meth c H locs cells slots Q (F0 m pc Ls (st.map (tr B aS))) := by
  simp only [stpI] at hs
  replace hs := gd_inv hs; obtain ⟨rfl, hs⟩ := hs
  replace hs := pI_inv hs; obtain ⟨a, st, rfl, hs⟩ := hs
  obtain rfl := nx_inv hs
  exact lv_i2l cx.1 cx.2.1 hd rfl (kk.same I rfl rfl)
theorem w_l2i  (cx : CX p s m args meth c R B aS cT D X y d) (I : SI s B aS cT D y ls Ls h H locs) (hd : decode (mCode y) pc = .ok (.l2i, len)) (hs : stpI (X, C) y (.l2i) len pc ls st h = some (.inl o)) (kk : KK p l e R s m args below meth c B aS cT D Q y h cells slots o) : W p l e R s m args below meth c H locs cells slots Q (F0 m pc Ls (st.map (tr B aS))) := by
  simp only [stpI] at hs
  replace hs := gd_inv hs; obtain ⟨rfl, hs⟩ := hs
  replace hs := pJ_inv hs; obtain ⟨a, st, rfl, hs⟩ := hs
  obtain rfl := nx_inv hs
  exact lv_l2i cx.1 cx.2.1 hd rfl (kk.same I rfl rfl)
theorem w_i2c  (cx : CX p s m args meth c R B aS cT D X y d) (I : SI s B aS cT D y ls Ls h H locs) (hd : decode (mCode y) pc = .ok (.i2c, len)) (hs : stpI (X, C) y (.i2c) len pc ls st h = some (.inl o)) (kk : KK p l e R s m args below meth c B aS cT D Q y h cells slots o) : W p l e R s m args below meth c H locs cells slots Q (F0 m pc Ls (st.map (tr B aS))) := by
  simp only [stpI] at hs
  replace hs := gd_inv hs; obtain ⟨rfl, hs⟩ := hs
  replace hs := pI_inv hs; obtain ⟨a, st, rfl, hs⟩ := hs
  obtain rfl := nx_inv hs
  exact lv_i2c cx.1 cx.2.1 hd rfl (kk.same I rfl rfl)
theorem w_goto {off : Int} (cx : CX p s m args meth c R B aS cT D X y d) (I : SI s B aS cT D y ls Ls h H locs) (hd : decode (mCode y) pc = .ok (.goto off, len)) (hs : stpI (X, C) y (.goto off) len pc ls st h = some (.inl o)) (kk : KK p l e R s m args below meth c B aS cT D Q y h cells slots o) : W p l e R s m args below meth c H locs cells slots Q (F0 m pc Ls (st.map (tr B aS))) := by
  simp only [stpI] at hs
  replace hs := gd_inv hs; obtain ⟨rfl, hs⟩ := hs
  replace hs := jmp_inv hs; obtain ⟨t, ht, hs⟩ := hs
  obtain rfl := nx_inv hs
  exact lv_goto cx.1 cx.2.1 hd ht (kk.same I rfl rfl)
theorem w_ifCond {cc : ClassFile.Cond} {off : Int} (cx : CX p s m args meth c R B aS cT D X y d) (I : SI s B aS cT D y ls Ls h H locs) (hd : decode (mCode y) pc = .ok (.ifCond cc off, len)) (hs : stpI (X, C) y (.ifCond cc off) len pc ls st h = some (.inl o)) (kk : KK p l e R s m args below meth c B aS cT D Q y h cells slots o) : W p l e R s m args below meth c H locs cells slots Q (F0 m pc Ls (st.map (tr B aS))) := by
  simp only [stpI] at hs
  replace hs := gd_inv hs; obtain ⟨rfl, hs⟩ := hs
  replace hs := pI_inv hs; obtain ⟨a, st, rfl, hs⟩ := hs
  replace hs := jmp_inv hs; obtain ⟨t, ht, hs⟩ := hs
  by_cases hc : cnd cc a 0 = true
  · rw [if_pos hc] at hs
    obtain rfl := nx_inv hs
    have k1 := kk.same I rfl rfl
    cases cc
    · exact lv_if_eq cx.1 cx.2.1 hd ht (fun _ => k1) (fun hn => absurd (of_decide_eq_true hc) hn)
    · exact lv_if_ne cx.1 cx.2.1 hd ht (fun _ => k1) (fun hn => absurd hn (of_decide_eq_true hc))
    · exact lv_if_lt cx.1 cx.2.1 hd ht (fun _ => k1) (fun hn => absurd (of_decide_eq_true hc) hn)
    · exact lv_if_ge cx.1 cx.2.1 hd ht (fun _ => k1) (fun hn => absurd (of_decide_eq_true hc) hn)
    · exact lv_if_gt cx.1 cx.2.1 hd ht (fun _ => k1) (fun hn => absurd (of_decide_eq_true hc) hn)
    · exact lv_if_le cx.1 cx.2.1 hd ht (fun _ => k1) (fun hn => absurd (of_decide_eq_true hc) hn)
  · rw [if_neg hc] at hs
    obtain rfl := nx_inv hs
    have k1 := kk.same I rfl rfl
    cases cc
    · exact lv_if_eq cx.1 cx.2.1 hd ht (fun hn => absurd (decide_eq_true hn) hc) (fun _ => k1)
    · exact lv_if_ne cx.1 cx.2.1 hd ht (fun hn => absurd (decide_eq_true hn) hc) (fun _ => k1)
    · exact lv_if_lt cx.1 cx.2.1 hd ht (fun hn => absurd (decide_eq_true hn) hc) (fun _ => k1)
    · exact lv_if_ge cx.1 cx.2.1 hd ht (fun hn => absurd (decide_eq_true hn) hc) (fun _ => k1)
    · exact lv_if_gt cx.1 cx.2.1 hd ht (fun hn => absurd (decide_eq_true hn) hc) (fun _ => k1)
    · exact lv_if_le cx.1 cx.2.1 hd ht (fun hn => absurd (decide_eq_true hn) hc) (fun _ => k1)
theorem w_if_icmp {cc : ClassFile.Cond} {off : Int} (cx : CX p s m args meth c R B aS cT D X y d) (I : SI s B aS cT D y ls Ls h H locs) (hd : decode (mCode y) pc = .ok (.if_icmp cc off, len)) (hs : stpI (X, C) y (.if_icmp cc off) len pc ls st h = some (.inl o)) (kk : KK p l e R s m args below meth c B aS cT D Q y h cells slots o) : W p l e R s m args below meth c H locs cells slots Q (F0 m pc Ls (st.map (tr B aS))) := by
  simp only [stpI] at hs
  replace hs := gd_inv hs; obtain ⟨rfl, hs⟩ := hs
  replace hs := pI_inv hs; obtain ⟨b, st, rfl, hs⟩ := hs
  replace hs := pI_inv hs; obtain ⟨a, st, rfl, hs⟩ := hs
  replace hs := jmp_inv hs; obtain ⟨t, ht, hs⟩ := hs
  by_cases hc : cnd cc a b = true
  · rw [if_pos hc] at hs
    obtain rfl := nx_inv hs
    have k1 := kk.same I rfl rfl
    cases cc
    · exact lv_icmp_eq cx.1 cx.2.1 hd ht (fun _ => k1) (fun hn => absurd (of_decide_eq_true hc) hn)
    · exact lv_icmp_ne cx.1 cx.2.1 hd ht (fun _ => k1) (fun hn => absurd hn (of_decide_eq_true hc))
    · exact lv_icmp_lt cx.1 cx.2.1 hd ht (fun _ => k1) (fun hn => absurd (of_decide_eq_true hc) hn)
    · exact lv_icmp_ge cx.1 cx.2.1 hd ht (fun _ => k1) (fun hn => absurd (of_decide_eq_true hc) hn)
    · exact lv_icmp_gt cx.1 cx.2.1 hd ht (fun _ => k1) (fun hn => absurd (of_decide_eq_true hc) hn)
    · exact lv_icmp_le cx.1 cx.2.1 hd ht (fun _ => k1) (fun hn => absurd (of_decide_eq_true hc) hn)
  · rw [if_neg hc] at hs
    obtain rfl := nx_inv hs
    have k1 := kk.same I rfl rfl
    cases cc
    · exact lv_icmp_eq cx.1 cx.2.1 hd ht (fun hn => absurd (decide_eq_true hn) hc) (fun _ => k1)
    · exact lv_icmp_ne cx.1 cx.2.1 hd ht (fun hn => absurd (decide_eq_true hn) hc) (fun _ => k1)
    · exact lv_icmp_lt cx.1 cx.2.1 hd ht (fun hn => absurd (decide_eq_true hn) hc) (fun _ => k1)
    · exact lv_icmp_ge cx.1 cx.2.1 hd ht (fun hn => absurd (decide_eq_true hn) hc) (fun _ => k1)
    · exact lv_icmp_gt cx.1 cx.2.1 hd ht (fun hn => absurd (decide_eq_true hn) hc) (fun _ => k1)
    · exact lv_icmp_le cx.1 cx.2.1 hd ht (fun hn => absurd (decide_eq_true hn) hc) (fun _ => k1)
theorem w_tableswitch {dd lo hi : Int} {offs : Array Int} (cx : CX p s m args meth c R B aS cT D X y d) (I : SI s B aS cT D y ls Ls h H locs) (hd : decode (mCode y) pc = .ok (.tableswitch dd lo hi offs, len)) (hs : stpI (X, C) y (.tableswitch dd lo hi offs) len pc ls st h = some (.inl o)) (kk : KK p l e R s m args below meth c B aS cT D Q y h cells slots o) : W p l e R s m args below meth c H locs cells slots Q (F0 m pc Ls (st.map (tr B aS))) := by
  simp only [stpI] at hs
  replace hs := pI_inv hs; obtain ⟨x, st, rfl, hs⟩ := hs
  by_cases hx : x.toInt < lo ∨ hi < x.toInt
  · rw [if_pos hx] at hs
    replace hs := jmp_inv hs; obtain ⟨t, ht, hs⟩ := hs
    obtain rfl := nx_inv hs
    exact lv_tableOut cx.1 cx.2.1 hd hx ht (kk.same I rfl rfl)
  · rw [if_neg hx] at hs
    split at hs
    · next off e =>
      replace hs := jmp_inv hs; obtain ⟨t, ht, hs⟩ := hs
      obtain rfl := nx_inv hs
      exact lv_tableIn cx.1 cx.2.1 hd (fun q => hx (Or.inl q)) (fun q => hx (Or.inr q)) e ht (kk.same I rfl rfl)
    · cases hs
end WS
