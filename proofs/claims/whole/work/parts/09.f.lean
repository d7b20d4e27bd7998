/-! MAKING, CALLS, ENDS, AND THE WHOLE OF A METHOD -/
theorem hI_alc {h : Hp} {sh : Nat × Nat} {w : Nat} : hI (alc h sh w) (hN h) = fun _ => 0 := if_pos rfl
theorem hJ_alc {h : Hp} {sh : Nat × Nat} {w : Nat} : hJ (alc h sh w) (hN h) = fun _ => 0 := if_pos rfl
theorem hP_alc {h : Hp} {sh : Nat × Nat} {w : Nat} : hP (alc h sh w) (hN h) = fun _ => none := if_pos rfl
theorem hS_alc {h : Hp} {sh : Nat × Nat} {w : Nat} : hS (alc h sh w) (hN h) = sh := if_pos rfl
theorem good_in {w : Cond} (h : w ∈ lw_good) : (w.onTables && w.keeps) = true ∨ ∃ ty, w = .arrayClass ty := good_of_word (List.mem_filter.mp h).2
def wsM (y : Nat) : List Cond := .code (mName y) (mCode y) (mLoc y) (mRet y) :: lw_good
def rmM (d mc ms : Nat) : Room := { frames := d, cells := mc, slots := ms, locals := 60 * d }
def PcM (B : Nat) (aS : Nat → Nat) (cT : Nat → ClassId) (D : va_G) (X : Ctx) (h : Hp) (vs : List Value) : Array Value → State → Prop := va_Pc (vs.map (tr B aS)) (fun U => World B aS cT D h U.heap ∧ Fix B aS cT D X U U.heap)
def QcM (B : Nat) (aS : Nat → Nat) (cT : Nat → ClassId) (D : va_G) (v : Option Value) (h' : Hp) : Array Value → State → Outcome → State → Prop := fun _ st oc t => oc = .returned (v.map (tr B aS)) ∧ World B aS cT D h' t.heap ∧ st.heap.size ≤ t.heap.size ∧ ∀ q : Nat, q < B → t.heap[q]? = st.heap[q]?
def MetM (l : Launch) (B : Nat) (aS : Nat → Nat) (cT : Nat → ClassId) (D : va_G) (X : Ctx) (d y : Nat) (vs : List Value) (h : Hp) (v : Option Value) (h' : Hp) : Prop :=
  Met l (mName y) (wsM y) (rmM d (hN h' - hN h) (hK h' - hK h)) (PcM B aS cT D X h vs) (QcM B aS cT D v h') (hN h' - hN h) (hK h' - hK h) (fun q => B ≤ q)
theorem m_row {y : Nat} (hy : y < 247) : Cond.code (mName y) (mCode y) (mLoc y) (mRet y) ∈ lw_good ∧ (mName y).cls = clsS (mOwn y) ∧ mOwn y < 19 ∧ Cond.initialized (clsS (mOwn y)) ∈ lw_good ∧
    (if mSta y = true then Cond.static (mName y) ∈ lw_good else (Cond.instanceMethod (mName y) ∈ lw_good ∧ ((mName y).name = "<init>" ∨ Cond.selects (mName y).cls (mName y) (mName y) ∈ lw_good))) ∧
    ((mName y).cls ≠ "java/lang/invoke/MethodHandle" ∧ (mName y).cls ≠ "java/lang/invoke/VarHandle" ∧ (parseMethodDescriptor (mName y).desc).map (fun d => d.parameters.length) = some (mArg y)) ∧ mLoc y ≤ 20 ∧ (plainName (mName y).cls = true ∨ (235 ≤ y ∧ y < 240)) ∧ ((mName y).name = "<init>" → mRet y = none ∧ mSta y = false) := by
  have h : mOK y = true := by
    have key : ∀ (k : Nat), (List.range 25).all (fun z => decide (247 ≤ z + 25 * k) || mOK (z + 25 * k)) = true → 25 * k ≤ y → y < 25 * k + 25 → mOK y = true := by
      intro k hk h1 h2
      have h3 := List.all_eq_true.mp hk (y - 25 * k) (List.mem_range.mpr (by omega))
      rw [show y - 25 * k + 25 * k = y by omega] at h3
      rcases Bool.or_eq_true_iff.mp h3 with h4 | h4
      · have := of_decide_eq_true h4
        omega
      · exact h4
    rcases Nat.lt_or_ge y 25 with q | q
    · exact key 0 m_all0 (by omega) (by omega)
    rcases Nat.lt_or_ge y 50 with q | q
    · exact key 1 m_all1 (by omega) (by omega)
    rcases Nat.lt_or_ge y 75 with q | q
    · exact key 2 m_all2 (by omega) (by omega)
    rcases Nat.lt_or_ge y 100 with q | q
    · exact key 3 m_all3 (by omega) (by omega)
    rcases Nat.lt_or_ge y 125 with q | q
    · exact key 4 m_all4 (by omega) (by omega)
    rcases Nat.lt_or_ge y 150 with q | q
    · exact key 5 m_all5 (by omega) (by omega)
    rcases Nat.lt_or_ge y 175 with q | q
    · exact key 6 m_all6 (by omega) (by omega)
    rcases Nat.lt_or_ge y 200 with q | q
    · exact key 7 m_all7 (by omega) (by omega)
    rcases Nat.lt_or_ge y 225 with q | q
    · exact key 8 m_all8 (by omega) (by omega)
    · exact key 9 m_all9 (by omega) (by omega)
  unfold mOK at h
  simp only [Bool.and_eq_true, decide_eq_true_eq, Bool.or_eq_true] at h
  obtain ⟨⟨⟨⟨⟨⟨⟨h2, h3⟩, h4⟩, h5⟩, h6⟩, h7⟩, h8⟩, h9⟩ := h
  refine ⟨List.mem_filter.mpr ⟨lwC_in _ _ (List.mem_of_getElem? (isC_all hy)), rfl⟩, h2, h3, isW_in h4, ?_, h6, h7, h8, fun q => by rcases h9 with z | z; exact absurd q z; exact ⟨z.1, by simpa using z.2⟩⟩
  by_cases hs : mSta y = true
  · rw [if_pos hs] at h5 ⊢
    exact isW_in h5
  · rw [if_neg hs] at h5 ⊢
    simp only [Bool.and_eq_true, decide_eq_true_eq, Bool.or_eq_true] at h5
    exact ⟨isW_in h5.1, h5.2.elim Or.inl (fun q => Or.inr (isW_in q))⟩
theorem good_ws {y : Nat} (hy : y < 247) : GoodIn lw_good (wsM y) := by
  intro w hw
  rcases List.mem_cons.mp hw with rfl | hw
  · exact ⟨(m_row hy).1, good_in (m_row hy).1⟩
  · exact ⟨hw, good_in hw⟩
theorem tr_sum {B : Nat} {aS : Nat → Nat} (l : List Value) : ((l.map (tr B aS)).map fun v => v.category) = l.map Value.category := by
  rw [List.map_map]
  apply List.map_congr_left
  intro v _
  exact tr_cat B aS v
theorem split_st {B : Nat} {aS : Nat → Nat} (st : List Value) (n : Nat) : st.map (tr B aS) = ((st.take n).reverse.map (tr B aS)).reverse ++ (st.drop n).map (tr B aS) := by
  rw [List.map_reverse, List.reverse_reverse, ← List.map_append, List.take_append_drop]
section WS4
variable {p : Program} {l : Launch} {e : Env} {R : Room} {s : State} {m : MethodId} {args : Array Value} {below : List Frame} {meth : Method} {c : Code} {H : Heap} {locs : List Loc} {cells slots : Nat} {Q : State → Prop}
variable {B : Nat} {aS : Nat → Nat} {cT : Nat → ClassId} {D : va_G} {X : Ctx} {C : Orc} {y d pc len : Nat} {ls : LV} {Ls : Array Slot} {st : List Value} {h : Hp} {o : MSt}
theorem SI.fix (cx : CX p s m args meth c R B aS cT D X y d) (I : SI s B aS cT D y ls Ls h H locs) : Fix B aS cT D X s H := by
  refine cx.F.kept ?_ (fun a h1 h2 => I.2.2.2.2.1 a h1 h2)
  have h1 := cx.F.2.2.2.2.2.2.2.1
  exact Nat.le_trans h1 I.2.2.2.1
theorem pcm_blind {vs : List Value} : FrameBlind (PcM B aS cT D X h vs) := fun _ _ _ _ q => ⟨q.1, q.2.1, q.2.2.same rfl⟩
theorem pcm_pre (cx : CX p s m args meth c R B aS cT D X y d) (I : SI s B aS cT D y ls Ls h H locs) {vs : List Value} : ∀ U : State, U.heap = H → s.WarmedH U.vm → PcM B aS cT D X h vs (vs.map (tr B aS)).toArray U := by
  intro U hU hW
  refine ⟨rfl, ?_, ?_⟩
  · rw [hU]; exact I.2.2.1
  · rw [hU]; exact (SI.fix cx I).moved hW
/-- behind a call -/
theorem w_back {mc ms : Nat} {st0 rest : List Value} {v : Option Value} {h' : Hp} {a : Array Value} {st' : List Value} (I : SI s B aS cT D y ls Ls h H locs) (hr : va_Run p l e R s m args below meth c H locs cells slots mc ms (F0 m pc Ls st0) rest (QcM B aS cT D v h' a) (fun q => B ≤ q)) (hrest : rest = st'.map (tr B aS)) (hmc : mc + hN h = hN h') (hms : ms + hK h = hK h')
    (kk : KK p l e R s m args below meth c B aS cT D Q y h cells slots (pc + 3, ls, v.toList ++ st', h')) : W p l e R s m args below meth c H locs cells slots Q (F0 m pc Ls st0) := by
  intro T hT Xs
  obtain ⟨w, st₀, t, T', L, h0, X', hL, e1, e2, ⟨hv, hw, hz, hk⟩, stp⟩ := hr T hT Xs
  have hwv : w = v.map (tr B aS) := by cases hv; rfl
  have k1 := kk T'.heap (locs ++ L) Ls (cells + mc) (slots + ms) ⟨I.1, I.2.1, by rw [e1]; exact hw, ⟨Nat.le_trans I.2.2.2.1 (by rw [e1, ← h0]; exact hz), fun q h1 h2 => by
      rw [e1, hk q (by omega), h0]
      exact I.2.2.2.2.1 q h1 h2, fun q hq => by
      rcases List.mem_append.mp hq with z | z
      · exact I.2.2.2.2.2 q z
      · exact hL q z⟩⟩ (by show cells + mc + hN h = cells + hN h'; omega) (by show slots + ms + hK h = slots + hK h'; omega)
  obtain ⟨t2, a1, b1⟩ := k1 T' rfl X'
  refine ⟨t2, stp t2 ?_, b1⟩
  have e3 : ((pc + 3, ls, v.toList ++ st', h') : MSt).2.2.1.map (tr B aS) = w.toList ++ rest := by
    show (v.toList ++ st').map (tr B aS) = _
    rw [List.map_append, hrest, hwv]
    cases v <;> rfl
  rw [e3] at a1
  exact a1
/-- Orc's promise: rooms grow, and its methods are met -/
def OK (l : Launch) (B : Nat) (aS : Nat → Nat) (cT : Nat → ClassId) (D : va_G) (X : Ctx) (d : Nat) (C : Orc) : Prop :=
  ∀ (y : Nat) (vs : List Value) (h : Hp) (v : Option Value) (h' : Hp), C y vs h = some (v, h') → (hN h ≤ hN h' ∧ hK h ≤ hK h') ∧ (y < 247 ∧ ¬ (235 ≤ y ∧ y < 240) → MetM l B aS cT D X d y vs h v h')
theorem callB_M (cx : CX p s m args meth c R B aS cT D X y d) {own : String} {i y' mc ms : Nat} (hy : y' < 247) (hl : (Cond.methodLink own i (mName y')).before args s = true) : CallB R s args own i (mName y') (mCode y') (mLoc y') (mRet y') (wsM y') (rmM d mc ms) mc ms (mArg y') := by
  obtain ⟨-, r2, -, r4, -, r6, r7, -, -⟩ := m_row hy
  have hR := cx.2.2.2.2.2.2.2.2.2
  exact callB_of (mArg y') cx.ts (good_ws hy) rfl rfl rfl (by rw [r2]; exact cx.ts _ r4) hl r6 ⟨hR.1, by show 8 + (mLoc y' + 11) + 60 * d ≤ R.locals; omega⟩
theorem w_callS {i y' k q : Nat} (cx : CX p s m args meth c R B aS cT D X y d) (I : SI s B aS cT D y ls Ls h H locs) (hC : OK l B aS cT D X d C) (hroom : cells + hN o.2.2.2 ≤ R.cells + hN h ∧ slots + hK o.2.2.2 ≤ R.slots + hK h) (hm : mthT (mOwn y) i = some (y', k, q)) (hk : k = 0 ∨ k = 1) (hy : y' < 247 ∧ ¬ (235 ≤ y' ∧ y' < 240)) (hd : decode (mCode y) pc = .ok (.invokestatic i, 3)) (hs : clS C y' (pc + 3) ls st h = some (.inl o)) (kk : KK p l e R s m args below meth c B aS cT D Q y h cells slots o) : W p l e R s m args below meth c H locs cells slots Q (F0 m pc Ls (st.map (tr B aS))) := by
  unfold clS at hs
  replace hs := gd_inv hs; obtain ⟨⟨h1, h2, h3⟩, hs⟩ := hs
  obtain ⟨v, h', hv, ho⟩ := bR2_inv hs
  cases ho
  obtain ⟨⟨g1, g2⟩, hM⟩ := hC _ _ _ _ _ hv
  have hM := hM hy
  have hy1 := hy.1
  have hst : Cond.static (mName y') ∈ lw_good := by
    have z := (m_row hy1).2.2.2.2.1
    rw [if_pos h1] at z
    exact z
  obtain ⟨-, r2, -, r4, -, r6, r7, -, -⟩ := m_row hy1
  have hR := cx.2.2.2.2.2.2.2.2.2
  have hRm : (rmM d (hN h' - hN h) (hK h' - hK h)).frames + 1 ≤ R.frames ∧ 8 + (mLoc y' + 11) + (rmM d (hN h' - hN h) (hK h' - hK h)).locals ≤ R.locals := ⟨hR.1, by show 8 + (mLoc y' + 11) + 60 * d ≤ R.locals; omega⟩
  have hini : (Cond.initialized (mName y').cls).before args s = true := by rw [r2]; exact cx.ts _ r4
  have hn : ((st.take (mArg y')).reverse.map (tr B aS)).length = mArg y' := by simp; omega
  have e1 : cells + hN h' ≤ R.cells + hN h := hroom.1
  have e2 : slots + hK h' ≤ R.slots + hK h := hroom.2
  have hz := (tab_in mth_all rfl hm).2
  simp only [mthOK] at hz
  rw [if_neg (by omega), if_neg (by omega)] at hz
  rcases hk with rfl | rfl
  · simp only [if_true, Bool.and_eq_true] at hz
    have hl := cx.ts _ (isW_in hz.2)
    exact w_back (st' := st.drop (mArg y')) I (va_runS (As := (st.take (mArg y')).reverse.map (tr B aS)) (rest := (st.drop (mArg y')).map (tr B aS)) (nL := mLoc y) (Ts := lw_good) (own := clsS (mOwn y)) ⟨cx.1, cx.2.1, cx.2.2.1, cx.own, cx.ts⟩ hM ⟨callB_M cx hy1 hl, cx.ts _ hst⟩ ⟨pcm_blind, pcm_pre cx I⟩ rfl hn (I.1.1.trans I.2.1) (split_st st (mArg y')) (lv_room (by rw [tr_sum]; exact h3)) hd ⟨by omega, by omega⟩) rfl (by omega) (by omega) kk
  · have hl := cx.F.2.2.2.2.2.2.2.2.2 _ _ _ _ hm
    exact w_back (st' := st.drop (mArg y')) I (va_runSN (As := (st.take (mArg y')).reverse.map (tr B aS)) (rest := (st.drop (mArg y')).map (tr B aS)) (nL := mLoc y) (Ts := lw_good) (own := clsS (mOwn y)) (host := "FiveLands") ⟨cx.1, cx.2.1, cx.2.2.1, cx.own, cx.ts⟩ hM ⟨va_cnB (mArg y') cx.ts (good_ws hy1) rfl rfl rfl hl hini r6 hRm, cx.ts _ hst, trivial⟩ ⟨pcm_blind, pcm_pre cx I⟩ rfl hn (I.1.1.trans I.2.1) (split_st st (mArg y')) (lv_room (by rw [tr_sum]; exact h3)) hd ⟨by omega, by omega⟩) rfl (by omega) (by omega) kk
theorem recv_M (cx : CX p s m args meth c R B aS cT D X y d) (I : SI s B aS cT D y ls Ls h H locs) {own a : Nat} (hr : rcv own h a = true) : ∃ cellB : Cell, H[ad B aS a]? = some cellB ∧ cellB.vm.isStatics = false ∧ s.vm.findClass (clsS own) = some cellB.cls := by
  unfold rcv at hr
  by_cases ho : own < 12
  · rw [if_pos ho] at hr
    have hc : hS h a = (own + 1, 0) := beq_iff_eq.mp hr
    have hne : hS h a ≠ (0, 0) := ne0_of (Nat.succ_ne_zero own) hc
    have h62 := (I.2.2.1.1.2 a hne).1
    rw [ad_hi h62]
    exact va_recv cx.K (I.2.2.1.one hne (cel_obj (B := B) (aS := aS) (cT := cT) ho hc)) (cl_at ho) (q0 := 0) rfl
  · rw [if_neg ho] at hr
    obtain ⟨rfl, h1, h2⟩ := of_decide_eq_true hr
    obtain ⟨j, rfl⟩ : ∃ j, a = 1 + j := ⟨a - 1, by omega⟩
    rw [ad_lo (by omega)]
    obtain ⟨cell, z1, z2, z3, -⟩ := (cx.F.2.2.1 j (by omega)).1.kept I.2.2.2.2.1
    exact ⟨cell, z1, z2, z3⟩
theorem w_callV {i y' k q : Nat} (cx : CX p s m args meth c R B aS cT D X y d) (I : SI s B aS cT D y ls Ls h H locs) (hC : OK l B aS cT D X d C) (hroom : cells + hN o.2.2.2 ≤ R.cells + hN h ∧ slots + hK o.2.2.2 ≤ R.slots + hK h) (hm : mthT (mOwn y) i = some (y', k, q)) (hk : k = 0 ∨ k = 1) (hy : y' < 247 ∧ ¬ (235 ≤ y' ∧ y' < 240)) (hd : decode (mCode y) pc = .ok (.invokevirtual i, 3)) (hs : clV C y' false (pc + 3) ls st h = some (.inl o)) (kk : KK p l e R s m args below meth c B aS cT D Q y h cells slots o) : W p l e R s m args below meth c H locs cells slots Q (F0 m pc Ls (st.map (tr B aS))) := by
  unfold clV at hs
  replace hs := gd_inv hs; obtain ⟨⟨h1, h2, h3, h4⟩, hs⟩ := hs
  replace hs := pR_inv hs; obtain ⟨a, st2, hst2, hs⟩ := hs
  replace hs := gd_inv hs; obtain ⟨h5, hs⟩ := hs
  obtain ⟨v, h', hv, ho⟩ := bR2_inv hs
  cases ho
  obtain ⟨⟨g1, g2⟩, hM⟩ := hC _ _ _ _ _ hv
  have hy1 := hy.1
  have hdr : st.drop (mArg y' + 1) = st2 := by rw [← List.drop_drop, hst2]; rfl
  rw [hdr] at kk h3
  obtain ⟨-, r2, -, r4, r5, r6, r7, -, -⟩ := m_row hy1
  rw [if_neg (by rw [h1]; decide)] at r5
  have hni : (mName y').name ≠ "<init>" := of_decide_eq_false h4.symm
  have hsel : Cond.selects (clsS (mOwn y')) (mName y') (mName y') ∈ lw_good := by
    rw [← r2]
    exact r5.2.elim (fun z => absurd z hni) id
  have hn : ((st.take (mArg y')).reverse.map (tr B aS)).length = mArg y' := by simp; omega
  have hstk : st.map (tr B aS) = ((st.take (mArg y')).reverse.map (tr B aS)).reverse ++ .ref (ad B aS a) :: st2.map (tr B aS) := by
    rw [split_st st (mArg y'), hst2]
    rfl
  rw [hstk]
  have hR := cx.2.2.2.2.2.2.2.2.2
  have hRm : (rmM d (hN h' - hN h) (hK h' - hK h)).frames + 1 ≤ R.frames ∧ 8 + (mLoc y' + 11) + (rmM d (hN h' - hN h) (hK h' - hK h)).locals ≤ R.locals := ⟨hR.1, by show 8 + (mLoc y' + 11) + 60 * d ≤ R.locals; omega⟩
  have hini : (Cond.initialized (mName y').cls).before args s = true := by rw [r2]; exact cx.ts _ r4
  have e1 : cells + hN h' ≤ R.cells + hN h := hroom.1
  have e2 : slots + hK h' ≤ R.slots + hK h := hroom.2
  have hz := (tab_in mth_all rfl hm).2
  simp only [mthOK] at hz
  rw [if_neg (by omega), if_neg (by omega)] at hz
  rcases hk with rfl | rfl
  · simp only [if_true, Bool.and_eq_true] at hz
    have hl := cx.ts _ (isW_in hz.2)
    exact w_back (st' := st2) I (va_runV (As := (st.take (mArg y')).reverse.map (tr B aS)) (rest := st2.map (tr B aS)) (nL := mLoc y) (Ts := lw_good) (own := clsS (mOwn y)) (C := clsS (mOwn y')) (b := ad B aS a) ⟨cx.1, cx.2.1, cx.2.2.1, cx.own, cx.ts⟩ (hM hy) ⟨callB_M cx hy1 hl, cx.ts _ r5.1, cx.ts _ hsel⟩ ⟨pcm_blind, recv_M cx I h5, pcm_pre cx I⟩ rfl hn (I.1.1.trans I.2.1) rfl (lv_room (by rw [tr_sum]; exact h3)) hd ⟨by omega, by omega⟩) rfl (by omega) (by omega) kk
  · have hl := cx.F.2.2.2.2.2.2.2.2.2 _ _ _ _ hm
    exact w_back (st' := st2) I (va_runVN (As := (st.take (mArg y')).reverse.map (tr B aS)) (rest := st2.map (tr B aS)) (nL := mLoc y) (Ts := lw_good) (own := clsS (mOwn y)) (host := "FiveLands") (C := clsS (mOwn y')) (b := ad B aS a) ⟨cx.1, cx.2.1, cx.2.2.1, cx.own, cx.ts⟩ (hM hy) ⟨va_cnB (mArg y') cx.ts (good_ws hy1) rfl rfl rfl hl hini r6 hRm, cx.ts _ r5.1, cx.ts _ hsel⟩ ⟨pcm_blind, recv_M cx I h5, pcm_pre cx I⟩ rfl hn (I.1.1.trans I.2.1) rfl (lv_room (by rw [tr_sum]; exact h3)) hd ⟨by omega, by omega⟩) rfl (by omega) (by omega) kk
theorem w_callI {i y' k q : Nat} (cx : CX p s m args meth c R B aS cT D X y d) (I : SI s B aS cT D y ls Ls h H locs) (hC : OK l B aS cT D X d C) (hroom : cells + hN o.2.2.2 ≤ R.cells + hN h ∧ slots + hK o.2.2.2 ≤ R.slots + hK h) (hm : mthT (mOwn y) i = some (y', k, q)) (hk : k = 0 ∨ k = 1) (hy0 : y' < 247 ∧ ¬ (235 ≤ y' ∧ y' < 240)) (hd : decode (mCode y) pc = .ok (.invokespecial i, 3)) (hs : clV C y' true (pc + 3) ls st h = some (.inl o)) (kk : KK p l e R s m args below meth c B aS cT D Q y h cells slots o) : W p l e R s m args below meth c H locs cells slots Q (F0 m pc Ls (st.map (tr B aS))) := by
  unfold clV at hs
  replace hs := gd_inv hs; obtain ⟨⟨h1, h2, h3, h4⟩, hs⟩ := hs
  replace hs := pR_inv hs; obtain ⟨a, st2, hst2, hs⟩ := hs
  replace hs := gd_inv hs; obtain ⟨h5, hs⟩ := hs
  obtain ⟨v, h', hv, ho⟩ := bR2_inv hs
  cases ho
  obtain ⟨⟨g1, g2⟩, hM⟩ := hC _ _ _ _ _ hv
  have hM := hM hy0
  have hy := hy0.1
  have hdr : st.drop (mArg y' + 1) = st2 := by rw [← List.drop_drop, hst2]; rfl
  rw [hdr] at kk h3
  obtain ⟨-, r2, -, r4, r5, r6, r7, -, r9⟩ := m_row hy
  rw [if_neg (by rw [h1]; decide)] at r5
  have hni : (mName y').name = "<init>" := of_decide_eq_true h4.symm
  have hr0 := (r9 hni).1
  have hws : wsM y' = .code (mName y') (mCode y') (mLoc y') none :: lw_good := by unfold wsM; rw [hr0]
  have hR := cx.2.2.2.2.2.2.2.2.2
  have hRm : (rmM d (hN h' - hN h) (hK h' - hK h)).frames + 1 ≤ R.frames ∧ 8 + (mLoc y' + 11) + (rmM d (hN h' - hN h) (hK h' - hK h)).locals ≤ R.locals := ⟨hR.1, by show 8 + (mLoc y' + 11) + 60 * d ≤ R.locals; omega⟩
  have hini : (Cond.initialized (mName y').cls).before args s = true := by rw [r2]; exact cx.ts _ r4
  have hn : ((st.take (mArg y')).reverse.map (tr B aS)).length = mArg y' := by simp; omega
  have hstk : st.map (tr B aS) = ((st.take (mArg y')).reverse.map (tr B aS)).reverse ++ .ref (ad B aS a) :: st2.map (tr B aS) := by
    rw [split_st st (mArg y'), hst2]
    rfl
  rw [hstk]
  have e1 : cells + hN h' ≤ R.cells + hN h := hroom.1
  have e2 : slots + hK h' ≤ R.slots + hK h := hroom.2
  have hz := (tab_in mth_all rfl hm).2
  simp only [mthOK] at hz
  rw [if_neg (by omega), if_neg (by omega)] at hz
  rcases hk with rfl | rfl
  · simp only [if_true, Bool.and_eq_true] at hz
    have hl := cx.ts _ (isW_in hz.2)
    exact w_back (st' := st2) I (va_runI (As := (st.take (mArg y')).reverse.map (tr B aS)) (rest := st2.map (tr B aS)) (nL := mLoc y) (Ts := lw_good) (own := clsS (mOwn y)) (b := ad B aS a) ⟨cx.1, cx.2.1, cx.2.2.1, cx.own, cx.ts⟩ hM (cwI (mArg y') cx.ts (good_ws hy) hws rfl rfl hini hl (cx.ts _ r5.1) hni r6 hRm) ⟨pcm_blind, pcm_pre cx I⟩ rfl hn (I.1.1.trans I.2.1) rfl (lv_room (by rw [tr_sum]; exact h3)) hd ⟨by omega, by omega⟩) rfl (by omega) (by omega) kk
  · have hl := cx.F.2.2.2.2.2.2.2.2.2 _ _ _ _ hm
    exact w_back (st' := st2) I (va_runIN (As := (st.take (mArg y')).reverse.map (tr B aS)) (rest := st2.map (tr B aS)) (nL := mLoc y) (Ts := lw_good) (own := clsS (mOwn y)) (host := "FiveLands") (b := ad B aS a) ⟨cx.1, cx.2.1, cx.2.2.1, cx.own, cx.ts⟩ hM ⟨va_cnB (mArg y') cx.ts (good_ws hy) hws rfl rfl hl hini r6 hRm, hni, cx.ts _ r5.1⟩ ⟨pcm_blind, pcm_pre cx I⟩ rfl hn (I.1.1.trans I.2.1) rfl (lv_room (by rw [tr_sum]; exact h3)) hd ⟨by omega, by omega⟩) rfl (by omega) (by omega) kk
/-- arraycopy -/
theorem wv_copyI {i a b : Nat} {sp dp n : Int32} {rest : List Value} (cx : CX p s m args meth c R B aS cT D X y d) (I : SI s B aS cT D y ls Ls h H locs) (hl : Cond.methodLink (clsS (mOwn y)) i arraycopyName ∈ lw_good) (ea : (hS h a).1 = 50) (eb : (hS h b).1 = 50) (h1 : ¬ sp < 0) (h2 : ¬ dp < 0) (h3 : ¬ n < 0) (h4 : sp.toNatClampNeg + n.toNatClampNeg ≤ (hS h a).2) (h5 : dp.toNatClampNeg + n.toNatClampNeg ≤ (hS h b).2) (hc : (rest.map fun v => v.category).sum ≤ 8) (hd : decode (mCode y) pc = .ok (.invokestatic i, 3))
    (kk : ∀ (H1 : Heap) (locs1 : List Loc), SI s B aS cT D y ls Ls (rI h b (cpy (hI h a) (hI h b) sp.toNatClampNeg dp.toNatClampNeg n.toNatClampNeg)) H1 locs1 → W p l e R s m args below meth c H1 locs1 cells slots Q (F0 m (pc + 3) Ls rest)) : W p l e R s m args below meth c H locs cells slots Q (F0 m pc Ls (.int n :: .int dp :: .ref (B + (b - 62)) :: .int sp :: .ref (B + (a - 62)) :: rest)) := by
  have nn : ∀ z : Int32, ¬ z < 0 → z.toInt = (z.toNatClampNeg : Int) := by
    intro z hz
    have hz0 : (0 : Int) ≤ z.toInt := by
      have := Int32.not_lt.mp hz
      simpa using Int32.le_iff_toInt_le.mp this
    show z.toInt = ((z.toInt.toNat : Nat) : Int)
    omega
  have hane := ne0_of_fst (by decide) ea
  have hbne := ne0_of_fst (by decide) eb
  have hc0 : H[B + (a - 62)]? = some (vp_cell (cT 50) ((hS h a).2, .inl (hI h a))) := I.2.2.1.one hane (cel_50 (B := B) (aS := aS) (cT := cT) ea) 0 _ rfl
  have hc1 : H[B + (b - 62)]? = some (vp_cell (cT 50) ((hS h b).2, .inl (hI h b))) := I.2.2.1.one hbne (cel_50 (B := B) (aS := aS) (cT := cT) eb) 0 _ rfl
  have hR := cx.2.2.2.2.2.2.2.2.2
  intro T hT Xs
  obtain ⟨-, k0, hk0, cm0, hkk0⟩ := (cx.K.2 0 _ rfl).1 (hS h a).2 (fun j => .int (hI h a j))
  obtain ⟨-, k1, hk1, cm1, hkk1⟩ := (cx.K.2 0 _ rfl).1 (hS h b).2 (fun j => .int (hI h b j))
  obtain ⟨vm', X', step⟩ := Xs.arraycopy cx.1 cx.own (cx.ts _ hl) (cx.ts _ cp_in.1) (cx.ts _ cp_in.2.1) (cx.ts _ cp_in.2.2.1) (src := B + (a - 62)) (dst := B + (b - 62)) (cs := vp_cell (cT 50) ((hS h a).2, .inl (hI h a))) (cd := vp_cell (cT 50) ((hS h b).2, .inl (hI h b))) (srcPos := sp) (destPos := dp) (n := n) (by rw [hT]; exact hc0) (by rw [hT]; exact hc1)
    (fun _ z => by cases z) (fun _ z => by cases z) (fun z => by cases z) (fun z => by cases z) hk0 hk1 hkk0 hkk1 (by rfl) h1 h2 h3
    (by rw [nn sp h1, nn n h3]; show ¬ _ > ((arrV _ _ (fun j => .int (hI h a j))).slots.size : Int); rw [arrV_size]; omega)
    (by rw [nn dp h2, nn n h3]; show ¬ _ > ((arrV _ _ (fun j => .int (hI h b j))).slots.size : Int); rw [arrV_size]; omega)
    (fun vm₁ _ i hi => by
      have e : (vp_cell (cT 50) ((hS h a).2, .inl (hI h a))).slots.getD (sp.toNatClampNeg + i) .null = .int (hI h a (sp.toNatClampNeg + i)) := by
        show (arrV _ _ (fun j => .int (hI h a j))).slots.getD _ _ = _
        rw [Array.getD_eq_getD_getElem?, arrV_read _ _ (by omega)]
        rfl
      refine ⟨?_, ?_⟩
      · rw [e]
        rfl
      · rw [e]
        exact trivial)
    (g := F0 m pc Ls (.int n :: .int dp :: .ref (B + (b - 62)) :: .int sp :: .ref (B + (a - 62)) :: rest)) rfl (by rw [cx.2.2.1]; exact I.1.1.trans I.2.1) (rest := rest) rfl (by rw [cx.2.1]; exact hd) (by omega) (by show 2 * 0 + _ + (5 + 2 + 11) ≤ _; omega)
  have e1 : copied (vp_cell (cT 50) ((hS h a).2, .inl (hI h a))) (vp_cell (cT 50) ((hS h b).2, .inl (hI h b))) sp dp n = vp_cell (cT 50) ((hS h b).2, .inl (cpy (hI h a) (hI h b) sp.toNatClampNeg dp.toNatClampNeg n.toNatClampNeg)) := va_copied (fun z => .int z) (cT 50) (cT 50) (hI h a) (hI h b) h4
  rw [e1] at X' step
  generalize hce : vp_cell (cT 50) ((hS h b).2, .inl (cpy (hI h a) (hI h b) sp.toNatClampNeg dp.toNatClampNeg n.toNatClampNeg)) = ce at X' step
  have hlt : B + (b - 62) < H.size := (Array.getElem?_eq_some_iff.mp hc1).1
  have hheap : ((T.setVm vm').setCell (B + (b - 62)) ce).heap = H.setIfInBounds (B + (b - 62)) ce := by rw [← hT]; rfl
  have oq : ∀ q : Nat, q ≠ B + (b - 62) → (H.setIfInBounds (B + (b - 62)) ce)[q]? = H[q]? := fun q hq => by simp [Array.getElem?_setIfInBounds, Ne.symm hq]
  have hz : (H.setIfInBounds (B + (b - 62)) ce).size = H.size := by simp
  obtain ⟨t, a1, b1⟩ := kk _ _ ⟨I.1, I.2.1, World.set (a := b) I.2.2.1 hbne rfl rfl (fun z hz => ⟨rI_ne hz, rfl, rfl⟩) (by
      rw [cel_50 (h := rI h b _) eb, rI_self]
      show (H.setIfInBounds (B + (b - 62)) ce)[B + (b - 62)]? = some (vp_cell (cT 50) ((hS h b).2, .inl (cpy (hI h a) (hI h b) sp.toNatClampNeg dp.toNatClampNeg n.toNatClampNeg)))
      rw [hce]
      simp [Array.getElem?_setIfInBounds, hlt]) hz oq, ⟨by rw [hz]; exact I.2.2.2.1, fun q g1 g2 => by
      rw [oq q (by omega)]
      exact I.2.2.2.2.1 q g1 g2, fun q hq => by
      rcases List.mem_append.mp hq with z | z
      · exact I.2.2.2.2.2 q z
      · obtain ⟨z, -, hz⟩ := List.mem_map.mp z
        rw [← hz]
        exact Nat.le_add_right _ _⟩⟩ _ hheap X'
  exact ⟨t, step t a1, b1⟩
theorem wv_copyJ {i a b : Nat} {sp dp n : Int32} {rest : List Value} (cx : CX p s m args meth c R B aS cT D X y d) (I : SI s B aS cT D y ls Ls h H locs) (hl : Cond.methodLink (clsS (mOwn y)) i arraycopyName ∈ lw_good) (ea : (hS h a).1 = 51) (eb : (hS h b).1 = 51) (h1 : ¬ sp < 0) (h2 : ¬ dp < 0) (h3 : ¬ n < 0) (h4 : sp.toNatClampNeg + n.toNatClampNeg ≤ (hS h a).2) (h5 : dp.toNatClampNeg + n.toNatClampNeg ≤ (hS h b).2) (hc : (rest.map fun v => v.category).sum ≤ 8) (hd : decode (mCode y) pc = .ok (.invokestatic i, 3))
    (kk : ∀ (H1 : Heap) (locs1 : List Loc), SI s B aS cT D y ls Ls (rJ h b (cpy (hJ h a) (hJ h b) sp.toNatClampNeg dp.toNatClampNeg n.toNatClampNeg)) H1 locs1 → W p l e R s m args below meth c H1 locs1 cells slots Q (F0 m (pc + 3) Ls rest)) : W p l e R s m args below meth c H locs cells slots Q (F0 m pc Ls (.int n :: .int dp :: .ref (B + (b - 62)) :: .int sp :: .ref (B + (a - 62)) :: rest)) := by
  have nn : ∀ z : Int32, ¬ z < 0 → z.toInt = (z.toNatClampNeg : Int) := by
    intro z hz
    have hz0 : (0 : Int) ≤ z.toInt := by
      have := Int32.not_lt.mp hz
      simpa using Int32.le_iff_toInt_le.mp this
    show z.toInt = ((z.toInt.toNat : Nat) : Int)
    omega
  have hane := ne0_of_fst (by decide) ea
  have hbne := ne0_of_fst (by decide) eb
  have hc0 : H[B + (a - 62)]? = some (vp_cell (cT 51) ((hS h a).2, .inr (.inl (hJ h a)))) := I.2.2.1.one hane (cel_51 (B := B) (aS := aS) (cT := cT) ea) 0 _ rfl
  have hc1 : H[B + (b - 62)]? = some (vp_cell (cT 51) ((hS h b).2, .inr (.inl (hJ h b)))) := I.2.2.1.one hbne (cel_51 (B := B) (aS := aS) (cT := cT) eb) 0 _ rfl
  have hR := cx.2.2.2.2.2.2.2.2.2
  intro T hT Xs
  obtain ⟨-, k0, hk0, cm0, hkk0⟩ := (cx.K.2 1 _ rfl).1 (hS h a).2 (fun j => .long (hJ h a j))
  obtain ⟨-, k1, hk1, cm1, hkk1⟩ := (cx.K.2 1 _ rfl).1 (hS h b).2 (fun j => .long (hJ h b j))
  obtain ⟨vm', X', step⟩ := Xs.arraycopy cx.1 cx.own (cx.ts _ hl) (cx.ts _ cp_in.1) (cx.ts _ cp_in.2.1) (cx.ts _ cp_in.2.2.1) (src := B + (a - 62)) (dst := B + (b - 62)) (cs := vp_cell (cT 51) ((hS h a).2, .inr (.inl (hJ h a)))) (cd := vp_cell (cT 51) ((hS h b).2, .inr (.inl (hJ h b)))) (srcPos := sp) (destPos := dp) (n := n) (by rw [hT]; exact hc0) (by rw [hT]; exact hc1)
    (fun _ z => by cases z) (fun _ z => by cases z) (fun z => by cases z) (fun z => by cases z) hk0 hk1 hkk0 hkk1 (by rfl) h1 h2 h3
    (by rw [nn sp h1, nn n h3]; show ¬ _ > ((arrV _ _ (fun j => .long (hJ h a j))).slots.size : Int); rw [arrV_size]; omega)
    (by rw [nn dp h2, nn n h3]; show ¬ _ > ((arrV _ _ (fun j => .long (hJ h b j))).slots.size : Int); rw [arrV_size]; omega)
    (fun vm₁ _ i hi => by
      have e : (vp_cell (cT 51) ((hS h a).2, .inr (.inl (hJ h a)))).slots.getD (sp.toNatClampNeg + i) .null = .long (hJ h a (sp.toNatClampNeg + i)) := by
        show (arrV _ _ (fun j => .long (hJ h a j))).slots.getD _ _ = _
        rw [Array.getD_eq_getD_getElem?, arrV_read _ _ (by omega)]
        rfl
      refine ⟨?_, ?_⟩
      · rw [e]
        rfl
      · rw [e]
        exact trivial)
    (g := F0 m pc Ls (.int n :: .int dp :: .ref (B + (b - 62)) :: .int sp :: .ref (B + (a - 62)) :: rest)) rfl (by rw [cx.2.2.1]; exact I.1.1.trans I.2.1) (rest := rest) rfl (by rw [cx.2.1]; exact hd) (by omega) (by show 2 * 0 + _ + (5 + 2 + 11) ≤ _; omega)
  have e1 : copied (vp_cell (cT 51) ((hS h a).2, .inr (.inl (hJ h a)))) (vp_cell (cT 51) ((hS h b).2, .inr (.inl (hJ h b)))) sp dp n = vp_cell (cT 51) ((hS h b).2, .inr (.inl (cpy (hJ h a) (hJ h b) sp.toNatClampNeg dp.toNatClampNeg n.toNatClampNeg))) := va_copied (fun z => .long z) (cT 51) (cT 51) (hJ h a) (hJ h b) h4
  rw [e1] at X' step
  generalize hce : vp_cell (cT 51) ((hS h b).2, .inr (.inl (cpy (hJ h a) (hJ h b) sp.toNatClampNeg dp.toNatClampNeg n.toNatClampNeg))) = ce at X' step
  have hlt : B + (b - 62) < H.size := (Array.getElem?_eq_some_iff.mp hc1).1
  have hheap : ((T.setVm vm').setCell (B + (b - 62)) ce).heap = H.setIfInBounds (B + (b - 62)) ce := by rw [← hT]; rfl
  have oq : ∀ q : Nat, q ≠ B + (b - 62) → (H.setIfInBounds (B + (b - 62)) ce)[q]? = H[q]? := fun q hq => by simp [Array.getElem?_setIfInBounds, Ne.symm hq]
  have hz : (H.setIfInBounds (B + (b - 62)) ce).size = H.size := by simp
  obtain ⟨t, a1, b1⟩ := kk _ _ ⟨I.1, I.2.1, World.set (a := b) I.2.2.1 hbne rfl rfl (fun z hz => ⟨rfl, rJ_ne hz, rfl⟩) (by
      rw [cel_51 (h := rJ h b _) eb, rJ_self]
      show (H.setIfInBounds (B + (b - 62)) ce)[B + (b - 62)]? = some (vp_cell (cT 51) ((hS h b).2, .inr (.inl (cpy (hJ h a) (hJ h b) sp.toNatClampNeg dp.toNatClampNeg n.toNatClampNeg))))
      rw [hce]
      simp [Array.getElem?_setIfInBounds, hlt]) hz oq, ⟨by rw [hz]; exact I.2.2.2.1, fun q g1 g2 => by
      rw [oq q (by omega)]
      exact I.2.2.2.2.1 q g1 g2, fun q hq => by
      rcases List.mem_append.mp hq with z | z
      · exact I.2.2.2.2.2 q z
      · obtain ⟨z, -, hz⟩ := List.mem_map.mp z
        rw [← hz]
        exact Nat.le_add_right _ _⟩⟩ _ hheap X'
  exact ⟨t, step t a1, b1⟩
/-- one call instruction -/
theorem w_stpC {vir i : Nat} (cx : CX p s m args meth c R B aS cT D X y d) (I : SI s B aS cT D y ls Ls h H locs) (hC : OK l B aS cT D X d C) (hroom : cells + hN o.2.2.2 ≤ R.cells + hN h ∧ slots + hK o.2.2.2 ≤ R.slots + hK h) (hd : decode (mCode y) pc = .ok (if vir = 0 then .invokestatic i else if vir = 1 then .invokevirtual i else .invokespecial i, 3)) (hv : vir ≤ 2) (hs : stpC (X, C) y vir i pc ls st h = some (.inl o)) (kk : KK p l e R s m args below meth c B aS cT D Q y h cells slots o) : W p l e R s m args below meth c H locs cells slots Q (F0 m pc Ls (st.map (tr B aS))) := by
  have hR := cx.2.2.2.2.2.2.2.2.2
  unfold stpC at hs
  split at hs
  · next k q e1 =>
    replace hs := gd_inv hs; obtain ⟨⟨rfl, -⟩, hs⟩ := hs
    replace hs := pR_inv hs; obtain ⟨a, st, rfl, hs⟩ := hs
    replace hs := gd_inv hs; obtain ⟨hc, hs⟩ := hs
    obtain rfl := nx_inv hs
    have hz := (tab_in mth_all rfl e1).2
    simp only [mthOK, if_true] at hz
    have h1 : Cond.methodLink (clsS (mOwn y)) i objectInit ∈ lw_good := isW_in hz
    exact W.objInit cx.1 cx.2.1 cx.own (cx.ts _ h1) (cx.ts _ cp_in.2.2.2.1) (cx.ts _ cp_in.2.2.2.2) rfl (by rw [cx.2.2.1]; exact I.1.1.trans I.2.1) (a := ad B aS a) (rest := st.map (tr B aS)) rfl hd (by omega) (by show 2 * 0 + _ + 12 ≤ _; rw [tr_sum]; omega) (kk.same I rfl rfl)
  · next k q e1 =>
    replace hs := gd_inv hs; obtain ⟨rfl, hs⟩ := hs
    replace hs := pI_inv hs; obtain ⟨n, st, rfl, hs⟩ := hs
    replace hs := pI_inv hs; obtain ⟨dp, st, rfl, hs⟩ := hs
    replace hs := pR_inv hs; obtain ⟨b, st, rfl, hs⟩ := hs
    replace hs := pI_inv hs; obtain ⟨sp, st, rfl, hs⟩ := hs
    replace hs := pR_inv hs; obtain ⟨a, st, rfl, hs⟩ := hs
    replace hs := gd_inv hs; obtain ⟨⟨h1, h2, h3, h4, h5, hc⟩, hs⟩ := hs
    have hz := (tab_in mth_all rfl e1).2
    simp only [mthOK] at hz
    rw [if_neg (by decide), if_pos trivial] at hz
    have hl : Cond.methodLink (clsS (mOwn y)) i arraycopyName ∈ lw_good := isW_in hz
    have hst : 50 ≤ (hS h a).1 → 50 ≤ (hS h b).1 → (Value.int n :: Value.int dp :: Value.ref b :: Value.int sp :: Value.ref a :: st).map (tr B aS) = .int n :: .int dp :: .ref (B + (b - 62)) :: .int sp :: .ref (B + (a - 62)) :: st.map (tr B aS) := by
      intro q1 q2
      show Value.int n :: Value.int dp :: tr B aS (.ref b) :: Value.int sp :: tr B aS (.ref a) :: _ = _
      rw [tr_hi (tag_of I.2.2.1.1 q1).1, tr_hi (tag_of I.2.2.1.1 q2).1]
    by_cases hcI : (hS h a).1 = 50 ∧ (hS h b).1 = 50
    · rw [if_pos hcI] at hs
      obtain rfl := nx_inv hs
      rw [hst (by omega) (by omega)]
      exact wv_copyI cx I hl hcI.1 hcI.2 h1 h2 h3 h4 h5 (by rw [tr_sum]; exact hc) hd (fun H1 locs1 J => kk H1 locs1 Ls cells slots J rfl rfl)
    · rw [if_neg hcI] at hs
      by_cases hcJ : (hS h a).1 = 51 ∧ (hS h b).1 = 51
      · rw [if_pos hcJ] at hs
        obtain rfl := nx_inv hs
        rw [hst (by omega) (by omega)]
        exact wv_copyJ cx I hl hcJ.1 hcJ.2 h1 h2 h3 h4 h5 (by rw [tr_sum]; exact hc) hd (fun H1 locs1 J => kk H1 locs1 Ls cells slots J rfl rfl)
      · rw [if_neg hcJ] at hs
        cases hs
  · next y' k q _ _ e1 =>
    replace hs := gd_inv hs; obtain ⟨hy, hs⟩ := hs
    have hz := (tab_in mth_all rfl e1).2
    simp only [mthOK] at hz
    have hy2 : y' < 248 := hy
    rw [if_neg (by omega), if_neg (by omega)] at hz
    rw [Bool.and_eq_true] at hz
    have hy3 : y' < 247 := of_decide_eq_true hz.1
    have hk1 : k = 0 ∨ k = 1 := by
      have h9 := (tab_in kin_all rfl e1).2
      have h10 : k ≤ 1 := of_decide_eq_true h9
      omega
    by_cases hmo : 235 ≤ y' ∧ y' < 240
    · rw [if_pos hmo] at hs
      replace hs := gd_inv hs; obtain ⟨⟨rfl, rfl⟩, hs⟩ := hs
      simp only [if_true, Bool.and_eq_true] at hz
      have hl := cx.ts _ (isW_in hz.2)
      have hml : c.maxLocals = Ls.size := by rw [cx.2.2.1]; exact (I.1.1.trans I.2.1).symm
      obtain ⟨r1, r2, -, r4, r5, -⟩ := m_row hy3
      have hrc : cells ≤ R.cells ∧ slots ≤ R.slots ∨ True := Or.inr trivial
      unfold mop at hs
      split at hs
      · replace hs := pI_inv hs; obtain ⟨x, st, rfl, hs⟩ := hs
        replace hs := gd_inv hs; obtain ⟨hc, hs⟩ := hs
        obtain rfl := nx_inv hs
        exact va_mabs cx.1 cx.2.1 hml cx.own hl (cx.ts _ r5) (cx.ts _ r4) (cx.ts _ r1) (by omega) (by rw [tr_sum]; omega) (Nat.le_of_add_le_add_right hroom.1) (Nat.le_of_add_le_add_right hroom.2) hd (kk.same I rfl rfl)
      · replace hs := pI_inv hs; obtain ⟨z, st, rfl, hs⟩ := hs
        replace hs := pI_inv hs; obtain ⟨x, st, rfl, hs⟩ := hs
        replace hs := gd_inv hs; obtain ⟨hc, hs⟩ := hs
        obtain rfl := nx_inv hs
        exact va_mmax cx.1 cx.2.1 hml cx.own hl (cx.ts _ r5) (cx.ts _ r4) (cx.ts _ r1) (by omega) (by rw [tr_sum]; omega) (Nat.le_of_add_le_add_right hroom.1) (Nat.le_of_add_le_add_right hroom.2) hd (kk.same I rfl rfl)
      · replace hs := pJ_inv hs; obtain ⟨z, st, rfl, hs⟩ := hs
        replace hs := pJ_inv hs; obtain ⟨x, st, rfl, hs⟩ := hs
        replace hs := gd_inv hs; obtain ⟨hc, hs⟩ := hs
        obtain rfl := nx_inv hs
        exact va_mmax_long cx.1 cx.2.1 hml cx.own hl (cx.ts _ r5) (cx.ts _ r4) (cx.ts _ r1) (by omega) (by rw [tr_sum]; omega) (Nat.le_of_add_le_add_right hroom.1) (Nat.le_of_add_le_add_right hroom.2) hd (kk.same I rfl rfl)
      · replace hs := pI_inv hs; obtain ⟨z, st, rfl, hs⟩ := hs
        replace hs := pI_inv hs; obtain ⟨x, st, rfl, hs⟩ := hs
        replace hs := gd_inv hs; obtain ⟨hc, hs⟩ := hs
        obtain rfl := nx_inv hs
        exact va_mmin cx.1 cx.2.1 hml cx.own hl (cx.ts _ r5) (cx.ts _ r4) (cx.ts _ r1) (by omega) (by rw [tr_sum]; omega) (Nat.le_of_add_le_add_right hroom.1) (Nat.le_of_add_le_add_right hroom.2) hd (kk.same I rfl rfl)
      · replace hs := pJ_inv hs; obtain ⟨z, st, rfl, hs⟩ := hs
        replace hs := pJ_inv hs; obtain ⟨x, st, rfl, hs⟩ := hs
        replace hs := gd_inv hs; obtain ⟨hc, hs⟩ := hs
        obtain rfl := nx_inv hs
        exact va_mmin_long cx.1 cx.2.1 hml cx.own hl (cx.ts _ r5) (cx.ts _ r4) (cx.ts _ r1) (by omega) (by rw [tr_sum]; omega) (Nat.le_of_add_le_add_right hroom.1) (Nat.le_of_add_le_add_right hroom.2) hd (kk.same I rfl rfl)
      · cases hs
    · rw [if_neg hmo] at hs
      by_cases h0 : vir = 0
      · subst h0
        rw [if_pos rfl] at hs
        exact w_callS cx I hC hroom e1 hk1 ⟨hy3, hmo⟩ hd hs kk
      · rw [if_neg h0] at hs
        replace hs := gd_inv hs; obtain ⟨-, hs⟩ := hs
        by_cases h1 : vir = 1
        · subst h1
          exact w_callV cx I hC hroom e1 hk1 ⟨hy3, hmo⟩ hd hs kk
        · have h2 : vir = 2 := by omega
          subst h2
          exact w_callI cx I hC hroom e1 hk1 ⟨hy3, hmo⟩ hd hs kk
  · cases hs
/-- making -/
theorem w_new {i : Nat} (cx : CX p s m args meth c R B aS cT D X y d) (I : SI s B aS cT D y ls Ls h H locs) (hroom : cells + hN o.2.2.2 ≤ R.cells + hN h ∧ slots + hK o.2.2.2 ≤ R.slots + hK h) (hd : decode (mCode y) pc = .ok (.new i, len)) (hs : stpI (X, C) y (.new i) len pc ls st h = some (.inl o)) (kk : KK p l e R s m args below meth c B aS cT D Q y h cells slots o) : W p l e R s m args below meth c H locs cells slots Q (F0 m pc Ls (st.map (tr B aS))) := by
  simp only [stpI] at hs
  replace hs := gd_inv hs; obtain ⟨⟨rfl, -⟩, hs⟩ := hs
  split at hs
  · next ci q e1 =>
    replace hs := gd_inv hs; obtain ⟨hci, hs⟩ := hs
    obtain rfl := nx_inv hs
    have h1 := (tab_in clk_all rfl e1).2
    simp only [hci, if_true] at h1
    obtain ⟨r1, r2, -, r4⟩ := cl_row hci
    have hKn := cx.K.1 ci _ (cl_at hci)
    have q1 : cells + (hN h + 1) ≤ R.cells + hN h := hroom.1
    have q2 : slots + (hK h + nfl ci) ≤ R.slots + hK h := hroom.2
    have hsz := I.2.2.1.2.1
    have h62 := I.2.2.1.1.1
    refine W.newcK cx.1 cx.2.1 cx.own (cx.ts _ (isW_in h1)) (cx.ts _ (isW_in r1)) (cx.ts _ (isW_in r2)) rfl hd (by omega) (by omega) hKn.2.1 rfl fun H1 kC hkC f1 z1 o1 => ?_
    have k1 := kk H1 locs Ls (cells + 1) (slots + nfl ci) ⟨I.1, I.2.1, World.add I.2.2.1 (Or.inl ⟨Nat.succ_pos ci, by show ci + 1 < 13; omega⟩) ?_ z1 o1, ⟨by have := I.2.2.2.1; omega, fun q g1 g2 => (o1 q (Nat.lt_of_lt_of_le g1 I.2.2.2.1)).trans (I.2.2.2.2.1 q g1 g2), I.2.2.2.2.2⟩⟩ (by show cells + 1 + hN h = cells + (hN h + 1); omega) (by show slots + nfl ci + hK h = slots + (hK h + nfl ci); omega)
    · have e3 : ((pc + 3, ls, Value.ref (hN h) :: st, alc h (ci + 1, 0) (nfl ci)) : MSt).2.2.1.map (tr B aS) = .ref H.size :: st.map (tr B aS) := by
        show tr B aS (.ref (hN h)) :: _ = _
        rw [tr_hi h62, hsz]
      rw [e3] at k1
      exact k1
    · rw [cel_obj (h := alc h (ci + 1, 0) (nfl ci)) hci hS_alc]
      refine ⟨_, cl_at hci, (u_born (tyF ci) cx.ts (cl_ws hci) hKn hkC f1 (cl_ty hci)).to fun j hj => ?_⟩
      show _ = (flds B aS (alc h (ci + 1, 0) (nfl ci)) (hN h) ci).getD j .null
      rw [List.getD_eq_getElem?_getD, flds_at hj]
      obtain ⟨t0, t1, t3, t2⟩ := ty_of hci hj
      have h3 := (r4 j hj).2.2.2.2
      have h4 : fty ci j = 0 ∨ fty ci j = 1 ∨ fty ci j = 2 ∨ fty ci j = 3 := by omega
      rcases h4 with z | z | z | z
      · rw [t0 z, z]
        show Value.int 0 = Value.int (hI (alc h (ci + 1, 0) (nfl ci)) (hN h) j)
        rw [hI_alc]
      · rw [t1 z, z]
        show Value.long 0 = Value.long (hJ (alc h (ci + 1, 0) (nfl ci)) (hN h) j)
        rw [hJ_alc]
      · have e4 : defaultValue (tyF ci j) = .null := by rcases t2 z with ⟨w, hw⟩ | ⟨w, hw⟩ <;> rw [hw] <;> rfl
        rw [e4, z]
        show Value.null = va_rf ((hP (alc h (ci + 1, 0) (nfl ci)) (hN h) j).map (ad B aS))
        rw [hP_alc]
        rfl
      · rw [t3 z, z]
        show Value.int 0 = Value.int (hI (alc h (ci + 1, 0) (nfl ci)) (hN h) j)
        rw [hI_alc]
  · cases hs
theorem w_newarray {t : ArrayType} (cx : CX p s m args meth c R B aS cT D X y d) (I : SI s B aS cT D y ls Ls h H locs) (hroom : cells + hN o.2.2.2 ≤ R.cells + hN h ∧ slots + hK o.2.2.2 ≤ R.slots + hK h) (hd : decode (mCode y) pc = .ok (.newarray t, len)) (hs : stpI (X, C) y (.newarray t) len pc ls st h = some (.inl o)) (kk : KK p l e R s m args below meth c B aS cT D Q y h cells slots o) : W p l e R s m args below meth c H locs cells slots Q (F0 m pc Ls (st.map (tr B aS))) := by
  simp only [stpI] at hs
  replace hs := gd_inv hs; obtain ⟨⟨rfl, -⟩, hs⟩ := hs
  replace hs := pI_inv hs; obtain ⟨n, st, rfl, hs⟩ := hs
  replace hs := gd_inv hs; obtain ⟨⟨hn, hN0⟩, hs⟩ := hs
  have hsz := I.2.2.1.2.1
  have h62 := I.2.2.1.1.1
  have e3 : tr B aS (.ref (hN h)) = .ref H.size := by rw [tr_hi h62, hsz]
  split at hs
  · obtain rfl := nx_inv hs
    have q1 : cells + (hN h + 1) ≤ R.cells + hN h := hroom.1
    have q2 : slots + (hK h + n.toNatClampNeg) ≤ R.slots + hK h := hroom.2
    refine va_newaK (atype := .int) cx.1 cx.2.1 (cx.ts _ ao_in.2.2.2.2.2.2.1) rfl hd rfl hn rfl (by show n.toNatClampNeg * 4 ≤ _; omega) (by omega) (by omega) rfl fun H1 cA f1 z1 o1 _ hNm => ?_
    have hcA : cA = cT 50 := Option.some.inj (hNm.symm.trans (cx.K.2 0 _ rfl).2)
    subst hcA
    have k1 := kk H1 locs Ls (cells + 1) (slots + n.toNatClampNeg) ⟨I.1, I.2.1, World.add I.2.2.1 (Or.inr (show 50 ∈ tagL by decide)) ?_ z1 o1, ⟨by have := I.2.2.2.1; omega, fun q g1 g2 => (o1 q (Nat.lt_of_lt_of_le g1 I.2.2.2.1)).trans (I.2.2.2.2.1 q g1 g2), I.2.2.2.2.2⟩⟩ (by show cells + 1 + hN h = cells + (hN h + 1); omega) (by show slots + n.toNatClampNeg + hK h = slots + (hK h + n.toNatClampNeg); omega)
    · rw [show ((pc + 2, ls, Value.ref (hN h) :: st, alc h (50, n.toNatClampNeg) n.toNatClampNeg) : MSt).2.2.1.map (tr B aS) = .ref H.size :: st.map (tr B aS) from congrArg (· :: _) e3] at k1
      exact k1
    · rw [cel_50 (h := alc h (50, n.toNatClampNeg) n.toNatClampNeg) (by rw [hS_alc]), hS_alc, hI_alc]
      exact f1
  · obtain rfl := nx_inv hs
    have q1 : cells + (hN h + 1) ≤ R.cells + hN h := hroom.1
    have q2 : slots + (hK h + n.toNatClampNeg) ≤ R.slots + hK h := hroom.2
    refine va_newaK (atype := .long) cx.1 cx.2.1 (cx.ts _ ao_in.2.2.2.2.2.2.2.1) rfl hd rfl hn rfl (by show n.toNatClampNeg * 8 ≤ _; omega) (by omega) (by omega) rfl fun H1 cA f1 z1 o1 _ hNm => ?_
    have hcA : cA = cT 51 := Option.some.inj (hNm.symm.trans (cx.K.2 1 _ rfl).2)
    subst hcA
    have k1 := kk H1 locs Ls (cells + 1) (slots + n.toNatClampNeg) ⟨I.1, I.2.1, World.add I.2.2.1 (Or.inr (show 51 ∈ tagL by decide)) ?_ z1 o1, ⟨by have := I.2.2.2.1; omega, fun q g1 g2 => (o1 q (Nat.lt_of_lt_of_le g1 I.2.2.2.1)).trans (I.2.2.2.2.1 q g1 g2), I.2.2.2.2.2⟩⟩ (by show cells + 1 + hN h = cells + (hN h + 1); omega) (by show slots + n.toNatClampNeg + hK h = slots + (hK h + n.toNatClampNeg); omega)
    · rw [show ((pc + 2, ls, Value.ref (hN h) :: st, alc h (51, n.toNatClampNeg) n.toNatClampNeg) : MSt).2.2.1.map (tr B aS) = .ref H.size :: st.map (tr B aS) from congrArg (· :: _) e3] at k1
      exact k1
    · rw [cel_51 (h := alc h (51, n.toNatClampNeg) n.toNatClampNeg) (by rw [hS_alc]), hS_alc, hJ_alc]
      exact f1
  · obtain rfl := nx_inv hs
    have q1 : cells + (hN h + 1) ≤ R.cells + hN h := hroom.1
    have q2 : slots + (hK h + n.toNatClampNeg) ≤ R.slots + hK h := hroom.2
    refine va_newaK (atype := .boolean) cx.1 cx.2.1 (cx.ts _ ao_in.2.2.2.2.2.2.2.2) rfl hd rfl hn rfl (by show n.toNatClampNeg * 1 ≤ _; omega) (by omega) (by omega) rfl fun H1 cA f1 z1 o1 _ hNm => ?_
    have hcA : cA = cT 52 := Option.some.inj (hNm.symm.trans (cx.K.2 2 _ rfl).2)
    subst hcA
    have k1 := kk H1 locs Ls (cells + 1) (slots + n.toNatClampNeg) ⟨I.1, I.2.1, World.add I.2.2.1 (Or.inr (show 52 ∈ tagL by decide)) ?_ z1 o1, ⟨by have := I.2.2.2.1; omega, fun q g1 g2 => (o1 q (Nat.lt_of_lt_of_le g1 I.2.2.2.1)).trans (I.2.2.2.2.1 q g1 g2), I.2.2.2.2.2⟩⟩ (by show cells + 1 + hN h = cells + (hN h + 1); omega) (by show slots + n.toNatClampNeg + hK h = slots + (hK h + n.toNatClampNeg); omega)
    · rw [show ((pc + 2, ls, Value.ref (hN h) :: st, alc h (52, n.toNatClampNeg) n.toNatClampNeg) : MSt).2.2.1.map (tr B aS) = .ref H.size :: st.map (tr B aS) from congrArg (· :: _) e3] at k1
      exact k1
    · rw [cel_52 (h := alc h (52, n.toNatClampNeg) n.toNatClampNeg) (by rw [hS_alc]), hS_alc, hI_alc]
      exact f1
  · cases hs
theorem w_anewarray {i : Nat} (cx : CX p s m args meth c R B aS cT D X y d) (I : SI s B aS cT D y ls Ls h H locs) (hroom : cells + hN o.2.2.2 ≤ R.cells + hN h ∧ slots + hK o.2.2.2 ≤ R.slots + hK h) (hd : decode (mCode y) pc = .ok (.anewarray i, len)) (hs : stpI (X, C) y (.anewarray i) len pc ls st h = some (.inl o)) (kk : KK p l e R s m args below meth c B aS cT D Q y h cells slots o) : W p l e R s m args below meth c H locs cells slots Q (F0 m pc Ls (st.map (tr B aS))) := by
  simp only [stpI] at hs
  replace hs := gd_inv hs; obtain ⟨⟨rfl, -⟩, hs⟩ := hs
  replace hs := pI_inv hs; obtain ⟨n, st, rfl, hs⟩ := hs
  replace hs := gd_inv hs; obtain ⟨⟨hn, hN0⟩, hs⟩ := hs
  split at hs
  · next ci q e1 =>
    replace hs := gd_inv hs; obtain ⟨hci, hs⟩ := hs
    obtain rfl := nx_inv hs
    have hc12 : ci < 12 := by omega
    have h1 := (tab_in clk_all rfl e1).2
    simp only [hc12, if_true] at h1
    have q1 : cells + (hN h + 1) ≤ R.cells + hN h := hroom.1
    have q2 : slots + (hK h + n.toNatClampNeg) ≤ R.slots + hK h := hroom.2
    have hsz := I.2.2.1.2.1
    have h62 := I.2.2.1.1.1
    have hover : va_AO (clsS ci) s := by
      have hao := cx.F.2.2.2.2.2.2.2.2.1
      rcases hci with rfl | rfl | rfl | rfl
      · exact hao.1
      · exact hao.2.1
      · exact hao.2.2.1
      · exact hao.2.2.2.1
    have htag : 60 + ci ∈ tagL := by rcases hci with rfl | rfl | rfl | rfl <;> decide
    have hty : tyT (60 + ci) = .object (clsS ci) := by rcases hci with rfl | rfl | rfl | rfl <;> rfl
    obtain ⟨k, hk⟩ := tagL_tys (cT := cT) htag
    rw [hty] at hk
    obtain ⟨kA0, comp0, g1, g2, g3, g4⟩ := (cx.K.2 k _ hk).2
    refine W.anew cx.1 cx.2.1 cx.own (cx.ts _ (isW_in h1)) (va_AO.use hover) rfl hd rfl hn (by omega) (by omega) (by omega) fun cA kA comp f1 f2 f3 f4 => ?_
    have hcA : cA = cT (60 + ci) := Option.some.inj (f1.symm.trans g4)
    subst hcA
    generalize hH1 : H.push ({ cls := cT (60 + ci), slots := Array.replicate n.toNatClampNeg .null, vm := .none } : Cell) = H1
    have z1 : H1.size = H.size + 1 := by rw [← hH1, Array.size_push]
    have e1 : H1[H.size]? = some (arrV (cT (60 + ci)) n.toNatClampNeg (fun _ => .null)) := by rw [← hH1, Array.getElem?_push_size, ← arrV_new]
    have o1 : ∀ q : Nat, q < H.size → H1[q]? = H[q]? := fun q hq => by rw [← hH1, Array.getElem?_push, if_neg (Nat.ne_of_lt hq)]
    have k1 := kk H1 locs Ls (cells + 1) (slots + n.toNatClampNeg) ⟨I.1, I.2.1, World.add I.2.2.1 (Or.inr htag) ?_ z1 o1, ⟨by have := I.2.2.2.1; omega, fun q g1 g2 => (o1 q (Nat.lt_of_lt_of_le g1 I.2.2.2.1)).trans (I.2.2.2.2.1 q g1 g2), I.2.2.2.2.2⟩⟩ (by show cells + 1 + hN h = cells + (hN h + 1); omega) (by show slots + n.toNatClampNeg + hK h = slots + (hK h + n.toNatClampNeg); omega)
    · have e3 : ((pc + 3, ls, Value.ref (hN h) :: st, alc h (60 + ci, n.toNatClampNeg) n.toNatClampNeg) : MSt).2.2.1.map (tr B aS) = .ref H.size :: st.map (tr B aS) := by
        show tr B aS (.ref (hN h)) :: _ = _
        rw [tr_hi h62, hsz]
      rw [e3] at k1
      exact k1
    · rw [cel_rf (h := alc h (60 + ci, n.toNatClampNeg) n.toNatClampNeg) (by rw [hS_alc]; show 60 ≤ 60 + ci; omega), hS_alc, hP_alc]
      exact e1
  · cases hs
/-- ends -/
theorem w_end (cx : CX p s m args meth c R B aS cT D X y d) (I : SI s B aS cT D y ls Ls h H locs) {ins : Instr} {v : Option Value} {h1 : Hp} (hd : decode (mCode y) pc = .ok (ins, len)) (hs : stpI (X, C) y ins len pc ls st h = some (.inr (v, h1))) (hi : ins = .ireturn ∨ ins = .lreturn ∨ ins = .areturn ∨ ins = .return_) : h1 = h ∧ W p l e R s m args below meth c H locs cells slots (MQ below (QcM B aS cT D v h1) args s cells slots (fun q => B ≤ q)) (F0 m pc Ls (st.map (tr B aS))) := by
  have hr := cx.2.2.2.2.2.1
  have hlocks := cx.2.2.2.2.2.2.1
  have hq : ∀ w : Option Value, ∀ t : State, t.heap = H → QcM B aS cT D w h args s (.returned (w.map (tr B aS))) t := fun w t ht => ⟨rfl, by rw [ht]; exact I.2.2.1, by rw [ht]; exact I.2.2.2.1, fun q hq => by
    rw [ht]
    exact I.2.2.2.2.1 q (Nat.lt_of_lt_of_le hq cx.F.2.2.2.2.2.2.2.1) (by omega)⟩
  rcases hi with rfl | rfl | rfl | rfl
  · simp only [stpI] at hs
    replace hs := gd_inv hs; obtain ⟨rfl, hs⟩ := hs
    replace hs := pI_inv hs; obtain ⟨x, st, rfl, hs⟩ := hs
    split at hs
    · next e =>
      unfold rt at hs
      cases hs
      exact ⟨rfl, W.iret (v := x) cx.1 cx.2.1 (by rw [hr, e]) (fun t ht _ => hq (some (.int x)) t ht) I.2.2.2.2.2 hd hlocks⟩
    · next e =>
      replace hs := gd_inv hs; obtain ⟨hz, hs⟩ := hs
      unfold rt at hs
      cases hs
      exact ⟨rfl, W.zret (v := x) cx.1 cx.2.1 (by rw [hr, e]) hz (fun t ht _ => hq (some (.int x)) t ht) I.2.2.2.2.2 hd hlocks⟩
    · next e =>
      replace hs := gd_inv hs; obtain ⟨hz, hs⟩ := hs
      unfold rt at hs
      cases hs
      exact ⟨rfl, W.zret (v := x) cx.1 cx.2.1 (by rw [hr, e]) hz (fun t ht _ => hq (some (.int x)) t ht) I.2.2.2.2.2 hd hlocks⟩
    · next e =>
      replace hs := gd_inv hs; obtain ⟨hz, hs⟩ := hs
      unfold rt at hs
      cases hs
      exact ⟨rfl, W.zret (v := x) cx.1 cx.2.1 (by rw [hr, e]) hz (fun t ht _ => hq (some (.int x)) t ht) I.2.2.2.2.2 hd hlocks⟩
    · cases hs
  · simp only [stpI] at hs
    replace hs := gd_inv hs; obtain ⟨rfl, hs⟩ := hs
    replace hs := pJ_inv hs; obtain ⟨x, st, rfl, hs⟩ := hs
    split at hs
    · next e =>
      unfold rt at hs
      cases hs
      exact ⟨rfl, W.lret (v := x) cx.1 cx.2.1 (by rw [hr, e]) (fun t ht _ => hq (some (.long x)) t ht) I.2.2.2.2.2 hd hlocks⟩
    · cases hs
  · simp only [stpI] at hs
    replace hs := gd_inv hs; obtain ⟨rfl, hs⟩ := hs
    replace hs := pR_inv hs; obtain ⟨x, st, rfl, hs⟩ := hs
    split at hs
    · next C0 e =>
      unfold rt at hs
      cases hs
      exact ⟨rfl, W.aret (v := .ref (ad B aS x)) cx.1 cx.2.1 (by rw [hr, e]) (Or.inl ⟨C0, rfl⟩) (Or.inr ⟨_, rfl⟩) (fun t ht _ => hq (some (.ref x)) t ht) I.2.2.2.2.2 hd hlocks⟩
    · cases hs
  · simp only [stpI] at hs
    replace hs := gd_inv hs; obtain ⟨rfl, hs⟩ := hs
    split at hs
    · next e =>
      unfold rt at hs
      cases hs
      exact ⟨rfl, W.vret cx.1 cx.2.1 (by rw [hr, e]) (fun t ht _ => hq none t ht) I.2.2.2.2.2 hd hlocks⟩
    · cases hs
end WS4
