/-! ARRAYS, STRINGS, COPIES -/
theorem lenL_at (j : Nat) : lenL.getD j 0 = (strB.getD j []).length := by
  unfold lenL
  rw [List.getD_eq_getElem?_getD, List.getElem?_map, List.getD_eq_getElem?_getD]
  cases strB[j]? <;> rfl
theorem bytL_at (j i : Nat) : (bytL.getD j []).getD i 0 = Int32.ofNat ((strB.getD j []).getD i 0) := by
  unfold bytL
  have h1 : (strB.map fun l => l.map fun c => Int32.ofNat c).getD j [] = (strB.getD j []).map fun c => Int32.ofNat c := by
    rw [List.getD_eq_getElem?_getD, List.getElem?_map, List.getD_eq_getElem?_getD]
    cases strB[j]? <;> rfl
  rw [h1]
  generalize strB.getD j [] = l
  rw [List.getD_eq_getElem?_getD, List.getElem?_map, List.getD_eq_getElem?_getD]
  cases l[i]? <;> rfl
theorem tagL_tys {cT : Nat → ClassId} {t : Nat} (ht : t ∈ tagL) : ∃ k : Nat, (tysL cT)[k]? = some (cT t, tyT t) := by
  obtain ⟨k, hk⟩ := List.getElem?_of_mem ht
  refine ⟨k, ?_⟩
  unfold tysL
  rw [List.getElem?_map, hk]
  rfl
theorem tag_of {h : Hp} {a : Nat} (hw : WF h) (h50 : 50 ≤ (hS h a).1) : 62 ≤ a ∧ a < hN h ∧ (hS h a).1 ∈ tagL := by
  obtain ⟨g1, g2, g3⟩ := hw.2 a (fun q => by rw [q] at h50; exact absurd h50 (by decide))
  refine ⟨g1, g2, ?_⟩
  rcases g3 with g3 | g3
  · omega
  · exact g3
theorem cel_len {B : Nat} {aS : Nat → Nat} {cT : Nat → ClassId} {h : Hp} {a : Nat} (h50 : 50 ≤ (hS h a).1) : ∃ x : vp_A, cel B aS cT h a = .inl (cT (hS h a).1, x) ∧ x.1 = (hS h a).2 := by
  unfold cel
  rw [if_neg (by omega)]
  by_cases e1 : (hS h a).1 = 51
  · rw [if_pos e1, e1]
    exact ⟨_, rfl, rfl⟩
  · rw [if_neg e1]
    by_cases e2 : (hS h a).1 = 50 ∨ (hS h a).1 = 52
    · rw [if_pos e2]
      exact ⟨_, rfl, rfl⟩
    · rw [if_neg e2]
      exact ⟨_, rfl, rfl⟩
theorem rI_self {h : Hp} {a : Nat} {f : Nat → Int32} : hI (rI h a f) a = f := if_pos rfl
theorem rI_ne {h : Hp} {a b : Nat} {f : Nat → Int32} (e : b ≠ a) : hI (rI h a f) b = hI h b := if_neg e
theorem rJ_self {h : Hp} {a : Nat} {f : Nat → Int64} : hJ (rJ h a f) a = f := if_pos rfl
theorem rJ_ne {h : Hp} {a b : Nat} {f : Nat → Int64} (e : b ≠ a) : hJ (rJ h a f) b = hJ h b := if_neg e
section WS3
variable {p : Program} {l : Launch} {e : Env} {R : Room} {s : State} {m : MethodId} {args : Array Value} {below : List Frame} {meth : Method} {c : Code} {H : Heap} {locs : List Loc} {cells slots : Nat} {Q : State → Prop}
variable {B : Nat} {aS : Nat → Nat} {cT : Nat → ClassId} {D : va_G} {X : Ctx} {C : Orc} {y d pc len : Nat} {ls : LV} {Ls : Array Slot} {st : List Value} {h : Hp} {o : MSt}
theorem w_iaload  (cx : CX p s m args meth c R B aS cT D X y d) (I : SI s B aS cT D y ls Ls h H locs) (hd : decode (mCode y) pc = .ok (.iaload, len)) (hs : stpI (X, C) y (.iaload) len pc ls st h = some (.inl o)) (kk : KK p l e R s m args below meth c B aS cT D Q y h cells slots o) : W p l e R s m args below meth c H locs cells slots Q (F0 m pc Ls (st.map (tr B aS))) := by
  simp only [stpI] at hs
  replace hs := gd_inv hs; obtain ⟨rfl, hs⟩ := hs
  replace hs := pI_inv hs; obtain ⟨i, st, rfl, hs⟩ := hs
  replace hs := pR_inv hs; obtain ⟨a, st, rfl, hs⟩ := hs
  by_cases ha : a = 0
  · subst ha
    rw [if_pos rfl] at hs
    replace hs := gd_inv hs; obtain ⟨hin, hs⟩ := hs
    obtain rfl := nx_inv hs
    have hX := cx.F.2.2.2.1
    have hB := cx.F.2.2.2.2.2.2.2.1
    have e1 : (Value.int i :: Value.ref 0 :: st).map (tr B aS) = .int i :: .ref (aS 0) :: st.map (tr B aS) := by
      show Value.int i :: tr B aS (.ref 0) :: _ = _
      rw [tr_lo (by omega)]
    rw [e1]
    exact va_sld cx.1 cx.2.1 hX.1 (Nat.lt_of_lt_of_le hX.2 hB) (Nat.not_le.mpr hX.2) I.2.2.2 hin hd (kk.same I rfl rfl)
  · rw [if_neg ha] at hs
    replace hs := gd_inv hs; obtain ⟨⟨h61, e50, hin⟩, hs⟩ := hs
    obtain rfl := nx_inv hs
    obtain ⟨g1, -, -⟩ := tag_of (a := a) I.2.2.1.1 (by omega)
    have hP1 := I.2.2.1.one (ne0_of_fst (by decide) e50) (cel_50 (B := B) (aS := aS) (cT := cT) e50)
    have e1 : (Value.int i :: Value.ref a :: st).map (tr B aS) = .int i :: .ref (B + (a - 62)) :: st.map (tr B aS) := by
      show Value.int i :: tr B aS (.ref a) :: _ = _
      rw [tr_hi g1]
    rw [e1]
    exact va_iald cx.1 cx.2.1 cx.K hP1 0 0 rfl rfl hin hd (kk.same I rfl rfl)
theorem w_baload  (cx : CX p s m args meth c R B aS cT D X y d) (I : SI s B aS cT D y ls Ls h H locs) (hd : decode (mCode y) pc = .ok (.baload, len)) (hs : stpI (X, C) y (.baload) len pc ls st h = some (.inl o)) (kk : KK p l e R s m args below meth c B aS cT D Q y h cells slots o) : W p l e R s m args below meth c H locs cells slots Q (F0 m pc Ls (st.map (tr B aS))) := by
  simp only [stpI] at hs
  replace hs := gd_inv hs; obtain ⟨rfl, hs⟩ := hs
  replace hs := pI_inv hs; obtain ⟨i, st, rfl, hs⟩ := hs
  replace hs := pR_inv hs; obtain ⟨a, st, rfl, hs⟩ := hs
  by_cases ha : a < 61
  · rw [if_pos ha] at hs
    replace hs := gd_inv hs; obtain ⟨⟨h31, hin⟩, hs⟩ := hs
    obtain rfl := nx_inv hs
    obtain ⟨j, rfl⟩ : ∃ j, a = 31 + j := ⟨a - 31, by omega⟩
    have hE := (cx.F.2.2.1 j (by omega)).2.2.2
    have e0 : 31 + j - 31 = j := by omega
    rw [e0] at hin kk
    rw [← lenL_at j] at hin
    have e1 : (Value.int i :: Value.ref (31 + j) :: st).map (tr B aS) = .int i :: .ref (aS (31 + j)) :: st.map (tr B aS) := by
      show Value.int i :: tr B aS (.ref (31 + j)) :: _ = _
      rw [tr_lo (by omega)]
    rw [e1]
    exact va_tb (v := .int (Int32.ofNat ((strB.getD j []).getD i.toNatClampNeg 0))) cx.1 cx.2.1 hE I.2.2.2 hin (by show Value.int _ = _; rw [bytL_at]) hd (kk.same I rfl rfl)
  · rw [if_neg ha] at hs
    replace hs := gd_inv hs; obtain ⟨⟨e52, hin⟩, hs⟩ := hs
    obtain rfl := nx_inv hs
    obtain ⟨g1, -, -⟩ := tag_of (a := a) I.2.2.1.1 (by omega)
    have hP1 := I.2.2.1.one (ne0_of_fst (by decide) e52) (cel_52 (B := B) (aS := aS) (cT := cT) e52)
    have e1 : (Value.int i :: Value.ref a :: st).map (tr B aS) = .int i :: .ref (B + (a - 62)) :: st.map (tr B aS) := by
      show Value.int i :: tr B aS (.ref a) :: _ = _
      rw [tr_hi g1]
    rw [e1]
    exact va_zald cx.1 cx.2.1 cx.K hP1 0 2 rfl rfl hin hd (kk.same I rfl rfl)
theorem w_laload  (cx : CX p s m args meth c R B aS cT D X y d) (I : SI s B aS cT D y ls Ls h H locs) (hd : decode (mCode y) pc = .ok (.laload, len)) (hs : stpI (X, C) y (.laload) len pc ls st h = some (.inl o)) (kk : KK p l e R s m args below meth c B aS cT D Q y h cells slots o) : W p l e R s m args below meth c H locs cells slots Q (F0 m pc Ls (st.map (tr B aS))) := by
  simp only [stpI] at hs
  replace hs := gd_inv hs; obtain ⟨rfl, hs⟩ := hs
  replace hs := pI_inv hs; obtain ⟨i, st, rfl, hs⟩ := hs
  replace hs := pR_inv hs; obtain ⟨a, st, rfl, hs⟩ := hs
  replace hs := gd_inv hs; obtain ⟨⟨h61, e51, hin⟩, hs⟩ := hs
  obtain rfl := nx_inv hs
  obtain ⟨g1, -, -⟩ := tag_of (a := a) I.2.2.1.1 (by omega)
  have hP1 := I.2.2.1.one (ne0_of_fst (by decide) e51) (cel_51 (B := B) (aS := aS) (cT := cT) e51)
  have e1 : (Value.int i :: Value.ref a :: st).map (tr B aS) = .int i :: .ref (B + (a - 62)) :: st.map (tr B aS) := by
    show Value.int i :: tr B aS (.ref a) :: _ = _
    rw [tr_hi g1]
  rw [e1]
  exact va_lald cx.1 cx.2.1 cx.K hP1 0 1 rfl rfl hin hd (kk.same I rfl rfl)
theorem w_aaload  (cx : CX p s m args meth c R B aS cT D X y d) (I : SI s B aS cT D y ls Ls h H locs) (hd : decode (mCode y) pc = .ok (.aaload, len)) (hs : stpI (X, C) y (.aaload) len pc ls st h = some (.inl o)) (kk : KK p l e R s m args below meth c B aS cT D Q y h cells slots o) : W p l e R s m args below meth c H locs cells slots Q (F0 m pc Ls (st.map (tr B aS))) := by
  simp only [stpI] at hs
  replace hs := gd_inv hs; obtain ⟨rfl, hs⟩ := hs
  replace hs := pI_inv hs; obtain ⟨i, st, rfl, hs⟩ := hs
  replace hs := pR_inv hs; obtain ⟨a, st, rfl, hs⟩ := hs
  replace hs := gd_inv hs; obtain ⟨⟨h61, h60, h82, hin⟩, hs⟩ := hs
  replace hs := oR_inv hs; obtain ⟨b, hb2, hs⟩ := hs
  obtain rfl := nx_inv hs
  obtain ⟨g1, -, g3⟩ := tag_of (a := a) I.2.2.1.1 (by omega)
  obtain ⟨k, hk⟩ := tagL_tys (cT := cT) g3
  have href : (tyT (hS h a).1).isReference = true := by
    simp only [tagL, List.mem_cons, List.not_mem_nil, or_false] at g3
    rcases g3 with q | q | q | q | q | q | q | q | q <;> rw [q] <;> first | rfl | omega
  have hP1 := I.2.2.1.one (ne0_of_fst (by omega) rfl) (cel_rf (B := B) (aS := aS) (cT := cT) h60)
  have e1 : (Value.int i :: Value.ref a :: st).map (tr B aS) = .int i :: .ref (B + (a - 62)) :: st.map (tr B aS) := by
    show Value.int i :: tr B aS (.ref a) :: _ = _
    rw [tr_hi g1]
  rw [e1]
  have hlt : i.toNatClampNeg < (hS h a).2 := Nat.not_le.mp fun q => hin (Or.inr q)
  refine W.aald (v := .ref (ad B aS b)) (ty := tyT (hS h a).1) cx.1 cx.2.1 (hP1 0 _ rfl) ((cx.K.2 k _ hk).1 (hS h a).2 (fun j => va_rf ((hP h a j).map (ad B aS)))) href (fun q => by cases q) (by show ¬ (i < 0 ∨ (arrV _ _ _).slots.size ≤ _); rw [arrV_size]; exact hin) ?_ rfl rfl hd (kk.same I rfl rfl)
  show (arrV _ _ _).slots[_]? = _
  rw [arrV_read _ _ hlt]
  show some (va_rf ((hP h a i.toNatClampNeg).map (ad B aS))) = _
  rw [hb2]
  rfl
theorem w_arraylength  (cx : CX p s m args meth c R B aS cT D X y d) (I : SI s B aS cT D y ls Ls h H locs) (hd : decode (mCode y) pc = .ok (.arraylength, len)) (hs : stpI (X, C) y (.arraylength) len pc ls st h = some (.inl o)) (kk : KK p l e R s m args below meth c B aS cT D Q y h cells slots o) : W p l e R s m args below meth c H locs cells slots Q (F0 m pc Ls (st.map (tr B aS))) := by
  simp only [stpI] at hs
  replace hs := gd_inv hs; obtain ⟨rfl, hs⟩ := hs
  replace hs := pR_inv hs; obtain ⟨a, st, rfl, hs⟩ := hs
  split at hs
  · next n en =>
    obtain rfl := nx_inv hs
    unfold alen at en
    by_cases ha : a = 0
    · subst ha
      rw [if_pos rfl] at en
      cases en
      have hX := cx.F.2.2.2.1
      have hB := cx.F.2.2.2.2.2.2.2.1
      have e1 : (Value.ref 0 :: st).map (tr B aS) = .ref (aS 0) :: st.map (tr B aS) := by
        show tr B aS (.ref 0) :: _ = _
        rw [tr_lo (by omega)]
      rw [e1]
      exact va_slen cx.1 cx.2.1 hX.1 (Nat.lt_of_lt_of_le hX.2 hB) (Nat.not_le.mpr hX.2) I.2.2.2 hd (kk.same I rfl rfl)
    · rw [if_neg ha] at en
      by_cases ha2 : a < 31
      · rw [if_pos ha2] at en; cases en
      · rw [if_neg ha2] at en
        by_cases ha3 : a < 61
        · rw [if_pos ha3] at en
          cases en
          obtain ⟨j, rfl⟩ : ∃ j, a = 31 + j := ⟨a - 31, by omega⟩
          have hE := (cx.F.2.2.1 j (by omega)).2.2.2
          have e1 : (Value.ref (31 + j) :: st).map (tr B aS) = .ref (aS (31 + j)) :: st.map (tr B aS) := by
            show tr B aS (.ref (31 + j)) :: _ = _
            rw [tr_lo (by omega)]
          rw [e1]
          exact va_tlen cx.1 cx.2.1 hE I.2.2.2 (by rw [lenL_at, show 31 + j - 31 = j by omega]) hd (kk.same I rfl rfl)
        · rw [if_neg ha3] at en
          by_cases h50 : 50 ≤ (hS h a).1
          · rw [if_pos h50] at en
            cases en
            obtain ⟨g1, -, g3⟩ := tag_of I.2.2.1.1 h50
            obtain ⟨k, hk⟩ := tagL_tys (cT := cT) g3
            obtain ⟨x, hx1, hx2⟩ := cel_len (B := B) (aS := aS) (cT := cT) h50
            have hP1 := I.2.2.1.one (ne0_of_fst (by omega) rfl) hx1
            have e1 : (Value.ref a :: st).map (tr B aS) = .ref (B + (a - 62)) :: st.map (tr B aS) := by
              show tr B aS (.ref a) :: _ = _
              rw [tr_hi g1]
            rw [e1]
            exact va_alen cx.1 cx.2.1 cx.K hP1 0 k rfl hk (by rw [hx2]) hd (kk.same I rfl rfl)
          · rw [if_neg h50] at en; cases en
  · cases hs
theorem w_iastore  (cx : CX p s m args meth c R B aS cT D X y d) (I : SI s B aS cT D y ls Ls h H locs) (hd : decode (mCode y) pc = .ok (.iastore, len)) (hs : stpI (X, C) y (.iastore) len pc ls st h = some (.inl o)) (kk : KK p l e R s m args below meth c B aS cT D Q y h cells slots o) : W p l e R s m args below meth c H locs cells slots Q (F0 m pc Ls (st.map (tr B aS))) := by
  simp only [stpI] at hs
  replace hs := gd_inv hs; obtain ⟨rfl, hs⟩ := hs
  replace hs := pI_inv hs; obtain ⟨v, st, rfl, hs⟩ := hs
  replace hs := pI_inv hs; obtain ⟨i, st, rfl, hs⟩ := hs
  replace hs := pR_inv hs; obtain ⟨a, st, rfl, hs⟩ := hs
  replace hs := gd_inv hs; obtain ⟨⟨h61, et, hin⟩, hs⟩ := hs
  obtain rfl := nx_inv hs
  obtain ⟨g1, -, -⟩ := tag_of (a := a) I.2.2.1.1 (by omega)
  have hne := ne0_of_fst (by decide) et
  have hP1 := I.2.2.1.one hne (cel_50 (B := B) (aS := aS) (cT := cT) et)
  have e1 : (Value.int v :: Value.int i :: Value.ref a :: st).map (tr B aS) = Value.int v :: .int i :: .ref (B + (a - 62)) :: st.map (tr B aS) := by
    show Value.int v :: Value.int i :: tr B aS (.ref a) :: _ = _
    rw [tr_hi g1]
  rw [e1]
  refine W.iast cx.1 cx.2.1 (hP1 0 _ rfl) ((cx.K.2 0 _ rfl).1 (hS h a).2 (fun j => .int (hI h a j))) (fun q => by cases q) (by show ¬ (i < 0 ∨ (arrV _ _ _).slots.size ≤ _); rw [arrV_size]; exact hin) rfl rfl hd fun H1 g2 g3 g4 => ?_
  refine kk H1 _ Ls cells slots ⟨I.1, I.2.1, World.set (a := a) I.2.2.1 hne rfl rfl (fun b hb => ⟨hI_sI_ne hb, rfl, rfl⟩) ?_ g3 g4, I.2.2.2.put g3 g4 (Nat.le_add_right _ _)⟩ rfl rfl
  rw [cel_50 (h := sI h a i.toNatClampNeg v) et]
  show H1[B + (a - 62)]? = some (vp_cell _ _)
  rw [g2, vp_cell_i, vp_cell_i, arrV_store]
  congr 2
  funext q
  show updV _ _ _ q = _
  rw [hI_sI_self]
  by_cases hq : q = i.toNatClampNeg
  · subst hq
    simp [updV, up1]
  · simp [updV, up1, hq]
theorem w_bastore  (cx : CX p s m args meth c R B aS cT D X y d) (I : SI s B aS cT D y ls Ls h H locs) (hd : decode (mCode y) pc = .ok (.bastore, len)) (hs : stpI (X, C) y (.bastore) len pc ls st h = some (.inl o)) (kk : KK p l e R s m args below meth c B aS cT D Q y h cells slots o) : W p l e R s m args below meth c H locs cells slots Q (F0 m pc Ls (st.map (tr B aS))) := by
  simp only [stpI] at hs
  replace hs := gd_inv hs; obtain ⟨rfl, hs⟩ := hs
  replace hs := pI_inv hs; obtain ⟨v, st, rfl, hs⟩ := hs
  replace hs := pI_inv hs; obtain ⟨i, st, rfl, hs⟩ := hs
  replace hs := pR_inv hs; obtain ⟨a, st, rfl, hs⟩ := hs
  replace hs := gd_inv hs; obtain ⟨⟨h61, et, hin, hz⟩, hs⟩ := hs
  obtain rfl := nx_inv hs
  obtain ⟨g1, -, -⟩ := tag_of (a := a) I.2.2.1.1 (by omega)
  have hne := ne0_of_fst (by decide) et
  have hP1 := I.2.2.1.one hne (cel_52 (B := B) (aS := aS) (cT := cT) et)
  have e1 : (Value.int v :: Value.int i :: Value.ref a :: st).map (tr B aS) = Value.int v :: .int i :: .ref (B + (a - 62)) :: st.map (tr B aS) := by
    show Value.int v :: Value.int i :: tr B aS (.ref a) :: _ = _
    rw [tr_hi g1]
  rw [e1]
  refine W.zast cx.1 cx.2.1 (hP1 0 _ rfl) ((cx.K.2 2 _ rfl).1 (hS h a).2 (fun j => .int (hI h a j))) (fun q => by cases q) (by show ¬ (i < 0 ∨ (arrV _ _ _).slots.size ≤ _); rw [arrV_size]; exact hin) rfl rfl hd fun H1 g2 g3 g4 => ?_
  refine kk H1 _ Ls cells slots ⟨I.1, I.2.1, World.set (a := a) I.2.2.1 hne rfl rfl (fun b hb => ⟨hI_sI_ne hb, rfl, rfl⟩) ?_ g3 g4, I.2.2.2.put g3 g4 (Nat.le_add_right _ _)⟩ rfl rfl
  rw [cel_52 (h := sI h a i.toNatClampNeg v) et]
  show H1[B + (a - 62)]? = some (vp_cell _ _)
  rw [g2, vp_cell_i, vp_cell_i, arrV_store]
  congr 2
  funext q
  show updV _ _ _ q = _
  rw [hI_sI_self]
  by_cases hq : q = i.toNatClampNeg
  · subst hq
    simp [updV, up1, show narrow .boolean (.int v) = .int v from hz]
  · simp [updV, up1, hq]
theorem w_lastore  (cx : CX p s m args meth c R B aS cT D X y d) (I : SI s B aS cT D y ls Ls h H locs) (hd : decode (mCode y) pc = .ok (.lastore, len)) (hs : stpI (X, C) y (.lastore) len pc ls st h = some (.inl o)) (kk : KK p l e R s m args below meth c B aS cT D Q y h cells slots o) : W p l e R s m args below meth c H locs cells slots Q (F0 m pc Ls (st.map (tr B aS))) := by
  simp only [stpI] at hs
  replace hs := gd_inv hs; obtain ⟨rfl, hs⟩ := hs
  replace hs := pJ_inv hs; obtain ⟨v, st, rfl, hs⟩ := hs
  replace hs := pI_inv hs; obtain ⟨i, st, rfl, hs⟩ := hs
  replace hs := pR_inv hs; obtain ⟨a, st, rfl, hs⟩ := hs
  replace hs := gd_inv hs; obtain ⟨⟨h61, et, hin⟩, hs⟩ := hs
  obtain rfl := nx_inv hs
  obtain ⟨g1, -, -⟩ := tag_of (a := a) I.2.2.1.1 (by omega)
  have hne := ne0_of_fst (by decide) et
  have hP1 := I.2.2.1.one hne (cel_51 (B := B) (aS := aS) (cT := cT) et)
  have e1 : (Value.long v :: Value.int i :: Value.ref a :: st).map (tr B aS) = Value.long v :: .int i :: .ref (B + (a - 62)) :: st.map (tr B aS) := by
    show Value.long v :: Value.int i :: tr B aS (.ref a) :: _ = _
    rw [tr_hi g1]
  rw [e1]
  refine W.last cx.1 cx.2.1 (hP1 0 _ rfl) ((cx.K.2 1 _ rfl).1 (hS h a).2 (fun j => .long (hJ h a j))) (fun q => by cases q) (by show ¬ (i < 0 ∨ (arrV _ _ _).slots.size ≤ _); rw [arrV_size]; exact hin) rfl rfl hd fun H1 g2 g3 g4 => ?_
  refine kk H1 _ Ls cells slots ⟨I.1, I.2.1, World.set (a := a) I.2.2.1 hne rfl rfl (fun b hb => ⟨rfl, hJ_sJ_ne hb, rfl⟩) ?_ g3 g4, I.2.2.2.put g3 g4 (Nat.le_add_right _ _)⟩ rfl rfl
  rw [cel_51 (h := sJ h a i.toNatClampNeg v) et]
  show H1[B + (a - 62)]? = some (vp_cell _ _)
  rw [g2, vp_cell_l, vp_cell_l, arrV_store]
  congr 2
  funext q
  show updV _ _ _ q = _
  rw [hJ_sJ_self]
  by_cases hq : q = i.toNatClampNeg
  · subst hq
    simp [updV, up1]
  · simp [updV, up1, hq]
theorem w_aastore  (cx : CX p s m args meth c R B aS cT D X y d) (I : SI s B aS cT D y ls Ls h H locs) (hd : decode (mCode y) pc = .ok (.aastore, len)) (hs : stpI (X, C) y (.aastore) len pc ls st h = some (.inl o)) (kk : KK p l e R s m args below meth c B aS cT D Q y h cells slots o) : W p l e R s m args below meth c H locs cells slots Q (F0 m pc Ls (st.map (tr B aS))) := by
  simp only [stpI] at hs
  replace hs := gd_inv hs; obtain ⟨rfl, hs⟩ := hs
  replace hs := pR_inv hs; obtain ⟨v, st, rfl, hs⟩ := hs
  replace hs := pI_inv hs; obtain ⟨i, st, rfl, hs⟩ := hs
  replace hs := pR_inv hs; obtain ⟨a, st, rfl, hs⟩ := hs
  replace hs := gd_inv hs; obtain ⟨-, hs⟩ := hs
  replace hs := gd_inv hs; obtain ⟨⟨h61, hv61, hin, hcase⟩, hs⟩ := hs
  obtain rfl := nx_inv hs
  have hcase : ((60 ≤ (hS h a).1 ∧ (hS h a).1 < 72 ∧ hS h v = ((hS h a).1 - 59, 0)) ∨ ((hS h a).1 = 81 ∧ (hS h v).1 = 51)) := hcase.imp id (fun z => ⟨z.1, by rw [z.2]⟩)
  have h60 : 60 ≤ (hS h a).1 := by rcases hcase with q | q <;> omega
  obtain ⟨g1, -, g3⟩ := tag_of (a := a) I.2.2.1.1 (by omega)
  have hne : hS h a ≠ (0, 0) := ne0_of_fst (by omega) rfl
  have hlt : i.toNatClampNeg < (hS h a).2 := Nat.not_le.mp fun q => hin (Or.inr q)
  have h0 : ¬ i < 0 := fun q => hin (Or.inl q)
  have hP1 := I.2.2.1.one hne (cel_rf (B := B) (aS := aS) (cT := cT) h60)
  have hvn : hS h v ≠ (0, 0) := by
    rcases hcase with ⟨q1, q2, q3⟩ | ⟨q1, q2⟩
    · rw [q3]; intro z; have := congrArg Prod.fst z; simp at this; omega
    · exact ne0_of_fst (by decide) q2
  have gv := (I.2.2.1.1.2 v hvn).1
  have e1 : (Value.ref v :: Value.int i :: Value.ref a :: st).map (tr B aS) = .ref (B + (v - 62)) :: .int i :: .ref (B + (a - 62)) :: st.map (tr B aS) := by
    show tr B aS (.ref v) :: Value.int i :: tr B aS (.ref a) :: _ = _
    rw [tr_hi g1, tr_hi gv]
  rw [e1]
  have fin : ∀ (H1 : Heap) (locs1 : List Loc), H1[B + (a - 62)]? = some ((vp_cell (cT (hS h a).1) ((hS h a).2, .inr (.inr (.inr (.inr fun j => (hP h a j).map (ad B aS)))))).setSlot i.toNatClampNeg (.ref (B + (v - 62)))) → H1.size = H.size → (∀ q : Nat, q ≠ B + (a - 62) → H1[q]? = H[q]?) → va_S (fun q => B ≤ q) s.heap H1 locs1 → W p l e R s m args below meth c H1 locs1 cells slots Q (F0 m (pc + 1) Ls (st.map (tr B aS))) := by
    intro H1 locs1 g2 g4 g5 g6
    refine kk H1 locs1 Ls cells slots ⟨I.1, I.2.1, World.set (a := a) I.2.2.1 hne rfl rfl (fun b hb => ⟨rfl, rfl, hP_sP_ne hb⟩) ?_ g4 g5, g6⟩ rfl rfl
    rw [cel_rf (h := sP h a i.toNatClampNeg (some v)) h60]
    show H1[B + (a - 62)]? = some (vp_cell _ _)
    rw [g2, vp_cell_q, vp_cell_q, arrV_store]
    congr 2
    funext q
    show updV _ _ _ q = va_rf ((hP (sP h a i.toNatClampNeg (some v)) a q).map (ad B aS))
    rw [hP_sP_self]
    by_cases hq : q = i.toNatClampNeg
    · subst hq
      simp [updV, up1, va_rf, ad_hi gv]
    · simp [updV, up1, hq]
  rcases hcase with ⟨q1, q2, q3⟩ | ⟨q1, q2⟩
  · have ht : (hS h a).1 = 61 ∨ (hS h a).1 = 63 ∨ (hS h a).1 = 68 ∨ (hS h a).1 = 69 := by
      simp only [tagL, List.mem_cons, List.not_mem_nil, or_false] at g3
      omega
    obtain ⟨ci, hci, hct⟩ : ∃ ci, ci < 12 ∧ (hS h a).1 = 60 + ci := by
      rcases ht with q | q | q | q
      · exact ⟨1, by decide, q⟩
      · exact ⟨3, by decide, q⟩
      · exact ⟨8, by decide, q⟩
      · exact ⟨9, by decide, q⟩
    have hvt : hS h v = (ci + 1, 0) := by rw [q3, hct]; congr 1; omega
    have hPv := I.2.2.1.one hvn (cel_obj (B := B) (aS := aS) (cT := cT) hci hvt)
    obtain ⟨r', hr', cellV, v1, v2, v3, -⟩ := hPv 0 _ rfl
    have hcls := (cx.K.1 ci _ (cl_at hci)).2
    obtain ⟨k, hk⟩ := tagL_tys (cT := cT) g3
    have hty : tyT (hS h a).1 = .object (clsS ci) := by
      rw [hct]
      have hc4 : ci = 1 ∨ ci = 3 ∨ ci = 8 ∨ ci = 9 := by omega
      rcases hc4 with q | q | q | q <;> subst q <;> rfl
    rw [hty] at hk
    obtain ⟨kA, comp, k1, k2, k3, -⟩ := (cx.K.2 k _ hk).2
    have hcomp : comp = D.1 ci := Option.some.inj (k3.symm.trans hcls.1)
    subst hcomp
    obtain ⟨kC, hkC, -⟩ := hcls.2
    exact W.aast cx.1 cx.2.1 (hP1 0 _ rfl) (fun q z => by cases z) (fun z => by cases z) k1 k2 rfl hkC ⟨h0, by show _ < (arrV _ _ _).slots.size; rw [arrV_size]; exact hlt⟩ v1 (fun q z => by rw [v3] at z; cases z) (by rw [v2]; exact hkC) (by rw [v2]; exact va_assign hcls) rfl rfl hd fun H1 g2 g4 g5 => fin H1 _ g2 g4 g5 (I.2.2.2.put g4 g5 (Nat.le_add_right _ _))
  · have hPv := I.2.2.1.one hvn (cel_51 (B := B) (aS := aS) (cT := cT) q2)
    obtain ⟨kA, k5, f1, f2, f3⟩ := cx.F.2.1
    have f1' : s.vm.classes[cT (hS h a).1]? = some kA := by rw [q1]; exact f1
    exact W.aast cx.1 cx.2.1 (hP1 0 _ rfl) (fun q z => by cases z) (fun z => by cases z) f1' f2 rfl f3 ⟨h0, by show _ < (arrV _ _ _).slots.size; rw [arrV_size]; exact hlt⟩ (hPv 0 _ rfl) (fun q z => by cases z) f3 (va_asg _ _) rfl rfl hd fun H1 g2 g4 g5 => fin H1 _ g2 g4 g5 (I.2.2.2.put g4 g5 (Nat.le_add_right _ _))
theorem w_getstatic {i : Nat} (cx : CX p s m args meth c R B aS cT D X y d) (I : SI s B aS cT D y ls Ls h H locs) (hd : decode (mCode y) pc = .ok (.getstatic i, len)) (hs : stpI (X, C) y (.getstatic i) len pc ls st h = some (.inl o)) (kk : KK p l e R s m args below meth c B aS cT D Q y h cells slots o) : W p l e R s m args below meth c H locs cells slots Q (F0 m pc Ls (st.map (tr B aS))) := by
  simp only [stpI] at hs
  replace hs := gd_inv hs; obtain ⟨rfl, hs⟩ := hs
  split at hs
  · next q e1 =>
    obtain rfl := nx_inv hs
    have h1 : isW q (.fieldLink (clsS (mOwn y)) i "java/lang/String" "COMPACT_STRINGS" "Z") = true := (tab_in sta_all rfl e1).2
    exact va_gets cx.1 cx.2.1 cx.F.2.2.2.2.1 I.2.2.2 cx.own (cx.ts _ (isW_in h1)) (fun _ z => z) hd (kk.same I rfl rfl)
  · next q e1 =>
    obtain rfl := nx_inv hs
    have h1 : isW q (.fieldLink (clsS (mOwn y)) i "jdk/internal/util/Preconditions" "SIOOBE_FORMATTER" "Ljava/util/function/BiFunction;") = true := (tab_in sta_all rfl e1).2
    exact va_gets cx.1 cx.2.1 cx.F.2.2.2.2.2.1 I.2.2.2 cx.own (cx.ts _ (isW_in h1)) (fun _ z => z) hd (kk.same I rfl rfl)
  · cases hs
end WS3
