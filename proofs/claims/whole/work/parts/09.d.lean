/-! FIELDS AND ARRAYS -/
theorem hI_sI_self {h : Hp} {a k : Nat} {x : Int32} : hI (sI h a k x) a = up1 (hI h a) k x := if_pos rfl
theorem hI_sI_ne {h : Hp} {a b k : Nat} {x : Int32} (e : b ≠ a) : hI (sI h a k x) b = hI h b := if_neg e
theorem hJ_sJ_self {h : Hp} {a k : Nat} {x : Int64} : hJ (sJ h a k x) a = up1 (hJ h a) k x := if_pos rfl
theorem hJ_sJ_ne {h : Hp} {a b k : Nat} {x : Int64} (e : b ≠ a) : hJ (sJ h a k x) b = hJ h b := if_neg e
theorem hP_sP_self {h : Hp} {a k : Nat} {x : Option Nat} : hP (sP h a k x) a = up1 (hP h a) k x := if_pos rfl
theorem hP_sP_ne {h : Hp} {a b k : Nat} {x : Option Nat} (e : b ≠ a) : hP (sP h a k x) b = hP h b := if_neg e
theorem flds_set {B : Nat} {aS : Nat → Nat} {h h' : Hp} {a ci k : Nat} {v : Value} (hk : k < nfl ci) (hv : fv B aS h' a k (fty ci k) = v) (ho : ∀ j, j ≠ k → fv B aS h' a j (fty ci j) = fv B aS h a j (fty ci j)) : flds B aS h' a ci = (flds B aS h a ci).set k v := by
  apply List.ext_getElem?
  intro j
  have hlen : (flds B aS h a ci).length = nfl ci := by simp [flds]
  have hlen' : (flds B aS h' a ci).length = nfl ci := by simp [flds]
  by_cases e : j = k
  · subst e
    rw [flds_at hk, List.getElem?_set_self (by rw [hlen]; exact hk), hv]
  · rw [List.getElem?_set_ne (fun q => e q.symm)]
    by_cases hj : j < nfl ci
    · rw [flds_at hj, flds_at hj, ho j e]
    · rw [List.getElem?_eq_none (by omega), List.getElem?_eq_none (by omega)]
section WS2
variable {p : Program} {l : Launch} {e : Env} {R : Room} {s : State} {m : MethodId} {args : Array Value} {below : List Frame} {meth : Method} {c : Code} {H : Heap} {locs : List Loc} {cells slots : Nat} {Q : State → Prop}
variable {B : Nat} {aS : Nat → Nat} {cT : Nat → ClassId} {D : va_G} {X : Ctx} {C : Orc} {y d pc len : Nat} {ls : LV} {Ls : Array Slot} {st : List Value} {h : Hp} {o : MSt}
theorem w_getfield {i : Nat} (cx : CX p s m args meth c R B aS cT D X y d) (I : SI s B aS cT D y ls Ls h H locs) (hd : decode (mCode y) pc = .ok (.getfield i, len)) (hs : stpI (X, C) y (.getfield i) len pc ls st h = some (.inl o)) (kk : KK p l e R s m args below meth c B aS cT D Q y h cells slots o) : W p l e R s m args below meth c H locs cells slots Q (F0 m pc Ls (st.map (tr B aS))) := by
  simp only [stpI] at hs
  replace hs := gd_inv hs; obtain ⟨rfl, hs⟩ := hs
  unfold stpF at hs
  replace hs := pR_inv hs; obtain ⟨a, st, rfl, hs⟩ := hs
  by_cases ha : a < 61
  · rw [if_pos ha] at hs
    replace hs := gd_inv hs; obtain ⟨⟨ha1, ha2⟩, hs⟩ := hs
    have hj0 : a = 1 + (a - 1) := by clear hs kk; omega
    obtain ⟨j, rfl⟩ : ∃ j, a = 1 + j := ⟨a - 1, hj0⟩
    have hE := cx.F.2.2.1 j (by omega)
    have e1 : (Value.ref (1 + j) :: st).map (tr B aS) = .ref (aS (1 + j)) :: st.map (tr B aS) := by
      show tr B aS (.ref (1 + j)) :: _ = _
      rw [tr_lo (by omega)]
    rw [e1]
    split at hs
    · next q e2 =>
      obtain rfl := nx_inv hs
      have h1 : isW q (.fieldLink (clsS (mOwn y)) i "java/lang/String" "value" "[B") = true := (tab_in stf_all rfl e2).2
      have k1 := kk.same I rfl rfl
      have e3 : ((pc + 3, ls, Value.ref (1 + j + 30) :: st, h) : MSt).2.2.1.map (tr B aS) = .ref (aS (31 + j)) :: st.map (tr B aS) := by
        show tr B aS (.ref (1 + j + 30)) :: _ = _
        have hj1 : 1 + j + 30 = 31 + j := by clear kk; omega
        rw [tr_lo (by omega), hj1]
      rw [e3] at k1
      exact vk_getf cx.1 cx.2.1 hE.2.2.1 I.2.2.2 cx.own (cx.ts _ (isW_in h1)) (fun _ z => z) hd k1
    · next q e2 =>
      obtain rfl := nx_inv hs
      have h1 : isW q (.fieldLink (clsS (mOwn y)) i "java/lang/String" "coder" "B") = true := (tab_in stf_all rfl e2).2
      exact vk_getf cx.1 cx.2.1 hE.2.1 I.2.2.2 cx.own (cx.ts _ (isW_in h1)) (fun _ z => z) hd (kk.same I rfl rfl)
    · cases hs
  · rw [if_neg ha] at hs
    split at hs
    · cases hs
    · next ci k q e1 =>
      replace hs := gd_inv hs; obtain ⟨hc, hs⟩ := hs
      obtain ⟨c1, c2, c3⟩ := fld_row e1
      have hne : hS h a ≠ (0, 0) := ne0_of (Nat.succ_ne_zero ci) hc
      have h62 := (I.2.2.1.1.2 a hne).1
      have hP1 := I.2.2.1.one hne (cel_obj (B := B) (aS := aS) (cT := cT) c1 hc)
      have hv := flds_at (B := B) (aS := aS) (h := h) (a := a) c2
      have e2 : (Value.ref a :: st).map (tr B aS) = .ref (B + (a - 62)) :: st.map (tr B aS) := by
        show tr B aS (.ref a) :: _ = _
        rw [tr_hi h62]
      rw [e2]
      have hsame : ∀ x, s.fieldFound? (fT ci k).1 (fT ci k).2.1 (fT ci k).2.2.1 = some x → s.fieldFound? (clsS ci) (fT ci k).2.1 (fT ci k).2.2.1 = some x := fun x z => by
        rw [← ((cl_row c1).2.2.2 k c2).1]
        exact z
      split at hs
      · next e3 =>
        obtain rfl := nx_inv hs
        rw [e3] at hv
        exact va_get cx.1 cx.2.1 cx.ts (cl_ws c1) cx.own cx.K hP1 0 rfl (cl_at c1) k c2 (cx.ts _ c3) hsame hv hd (kk.same I rfl rfl)
      · next e3 =>
        obtain rfl := nx_inv hs
        rw [e3] at hv
        exact va_get cx.1 cx.2.1 cx.ts (cl_ws c1) cx.own cx.K hP1 0 rfl (cl_at c1) k c2 (cx.ts _ c3) hsame hv hd (kk.same I rfl rfl)
      · next e3 =>
        obtain rfl := nx_inv hs
        rw [e3] at hv
        exact va_get cx.1 cx.2.1 cx.ts (cl_ws c1) cx.own cx.K hP1 0 rfl (cl_at c1) k c2 (cx.ts _ c3) hsame hv hd (kk.same I rfl rfl)
      · next e3 =>
        replace hs := oR_inv hs; obtain ⟨b, hb2, hs⟩ := hs
        obtain rfl := nx_inv hs
        rw [e3] at hv
        have hv2 : (flds B aS h a ci)[k]? = some (.ref (ad B aS b)) := by
          rw [hv]
          show some (va_rf ((hP h a k).map (ad B aS))) = _
          rw [hb2]
          rfl
        exact va_get cx.1 cx.2.1 cx.ts (cl_ws c1) cx.own cx.K hP1 0 rfl (cl_at c1) k c2 (cx.ts _ c3) hsame hv2 hd (kk.same I rfl rfl)
      · cases hs
/-- a field written, whichever -/
theorem wv_put {i ci k a : Nat} {v : Value} {rest : List Value} (cx : CX p s m args meth c R B aS cT D X y d) (I : SI s B aS cT D y ls Ls h H locs) (c1 : ci < 12) (c2 : k < nfl ci) (c3 : Cond.fieldLink (clsS (mOwn y)) i (clsS ci) (fT ci k).2.1 (fT ci k).2.2.1 ∈ lw_good) (hfin : (fT ci k).2.2.2 = false ∨ (mOwn y = ci ∧ (mName y).name = "<init>")) (hc : hS h a = (ci + 1, 0)) (hn : narrow (tyF ci k) v = v) (hfit : fits (tyF ci k) v = true) (hd : decode (mCode y) pc = .ok (.putfield i, 3))
    (kk : ∀ (H1 : Heap) (locs1 : List Loc), va_at D vwCl (B + (a - 62), .inr (ci, (flds B aS h a ci).set k v)) H1 → H1.size = H.size → (∀ q : Nat, q ≠ B + (a - 62) → H1[q]? = H[q]?) → va_S (fun q => B ≤ q) s.heap H1 locs1 → W p l e R s m args below meth c H1 locs1 cells slots Q (F0 m (pc + 3) Ls rest)) : W p l e R s m args below meth c H locs cells slots Q (F0 m pc Ls (v :: .ref (B + (a - 62)) :: rest)) := by
  have hne : hS h a ≠ (0, 0) := ne0_of (Nat.succ_ne_zero ci) hc
  have hP := I.2.2.1.one hne (cel_obj (B := B) (aS := aS) (cT := cT) c1 hc)
  have hcl := cl_at c1
  have hl : k < (flds B aS h a ci).length := by simp [flds]; exact c2
  have hap := va_apart (own := clsS (mOwn y)) cx.ts (cl_ws c1) (tyF ci) (cl_ty c1) (cl_nm c1) cx.K hcl
  obtain ⟨r, h1, cell, q1, q2, q3, q4⟩ := hP 0 _ rfl
  have hr : r = (clsS ci, fT ci, nfl ci) := Option.some.inj (h1.symm.trans hcl)
  subst hr
  obtain ⟨hS, hfc, kC, hkC, hkind⟩ := cx.K.1 ci _ hcl
  obtain ⟨cf, kf, fi, f, hi, hsl⟩ := hS k c2
  have hsame : ∀ x, s.fieldFound? (fT ci k).1 (fT ci k).2.1 (fT ci k).2.2.1 = some x → s.fieldFound? (clsS ci) (fT ci k).2.1 (fT ci k).2.2.1 = some x := fun x z => by
    rw [← ((cl_row c1).2.2.2 k c2).1]
    exact z
  have hlay := cx.ts _ (cl_ws c1 _ (u_in_lay c2))
  have hst := (u_facts hfc hkC (u_lays cx.ts (cl_ws c1) c2) hi).1
  have hlink := cx.ts _ c3
  have hdty := cl_ty c1 k c2
  unfold u_lay at hlay
  cases hff : (fT ci k).2.2.2 with
  | false =>
    rw [if_neg (by rw [hff]; decide)] at hlay
    have h6 := u_store hfc hkC hkind hlay hi hdty hn hfit
    refine W.putK cx.1 cx.2.1 (f := f) ⟨cx.own, hlink, ⟨_, _, _, hsame _ hi⟩, hst⟩ (by rw [q2]; exact h6) q1 q3 (by rw [hsl]; exact k2_hasslot (q4 k c2)) rfl rfl hd fun H' e1 e2 e3 => ?_
    rw [hsl] at e1 ⊢
    exact kk H' _ ⟨_, hcl, t_OB.to (V := updV (vp_V (flds B aS h a ci)) k v) ⟨_, e1, q2, q3, t_set q4 hap c2 v⟩ (fun j _ => vp_updV_set hl v j)⟩ e2 e3 (I.2.2.2.put e2 e3 (Nat.le_add_right _ _))
  | true =>
    rw [if_pos hff] at hlay
    obtain ⟨ho, hin⟩ : mOwn y = ci ∧ (mName y).name = "<init>" := by
      rcases hfin with z | z
      · rw [hff] at z; cases z
      · exact z
    have hcf : m.cls = cf := by
      obtain ⟨_, _, c', _, _, _, -, -, hf', -, -, -, hown2, -⟩ := Cond.laysFinal_spec hlay
      have e1 : c' = cf := by have := hi.symm.trans hf'; simp at this; exact this.1.symm
      have hw := cx.own
      rw [ho, ← ((cl_row c1).2.2.2 k c2).1] at hw
      rw [← e1]; exact Option.some.inj (hw.symm.trans hown2)
    have h6 := u_fits hfc hkC hkind (Or.inr hlay) hi hdty hn hfit
    refine W.putFinK cx.1 cx.2.1 cx.own hlink (hsame _ hi) hst hcf (cx.2.2.2.2.2.2.2.1 hin) (by rw [q2]; exact h6) q1 q3 (by rw [hsl]; exact k2_hasslot (q4 k c2)) rfl rfl hd fun H' e1 e2 e3 => ?_
    rw [hsl] at e1 ⊢
    exact kk H' _ ⟨_, hcl, t_OB.to (V := updV (vp_V (flds B aS h a ci)) k v) ⟨_, e1, q2, q3, t_set q4 hap c2 v⟩ (fun j _ => vp_updV_set hl v j)⟩ e2 e3 (I.2.2.2.put e2 e3 (Nat.le_add_right _ _))
theorem fin_of {ci k : Nat} (c1 : ci < 12) : fieldFin ci k = (fT ci k).2.2.2 := by
  unfold fieldFin
  rw [cl_at c1]
theorem ty_of {ci k : Nat} (c1 : ci < 12) (c2 : k < nfl ci) : (fty ci k = 0 → tyF ci k = .int) ∧ (fty ci k = 1 → tyF ci k = .long) ∧ (fty ci k = 3 → tyF ci k = .boolean) ∧ (fty ci k = 2 → (∃ C, tyF ci k = .object C) ∨ ∃ t, tyF ci k = .array t) := by
  have h := ((cl_row c1).2.2.2 k c2).2.2.2.1
  cases ht : tyF ci k <;> rw [ht] at h <;> simp at h <;> rw [h] <;> simp
theorem w_putfield {i : Nat} (cx : CX p s m args meth c R B aS cT D X y d) (I : SI s B aS cT D y ls Ls h H locs) (hd : decode (mCode y) pc = .ok (.putfield i, len)) (hs : stpI (X, C) y (.putfield i) len pc ls st h = some (.inl o)) (kk : KK p l e R s m args below meth c B aS cT D Q y h cells slots o) : W p l e R s m args below meth c H locs cells slots Q (F0 m pc Ls (st.map (tr B aS))) := by
  simp only [stpI] at hs
  replace hs := gd_inv hs; obtain ⟨rfl, hs⟩ := hs
  unfold stpG at hs
  split at hs
  · cases hs
  · next ci k q e1 =>
    obtain ⟨c1, c2, c3⟩ := fld_row e1
    replace hs := gd_inv hs; obtain ⟨hfin, hs⟩ := hs
    rw [fin_of c1] at hfin
    obtain ⟨t0, t1, t3, t2⟩ := ty_of c1 c2
    split at hs
    · next e3 =>
      replace hs := pI_inv hs; obtain ⟨x, st, rfl, hs⟩ := hs
      replace hs := pR_inv hs; obtain ⟨a, st, rfl, hs⟩ := hs
      replace hs := gd_inv hs; obtain ⟨⟨h61, hc⟩, hs⟩ := hs
      obtain rfl := nx_inv hs
      have hne : hS h a ≠ (0, 0) := ne0_of (Nat.succ_ne_zero ci) hc
      have e2 : (Value.int x :: Value.ref a :: st).map (tr B aS) = .int x :: .ref (B + (a - 62)) :: st.map (tr B aS) := by
        show Value.int x :: tr B aS (.ref a) :: _ = _
        rw [tr_hi (I.2.2.1.1.2 a hne).1]
      rw [e2]
      refine wv_put cx I c1 c2 c3 hfin hc (by rw [t0 e3]; rfl) (by rw [t0 e3]; rfl) hd (fun H1 locs1 g1 g2 g3 g4 => ?_)
      refine kk H1 locs1 Ls cells slots ⟨I.1, I.2.1, World.set (a := a) I.2.2.1 hne rfl rfl (fun b hb => ⟨hI_sI_ne hb, rfl, rfl⟩) ?_ g2 g3, g4⟩ rfl rfl
      rw [cel_obj (h := sI h a k x) c1 hc, flds_set (h := h) (v := .int x) c2 (by rw [e3]; show Value.int (hI (sI h a k x) a k) = _; rw [hI_sI_self]; simp [up1]) (fun j hj => ?_)]
      · exact g1
      · unfold fv
        rw [hI_sI_self]
        simp only [up1, if_neg hj]
        rfl
    · next e3 =>
      replace hs := pI_inv hs; obtain ⟨x, st, rfl, hs⟩ := hs
      replace hs := pR_inv hs; obtain ⟨a, st, rfl, hs⟩ := hs
      replace hs := gd_inv hs; obtain ⟨⟨h61, hc, hz⟩, hs⟩ := hs
      obtain rfl := nx_inv hs
      have hne : hS h a ≠ (0, 0) := ne0_of (Nat.succ_ne_zero ci) hc
      have e2 : (Value.int x :: Value.ref a :: st).map (tr B aS) = .int x :: .ref (B + (a - 62)) :: st.map (tr B aS) := by
        show Value.int x :: tr B aS (.ref a) :: _ = _
        rw [tr_hi (I.2.2.1.1.2 a hne).1]
      rw [e2]
      refine wv_put cx I c1 c2 c3 hfin hc (by rw [t3 e3]; exact hz) (by rw [t3 e3, ← hz]; exact fits_narrow_boolean x) hd (fun H1 locs1 g1 g2 g3 g4 => ?_)
      refine kk H1 locs1 Ls cells slots ⟨I.1, I.2.1, World.set (a := a) I.2.2.1 hne rfl rfl (fun b hb => ⟨hI_sI_ne hb, rfl, rfl⟩) ?_ g2 g3, g4⟩ rfl rfl
      rw [cel_obj (h := sI h a k x) c1 hc, flds_set (h := h) (v := .int x) c2 (by rw [e3]; show Value.int (hI (sI h a k x) a k) = _; rw [hI_sI_self]; simp [up1]) (fun j hj => ?_)]
      · exact g1
      · unfold fv
        rw [hI_sI_self]
        simp only [up1, if_neg hj]
        rfl
    · next e3 =>
      replace hs := pJ_inv hs; obtain ⟨x, st, rfl, hs⟩ := hs
      replace hs := pR_inv hs; obtain ⟨a, st, rfl, hs⟩ := hs
      replace hs := gd_inv hs; obtain ⟨⟨h61, hc⟩, hs⟩ := hs
      obtain rfl := nx_inv hs
      have hne : hS h a ≠ (0, 0) := ne0_of (Nat.succ_ne_zero ci) hc
      have e2 : (Value.long x :: Value.ref a :: st).map (tr B aS) = .long x :: .ref (B + (a - 62)) :: st.map (tr B aS) := by
        show Value.long x :: tr B aS (.ref a) :: _ = _
        rw [tr_hi (I.2.2.1.1.2 a hne).1]
      rw [e2]
      refine wv_put cx I c1 c2 c3 hfin hc (by rw [t1 e3]; rfl) (by rw [t1 e3]; rfl) hd (fun H1 locs1 g1 g2 g3 g4 => ?_)
      refine kk H1 locs1 Ls cells slots ⟨I.1, I.2.1, World.set (a := a) I.2.2.1 hne rfl rfl (fun b hb => ⟨rfl, hJ_sJ_ne hb, rfl⟩) ?_ g2 g3, g4⟩ rfl rfl
      rw [cel_obj (h := sJ h a k x) c1 hc, flds_set (h := h) (v := .long x) c2 (by rw [e3]; show Value.long (hJ (sJ h a k x) a k) = _; rw [hJ_sJ_self]; simp [up1]) (fun j hj => ?_)]
      · exact g1
      · unfold fv
        rw [hJ_sJ_self]
        simp only [up1, if_neg hj]
        rfl
    · next e3 =>
      replace hs := pR_inv hs; obtain ⟨x, st, rfl, hs⟩ := hs
      replace hs := pR_inv hs; obtain ⟨a, st, rfl, hs⟩ := hs
      replace hs := gd_inv hs; obtain ⟨⟨h61, hc, -⟩, hs⟩ := hs
      obtain rfl := nx_inv hs
      have hne : hS h a ≠ (0, 0) := ne0_of (Nat.succ_ne_zero ci) hc
      have e2 : (Value.ref x :: Value.ref a :: st).map (tr B aS) = .ref (ad B aS x) :: .ref (B + (a - 62)) :: st.map (tr B aS) := by
        show tr B aS (.ref x) :: tr B aS (.ref a) :: _ = _
        rw [tr_hi (I.2.2.1.1.2 a hne).1]
        rfl
      rw [e2]
      refine wv_put cx I c1 c2 c3 hfin hc (by rcases t2 e3 with ⟨z, hz⟩ | ⟨z, hz⟩ <;> rw [hz] <;> rfl) (by rcases t2 e3 with ⟨z, hz⟩ | ⟨z, hz⟩ <;> rw [hz] <;> rfl) hd (fun H1 locs1 g1 g2 g3 g4 => ?_)
      refine kk H1 locs1 Ls cells slots ⟨I.1, I.2.1, World.set (a := a) I.2.2.1 hne rfl rfl (fun b hb => ⟨rfl, rfl, hP_sP_ne hb⟩) ?_ g2 g3, g4⟩ rfl rfl
      rw [cel_obj (h := sP h a k (some x)) c1 hc, flds_set (h := h) (v := .ref (ad B aS x)) c2 (by rw [e3]; show va_rf ((hP (sP h a k (some x)) a k).map (ad B aS)) = _; rw [hP_sP_self]; simp [up1, va_rf]) (fun j hj => ?_)]
      · exact g1
      · unfold fv
        rw [hP_sP_self]
        simp only [up1, if_neg hj]
        rfl
    · cases hs
end WS2
