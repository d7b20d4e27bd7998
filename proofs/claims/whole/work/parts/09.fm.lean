/-! ROWS OF ROWS -/
theorem vx_outer (c : ClassId) (N h0 i : Nat) : Jvm.Free.Multi.outerC c N h0 i = vp_cell c (N, .inr (.inr (.inr (.inr (fun j => if j < i then some (h0 + 1 + j) else none))))) := by
  rw [vp_cell_q]
  induction i with
  | zero =>
    show ({ cls := c, slots := Array.replicate N .null, vm := .none } : Cell) = _
    rw [arrV_new]
    refine congrArg (arrV c N) (funext fun j => ?_)
    simp [va_rf]
  | succ i ih =>
    show (Jvm.Free.Multi.outerC c N h0 i).setSlot i (.ref (h0 + 1 + i)) = _
    rw [ih, arrV_store]
    refine congrArg (arrV c N) (funext fun j => ?_)
    by_cases e : j = i
    · subst e
      simp [updV, va_rf]
    · by_cases h : j < i
      · simp [updV, e, h, Nat.lt_succ_of_lt h]
      · simp [updV, e, h, show ¬ j < i + 1 by omega]
theorem alcs_at (sh : Nat × Nat) (w : Nat) : ∀ (n : Nat) (h : Hp), (∀ a, hS (alcs sh w n h) a = if hN h ≤ a ∧ a < hN h + n then sh else hS h a) ∧ (∀ a, hI (alcs sh w n h) a = if hN h ≤ a ∧ a < hN h + n then (fun _ => 0) else hI h a) ∧ (∀ a, hJ (alcs sh w n h) a = if hN h ≤ a ∧ a < hN h + n then (fun _ => 0) else hJ h a) ∧ (∀ a, hP (alcs sh w n h) a = if hN h ≤ a ∧ a < hN h + n then (fun _ => none) else hP h a)
  | 0, h => by
    refine ⟨fun a => ?_, fun a => ?_, fun a => ?_, fun a => ?_⟩ <;> rw [if_neg (by omega)] <;> rfl
  | n + 1, h => by
    obtain ⟨h1, h2, h3, h4⟩ := alcs_at sh w n (alc h sh w)
    have eN : hN (alc h sh w) = hN h + 1 := rfl
    rw [eN] at h1 h2 h3 h4
    refine ⟨fun a => ?_, fun a => ?_, fun a => ?_, fun a => ?_⟩
    · show hS (alcs sh w n (alc h sh w)) a = _
      rw [h1]
      by_cases e : a = hN h
      · subst e
        rw [if_neg (by omega), if_pos (by omega)]
        exact if_pos rfl
      · by_cases g : hN h + 1 ≤ a ∧ a < hN h + 1 + n
        · rw [if_pos g, if_pos (by omega)]
        · rw [if_neg g, if_neg (by omega)]
          exact if_neg e
    · show hI (alcs sh w n (alc h sh w)) a = _
      rw [h2]
      by_cases e : a = hN h
      · subst e
        rw [if_neg (by omega), if_pos (by omega)]
        exact if_pos rfl
      · by_cases g : hN h + 1 ≤ a ∧ a < hN h + 1 + n
        · rw [if_pos g, if_pos (by omega)]
        · rw [if_neg g, if_neg (by omega)]
          exact if_neg e
    · show hJ (alcs sh w n (alc h sh w)) a = _
      rw [h3]
      by_cases e : a = hN h
      · subst e
        rw [if_neg (by omega), if_pos (by omega)]
        exact if_pos rfl
      · by_cases g : hN h + 1 ≤ a ∧ a < hN h + 1 + n
        · rw [if_pos g, if_pos (by omega)]
        · rw [if_neg g, if_neg (by omega)]
          exact if_neg e
    · show hP (alcs sh w n (alc h sh w)) a = _
      rw [h4]
      by_cases e : a = hN h
      · subst e
        rw [if_neg (by omega), if_pos (by omega)]
        exact if_pos rfl
      · by_cases g : hN h + 1 ≤ a ∧ a < hN h + 1 + n
        · rw [if_pos g, if_pos (by omega)]
        · rw [if_neg g, if_neg (by omega)]
          exact if_neg e
theorem hN_alcs (sh : Nat × Nat) (w : Nat) : ∀ (n : Nat) (h : Hp), hN (alcs sh w n h) = hN h + n ∧ hK (alcs sh w n h) = hK h + n * w
  | 0, h => ⟨rfl, by simp [alcs]⟩
  | n + 1, h => by
    obtain ⟨h1, h2⟩ := hN_alcs sh w n (alc h sh w)
    refine ⟨?_, ?_⟩
    · show hN (alcs sh w n (alc h sh w)) = _
      rw [h1]
      show hN h + 1 + n = _
      omega
    · show hK (alcs sh w n (alc h sh w)) = _
      rw [h2]
      show hK h + w + n * w = _
      rw [Nat.succ_mul]
      omega
theorem hS_alc_ne {h : Hp} {sh : Nat × Nat} {w a : Nat} (e : a ≠ hN h) : hS (alc h sh w) a = hS h a := if_neg e
theorem hI_alc_ne {h : Hp} {sh : Nat × Nat} {w a : Nat} (e : a ≠ hN h) : hI (alc h sh w) a = hI h a := if_neg e
theorem hJ_alc_ne {h : Hp} {sh : Nat × Nat} {w a : Nat} (e : a ≠ hN h) : hJ (alc h sh w) a = hJ h a := if_neg e
theorem hP_alc_ne {h : Hp} {sh : Nat × Nat} {w a : Nat} (e : a ≠ hN h) : hP (alc h sh w) a = hP h a := if_neg e
section WSM
variable {p : Program} {l : Launch} {e : Env} {R : Room} {s : State} {m : MethodId} {args : Array Value} {below : List Frame} {meth : Method} {c : Code} {H : Heap} {locs : List Loc} {cells slots : Nat} {Q : State → Prop}
variable {B : Nat} {aS : Nat → Nat} {cT : Nat → ClassId} {D : va_G} {X : Ctx} {C : Orc} {y d pc len : Nat} {ls : LV} {Ls : Array Slot} {st : List Value} {h : Hp} {o : MSt}
theorem wv_multi80 {i : Nat} {n k : Int32} {st : List Value} (cx : CX p s m args meth c R B aS cT D X y d) (I : SI s B aS cT D y ls Ls h H locs) (hl : Cond.classLink (clsS (mOwn y)) i ("[" ++ (FieldType.array .int).toString) ∈ lw_good) (hn : ¬ n < 0) (hn2 : n.toNatClampNeg ≤ 1000) (hk : ¬ k < 0) (hk2 : k.toNatClampNeg ≤ 1000) (q1 : cells + (1 + n.toNatClampNeg) ≤ R.cells) (q2 : slots + (n.toNatClampNeg + n.toNatClampNeg * k.toNatClampNeg) ≤ R.slots) (hd : decode (mCode y) pc = .ok (.multianewarray i 2, 4))
    (kk : ∀ H1 : Heap, SI s B aS cT D y ls Ls (lnk (alcs (50, k.toNatClampNeg) k.toNatClampNeg n.toNatClampNeg (alc h (80, n.toNatClampNeg) n.toNatClampNeg)) (hN h) (hN h + 1)) H1 locs → W p l e R s m args below meth c H1 locs (cells + 1 + n.toNatClampNeg) (slots + n.toNatClampNeg + n.toNatClampNeg * k.toNatClampNeg) Q (F0 m (pc + 4) Ls (.ref H.size :: st))) : W p l e R s m args below meth c H locs cells slots Q (F0 m pc Ls (.int k :: .int n :: st)) := by
  obtain ⟨⟨w1, w2⟩, w3, w4⟩ := I.2.2.1
  have hcy : s.vm.findClass (FieldType.array .int).toString = some (cT 50) := (cx.K.2 0 _ rfl).2
  have hcA : s.vm.findClass ("[" ++ (FieldType.array .int).toString) = some (cT 80) := (cx.K.2 7 _ rfl).2
  have hz : ∀ cc : ClassId, Jvm.Free.Multi.innerC cc k.toNatClampNeg (defaultValue .int) = vp_cell cc (k.toNatClampNeg, .inl (fun _ => 0)) := fun cc => by
    show ({ cls := cc, slots := Array.replicate k.toNatClampNeg (defaultValue .int), vm := .none } : Cell) = _
    rw [arrV_new]
    rfl
  intro T hT Xs
  obtain ⟨vm₁, cA, comp, -, fA, fC, hO, -, X', step⟩ := Xs.multianewarray2F cx.1 cx.own (cx.ts _ hl) (cx.F.2.2.2.2.2.2.2.2.1.2.2.2.2.1) (cx.ts _ ao_in.2.2.2.2.2.2.1) (g := F0 m pc Ls (.int k :: .int n :: st)) rfl (by rw [cx.2.1]; exact hd) rfl hn hk (by omega) (by show k.toNatClampNeg * 4 ≤ _; omega) (by omega) (by rfl) (by rfl) q1 q2
  have ec : cT 50 = comp := Option.some.inj (hcy.symm.trans fC)
  subst ec
  have eA : cT 80 = cA := Option.some.inj (hcA.symm.trans fA)
  subst eA
  generalize hF : Jvm.Free.Multi.fill (T.setVm vm₁) (cT 80) (cT 50) n.toNatClampNeg k.toNatClampNeg (defaultValue .int) n.toNatClampNeg = F at X' step
  have hTh : (T.setVm vm₁).heap = H := hT
  obtain ⟨f1, f2, -, -⟩ := Jvm.Free.Multi.fill_facts (T.setVm vm₁) (cT 80) (cT 50) n.toNatClampNeg k.toNatClampNeg (defaultValue .int) n.toNatClampNeg
  rw [hF, hTh] at f1 f2
  have hold : ∀ x : Nat, x < H.size → F.heap[x]? = H[x]? := fun x hx => by
    have := Jvm.Free.Multi.fill_old (T.setVm vm₁) (cT 80) (cT 50) n.toNatClampNeg k.toNatClampNeg (defaultValue .int) (a := x) (by rw [hTh]; exact hx) n.toNatClampNeg
    rw [hF, hTh] at this
    exact this
  have hrow : ∀ j : Nat, j < n.toNatClampNeg → F.heap[H.size + 1 + j]? = some (vp_cell (cT 50) (k.toNatClampNeg, .inl (fun _ => 0))) := fun j hj => by
    have := Jvm.Free.Multi.fill_inner (T.setVm vm₁) (cT 80) (cT 50) n.toNatClampNeg k.toNatClampNeg (defaultValue .int) n.toNatClampNeg j hj
    rw [hF, hTh, hz] at this
    exact this
  have hout := vx_outer (cT 80) n.toNatClampNeg H.size n.toNatClampNeg
  rw [hout] at f2
  obtain ⟨a1, a2, a3, a4⟩ := alcs_at (50, k.toNatClampNeg) k.toNatClampNeg n.toNatClampNeg (alc h (80, n.toNatClampNeg) n.toNatClampNeg)
  have eN : hN (alc h (80, n.toNatClampNeg) n.toNatClampNeg) = hN h + 1 := rfl
  rw [eN] at a1 a2 a3 a4
  generalize hh2 : alcs (50, k.toNatClampNeg) k.toNatClampNeg n.toNatClampNeg (alc h (80, n.toNatClampNeg) n.toNatClampNeg) = h2 at kk a1 a2 a3 a4
  have eN2 : hN h2 = hN h + 1 + n.toNatClampNeg := by rw [← hh2, (hN_alcs _ _ _ _).1, eN]
  have oS : hS h2 (hN h) = (80, n.toNatClampNeg) := by rw [a1, if_neg (by omega)]; exact hS_alc
  have iS : ∀ a, hN h < a → a < hN h + 1 + n.toNatClampNeg → hS h2 a = (50, k.toNatClampNeg) := fun a g1 g2 => by rw [a1, if_pos ⟨by omega, by omega⟩]
  have xS : ∀ a, ¬ (hN h ≤ a ∧ a < hN h + 1 + n.toNatClampNeg) → hS h2 a = hS h a := fun a g => by rw [a1, if_neg (by omega)]; exact hS_alc_ne (by omega)
  have hlink : ∀ a, a ≠ hN h → hP (lnk h2 (hN h) (hN h + 1)) a = hP h2 a := fun a g => if_neg g
  have hlink0 : hP (lnk h2 (hN h) (hN h + 1)) (hN h) = fun j => if j < n.toNatClampNeg then some (hN h + 1 + j) else none := by
    show up1 _ _ _ _ = _
    unfold up1
    rw [if_pos rfl]
    funext j
    rw [show (h2.1 (hN h)).2 = n.toNatClampNeg from congrArg Prod.snd oS]
  have hS2 : hS (lnk h2 (hN h) (hN h + 1)) = hS h2 := rfl
  have hW' : World B aS cT D (lnk h2 (hN h) (hN h + 1)) F.heap := by
    refine ⟨⟨by show 62 ≤ hN h2; omega, fun a ha => ?_⟩, by rw [f1, w3]; show _ = B + (hN h2 - 62); omega, fun a ha => ?_⟩
    · rw [hS2] at ha ⊢
      show 62 ≤ a ∧ a < hN h2 ∧ _
      by_cases g : hN h ≤ a ∧ a < hN h + 1 + n.toNatClampNeg
      · refine ⟨by omega, by omega, ?_⟩
        by_cases g2 : a = hN h
        · subst g2; rw [oS]; exact Or.inr (show 80 ∈ tagL by decide)
        · rw [iS a (by omega) g.2]; exact Or.inr (show 50 ∈ tagL by decide)
      · rw [xS a g] at ha ⊢
        obtain ⟨z1, z2, z3⟩ := w2 a ha
        exact ⟨z1, by omega, z3⟩
    · rw [hS2] at ha
      by_cases g : hN h ≤ a ∧ a < hN h + 1 + n.toNatClampNeg
      · by_cases g2 : a = hN h
        · subst g2
          rw [cel_rf (h := lnk h2 (hN h) (hN h + 1)) (by rw [hS2, oS]; show 60 ≤ 80; decide), hS2, oS, hlink0]
          show F.heap[B + (hN h - 62)]? = some (vp_cell _ _)
          rw [← w3, f2]
          congr 7
          funext j
          by_cases hj : j < n.toNatClampNeg
          · simp only [if_pos hj]
            show some _ = some (ad B aS (hN h + 1 + j))
            rw [ad_hi (by omega)]
            congr 1
            omega
          · simp only [if_neg hj]
            rfl
        · have g3 : hN h < a := by omega
          obtain ⟨j, rfl⟩ : ∃ j, a = hN h + 1 + j := ⟨a - (hN h + 1), by omega⟩
          rw [cel_50 (h := lnk h2 (hN h) (hN h + 1)) (by rw [hS2, iS _ g3 g.2]), hS2, iS _ g3 g.2]
          show F.heap[B + (hN h + 1 + j - 62)]? = some (vp_cell _ _)
          rw [show B + (hN h + 1 + j - 62) = H.size + 1 + j by omega, hrow j (by omega)]
          have e5 : hI (lnk h2 (hN h) (hN h + 1)) (hN h + 1 + j) = fun _ => 0 := by
            show hI h2 _ = _
            rw [a2, if_pos ⟨by omega, by omega⟩]
          rw [e5]
      · have ha2 := ha
        rw [xS a g] at ha2
        have z := w2 a ha2
        rw [cel_eq (h := h) (h' := lnk h2 (hN h) (hN h + 1)) (by rw [hS2, xS a g]) (by show hI h2 a = _; rw [a2, if_neg (by omega)]; exact hI_alc_ne (by omega)) (by show hJ h2 a = _; rw [a3, if_neg (by omega)]; exact hJ_alc_ne (by omega)) (by rw [hlink a (by omega), a4, if_neg (by omega)]; exact hP_alc_ne (by omega))]
        exact (w4 a ha2).kept (hold _ (by show B + (a - 62) < _; omega))
  obtain ⟨t, b1, b2⟩ := kk F.heap ⟨I.1, I.2.1, hW', ⟨by have := I.2.2.2.1; omega, fun q g1 g2 => (hold q (Nat.lt_of_lt_of_le g1 I.2.2.2.1)).trans (I.2.2.2.2.1 q g1 g2), I.2.2.2.2.2⟩⟩ _ rfl X'
  refine ⟨t, step t ?_, b2⟩
  have e : T.heap.size = H.size := by rw [hT]
  rw [e]
  exact b1
theorem wv_multi81 {i : Nat} {n k : Int32} {st : List Value} (cx : CX p s m args meth c R B aS cT D X y d) (I : SI s B aS cT D y ls Ls h H locs) (hl : Cond.classLink (clsS (mOwn y)) i ("[" ++ (FieldType.array .long).toString) ∈ lw_good) (hn : ¬ n < 0) (hn2 : n.toNatClampNeg ≤ 1000) (hk : ¬ k < 0) (hk2 : k.toNatClampNeg ≤ 1000) (q1 : cells + (1 + n.toNatClampNeg) ≤ R.cells) (q2 : slots + (n.toNatClampNeg + n.toNatClampNeg * k.toNatClampNeg) ≤ R.slots) (hd : decode (mCode y) pc = .ok (.multianewarray i 2, 4))
    (kk : ∀ H1 : Heap, SI s B aS cT D y ls Ls (lnk (alcs (51, k.toNatClampNeg) k.toNatClampNeg n.toNatClampNeg (alc h (81, n.toNatClampNeg) n.toNatClampNeg)) (hN h) (hN h + 1)) H1 locs → W p l e R s m args below meth c H1 locs (cells + 1 + n.toNatClampNeg) (slots + n.toNatClampNeg + n.toNatClampNeg * k.toNatClampNeg) Q (F0 m (pc + 4) Ls (.ref H.size :: st))) : W p l e R s m args below meth c H locs cells slots Q (F0 m pc Ls (.int k :: .int n :: st)) := by
  obtain ⟨⟨w1, w2⟩, w3, w4⟩ := I.2.2.1
  have hcy : s.vm.findClass (FieldType.array .long).toString = some (cT 51) := (cx.K.2 1 _ rfl).2
  have hcA : s.vm.findClass ("[" ++ (FieldType.array .long).toString) = some (cT 81) := (cx.K.2 8 _ rfl).2
  have hz : ∀ cc : ClassId, Jvm.Free.Multi.innerC cc k.toNatClampNeg (defaultValue .long) = vp_cell cc (k.toNatClampNeg, .inr (.inl (fun _ => 0))) := fun cc => by
    show ({ cls := cc, slots := Array.replicate k.toNatClampNeg (defaultValue .long), vm := .none } : Cell) = _
    rw [arrV_new]
    rfl
  intro T hT Xs
  obtain ⟨vm₁, cA, comp, -, fA, fC, hO, -, X', step⟩ := Xs.multianewarray2F cx.1 cx.own (cx.ts _ hl) (cx.F.2.2.2.2.2.2.2.2.1.2.2.2.2.2) (cx.ts _ ao_in.2.2.2.2.2.2.2.1) (g := F0 m pc Ls (.int k :: .int n :: st)) rfl (by rw [cx.2.1]; exact hd) rfl hn hk (by omega) (by show k.toNatClampNeg * 8 ≤ _; omega) (by omega) (by rfl) (by rfl) q1 q2
  have ec : cT 51 = comp := Option.some.inj (hcy.symm.trans fC)
  subst ec
  have eA : cT 81 = cA := Option.some.inj (hcA.symm.trans fA)
  subst eA
  generalize hF : Jvm.Free.Multi.fill (T.setVm vm₁) (cT 81) (cT 51) n.toNatClampNeg k.toNatClampNeg (defaultValue .long) n.toNatClampNeg = F at X' step
  have hTh : (T.setVm vm₁).heap = H := hT
  obtain ⟨f1, f2, -, -⟩ := Jvm.Free.Multi.fill_facts (T.setVm vm₁) (cT 81) (cT 51) n.toNatClampNeg k.toNatClampNeg (defaultValue .long) n.toNatClampNeg
  rw [hF, hTh] at f1 f2
  have hold : ∀ x : Nat, x < H.size → F.heap[x]? = H[x]? := fun x hx => by
    have := Jvm.Free.Multi.fill_old (T.setVm vm₁) (cT 81) (cT 51) n.toNatClampNeg k.toNatClampNeg (defaultValue .long) (a := x) (by rw [hTh]; exact hx) n.toNatClampNeg
    rw [hF, hTh] at this
    exact this
  have hrow : ∀ j : Nat, j < n.toNatClampNeg → F.heap[H.size + 1 + j]? = some (vp_cell (cT 51) (k.toNatClampNeg, .inr (.inl (fun _ => 0)))) := fun j hj => by
    have := Jvm.Free.Multi.fill_inner (T.setVm vm₁) (cT 81) (cT 51) n.toNatClampNeg k.toNatClampNeg (defaultValue .long) n.toNatClampNeg j hj
    rw [hF, hTh, hz] at this
    exact this
  have hout := vx_outer (cT 81) n.toNatClampNeg H.size n.toNatClampNeg
  rw [hout] at f2
  obtain ⟨a1, a2, a3, a4⟩ := alcs_at (51, k.toNatClampNeg) k.toNatClampNeg n.toNatClampNeg (alc h (81, n.toNatClampNeg) n.toNatClampNeg)
  have eN : hN (alc h (81, n.toNatClampNeg) n.toNatClampNeg) = hN h + 1 := rfl
  rw [eN] at a1 a2 a3 a4
  generalize hh2 : alcs (51, k.toNatClampNeg) k.toNatClampNeg n.toNatClampNeg (alc h (81, n.toNatClampNeg) n.toNatClampNeg) = h2 at kk a1 a2 a3 a4
  have eN2 : hN h2 = hN h + 1 + n.toNatClampNeg := by rw [← hh2, (hN_alcs _ _ _ _).1, eN]
  have oS : hS h2 (hN h) = (81, n.toNatClampNeg) := by rw [a1, if_neg (by omega)]; exact hS_alc
  have iS : ∀ a, hN h < a → a < hN h + 1 + n.toNatClampNeg → hS h2 a = (51, k.toNatClampNeg) := fun a g1 g2 => by rw [a1, if_pos ⟨by omega, by omega⟩]
  have xS : ∀ a, ¬ (hN h ≤ a ∧ a < hN h + 1 + n.toNatClampNeg) → hS h2 a = hS h a := fun a g => by rw [a1, if_neg (by omega)]; exact hS_alc_ne (by omega)
  have hlink : ∀ a, a ≠ hN h → hP (lnk h2 (hN h) (hN h + 1)) a = hP h2 a := fun a g => if_neg g
  have hlink0 : hP (lnk h2 (hN h) (hN h + 1)) (hN h) = fun j => if j < n.toNatClampNeg then some (hN h + 1 + j) else none := by
    show up1 _ _ _ _ = _
    unfold up1
    rw [if_pos rfl]
    funext j
    rw [show (h2.1 (hN h)).2 = n.toNatClampNeg from congrArg Prod.snd oS]
  have hS2 : hS (lnk h2 (hN h) (hN h + 1)) = hS h2 := rfl
  have hW' : World B aS cT D (lnk h2 (hN h) (hN h + 1)) F.heap := by
    refine ⟨⟨by show 62 ≤ hN h2; omega, fun a ha => ?_⟩, by rw [f1, w3]; show _ = B + (hN h2 - 62); omega, fun a ha => ?_⟩
    · rw [hS2] at ha ⊢
      show 62 ≤ a ∧ a < hN h2 ∧ _
      by_cases g : hN h ≤ a ∧ a < hN h + 1 + n.toNatClampNeg
      · refine ⟨by omega, by omega, ?_⟩
        by_cases g2 : a = hN h
        · subst g2; rw [oS]; exact Or.inr (show 81 ∈ tagL by decide)
        · rw [iS a (by omega) g.2]; exact Or.inr (show 51 ∈ tagL by decide)
      · rw [xS a g] at ha ⊢
        obtain ⟨z1, z2, z3⟩ := w2 a ha
        exact ⟨z1, by omega, z3⟩
    · rw [hS2] at ha
      by_cases g : hN h ≤ a ∧ a < hN h + 1 + n.toNatClampNeg
      · by_cases g2 : a = hN h
        · subst g2
          rw [cel_rf (h := lnk h2 (hN h) (hN h + 1)) (by rw [hS2, oS]; show 60 ≤ 81; decide), hS2, oS, hlink0]
          show F.heap[B + (hN h - 62)]? = some (vp_cell _ _)
          rw [← w3, f2]
          congr 7
          funext j
          by_cases hj : j < n.toNatClampNeg
          · simp only [if_pos hj]
            show some _ = some (ad B aS (hN h + 1 + j))
            rw [ad_hi (by omega)]
            congr 1
            omega
          · simp only [if_neg hj]
            rfl
        · have g3 : hN h < a := by omega
          obtain ⟨j, rfl⟩ : ∃ j, a = hN h + 1 + j := ⟨a - (hN h + 1), by omega⟩
          rw [cel_51 (h := lnk h2 (hN h) (hN h + 1)) (by rw [hS2, iS _ g3 g.2]), hS2, iS _ g3 g.2]
          show F.heap[B + (hN h + 1 + j - 62)]? = some (vp_cell _ _)
          rw [show B + (hN h + 1 + j - 62) = H.size + 1 + j by omega, hrow j (by omega)]
          have e5 : hJ (lnk h2 (hN h) (hN h + 1)) (hN h + 1 + j) = fun _ => 0 := by
            show hJ h2 _ = _
            rw [a3, if_pos ⟨by omega, by omega⟩]
          rw [e5]
      · have ha2 := ha
        rw [xS a g] at ha2
        have z := w2 a ha2
        rw [cel_eq (h := h) (h' := lnk h2 (hN h) (hN h + 1)) (by rw [hS2, xS a g]) (by show hI h2 a = _; rw [a2, if_neg (by omega)]; exact hI_alc_ne (by omega)) (by show hJ h2 a = _; rw [a3, if_neg (by omega)]; exact hJ_alc_ne (by omega)) (by rw [hlink a (by omega), a4, if_neg (by omega)]; exact hP_alc_ne (by omega))]
        exact (w4 a ha2).kept (hold _ (by show B + (a - 62) < _; omega))
  obtain ⟨t, b1, b2⟩ := kk F.heap ⟨I.1, I.2.1, hW', ⟨by have := I.2.2.2.1; omega, fun q g1 g2 => (hold q (Nat.lt_of_lt_of_le g1 I.2.2.2.1)).trans (I.2.2.2.2.1 q g1 g2), I.2.2.2.2.2⟩⟩ _ rfl X'
  refine ⟨t, step t ?_, b2⟩
  have e : T.heap.size = H.size := by rw [hT]
  rw [e]
  exact b1
theorem w_multi {i dd : Nat} (cx : CX p s m args meth c R B aS cT D X y d) (I : SI s B aS cT D y ls Ls h H locs) (hroom : cells + hN o.2.2.2 ≤ R.cells + hN h ∧ slots + hK o.2.2.2 ≤ R.slots + hK h) (hd : decode (mCode y) pc = .ok (.multianewarray i dd, len)) (hs : stpI (X, C) y (.multianewarray i dd) len pc ls st h = some (.inl o)) (kk : KK p l e R s m args below meth c B aS cT D Q y h cells slots o) : W p l e R s m args below meth c H locs cells slots Q (F0 m pc Ls (st.map (tr B aS))) := by
  simp only [stpI] at hs
  replace hs := gd_inv hs; obtain ⟨⟨rfl, rfl, -⟩, hs⟩ := hs
  replace hs := pI_inv hs; obtain ⟨k, st, rfl, hs⟩ := hs
  replace hs := pI_inv hs; obtain ⟨n, st, rfl, hs⟩ := hs
  replace hs := gd_inv hs; obtain ⟨⟨hn, hn2, hk, hk2⟩, hs⟩ := hs
  have hsz := I.2.2.1.2.1
  have h62 := I.2.2.1.1.1
  have e3 : tr B aS (.ref (hN h)) = .ref H.size := by rw [tr_hi h62, hsz]
  split at hs
  · next q e1 =>
    obtain rfl := nx_inv hs
    have h1 : isW q (.classLink (clsS (mOwn y)) i ("[" ++ (FieldType.array .int).toString)) = true := (tab_in clk_all rfl e1).2
    have g := hN_alcs (50, k.toNatClampNeg) k.toNatClampNeg n.toNatClampNeg (alc h (80, n.toNatClampNeg) n.toNatClampNeg)
    have g1 : hN (lnk (alcs (50, k.toNatClampNeg) k.toNatClampNeg n.toNatClampNeg (alc h (80, n.toNatClampNeg) n.toNatClampNeg)) (hN h) (hN h + 1)) = hN h + 1 + n.toNatClampNeg := g.1
    have g2 : hK (lnk (alcs (50, k.toNatClampNeg) k.toNatClampNeg n.toNatClampNeg (alc h (80, n.toNatClampNeg) n.toNatClampNeg)) (hN h) (hN h + 1)) = hK h + n.toNatClampNeg + n.toNatClampNeg * k.toNatClampNeg := g.2
    simp only [g1, g2] at hroom
    refine wv_multi80 cx I (isW_in h1) hn hn2 hk hk2 (by omega) (by omega) hd (fun H1 J => ?_)
    have k1 := kk H1 locs Ls (cells + 1 + n.toNatClampNeg) (slots + n.toNatClampNeg + n.toNatClampNeg * k.toNatClampNeg) J (by simp only [g1]; omega) (by simp only [g2]; omega)
    rw [show ((pc + 4, ls, Value.ref (hN h) :: st, lnk (alcs (50, k.toNatClampNeg) k.toNatClampNeg n.toNatClampNeg (alc h (80, n.toNatClampNeg) n.toNatClampNeg)) (hN h) (hN h + 1)) : MSt).2.2.1.map (tr B aS) = .ref H.size :: st.map (tr B aS) from congrArg (· :: _) e3] at k1
    exact k1
  · next q e1 =>
    obtain rfl := nx_inv hs
    have h1 : isW q (.classLink (clsS (mOwn y)) i ("[" ++ (FieldType.array .long).toString)) = true := (tab_in clk_all rfl e1).2
    have g := hN_alcs (51, k.toNatClampNeg) k.toNatClampNeg n.toNatClampNeg (alc h (81, n.toNatClampNeg) n.toNatClampNeg)
    have g1 : hN (lnk (alcs (51, k.toNatClampNeg) k.toNatClampNeg n.toNatClampNeg (alc h (81, n.toNatClampNeg) n.toNatClampNeg)) (hN h) (hN h + 1)) = hN h + 1 + n.toNatClampNeg := g.1
    have g2 : hK (lnk (alcs (51, k.toNatClampNeg) k.toNatClampNeg n.toNatClampNeg (alc h (81, n.toNatClampNeg) n.toNatClampNeg)) (hN h) (hN h + 1)) = hK h + n.toNatClampNeg + n.toNatClampNeg * k.toNatClampNeg := g.2
    simp only [g1, g2] at hroom
    refine wv_multi81 cx I (isW_in h1) hn hn2 hk hk2 (by omega) (by omega) hd (fun H1 J => ?_)
    have k1 := kk H1 locs Ls (cells + 1 + n.toNatClampNeg) (slots + n.toNatClampNeg + n.toNatClampNeg * k.toNatClampNeg) J (by simp only [g1]; omega) (by simp only [g2]; omega)
    rw [show ((pc + 4, ls, Value.ref (hN h) :: st, lnk (alcs (51, k.toNatClampNeg) k.toNatClampNeg n.toNatClampNeg (alc h (81, n.toNatClampNeg) n.toNatClampNeg)) (hN h) (hN h + 1)) : MSt).2.2.1.map (tr B aS) = .ref H.size :: st.map (tr B aS) from congrArg (· :: _) e3] at k1
    exact k1
  · cases hs
end WSM
