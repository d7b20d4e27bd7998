/-! FINDSHIS: whose he is; the model's side -/
def fstF (p : Nat → Bool) : Nat → Nat → Int32
  | 0, _ => -1
  | c + 1, i => if p i then Int32.ofNat i else fstF p c (i + 1)
theorem fstF_none {p : Nat → Bool} : ∀ {c i : Nat}, i + c ≤ 6 → (fstF p c i = -1 ↔ ∀ j, i ≤ j → j < i + c → p j = false)
  | 0, i, _ => ⟨fun _ j h1 h2 => absurd h2 (by omega), fun _ => rfl⟩
  | c + 1, i, h => by
    unfold fstF
    by_cases q : p i
    · rw [if_pos q]
      exact ⟨fun z => absurd z (i_nm1 (by omega)), fun z => by have := z i (Nat.le_refl _) (by omega); rw [q] at this; cases this⟩
    · rw [if_neg q, fstF_none (by omega)]
      have q : p i = false := by simpa using q
      constructor
      · intro z j h1 h2
        by_cases e : j = i
        · rw [e]; exact q
        · exact z j (by omega) (by omega)
      · intro z j h1 h2
        exact z j (by omega) (by omega)
theorem fstF_congr {p q : Nat → Bool} : ∀ {c i : Nat}, (∀ j, i ≤ j → j < i + c → p j = q j) → fstF p c i = fstF q c i
  | 0, _, _ => rfl
  | c + 1, i, h => by
    unfold fstF
    rw [h i (Nat.le_refl _) (by omega), fstF_congr (fun j h1 h2 => h j (by omega) (by omega))]
theorem fst_any {p : Nat → Bool} : fstF p 6 0 = -1 ↔ (List.range 6).any p = false := by
  rw [fstF_none (by omega)]
  constructor
  · intro z
    rw [any6, z 0 (by omega) (by omega), z 1 (by omega) (by omega), z 2 (by omega) (by omega), z 3 (by omega) (by omega), z 4 (by omega) (by omega), z 5 (by omega) (by omega)]; rfl
  · intro z j _ hj
    have := List.any_eq_false.mp z j (List.mem_range.mpr (by omega))
    simpa using this
def mLaws (h : Hp) (AL : Nat → ALaw) : Prop := ∀ l, l < 6 → mLaw h l (AL l) ∧ okL (AL l)
def mPTs (h : Hp) (PA : Nat → APact) : Prop := ∀ a, a < 6 → ∀ b, b < 6 → a ≠ b → mTests h (pm a b) (PA (pr a b)).1 ∧ okT (PA (pr a b)).1
theorem mLaws.eo {h h' : Hp} {AL : Nat → ALaw} {W : Nat → Prop} (q : mLaws h AL) (e : Eo W h h') (w : ∀ a, inML a → ¬ W a) : mLaws h' AL := fun l hl => ⟨(q l hl).1.eo (e.ml w), (q l hl).2⟩
theorem mPTs.eo {h h' : Hp} {PA : Nat → APact} {W : Nat → Prop} (q : mPTs h PA) (e : Eo W h h') (w1 : ¬ W 326) (w2 : ¬ W 327) : mPTs h' PA := fun a ha b hb hn => ⟨(q a ha b hb hn).1.eo (e.i w1) (e.i w2), (q a ha b hb hn).2⟩
def advP (V : Sv) (AL : Nat → ALaw) (PA : Nat → APact) (x k : Nat) : Bool := decide (k ≠ x) && GP V AL PA x k
section MH
variable {X : Ctx} {d : Nat} {V : Sv} {AL : Nat → ALaw} {PA : Nat → APact} {h0 : Hp}
theorem first_loop {h : Hp} {a : Nat} (I : Inv h) (ha : a < 6) (hV : mSv h V) (hs : ∀ k, k < 6 → bt (hI h 301 62) k = syP V AL k) (ht : mPTs h PA) : ∀ (c i : Nat), i + c = 6 →
    sem (X, K X (d + 3)) 196 2 [some (.ref 301), some (.int (Int32.ofNat a)), some (.int (Int32.ofNat i))] [] h = some (some (.int (fstF (advP V AL PA a) c i)), h)
  | 0, i, e => by
    rw [b_196_2]
    exact if_pos ((i_le (m := 6) (by omega) (by omega)).mpr (by omega))
  | c + 1, i, e => by
    have hi : i < 6 := by omega
    refine Wp.eqI ?_
    rw [b_196_2]
    refine w_iff (fun z => absurd ((i_le (m := 6) (by omega) (by omega)).mp z) (by omega)) ?_
    rw [i32_ofNat_succ]
    have ih := first_loop I ha hV hs ht c (i + 1) (by omega)
    by_cases y : i = a
    · refine w_ift (by rw [y]) ?_
      have e1 : fstF (advP V AL PA a) (c + 1) i = fstF (advP V AL PA a) c (i + 1) := by
        show (if advP V AL PA a i then _ else _) = _
        unfold advP; rw [decide_eq_false (fun z => z y)]; rfl
      rw [e1]
      exact Wp.eq ih ⟨_, rfl, rfl, rfl⟩
    · refine w_iff (fun z => y ((i_eq (by omega) (by omega)).mp z)) ?_
      refine w_gS I s_301 ?_
      have t := ht a ha i hi (fun z => y z.symm)
      refine w_eI (m_195 I ha hi hV hs t.1 t.2) ?_
      have eg : advP V AL PA a i = gwS (syP V AL) (pF V a) (pF V i) (PA (pr a i)).1 a i := by
        unfold advP; rw [decide_eq_true y]; rfl
      rw [← eg]
      refine w_if (fun c0 => ?_) (fun c0 => ?_)
      · have e1 : fstF (advP V AL PA a) (c + 1) i = fstF (advP V AL PA a) c (i + 1) := by
          show (if advP V AL PA a i then _ else _) = _
          rw [bi_0.mp c0]; rfl
        rw [e1]
        exact Wp.eq ih ⟨_, rfl, rfl, rfl⟩
      · have c1 : advP V AL PA a i = true := by cases z : advP V AL PA a i; rw [z] at c0; exact absurd rfl c0; rfl
        refine Wp.reti ⟨?_, rfl⟩
        show _ = (if advP V AL PA a i then _ else _)
        rw [c1]; rfl
theorem m_196 {h : Hp} {a : Nat} (I : Inv h) (ha : a < 6) (hV : mSv h V) (hs : ∀ k, k < 6 → bt (hI h 301 62) k = syP V AL k) (ht : mPTs h PA) :
    K X (d + 4) 196 [.ref 301, .int (Int32.ofNat a)] h = some (some (.int (fstF (advP V AL PA a) 6 0)), h) := by
  rw [k_196]
  exact first_loop I ha hV hs ht 6 0 rfl
def WH (a : Nat) : Prop := a = 301 ∨ a = 333 ∨ a = 334
/-- what stands behind findsHis -/
def FhP (V : Sv) (AL : Nat → ALaw) (PA : Nat → APact) (h0 h : Hp) : Prop := Eo WH h0 h ∧ hI h 301 62 = msk (syP V AL) 6 ∧ hI h 301 63 = msk (hisP V AL PA) 6 ∧ (∀ k, k ≠ 62 → k ≠ 63 → hI h 301 k = hI h0 301 k) ∧ hJ h 301 = hJ h0 301
theorem WH_ml {a : Nat} (h : inML a) : ¬ WH a := by unfold inML at h; unfold WH; omega
theorem mhis2 (hV : mSv h0 V) (ht : mPTs h0 PA) : ∀ (c i : Nat) (h : Hp), i + c = 6 → Inv h → (Eo WH h0 h ∧ hI h 301 62 = msk (syP V AL) 6 ∧ hI h 301 63 = msk (hisP V AL PA) i ∧ (∀ k, k ≠ 62 → k ≠ 63 → hI h 301 k = hI h0 301 k) ∧ hJ h 301 = hJ h0 301) →
    Wp (sem (X, K X (d + 4)) 197 50 [some (.ref 301), some (.int (Int32.ofNat i))] [] h) (VV fun h' => FhP V AL PA h0 h')
  | 0, i, h, e, I, u => by
    have e : i = 6 := by omega
    subst e
    rw [b_197_50]
    exact w_ift ((i_le (m := 6) (by omega) (by omega)).mpr (by omega)) (Wp.retv u)
  | c + 1, i, h, e, I, u => by
    have hi : i < 6 := by omega
    obtain ⟨u1, u2, u3, u4, u5⟩ := u
    have go : ∀ v, v = msk (hisP V AL PA) (i + 1) → Inv (sI h 301 63 v) → Wp (sem (X, K X (d + 4)) 197 50 [some (.ref 301), some (.int (Int32.ofNat (i + 1)))] [] (sI h 301 63 v)) (VV fun h' => FhP V AL PA h0 h') := fun v hv I1 => by
      refine mhis2 hV ht c (i + 1) _ (by omega) I1 ⟨u1.kI (Or.inl rfl), ?_, ?_, fun k h1 h2 => ?_, u5⟩
      · rw [hI_sI_self, up1, if_neg (by decide)]; exact u2
      · rw [hI_sI_self, up1, if_pos rfl]; exact hv
      · rw [hI_sI_self, up1, if_neg h2]; exact u4 k h1 h2
    rw [b_197_50]
    refine w_iff (fun z => absurd ((i_le (m := 6) (by omega) (by omega)).mp z) (by omega)) ?_
    refine w_gI I s_301 ?_
    refine w_gI I s_301 ?_
    rw [u2, shr_bt (by omega), bt_msk (by decide) (by omega), decide_eq_true hi, Bool.true_and, u3, i32_ofNat_succ, Int32.or_zero]
    refine w_if (fun c0 => ?_) (fun c0 => ?_)
    · have c1 : syP V AL i = false := by cases z : syP V AL i; rfl; rw [z] at c0; exact absurd rfl c0
      refine w_fI I s_301 fun I1 => go _ ?_ I1
      show _ = if hisP V AL PA i then _ else _
      unfold hisP; rw [c1]; rfl
    · have c1 : syP V AL i = true := bi_1.mp (Classical.byContradiction c0)
      refine w_gS I s_301 ?_
      have hV' : mSv h V := by
        obtain ⟨v1, v2, v3, v4⟩ := hV
        exact ⟨fun k hk => by rw [u1.i (by unfold WH; omega)]; exact v1 k hk, by rw [u4 52 (by decide) (by decide)]; exact v2, by rw [u4 53 (by decide) (by decide)]; exact v3, by rw [u4 54 (by decide) (by decide)]; exact v4⟩
      refine w_eI (m_196 (AL := AL) I hi hV' (fun k hk => by rw [u2, bt_msk (by decide) (by omega), decide_eq_true hk]; rfl) (ht.eo u1 (by unfold WH; omega) (by unfold WH; omega))) ?_
      refine w_if (fun c2 => ?_) (fun c2 => ?_)
      · have c3 : (List.range 6).any (advP V AL PA i) = true := by
          cases z : (List.range 6).any (advP V AL PA i)
          · exact absurd (fst_any.mpr z) c2
          · rfl
        refine w_fI I s_301 fun I1 => go _ ?_ I1
        show _ = if hisP V AL PA i then _ else _
        unfold hisP
        rw [c1, show ((List.range 6).any fun k => decide (k ≠ i) && GP V AL PA i k) = true from c3]; rfl
      · have c3 := fst_any.mp (Classical.byContradiction c2)
        refine w_fI I s_301 fun I1 => go _ ?_ I1
        show _ = if hisP V AL PA i then _ else _
        unfold hisP
        rw [c1, show ((List.range 6).any fun k => decide (k ≠ i) && GP V AL PA i k) = false from c3]; rfl
theorem mhis1 (hV : mSv h0 V) (hL : mLaws h0 AL) (ht : mPTs h0 PA) : ∀ (c i : Nat) (h : Hp), i + c = 6 → Inv h → (Eo WH h0 h ∧ hI h 301 62 = msk (syP V AL) i ∧ (∀ k, k ≠ 62 → hI h 301 k = hI h0 301 k) ∧ hJ h 301 = hJ h0 301) →
    Wp (sem (X, K X (d + 4)) 197 7 [some (.ref 301), some (.int (Int32.ofNat i))] [] h) (VV fun h' => FhP V AL PA h0 h')
  | 0, i, h, e, I, u => by
    have e : i = 6 := by omega
    subst e
    obtain ⟨u1, u2, u3, u4⟩ := u
    rw [b_197_7]
    refine w_ift ((i_le (m := 6) (by omega) (by omega)).mpr (by omega)) ?_
    refine w_fI I s_301 fun I1 => ?_
    refine mhis2 hV ht 6 0 _ (by omega) I1 ⟨u1.kI (Or.inl rfl), ?_, ?_, fun k h1 h2 => ?_, u4⟩
    · rw [hI_sI_self, up1, if_neg (by decide)]; exact u2
    · rw [hI_sI_self, up1, if_pos rfl]; rfl
    · rw [hI_sI_self, up1, if_neg h2]; exact u3 k h1
  | c + 1, i, h, e, I, u => by
    have hi : i < 6 := by omega
    obtain ⟨u1, u2, u3, u4⟩ := u
    have hV' : mSv h V := by
      obtain ⟨v1, v2, v3, v4⟩ := hV
      exact ⟨fun k hk => by rw [u1.i (by unfold WH; omega)]; exact v1 k hk, by rw [u3 52 (by decide)]; exact v2, by rw [u3 53 (by decide)]; exact v3, by rw [u3 54 (by decide)]; exact v4⟩
    rw [b_197_7]
    refine w_iff (fun z => absurd ((i_le (m := 6) (by omega) (by omega)).mp z) (by omega)) ?_
    refine w_gI I s_301 ?_
    refine w_gS I s_301 ?_
    rw [u2, i32_ofNat_succ, Int32.or_zero]
    have l1 := (hL.eo u1 (fun a h => WH_ml h)) i hi
    refine w_bI I (m_192 I hi hV' l1.1 l1.2) (by decide) rfl fun x h1 I1 p => ?_
    obtain ⟨rfl, -, E⟩ := p
    have go : ∀ v, v = msk (syP V AL) (i + 1) → Inv (sI h1 301 62 v) → Wp (sem (X, K X (d + 4)) 197 7 [some (.ref 301), some (.int (Int32.ofNat (i + 1)))] [] (sI h1 301 62 v)) (VV fun h' => FhP V AL PA h0 h') := fun v hv I2 => by
      refine mhis1 hV hL ht c (i + 1) _ (by omega) I2 ⟨(u1.tr (E.wk fun a z => Or.inr z)).kI (Or.inl rfl), ?_, fun k h1 => ?_, ?_⟩
      · rw [hI_sI_self, up1, if_pos rfl]; exact hv
      · rw [hI_sI_self, up1, if_neg h1, E.i (by decide)]; exact u3 k h1
      · show hJ h1 301 = _
        rw [E.j (by decide)]; exact u4
    refine w_if (fun c0 => ?_) (fun c0 => ?_)
    · refine w_fI I1 s_301 fun I2 => go _ ?_ I2
      show _ = if syP V AL i then _ else _
      rw [show syP V AL i = false from bi_0.mp c0]; rfl
    · have c1 : syP V AL i = true := by cases z : syP V AL i; exact absurd (by show bi (syP V AL i) = 0; rw [z]; rfl) c0; rfl
      refine w_fI I1 s_301 fun I2 => go _ ?_ I2
      show _ = if syP V AL i then _ else _
      rw [c1]; rfl
theorem m_197 (I : Inv h0) (hV : mSv h0 V) (hL : mLaws h0 AL) (ht : mPTs h0 PA) :
    Wp (K X (d + 5) 197 [.ref 301] h0) (VV fun h' => FhP V AL PA h0 h') := by
  rw [k_197]
  refine w_fI I s_301 fun I1 => ?_
  have e52 : ∀ k, k ≠ 62 → hI (sI h0 301 62 0) 301 k = hI h0 301 k := fun k hk => by rw [hI_sI_self, up1, if_neg hk]
  refine (mhis1 (h0 := h0) hV hL ht 6 0 _ (by omega) I1 ⟨Eo.rf.kI (Or.inl rfl), ?_, e52, rfl⟩)
  rw [hI_sI_self, up1, if_pos rfl]; rfl
end MH
