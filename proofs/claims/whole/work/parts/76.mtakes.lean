/-! TAKES, of the model -/
section TB
variable {X : Ctx} {d : Nat} {Q : Option Value → Hp → Prop} {S : AS} {h : Hp}
theorem m_idx {i : Int32} {n : Nat} (hn : n < 1000000) : (¬ i < 0 ∧ ¬ (Int32.ofNat n - 1) < i) ↔ (¬ i < 0 ∧ ¬ Int32.ofNat n ≤ i) := by
  refine and_congr_right fun h0 => not_congr ?_
  cases n with
  | zero =>
    have e0 : (0 : Int32).toInt = 0 := by decide
    have e1 : (Int32.ofNat 0 - 1).toInt = -1 := by decide
    have e2 : (Int32.ofNat 0).toInt = 0 := by decide
    rw [Int32.lt_iff_toInt_lt, e0] at h0
    rw [Int32.lt_iff_toInt_lt, Int32.le_iff_toInt_le, e1, e2]
    omega
  | succ m => rw [i_s1]; exact lt_le (by omega)
theorem c214 {y i : Nat} {l w : Int32} {h0 : Hp} (I : Inv h) (q : RM h S) (C : Mo h0 h) (o : okA S) (hy : y < 2) (hi : i < nS S y) (hw : ¬ w < 0 ∧ ¬ 4 < w) (hl : w = 3 ∨ isLd l) (L : LvM h (vY S y) (sL S) (sPc S) (vB S y) (sY S y).2.2.2.2) (hT : isT h i (sumA S y i)) (f : Found h0 h (vY S y) (sL S) (sPc S) (vB S y) (sumA S y i)) {v1 : Option Value} :
    Wp (sem (X, K X (d + 5)) 214 (tsw 0 [100, 108, 115, 122] 126 w) [some (.ref 301), v1, some (.int (Int32.ofNat i)), some (.int l), some (.int w), some (.int (Int32.ofNat (numP (vY S y) (sL S) (sPc S) (vB S y) (sumA S y i))))] [] h) (VJ fun v h' => v = tkV S y i (dN l) w ∧ Mo h0 h' ∧ RM h' S) := by
  have mem := sumA_mem hi
  have oT := (o.1 y hy).2.2 _ mem.1
  have w5 : w = 0 ∨ w = 1 ∨ w = 2 ∨ w = 3 ∨ w = 4 := by
    obtain ⟨n, hn, e⟩ := i_nat (n := 5) (by decide) hw.1 (fun z => hw.2 ((lt_le (n := 4) (by decide)).mpr z))
    have : n = 0 ∨ n = 1 ∨ n = 2 ∨ n = 3 ∨ n = 4 := by omega
    rcases this with z | z | z | z | z <;> subst z <;> subst e <;> simp <;> decide
  unfold tkV
  rcases w5 with z | z | z | z | z
  · obtain ⟨ln, l6, rfl⟩ := ld_nat (hl.resolve_left (by rw [z]; decide))
    subst z
    have e : tsw 0 [100, 108, 115, 122] 126 (0 : Int32) = 100 := by decide
    rw [e, b_214_100, dN_of (by omega), if_pos rfl]
    refine w_gS I s_301 ?_
    refine w_eI (m_203 I L hT oT l6) ?_
    exact Wp.retj ⟨rfl, C, q⟩
  · obtain ⟨ln, l6, rfl⟩ := ld_nat (hl.resolve_left (by rw [z]; decide))
    subst z
    have e : tsw 0 [100, 108, 115, 122] 126 (1 : Int32) = 108 := by decide
    rw [e, b_214_108, dN_of (by omega), if_neg (by decide), if_neg (by decide), if_neg (by decide), if_pos rfl]
    refine w_gL I s_301 l_301_64 ?_
    refine w_aJn I s_345 l6 (by decide) ?_
    exact Wp.retj ⟨f.2.1 ln l6, C, q⟩
  · obtain ⟨ln, l6, rfl⟩ := ld_nat (hl.resolve_left (by rw [z]; decide))
    subst z
    have e : tsw 0 [100, 108, 115, 122] 126 (2 : Int32) = 115 := by decide
    rw [e, b_214_115, dN_of (by omega), if_neg (by decide), if_neg (by decide), if_neg (by decide), if_neg (by decide)]
    refine w_gL I s_301 l_301_65 ?_
    refine w_aJn I s_346 l6 (by decide) ?_
    exact Wp.retj ⟨f.2.2 ln l6, C, q⟩
  · subst z
    have e : tsw 0 [100, 108, 115, 122] 126 (3 : Int32) = 122 := by decide
    rw [e, b_214_122, if_neg (by decide), if_neg (by decide), if_pos rfl]
    exact Wp.retj ⟨rfl, C, q⟩
  · obtain ⟨ln, l6, rfl⟩ := ld_nat (hl.resolve_left (by rw [z]; decide))
    subst z
    have e : tsw 0 [100, 108, 115, 122] 126 (4 : Int32) = 126 := by decide
    rw [e, b_214_126, dN_of (by omega), if_neg (by decide), if_pos rfl]
    refine w_gS I s_301 ?_
    refine w_eI (m_204 I L hT oT l6) ?_
    refine w_if (fun c => ?_) (fun c => ?_)
    · rw [bi_0.mp c]
      exact Wp.retj ⟨rfl, C, q⟩
    · have : frT (vY S y) (sL S) (sPc S) (sumA S y i) ln = true := by cases z : frT (vY S y) (sL S) (sPc S) (sumA S y i) ln; rw [z] at c; exact absurd rfl c; rfl
      rw [this]
      exact Wp.retj ⟨rfl, C, q⟩
theorem m_takes {y i l w : Int32} (I : Inv h) (q : RM h S) (o : okA S) :
    Wp (K X (d + 7) 214 [.ref 301, .int y, .int i, .int l, .int w] h) (VJ fun v h' => takesV S y i l w v ∧ Mo h h' ∧ RM h' S) := by
  have no : ¬ okTk S y i l w → takesV S y i l w (-1) := fun z => ⟨fun w => absurd w z, fun _ => rfl⟩
  rw [k_214]
  refine w_eI yr_m ?_
  refine w_if (fun c => Wp.retj ⟨no fun z => bi_dec.mp c z.1, Eo.rf, q⟩) (fun c => ?_)
  have hy : isYr y := Classical.byContradiction fun z => c (bi_dec.mpr z)
  obtain ⟨yn, y2, rfl⟩ := yr_nat hy
  have dy : dN (Int32.ofNat yn) = yn := dN_of (by omega)
  have n12 : nS S yn ≤ 12 := (o.1 yn y2).2.1
  refine w_gL I s_301 l_301_3 ?_
  refine w_aIn I s_305 y2 (by decide) ?_
  have hn : hI h 305 yn = Int32.ofNat (nS S yn) := (q.1 yn y2).2.2.2.2.1
  rw [hn]
  refine w_eI m_142 ?_
  refine w_if (fun c => Wp.retj ⟨no fun z => bi_dec.mp c ((m_idx (by omega)).mpr (by have := z.2.1; rw [dy] at this; exact this)), Eo.rf, q⟩) (fun c1 => ?_)
  have hi : ¬ i < 0 ∧ ¬ Int32.ofNat (nS S yn) ≤ i := (m_idx (by omega)).mp (Classical.byContradiction fun z => c1 (bi_dec.mpr z))
  obtain ⟨iN, i6, rfl⟩ := i_nat (n := nS S yn) (by omega) hi.1 hi.2
  refine w_eI m_142 ?_
  refine w_if (fun c => Wp.retj ⟨no fun z => bi_dec.mp c z.2.2.1, Eo.rf, q⟩) (fun c2 => ?_)
  have hw : ¬ w < 0 ∧ ¬ 4 < w := Classical.byContradiction fun z => c2 (bi_dec.mpr z)
  have mem := sumA_mem i6
  have oT := (o.1 yn y2).2.2 _ mem.1
  have hB := baseB o y2 i6
  have go : (w = 3 ∨ isLd l) → ∀ h1, Inv h1 → RM h1 S → Mo h h1 → MhP (sY S yn) (sL S) (sPc S) h h1 → Wp (gd (hS h1 301 = (12, 0)) (bI (K X (d + 6) 213 [.ref 301, .int (Int32.ofNat iN)] h1) fun r6 h6 => sem (X, K X (d + 6)) 214 (tsw 0 [100, 108, 115, 122] 126 w) [some (.ref 301), some (.int (Int32.ofNat yn)), some (.int (Int32.ofNat iN)), some (.int l), some (.int w), some (.int r6)] [] h6)) (VJ fun v h' => takesV S (Int32.ofNat yn) (Int32.ofNat iN) l w v ∧ Mo h h' ∧ RM h' S) := fun hl h1 I1 q1 C1 p => by
    have L1 := p.lv q1 o
    have n12' : iN < 12 := Nat.lt_of_lt_of_le i6 n12
    have hT : isT h1 iN (sumA S yn iN) := by
      have := rSums.at L1.2.2.2.2.1 i6
      rw [mem.2, Nat.zero_add] at this
      exact ⟨n12', this⟩
    refine w_gS I1 s_301 ?_
    refine w_bI I1 (m_213 I1 L1 hT oT hB) (by decide) rfl ?_
    rintro x h2 I2 ⟨rfl, f⟩
    have R := q1.lv f.1
    refine (c214 (d := d + 1) (h0 := h1) I2 R.1 R.2 o y2 i6 hw hl (L1.eo f.1) (hT.eo f.1) f).mono ?_
    rintro _ h3 ⟨v, rfl, rfl, a, b⟩
    exact ⟨_, rfl, ⟨fun _ => by rw [dy, dN_of (by omega)], fun z => absurd ⟨hy, by rw [dy]; exact hi, hw, hl⟩ z⟩, C1.tr a, b⟩
  refine w_if (fun c3 => ?_) (fun c3 => ?_)
  · exact w_heard (d := d + 1) I q o y2 fun h1 I1 q1 C1 p => go (Or.inl c3) h1 I1 q1 C1 p
  · refine w_eI ld_m ?_
    refine w_if (fun c4 => ?_) (fun c4 => ?_)
    · have hl : isLd l := Classical.byContradiction fun z => c4 (bi_dec.mpr z)
      exact w_heard (d := d + 1) I q o y2 fun h1 I1 q1 C1 p => go (Or.inr hl) h1 I1 q1 C1 p
    · have := bi_dec.mp (Classical.byContradiction c4)
      exact Wp.retj ⟨no fun z => z.2.2.2.elim c3 this, Eo.rf, q⟩
end TB
