/-! TAKES -/
section TA
variable {X : Ctx} {d : Nat} {Q : Option Value → Hp → Prop} {S : AS} {h : Hp}
theorem RC.lv {h' : Hp} (q : RC h S) (o : okA S) (e : LvE h h') (g : ∃ ro, Rg h' ro) : RC h' S ∧ Cl h h' := by
  refine ⟨⟨q.1.eo o fun a h1 h2 h3 => ?_, g⟩, e.1.wk fun a z => by unfold WL at z; omega⟩
  have : ¬ WL a := fun z => h2 (by unfold WL at z; unfold WX WS; omega)
  exact ⟨e.1.i this, e.1.j this, e.1.p this⟩
theorem RM.lv {h' : Hp} (q : RM h S) (e : MvE h h') : RM h' S ∧ Mo h h' := by
  refine ⟨q.eo (fun a h1 h2 h3 => ?_) (fun k _ => by rw [e.2]), e.1.wk fun a z => by unfold WMod at z; omega⟩
  have : ¬ WMod a := fun z => h3 (by unfold WMod at z; unfold inMS; omega)
  exact ⟨e.1.i this, e.1.j this⟩
theorem sumB_ge : ∀ {r : List SumT} {T : SumT}, T ∈ r → T.2.2.1 ≤ sumB r
  | T :: r, U, h => by
    show _ ≤ T.2.2.1 + sumB r
    rcases List.mem_cons.mp h with z | z
    · subst z; omega
    · have := sumB_ge z; omega
/-- the SUM i of a year -/
def sumA (S : AS) (y i : Nat) : SumT := (sY S y).2.2.2.2.getD i (0, 0, 0, 0, 0)
theorem sumA_mem {y i : Nat} (h : i < nS S y) : sumA S y i ∈ (sY S y).2.2.2.2 ∧ (sY S y).2.2.2.2[i] = sumA S y i := by
  have e : sumA S y i = (sY S y).2.2.2.2[i] := by
    unfold sumA
    rw [List.getD_eq_getElem?_getD, List.getElem?_eq_getElem h]; rfl
  rw [e]
  exact ⟨List.getElem_mem h, rfl⟩
theorem baseB {y i : Nat} (o : okA S) (hy : y < 2) (hi : i < nS S y) : 0 < sumB (sY S y).2.2.2.2 ∧ sumB (sY S y).2.2.2.2 ≤ 99999999 := by
  have a := (o.1 y hy).2
  have m := sumA_mem hi
  have b := sumB_ge m.1
  have c := (a.2 _ m.1).2.2.2.1
  have e := sumB_le a.2
  have f : 999999 * (sY S y).2.2.2.2.length ≤ 999999 * 12 := Nat.mul_le_mul_left _ a.1
  omega
def vB (S : AS) (y : Nat) : Nat := sumB (sY S y).2.2.2.2
def tkV (S : AS) (y i l : Nat) (w : Int32) : Int64 := if w = 0 then (Int32.ofNat (lkP (sPc S) (hisP (vY S y) (sL S) (sPc S)) (sumA S y i) l)).toInt64 else if w = 4 then (if frT (vY S y) (sL S) (sPc S) (sumA S y i) l then 1 else 0) else if w = 3 then (Int32.ofNat (numP (vY S y) (sL S) (sPc S) (vB S y) (sumA S y i))).toInt64 else if w = 1 then Int64.ofInt (ahP (vY S y) (sL S) (sPc S) (vB S y) (sumA S y i) l) else Int64.ofInt (takP (vY S y) (sL S) (sPc S) (vB S y) (sumA S y i) l)
def okTk (S : AS) (y i l w : Int32) : Prop := isYr y ∧ (¬ i < 0 ∧ ¬ Int32.ofNat (nS S (dN y)) ≤ i) ∧ (¬ w < 0 ∧ ¬ 4 < w) ∧ (w = 3 ∨ isLd l)
/-- what of an answer an int tells -/
def takesV (S : AS) (y i l w : Int32) (v : Int64) : Prop := (okTk S y i l w → v = tkV S (dN y) (dN i) (dN l) w) ∧ (¬ okTk S y i l w → v = -1)
theorem c_92 {y n : Nat} {i : Int32} (I : Inv h) (hy : y < 2) (hn : hI h (102 + 17 * y) 3 = Int32.ofNat n) : K X (d + 1) 92 [.ref (102 + 17 * y), .int i] h = some (some (.int (bi (decide (¬ i < 0 ∧ ¬ Int32.ofNat n ≤ i)))), h) := by
  refine Wp.eqI ?_
  rw [k_92]
  refine w_if (fun c => Wp.reti ⟨by rw [decide_eq_false (fun z => z.1 c)]; rfl, rfl⟩) (fun c => ?_)
  refine w_gI I (year_s hy).1 ?_
  rw [hn]
  refine w_if (fun c1 => Wp.reti ⟨by rw [decide_eq_false (fun z => z.2 c1)]; rfl, rfl⟩) (fun c1 => Wp.reti ⟨by rw [decide_eq_true ⟨c, c1⟩]; rfl, rfl⟩)
theorem c110_48 {y i : Nat} {l w : Int32} {v5 : Option Value} (I : Inv h) (q : RC h S) (o : okA S) (hy : y < 2) (hi : i < nS S y) (hw : ¬ w < 0 ∧ ¬ 4 < w) (hl : w = 3 ∨ isLd l) :
    Wp (sem (X, K X (d + 6)) 110 48 [some (.ref 62), some (.int (Int32.ofNat y)), some (.int (Int32.ofNat i)), some (.int l), some (.int w), v5] [] h) (VJ fun v h' => v = tkV S y i (dN l) w ∧ Cl h h' ∧ RC h' S) := by
  have n12 : (sY S y).2.2.2.2.length ≤ 12 := (o.1 y hy).2.1
  have i12 : i < 12 := Nat.lt_of_lt_of_le hi n12
  have mem := sumA_mem hi
  have oT := (o.1 y hy).2.2 _ mem.1
  have hB := baseB o hy hi
  have oL : ∀ l, l < 6 → okL (sL S l) := o.2.1
  have hu := sum_s hy i12
  have hu2 : 107 + 17 * y + i < 274 := by omega
  rw [b_110_48]
  refine w_hear I q o hy fun h1 I1 q1 C1 p => ?_
  have L1 := p.lv q1 o
  have hT : cSum h1 (107 + 17 * y + i) (sumA S y i) := by
    have := (q1.1.1 y hy).2.2.2.2.at hi
    rw [mem.2] at this
    exact this
  refine w_gL I1 s_62 l_62_0 ?_
  refine w_aLn I1 s_63 (by decide) (by decide) hy (by decide) (lk_years y hy) ?_
  refine w_gL I1 (year_s hy).1 (year_s hy).2.2.2.2.2.2.2.1 ?_
  refine w_aLn I1 (year_s hy).2.2.2.2.1 (by decide) (by decide) i12 (by decide) (lk_sums y hy i i12) ?_
  unfold tkV
  have settle : w ≠ 0 → w ≠ 4 → Wp (gR h1 10 62 8 fun g5 => gd (hS h1 g5 = (3, 0)) (bJ (K X (d + 6) 21 [.ref g5, .ref (107 + 17 * y + i)] h1) fun r6 h2 => if ¬ w = 3 then if ¬ w = 1 then gR h2 10 62 8 fun g7 => gR h2 2 g7 9 fun g8 => aJ h2 g8 l fun g9 => some (some (.long g9), h2) else gR h2 10 62 8 fun g10 => gR h2 2 g10 8 fun g11 => aJ h2 g11 l fun g12 => some (some (.long g12), h2) else gR h2 10 62 8 fun g13 => gI h2 2 g13 17 fun g14 => some (some (.long (g14 : Int32).toInt64), h2))) (VJ fun v h' => v = (if w = 3 then (Int32.ofNat (numP (vY S y) (sL S) (sPc S) (vB S y) (sumA S y i))).toInt64 else if w = 1 then Int64.ofInt (ahP (vY S y) (sL S) (sPc S) (vB S y) (sumA S y i) (dN l)) else Int64.ofInt (takP (vY S y) (sL S) (sPc S) (vB S y) (sumA S y i) (dN l))) ∧ Cl h h' ∧ RC h' S) := fun _ _ => by
    obtain ⟨ro, g⟩ := q1.2
    refine w_gL I1 s_62 l_62_8 ?_
    refine w_gS I1 s_274 ?_
    refine w_bJ I1 (m_21 I1 hu hu2 L1 hT oT ⟨by omega, by omega⟩ oL g) (by decide) rfl ?_
    rintro x h2 I2 ⟨rfl, e1, e2, e3, e4, e5⟩
    have R := q1.lv o e1 e2
    have C2 : Cl h h2 := C1.tr R.2
    refine w_if (fun c => ?_) (fun c => ?_)
    · rw [if_neg c]
      obtain ⟨ln, l6, rfl⟩ := ld_nat (hl.resolve_left c)
      rw [dN_of (by omega)]
      refine w_if (fun c1 => ?_) (fun c1 => ?_)
      · rw [if_neg c1]
        refine w_gL I2 s_62 l_62_8 ?_
        refine w_gL I2 s_274 l_274_9 ?_
        refine w_aJn I2 s_289 l6 (by decide) ?_
        exact Wp.retj ⟨e4 ln l6, C2, R.1⟩
      · rw [if_pos (Classical.byContradiction c1)]
        refine w_gL I2 s_62 l_62_8 ?_
        refine w_gL I2 s_274 l_274_8 ?_
        refine w_aJn I2 s_288 l6 (by decide) ?_
        exact Wp.retj ⟨e5 ln l6, C2, R.1⟩
    · rw [if_pos (Classical.byContradiction c)]
      refine w_gL I2 s_62 l_62_8 ?_
      refine w_gI I2 s_274 ?_
      exact Wp.retj ⟨by rw [e3]; rfl, C2, R.1⟩
  refine w_if (fun c0 => ?_) (fun c0 => ?_)
  · rw [if_neg c0]
    refine w_if (fun c4 => ?_) (fun c4 => ?_)
    · rw [if_neg c4]
      exact settle c0 c4
    · have w4 : w = 4 := Classical.byContradiction c4
      rw [if_pos w4]
      have hl' : isLd l := hl.resolve_left (by rw [w4]; decide)
      obtain ⟨ln, l6, rfl⟩ := ld_nat hl'
      rw [dN_of (by omega)]
      refine w_gL I1 s_62 l_62_8 ?_
      refine w_gS I1 s_274 ?_
      refine w_eI (m_19 I1 hu l6 L1 hT oT) ?_
      refine w_if (fun c => ?_) (fun c => ?_)
      · rw [bi_0.mp c]
        exact Wp.retj ⟨rfl, C1, q1⟩
      · have : frT (vY S y) (sL S) (sPc S) (sumA S y i) ln = true := by cases z : frT (vY S y) (sL S) (sPc S) (sumA S y i) ln; rw [z] at c; exact absurd rfl c; rfl
        rw [this]
        exact Wp.retj ⟨rfl, C1, q1⟩
  · have w0 : w = 0 := Classical.byContradiction c0
    rw [if_pos w0]
    have hl' : isLd l := hl.resolve_left (by rw [w0]; decide)
    obtain ⟨ln, l6, rfl⟩ := ld_nat hl'
    rw [dN_of (by omega)]
    refine w_gL I1 s_62 l_62_8 ?_
    refine w_gS I1 s_274 ?_
    refine w_eI (m_18 I1 hu l6 L1 hT) ?_
    exact Wp.retj ⟨rfl, C1, q1⟩
theorem c_takes {y i l w : Int32} (I : Inv h) (q : RC h S) (o : okA S) :
    Wp (K X (d + 7) 110 [.ref 62, .int y, .int i, .int l, .int w] h) (VJ fun v h' => takesV S y i l w v ∧ Cl h h' ∧ RC h' S) := by
  have no : ¬ okTk S y i l w → takesV S y i l w (-1) := fun z => ⟨fun w => absurd w z, fun _ => rfl⟩
  rw [k_110]
  refine w_eI yr_c ?_
  refine w_if (fun c => Wp.retj ⟨no fun z => bi_dec.mp c z.1, Eo.rf, q⟩) (fun c => ?_)
  have hy : isYr y := Classical.byContradiction fun z => c (bi_dec.mpr z)
  obtain ⟨yn, y2, rfl⟩ := yr_nat hy
  have dy : dN (Int32.ofNat yn) = yn := dN_of (by omega)
  refine w_gL I s_62 l_62_0 ?_
  refine w_aLn I s_63 (by decide) (by decide) y2 (by decide) (lk_years yn y2) ?_
  refine w_gS I (year_s y2).1 ?_
  refine w_eI (c_92 I y2 (q.1.1 yn y2).2.2.2.1) ?_
  refine w_if (fun c => Wp.retj ⟨no fun z => bi_dec.mp c (by have := z.2.1; rw [dy] at this; exact this), Eo.rf, q⟩) (fun c1 => ?_)
  have hi : ¬ i < 0 ∧ ¬ Int32.ofNat (nS S yn) ≤ i := Classical.byContradiction fun z => c1 (bi_dec.mpr z)
  have n12 : nS S yn ≤ 12 := (o.1 yn y2).2.1
  obtain ⟨iN, i6, rfl⟩ := i_nat (n := nS S yn) (by omega) hi.1 hi.2
  refine w_if (fun c => Wp.retj ⟨no fun z => z.2.2.1.1 c, Eo.rf, q⟩) (fun c2 => ?_)
  refine w_if (fun c => Wp.retj ⟨no fun z => z.2.2.1.2 c, Eo.rf, q⟩) (fun c3 => ?_)
  have go : (w = 3 ∨ isLd l) → ∀ h', h' = h → Wp (sem (X, K X (d + 6)) 110 48 [some (.ref 62), some (.int (Int32.ofNat yn)), some (.int (Int32.ofNat iN)), some (.int l), some (.int w), none] [] h') (VJ fun v h' => takesV S (Int32.ofNat yn) (Int32.ofNat iN) l w v ∧ Cl h h' ∧ RC h' S) := fun hl h' eh => by
    subst eh
    refine (c110_48 I q o y2 i6 ⟨c2, c3⟩ hl).mono ?_
    rintro _ h1 ⟨v, rfl, rfl, a, b⟩
    refine ⟨_, rfl, ⟨fun _ => by rw [dy, dN_of (by omega)], fun z => absurd ⟨hy, by rw [dy]; exact hi, ⟨c2, c3⟩, hl⟩ z⟩, a, b⟩
  refine w_if (fun c => go (Or.inl c) h rfl) (fun c => ?_)
  refine w_eI ld_c ?_
  refine w_if (fun c4 => ?_) (fun c4 => ?_)
  · exact go (Or.inr (Classical.byContradiction fun z => c4 (bi_dec.mpr z))) h rfl
  · have := bi_dec.mp (Classical.byContradiction c4)
    exact Wp.retj ⟨no fun z => z.2.2.2.elim c this, Eo.rf, q⟩
end TA
