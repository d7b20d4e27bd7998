/-! OWES, of the class: the public one -/
section OX
variable {X : Ctx} {d : Nat} {Q : Option Value → Hp → Prop} {S : AS} {h : Hp}
def owV (S : AS) (y : Nat) (w : Int32) : Int64 := if w = 4 then Int64.ofInt (vB S y : Nat) else if w = 5 then (Int32.ofNat (cnt (sY S y).1 6 360)).toInt64 else if w = 3 then (msk (hisP (vY S y) (sL S) (sPc S)) 6).toInt64 else if w = 0 then Int64.ofInt (owT S y (nS S y)) else if w = 1 then (msk (owF S y 0 0) (nS S y)).toInt64 else (msk (owF S y 2 6) (nS S y)).toInt64
def okOw (y w : Int32) : Prop := isYr y ∧ ¬ w < 0 ∧ w ≤ 5
def owesV (S : AS) (y w : Int32) (v : Int64) : Prop := (okOw y w → v = owV S (dN y) w) ∧ (¬ okOw y w → v = -1)
theorem c_owes {y w : Int32} (I : Inv h) (q : RC h S) (o : okA S) :
    Wp (K X (d + 8) 111 [.ref 62, .int y, .int w] h) (VJ fun v h' => owesV S y w v ∧ Cl h h' ∧ RC h' S) := by
  have no : ¬ okOw y w → owesV S y w (-1) := fun z => ⟨fun w => absurd w z, fun _ => rfl⟩
  rw [k_111]
  refine w_eI yr_c ?_
  refine w_if (fun c => Wp.retj ⟨no fun z => bi_dec.mp c z.1, Eo.rf, q⟩) (fun c => ?_)
  have hy : isYr y := Classical.byContradiction fun z => c (bi_dec.mpr z)
  obtain ⟨yn, y2, rfl⟩ := yr_nat hy
  have dy : dN (Int32.ofNat yn) = yn := dN_of (by omega)
  refine w_if (fun c => Wp.retj ⟨no fun z => z.2.1 c, Eo.rf, q⟩) (fun c1 => ?_)
  refine w_if (fun c2 => ?_) (fun c => Wp.retj ⟨no fun z => c z.2.2, Eo.rf, q⟩)
  have yes : ∀ v, v = owV S yn w → owesV S (Int32.ofNat yn) w v := fun v e => ⟨fun _ => by rw [dy]; exact e, fun z => absurd ⟨hy, c1, c2⟩ z⟩
  refine w_gL I s_62 l_62_0 ?_
  refine w_aLn I s_63 (by decide) (by decide) y2 (by decide) (lk_years yn y2) ?_
  have ys := year_s y2
  refine w_if (fun c4 => ?_) (fun c4 => ?_)
  · refine w_if (fun c5 => ?_) (fun c5 => ?_)
    · refine w_hear (d := d + 1) I q o y2 fun h1 I1 q1 C1 p => ?_
      have L1 := p.lv q1 o
      have msks : ∀ lo hi, lo ≤ 6 → hi ≤ 6 → (msk (owF S yn lo hi) (nS S yn)).toInt64 = owV S yn w → Wp (gd (hS h1 62 = (11, 0)) (bI (K X (d + 7) 112 [.ref 62, .ref (102 + 17 * yn), .int (Int32.ofNat lo), .int (Int32.ofNat hi)] h1) fun r4 h3 => some (some (.long (r4 : Int32).toInt64), h3))) (VJ fun v h' => owesV S (Int32.ofNat yn) w v ∧ Cl h h' ∧ RC h' S) := fun lo hi l6 h6 e => by
        refine w_gS I1 s_62 ?_
        refine w_bI I1 (by rw [k_112]; exact c112_6 o y2 l6 h6 q1 L1 (nS S yn) 0 h1 none (by omega) I1 LvE.rf q1.2) (by decide) rfl ?_
        rintro x h2 I2 ⟨rfl, e1, e2⟩
        have R := q1.lv o e1 e2
        exact Wp.retj ⟨yes _ e, C1.tr R.2, R.1⟩
      refine w_if (fun c3 => ?_) (fun c3 => ?_)
      · refine w_if (fun c0 => ?_) (fun c0 => ?_)
        · by_cases cc : w = 1
          · refine w_iff (fun z => z cc) ?_
            refine w_iff (fun z => z cc) ?_
            refine msks 0 0 (by decide) (by decide) ?_
            subst cc
            unfold owV
            rw [if_neg (by decide), if_neg (by decide), if_neg (by decide), if_neg (by decide), if_pos rfl]
          · refine w_ift cc ?_
            refine w_ift cc ?_
            refine msks 2 6 (by decide) (by decide) ?_
            unfold owV
            rw [if_neg c4, if_neg c5, if_neg c3, if_neg c0, if_neg cc]
        · have w0 : w = 0 := Classical.byContradiction c0
          refine w_gL I1 s_62 l_62_8 ?_
          refine w_gS I1 s_274 ?_
          refine w_bJ I1 (by rw [k_20]; exact c20_5 o y2 q1 L1 (nS S yn) 0 h1 (by omega) I1 LvE.rf q1.2) (by decide) rfl ?_
          rintro x h2 I2 ⟨rfl, e1, e2⟩
          have R := q1.lv o e1 e2
          refine Wp.retj ⟨yes _ ?_, C1.tr R.2, R.1⟩
          unfold owV
          rw [if_neg c4, if_neg c5, if_neg c3, if_pos w0]
      · have w3 : w = 3 := Classical.byContradiction c3
        refine w_gL I1 s_62 l_62_8 ?_
        refine w_gI I1 s_274 ?_
        refine Wp.retj ⟨yes _ ?_, C1, q1⟩
        unfold owV
        rw [if_neg c4, if_neg c5, if_pos w3, L1.2.1]
    · have w5 : w = 5 := Classical.byContradiction c5
      refine w_gL I ys.1 ys.2.2.2.2.2.2.1 ?_
      refine w_gI I ys.2.2.1 ?_
      refine Wp.retj ⟨yes _ ?_, Eo.rf, q⟩
      unfold owV
      rw [if_neg c4, if_pos w5, (q.1.1 yn y2).2.2.1]
  · have w4 : w = 4 := Classical.byContradiction c4
    refine w_gS I ys.1 ?_
    refine w_eJ (m_95 I y2 (q.1.1 yn y2) (o.1 yn y2)) ?_
    refine Wp.retj ⟨yes _ ?_, Eo.rf, q⟩
    unfold owV
    rw [if_pos w4]; rfl
end OX
