/-! EDGE, of the class: the public one -/
section CF
variable {X : Ctx} {d : Nat} {h : Hp} {S : AS} {V : Sv} {y l o : Nat}
theorem RC.wt {h' : Hp} (q : RC h S) (ok : okA S) (e : Eo WT h h') : RC h' S ∧ Cl h h' := ⟨q.scr ok e fun a z => z.x, e.wk fun a z => by have := z.x; unfold WX WS at this; omega⟩
/-- the levy hears the trial stay -/
theorem w_hear88 {V : Sv} {y : Nat} {Q : Option Value → Hp → Prop} {f : Hp → Option (Option Value × Hp)} (I : Inv h) (q : RC h S) (ok : okA S) (hy : y < 2) (hV : cSv h 88 V) (k : ∀ h', Inv h' → RC h' S → Cl h h' → LvC h' V (sL S) (sPc S) (sumB (sY S y).2.2.2.2 : Nat) → Wp (f h') Q) :
    Wp (gR h 10 62 8 fun g8 => gR h 10 62 9 fun g9 => gR h 10 62 2 fun g10 => gd (hS h (102 + 17 * y) = (10, 0)) (bJ (K X (d + 5) 95 [.ref (102 + 17 * y)] h) fun r11 h5 => gd (hS h5 g8 = (3, 0)) (bV (K X (d + 5) 13 [.ref g8, .ref g9, .ref g10, .long r11] h5) f))) Q := by
  have B := sumB_le (ok.1 y hy).2.2
  have o2 := (ok.1 y hy).2.1
  refine w_gL I s_62 l_62_8 ?_
  refine w_gL I s_62 l_62_9 ?_
  refine w_gL I s_62 l_62_2 ?_
  refine w_gS I (year_s hy).1 ?_
  refine w_eJ (m_95 I hy (q.1.1 y hy) (ok.1 y hy)) ?_
  refine w_gS I s_274 ?_
  refine w_bV I (m_13 I (show IsStay 88 by show (88 : Nat) ∈ [88, 104, 121]; decide) hV (q.laws ok) (q.pacts ok) (by omega)) (by decide) rfl fun h1 I1 p => ?_
  have q1 := q.scr ok p.1 (fun a z => by unfold WX; unfold WS at z ⊢; omega)
  exact k h1 I1 q1 (p.1.wk fun a z => by unfold WS at z; omega) (p.lvc (q1.laws ok) (q1.pacts ok))
theorem w_tot {V : Sv} {y : Nat} {Q : Option Value → Hp → Prop} {f : Int64 → Hp → Option (Option Value × Hp)} (I : Inv h) (q : RC h S) (ok : okA S) (hy : y < 2) (L : LvC h V (sL S) (sPc S) (sumB (sY S y).2.2.2.2 : Nat)) (k : ∀ h', Inv h' → RC h' S → Cl h h' → LvC h' V (sL S) (sPc S) (sumB (sY S y).2.2.2.2 : Nat) → Wp (f (Int64.ofInt (totG V (sL S) (sPc S) (sY S y).2.2.2.2)) h') Q) :
    Wp (gR h 10 62 8 fun g12 => gd (hS h g12 = (3, 0)) (bJ (K X (d + 7) 20 [.ref g12, .ref (102 + 17 * y)] h) f)) Q := by
  refine w_gL I s_62 l_62_8 ?_
  refine w_gS I s_274 ?_
  refine w_bJ I (g20 I hy (ok.r hy) ok.2.1 L (q.1.1 y hy).2.2.2.1 (q.1.1 y hy).2.2.2.2 q.2) (by decide) rfl ?_
  rintro x h2 I2 ⟨rfl, e1, e2⟩
  have R := q.lv ok e1 e2
  exact k h2 I2 R.1 R.2 (L.eo e1)
theorem c113_52 {w : Int32} {v5 v6 v7 v8 : Option Value} (I : Inv h) (q : RC h S) (ok : okA S) (hy : y < 2) (hl : l < 6) (ho : o < 6) (hlo : o ≠ l) (hw : w = 0 ∨ w = 1) :
    Wp (sem (X, K X (d + 7)) 113 52 [some (.ref 62), some (.int (Int32.ofNat y)), some (.int (Int32.ofNat l)), some (.int (Int32.ofNat o)), some (.int w), v5, v6, v7, v8] [.int (match edY S y l o with | none => 0 | some (m, p) => sgE m p)] h) (VJ fun v h' => v = edV S y l o w ∧ Cl h h' ∧ RC h' S) := by
  have ys := year_s hy
  rw [b_113_52]
  unfold edV
  cases e : edY S y l o with
  | none =>
    refine w_iff (fun z => z rfl) ?_
    rcases hw with rfl | rfl
    · exact w_iff (by decide) (Wp.retj ⟨rfl, Eo.rf, q⟩)
    · exact w_ift (by decide) (Wp.retj ⟨rfl, Eo.rf, q⟩)
  | some t =>
    obtain ⟨m, p⟩ := t
    have mb := edO_some (Nat.le_refl 1) e
    have sg := sgE_abs (n := m) (p := p) (by omega) mb.1
    refine w_ift sg.1 ?_
    rcases hw with rfl | rfl
    · refine w_iff (by decide) (Wp.retj ⟨?_, Eo.rf, q⟩)
      show (if 0 ≤ sgE m p then sgE m p else 0 - sgE m p).toInt64 = _
      rw [sg.2]; rfl
    · refine w_ift (by decide) ?_
      refine w_gL I s_62 l_62_0 ?_
      refine w_aLn I s_63 (by decide) (by decide) hy (by decide) (lk_years y hy) ?_
      refine w_hear (d := d + 1) I q ok hy fun h1 I1 q1 C1 pp => ?_
      have L1 := pp.lv q1 ok
      refine w_tot (d := d) I1 q1 ok hy L1 fun h2 I2 q2 C2 _ => ?_
      refine w_gL I2 s_62 l_62_9 ?_
      refine w_gL I2 ys.1 ys.2.2.2.2.2.2.1 ?_
      refine w_gS I2 s_88 ?_
      refine w_bV I2 (m_85 I2 ys.2.2.2.2.2.2.2.2 (by omega) (q2.1.1 y hy).2.1) (by decide) rfl fun h3 I3 p3 => ?_
      obtain ⟨p3, -, E3⟩ := p3
      refine w_gL I3 s_62 l_62_9 ?_
      refine w_gS I3 s_88 ?_
      refine w_bV I3 (m_86 (x := sgE m p) I3 hl ho hlo p3) (by decide) rfl fun h4 I4 p4 => ?_
      obtain ⟨p4, E4⟩ := p4
      have R4 := q2.wt ok ((E3.wk fun a z => by unfold WT; omega).tr (E4.wk fun a (z : a = 89) => by unfold WT; omega))
      refine w_hear88 (d := d + 2) I4 R4.1 ok hy p4 fun h5 I5 q5 C5 L5 => ?_
      refine w_tot (d := d) I5 q5 ok hy L5 fun h6 I6 q6 C6 _ => ?_
      rw [← Int64.ofInt_sub]
      exact Wp.retj ⟨rfl, ((C1.tr C2).tr R4.2).tr (C5.tr C6), q6⟩
theorem edgeP_no {w y l o : Int32} {v : Int64} (h : w = 0 ∨ w = 1 → ¬ okE y l o ∧ v = if w = 1 then -1000000000000 else -1) (h2 : ¬ (w = 0 ∨ w = 1) → v = -1) : edgeP S y l o w v := ⟨fun z => ⟨fun a => absurd a (h z).1, fun _ => (h z).2⟩, h2⟩
theorem c_edge {y l o w : Int32} (I : Inv h) (q : RC h S) (ok : okA S) :
    Wp (K X (d + 8) 113 [.ref 62, .int y, .int l, .int o, .int w] h) (VJ fun v h' => edgeP S y l o w v ∧ Cl h h' ∧ RC h' S) := by
  rw [k_113]
  refine w_if (fun c => Wp.retj ⟨edgeP_no (fun z => by rcases z with rfl | rfl <;> exact absurd c (by decide)) fun _ => rfl, Eo.rf, q⟩) (fun c0 => ?_)
  refine w_if (fun c1 => ?_) (fun c => Wp.retj ⟨edgeP_no (fun z => by rcases z with rfl | rfl <;> exact absurd (by decide) c) fun _ => rfl, Eo.rf, q⟩)
  have hw : w = 0 ∨ w = 1 := by
    have a := Int32.le_iff_toInt_le.mp c1
    have b : (0 : Int32) ≤ w := Int32.not_lt.mp c0
    have b := Int32.le_iff_toInt_le.mp b
    have z0 : (0 : Int32).toInt = 0 := by decide
    have z1 : (1 : Int32).toInt = 1 := by decide
    have : w.toInt = 0 ∨ w.toInt = 1 := by omega
    rcases this with z | z
    · exact Or.inl (Int32.toInt_inj.mp (z.trans z0.symm))
    · exact Or.inr (Int32.toInt_inj.mp (z.trans z1.symm))
  have no : ¬ okE y l o → Wp (sem (X, K X (d + 7)) 113 52 [some (.ref 62), some (.int y), some (.int l), some (.int o), some (.int w), none, none, none, none] [.int 0] h) (VJ fun v h' => edgeP S y l o w v ∧ Cl h h' ∧ RC h' S) := fun z => by
    rw [b_113_52]
    refine w_iff (fun z => z rfl) ?_
    refine w_if (fun c => ?_) (fun c => ?_)
    · have w1 : w = 1 := hw.resolve_left c
      exact Wp.retj ⟨edgeP_no (fun _ => ⟨z, by rw [if_pos w1]⟩) (fun w => absurd hw w), Eo.rf, q⟩
    · have w0 : w = 0 := Classical.byContradiction c
      exact Wp.retj ⟨edgeP_no (fun _ => ⟨z, by rw [w0]; rfl⟩) (fun w => absurd hw w), Eo.rf, q⟩
  refine w_eI yr_c ?_
  refine w_if (fun c => no fun z => bi_dec.mp c z.1) (fun c => ?_)
  have hy : isYr y := Classical.byContradiction fun z => c (bi_dec.mpr z)
  refine w_eI ld_c ?_
  refine w_if (fun c => no fun z => bi_dec.mp c z.2.1) (fun c => ?_)
  have hl : isLd l := Classical.byContradiction fun z => c (bi_dec.mpr z)
  refine w_eI ld_c ?_
  refine w_if (fun c => no fun z => bi_dec.mp c z.2.2.1) (fun c => ?_)
  have ho : isLd o := Classical.byContradiction fun z => c (bi_dec.mpr z)
  refine w_if (fun c => no fun z => z.2.2.2 c) (fun hlo => ?_)
  have yes : ∀ v, v = edV S (dN y) (dN l) (dN o) w → edgeP S y l o w v := fun v e => ⟨fun _ => ⟨fun _ => e, fun z => absurd ⟨hy, hl, ho, hlo⟩ z⟩, fun z => absurd hw z⟩
  obtain ⟨yn, y2, rfl⟩ := yr_nat hy
  obtain ⟨ln, l6, rfl⟩ := ld_nat hl
  obtain ⟨on, o6, rfl⟩ := ld_nat ho
  have hne : on ≠ ln := fun z => hlo (by rw [z])
  rw [dN_of (show yn < 2147483648 by omega), dN_of (show ln < 2147483648 by omega), dN_of (show on < 2147483648 by omega)] at yes
  refine w_gS I s_62 ?_
  refine w_bI I (m_114 (d := d + 1) I q ok y2 l6 o6 hne) (by decide) rfl ?_
  rintro x h1 I1 ⟨rfl, E1⟩
  have R1 := q.wt ok E1
  refine (c113_52 (d := d) I1 R1.1 ok y2 l6 o6 hne hw).mono ?_
  rintro _ h2 ⟨v, rfl, e, C, q2⟩
  exact ⟨_, rfl, yes _ e, R1.2.tr C, q2⟩
end CF
