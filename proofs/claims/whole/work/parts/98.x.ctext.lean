/-! TEXT: the class's answer, and the state after it -/
def WCx (a : Nat) : Prop := a = 62 ∨ a = 64 ∨ a = 65 ∨ a = 82 ∨ (84 ≤ a ∧ a ≤ 101) ∨ (136 ≤ a ∧ a ≤ 273)
theorem law_dis : ∀ a ∈ [91, 136, 144, 152, 160, 168, 176], ∀ b ∈ [91, 136, 144, 152, 160, 168, 176], a = b ∨ a + 8 ≤ b ∨ b + 8 ≤ a := by decide
theorem law_rgs : ∀ a ∈ [91, 136, 144, 152, 160, 168, 176], a = 91 ∨ (136 ≤ a ∧ a ≤ 176) := by decide
theorem pt_dis {a b : Nat} (h : IsPT a) (g : IsPT b) : a = b ∨ a + 3 ≤ b ∨ b + 3 ≤ a := by unfold IsPT at h g; omega
theorem RC.text {h h' : Hp} {S : AS} {AL : Nat → ALaw} {PA : Nat → APact} {F : Int32 × Int32} (q : RC h S) (o : okA S) (E : Eo WCx h h') (t : hI h' 62 13 = 0) (f1 : hI h' 82 11 = F.1) (f2 : hI h' 82 12 = F.2) (laws : lawsC h' AL) (pacts : pactsC h' PA) : RC h' (mkT S AL PA F) := by
  obtain ⟨⟨q1, q2, q3, q4, q5, q6, q7, q8, q9⟩, qr⟩ := q
  have i : ∀ a, ¬ WCx a → hI h' a = hI h a := fun a ha => E.i ha
  refine ⟨⟨fun y hy => (q1 y hy).eo (fun a h1 h2 => i a (by unfold WCx; omega)) (o.1 y hy).2.1, laws, pacts, ⟨t, fun k hk => absurd hk (Nat.not_lt_zero k)⟩, ⟨f1, f2⟩, ?_, ?_, q8.eo (i _ (by unfold WCx; omega)), by rw [E.j (show ¬ WCx 83 by unfold WCx; omega)]; exact q9⟩, qr.eo (E.p (show ¬ WCx 292 by unfold WCx; omega))⟩
  · unfold plansC at q6 ⊢
    rw [i 67 (by unfold WCx; omega)]
    obtain ⟨p1, p2, p3, p4, p5, p6⟩ := q6
    exact ⟨p1, p2.eo (i _ (by unfold WCx; omega)) (i _ (by unfold WCx; omega)), p3, p4.eo (i _ (by unfold WCx; omega)) (i _ (by unfold WCx; omega)) (i _ (by unfold WCx; omega)), p5, p6.eo (i _ (by unfold WCx; omega)) (i _ (by unfold WCx; omega)) (i _ (by unfold WCx; omega))⟩
  · rw [i 76 (by unfold WCx; omega)]
    exact ⟨q7.1, q7.2.eo (i _ (by unfold WCx; omega)) (i _ (by unfold WCx; omega)) (i _ (by unfold WCx; omega)) (E.j (show ¬ WCx 80 by unfold WCx; omega))⟩
section TZ
variable {X : Ctx} {d : Nat} {Q : Option Value → Hp → Prop} {h : Hp} {S : AS}
theorem m_38 (I : Inv h) : Wp (K X (d + 1) 38 [.ref 82] h) (VV fun h' => h' = sI (sI (sI (sI (sI h 82 11 0) 82 12 (-1)) 82 8 0) 82 13 0) 82 14 0) := by
  rw [k_38]
  refine w_fI I s_82 fun I1 => ?_
  refine w_fI I1 s_82 fun I2 => ?_
  refine w_fI I2 s_82 fun I3 => ?_
  refine w_fZ I3 s_82 (by decide) fun I4 => ?_
  refine w_fZ I4 s_82 (by decide) fun I5 => ?_
  exact Wp.retv rfl
/-- the reader is clean, the tape away -/
def Beg2 (h h2 : Hp) : Prop := Eo (fun a => a = 62 ∨ a = 82) h h2 ∧ hP h2 = hP h ∧ hI h2 62 13 = 0 ∧ hI h2 82 8 = 0 ∧ hI h2 82 11 = 0 ∧ hI h2 82 12 = -1 ∧ hI h2 82 13 = 0 ∧ hI h2 82 14 = 0
theorem c_beg {L : Int32} {f : Int32 → Hp → Option (Option Value × Hp)} (I : Inv h) (hL : hI h 62 13 = L) (kk : ∀ h2, Inv h2 → Beg2 h h2 → Wp (f L h2) Q) : Wp (gI h 10 62 13 fun g1 => fI h 10 62 13 0 fun h1 => gR h1 10 62 7 fun g2 => gd (hS h1 g2 = (6, 0)) (bV (K X (d + 1) 38 [.ref g2] h1) (f g1))) Q := by
  refine w_gI I s_62 ?_
  rw [hL]
  refine w_fI I s_62 fun I1 => ?_
  refine w_gL I1 s_62 l_62_7 ?_
  refine w_gS I1 s_82 ?_
  refine w_bV I1 (m_38 (d := d) I1) (by decide) rfl fun h2 I2 e => kk h2 I2 ?_
  rw [e]
  refine ⟨(((((Eo.kI (W := fun a => a = 62 ∨ a = 82) Eo.rf (Or.inl rfl)).kI (Or.inr rfl)).kI (Or.inr rfl)).kI (Or.inr rfl)).kI (Or.inr rfl)).kI (Or.inr rfl), rfl, ?_, ?_, ?_, ?_, ?_, ?_⟩ <;> simp only [hI_sI_at] <;> rfl
theorem txF_R {T : Nat → Nat} {L w k : Nat} (e : (sT S) = (T, L)) : txF S w k = if w = 0 then (0, -1) else (Int32.ofNat w, Int32.ofNat (tP T L k)) := by unfold txF; rw [e]
theorem c_txLaw {l : Nat} (I : Inv h) (q : RC h S) (o : okA S) (hl : l < 6) : Wp (K X (d + 8) 104 [.ref 62, .int (Int32.ofNat l), .int (-1)] h) (VI fun v h' => v = ansL S ∧ RC h' (txLaw S l) ∧ Cl h h') := by
  have q0 := q
  obtain ⟨⟨q1, ⟨LO, a1, a2, a3, a4, a5⟩, ⟨PO, c1, c2, c3, c4, c5⟩, q4, q5, q6, q7, q8, q9⟩, qr⟩ := q
  have L6 := a3 6 (by decide)
  have rg := L6.rg
  have ll := i_lt (m := 6) (n := l) (by omega) (by omega)
  have x138 : (¬ Int32.ofNat l < 0 ∧ ¬ (6 : Int32) ≤ Int32.ofNat l) := ⟨i_lt0 (by omega), fun z => absurd ((i_le (m := 6) (by omega) (by omega)).mp z) (by omega)⟩
  rw [k_104]
  refine c_beg (d := d + 6) I q4.1 fun h2 I2 B => ?_
  obtain ⟨b1, b2, b3, b4, b5, b6, b7, b8⟩ := B
  refine w_eI m_138 ?_
  rw [decide_eq_true x138]
  refine w_iff (by decide) ?_
  refine w_iff (fun z => z rfl) ?_
  refine w_gL I2 s_62 l_62_7 ?_
  refine w_gL I2 s_62 l_62_6 ?_
  refine w_gR I2 s_62 (show hP h2 62 11 = some (LO 6) by rw [b2]; exact a2) ?_
  refine w_gS I2 s_82 ?_
  have ot := o.2.2.2.1
  refine w_bI I2 (c_39 (d := d) (T := (sT S).1) (L := (sT S).2) L6 I2 ⟨fun k hk => by rw [b1.i (by decide)]; exact q4.2 k hk, ot.1, ot.2⟩ (fun k hk => by rw [b1.j (by decide)]; exact q9 k hk) b4 b5 b6 b7 b8) (by decide) rfl fun x h3 I3 r => ?_
  obtain ⟨E3, r1, r2⟩ := r
  have er : txL S = pLw (tC (sT S).1 (sT S).2) (tV (sT S).1 (sT S).2) (sT S).2 21 0 S00 := rfl
  rw [← er] at r1 r2
  have l6r := law_rgs _ L6
  have E : Eo WCx h h3 := (b1.wk fun a z => by unfold WCx; omega).tr (E3.wk fun a z => by unfold WRd at z; unfold WCx; omega)
  have cl : ∀ {h' : Hp}, Eo WCx h h' → Cl h h' := fun E => E.wk fun a z => by unfold WCx at z; omega
  have p3 : ∀ a, a ≠ 82 → ¬ (84 ≤ a ∧ a ≤ 87) → ¬ (LO 6 ≤ a ∧ a ≤ LO 6 + 7) → hP h3 a = hP h a := fun a h1 h2 h3' => by rw [E3.p (by unfold WRd; omega), b2]
  have i3 : ∀ a, a ≠ 62 → a ≠ 82 → ¬ (84 ≤ a ∧ a ≤ 87) → ¬ (LO 6 ≤ a ∧ a ≤ LO 6 + 7) → hI h3 a = hI h a := fun a h0 h1 h2 h3' => by rw [E3.i (by unfold WRd; omega), b1.i (by omega)]
  have t3 : hI h3 62 13 = 0 := by rw [E3.i (show ¬ WRd (LO 6) 62 by unfold WRd; omega)]; exact b3
  have old : ∀ i, i < 6 → cLaw h3 (LO i) (sL S i) := fun i hi => (a5 i hi).eo fun k hk => by
    have Li := a3 i (by omega)
    have := law_rgs _ Li
    have := law_dis _ Li _ L6
    have : LO i ≠ LO 6 := fun z => absurd (a4 i (by omega) 6 (by decide) z) (by omega)
    exact i3 _ (by omega) (by omega) (by omega) (by omega)
  have pold : ∀ p, p < 15 → cPact h3 (PO p) (sPc S p) := fun p hp => by
    have Pp := c3 p (by omega)
    unfold IsPT at Pp
    exact (c5 p hp).eo (i3 _ (by omega) (by omega) (by omega) (by omega)) (i3 _ (by omega) (by omega) (by omega) (by omega)) (i3 _ (by omega) (by omega) (by omega) (by omega))
  have p64 : hP h3 64 = hP h 64 := p3 64 (by decide) (by omega) (by omega)
  have p65 : hP h3 65 = hP h 65 := p3 65 (by decide) (by omega) (by omega)
  have p62 : hP h3 62 = hP h 62 := p3 62 (by decide) (by omega) (by omega)
  by_cases z : (txL S).1 = 0
  · obtain ⟨rfl, g1, g2, g3⟩ := r1 z
    have gl : okLS (txL S).2.2 := ok_lw (fun k => tV_le) 21 0 S00 (fun j hj => absurd hj (Nat.not_lt_zero j)) ok_S00 z
    have l20 := gl.2.1
    refine w_iff (i_nm1 (by omega)) ?_
    refine w_gL I3 s_62 l_62_1 ?_
    refine w_aRn I3 s_64 (by decide) (by decide) hl (by decide) (show hP h3 64 l = some (LO l) by rw [p64]; exact a1 l hl) ?_
    refine w_gL I3 s_62 l_62_1 ?_
    refine w_gR I3 s_62 (show hP h3 62 11 = some (LO 6) by rw [p62]; exact a2) ?_
    refine w_wRn I3 (Or.inl rfl) s_64 hl (by decide) (Or.inl ⟨by decide, by decide, L6.s⟩) fun I4 => ?_
    have Ll := a3 l (by omega)
    refine w_fR I4 s_62 (by rw [Ll.s]; decide) (by decide) (by decide) (by decide) fun I5 => ?_
    have E5 : Eo WCx h (sP (sP h3 64 l (some (LO 6))) 62 11 (some (LO l))) := (E.kP (Or.inr (Or.inl rfl))).kP (Or.inl rfl)
    refine Wp.reti ⟨(if_pos z).symm, ?_, cl E5⟩
    unfold txLaw
    rw [if_pos z]
    refine q0.text o E5 t3 (by rw [txF_0 z]; exact g2) (by rw [txF_0 z]; exact g3) ⟨fun i => if i = l then LO 6 else if i = 6 then LO l else LO i, fun i hi => ?_, ?_, fun i hi => ?_, fun i hi j hj e => ?_, fun i hi => ?_⟩ ⟨PO, fun p hp => ?_, ?_, c3, c4, fun p hp => (pold p hp).eo rfl rfl rfl⟩
    · show _ = some (if i = l then LO 6 else if i = 6 then LO l else LO i)
      rw [hP_sP_at, if_neg (show ¬ (64 = 62 ∧ i = 11) by omega), hP_sP_at]
      by_cases w : i = l
      · rw [if_pos (show 64 = 64 ∧ i = l from ⟨rfl, w⟩), if_pos w]
      · rw [if_neg (show ¬ (64 = 64 ∧ i = l) from fun y => w y.2), p64, if_neg w, if_neg (show ¬ i = 6 by omega)]; exact a1 i hi
    · show _ = some (if 6 = l then LO 6 else if 6 = 6 then LO l else LO 6)
      rw [hP_sP_at, if_pos ⟨rfl, rfl⟩, if_neg (show ¬ 6 = l by omega), if_pos rfl]
    · show IsLaw (if i = l then LO 6 else if i = 6 then LO l else LO i)
      split
      · exact L6
      · split
        · exact Ll
        · exact a3 i hi
    · have e : (if i = l then LO 6 else if i = 6 then LO l else LO i) = (if j = l then LO 6 else if j = 6 then LO l else LO j) := e
      have inj : ∀ u v, u < 7 → v < 7 → LO u = LO v → u = v := fun u v hu hv e => a4 u hu v hv e
      by_cases w1 : i = l
      · rw [if_pos w1] at e
        by_cases w2 : j = l
        · omega
        · rw [if_neg w2] at e
          by_cases w3 : j = 6
          · rw [if_pos w3] at e; have := inj _ _ (by omega) (by omega) e; omega
          · rw [if_neg w3] at e; have := inj _ _ (by omega) (by omega) e; omega
      · rw [if_neg w1] at e
        by_cases w2 : j = l
        · rw [if_pos w2] at e
          by_cases w3 : i = 6
          · rw [if_pos w3] at e; have := inj _ _ (by omega) (by omega) e; omega
          · rw [if_neg w3] at e; have := inj _ _ (by omega) (by omega) e; omega
        · rw [if_neg w2] at e
          by_cases w3 : i = 6
          · rw [if_pos w3] at e
            by_cases w4 : j = 6
            · omega
            · rw [if_neg w4] at e; have := inj _ _ (by omega) (by omega) e; omega
          · rw [if_neg w3] at e
            by_cases w4 : j = 6
            · rw [if_pos w4] at e; have := inj _ _ (by omega) (by omega) e; omega
            · rw [if_neg w4] at e; exact inj _ _ (by omega) (by omega) e
    · have : cLaw h3 (if i = l then LO 6 else if i = 6 then LO l else LO i) (updL (sL S) l (lawOf (txL S).2.2) i) := by
        unfold updL
        by_cases w : i = l
        · rw [if_pos w, if_pos w]; exact g1
        · rw [if_neg w, if_neg w, if_neg (show ¬ i = 6 by omega)]; exact old i hi
      exact this.eo fun k hk => rfl
    · rw [hP_sP_at, if_neg (by omega), hP_sP_at, if_neg (by omega), p65]; exact c1 p hp
    · rw [hP_sP_at, if_neg (by omega), hP_sP_at, if_neg (by omega), p62]; exact c2
  · obtain ⟨rfl, g2, g3⟩ := r2 z
    refine w_ift rfl ?_
    refine Wp.reti ⟨(if_neg z).symm, ?_, cl E⟩
    unfold txLaw
    rw [if_neg z]
    exact q0.text o E t3 (by rw [txF_1 z]; exact g2) (by rw [txF_1 z]; exact g3) ⟨LO, fun i hi => by rw [p64]; exact a1 i hi, by rw [p62]; exact a2, a3, a4, fun i hi => old i hi⟩ ⟨PO, fun p hp => by rw [p65]; exact c1 p hp, by rw [p62]; exact c2, c3, c4, pold⟩
theorem c_txPact {a b : Nat} (I : Inv h) (q : RC h S) (o : okA S) (hab : a < b) (hb6 : b < 6) : Wp (K X (d + 8) 104 [.ref 62, .int (Int32.ofNat a), .int (Int32.ofNat b)] h) (VI fun v h' => v = ansP S ∧ RC h' (txPact S (pr a b)) ∧ Cl h h') := by
  have q0 := q
  obtain ⟨⟨q1, ⟨LO, a1, a2, a3, a4, a5⟩, ⟨PO, c1, c2, c3, c4, c5⟩, q4, q5, q6, q7, q8, q9⟩, qr⟩ := q
  have P15 := c3 15 (by decide)
  have P15p := P15.pact
  have P15r := P15
  unfold IsPT at P15r
  have hpr := pr_lt a (by omega) b hb6 (by omega)
  have rng : ∀ l, l < 6 → (¬ Int32.ofNat l < 0 ∧ ¬ (6 : Int32) ≤ Int32.ofNat l) := fun l hl => ⟨i_lt0 (by omega), fun z => absurd ((i_le (m := 6) (by omega) (by omega)).mp z) (by omega)⟩
  rw [k_104]
  refine c_beg (d := d + 6) I q4.1 fun h2 I2 B => ?_
  obtain ⟨b1, b2, b3, b4, b5, b6, b7, b8⟩ := B
  refine w_eI m_138 ?_
  rw [decide_eq_true (rng a (by omega))]
  refine w_iff (by decide) ?_
  refine w_ift (i_nm1 (by omega)) ?_
  rw [b_104_83]
  refine w_eI m_138 ?_
  rw [decide_eq_true (rng a (by omega))]
  refine w_iff (by decide) ?_
  refine w_eI m_138 ?_
  rw [decide_eq_true (rng b hb6)]
  refine w_iff (by decide) ?_
  refine w_iff (fun z => absurd ((i_le (by omega) (by omega)).mp z) (by omega)) ?_
  refine w_gL I2 s_62 l_62_7 ?_
  refine w_gL I2 s_62 l_62_6 ?_
  refine w_gR I2 s_62 (show hP h2 62 12 = some (PO 15) by rw [b2]; exact c2) ?_
  refine w_gS I2 s_82 ?_
  have ot := o.2.2.2.1
  refine w_bI I2 (c_40 (d := d) (T := (sT S).1) (L := (sT S).2) P15p I2 ⟨fun k hk => by rw [b1.i (by decide)]; exact q4.2 k hk, ot.1, ot.2⟩ (fun k hk => by rw [b1.j (by decide)]; exact q9 k hk) b4 b5 b6) (by decide) rfl fun x h3 I3 r => ?_
  obtain ⟨E3, r1, r2⟩ := r
  have er : txP S = pQw (tC (sT S).1 (sT S).2) (tV (sT S).1 (sT S).2) 21 0 Q00 := rfl
  rw [← er] at r1 r2
  have E : Eo WCx h h3 := (b1.wk fun a z => by unfold WCx; omega).tr (E3.wk fun a z => by unfold WRp at z; unfold WCx; omega)
  have cl : ∀ {h' : Hp}, Eo WCx h h' → Cl h h' := fun E => E.wk fun a z => by unfold WCx at z; omega
  have p3 : ∀ a, a ≠ 82 → ¬ (84 ≤ a ∧ a ≤ 86) → ¬ (PO 15 ≤ a ∧ a ≤ PO 15 + 2) → hP h3 a = hP h a := fun a h1 h2 h3' => by rw [E3.p (by unfold WRp; omega), b2]
  have i3 : ∀ a, a ≠ 62 → a ≠ 82 → ¬ (84 ≤ a ∧ a ≤ 86) → ¬ (PO 15 ≤ a ∧ a ≤ PO 15 + 2) → hI h3 a = hI h a := fun a h0 h1 h2 h3' => by rw [E3.i (by unfold WRp; omega), b1.i (by omega)]
  have t3 : hI h3 62 13 = 0 := by rw [E3.i (show ¬ WRp (PO 15) 62 by unfold WRp; omega)]; exact b3
  have lold : ∀ i, i < 6 → cLaw h3 (LO i) (sL S i) := fun i hi => (a5 i hi).eo fun k hk => by
    have := law_rgs _ (a3 i (by omega))
    exact i3 _ (by omega) (by omega) (by omega) (by omega)
  have old : ∀ p, p < 15 → cPact h3 (PO p) (sPc S p) := fun p hp => by
    have Pp := c3 p (by omega)
    have := pt_dis Pp P15
    have : PO p ≠ PO 15 := fun z => absurd (c4 p (by omega) 15 (by decide) z) (by omega)
    unfold IsPT at Pp
    exact (c5 p hp).eo (i3 _ (by omega) (by omega) (by omega) (by omega)) (i3 _ (by omega) (by omega) (by omega) (by omega)) (i3 _ (by omega) (by omega) (by omega) (by omega))
  have p64 : hP h3 64 = hP h 64 := p3 64 (by decide) (by omega) (by omega)
  have p65 : hP h3 65 = hP h 65 := p3 65 (by decide) (by omega) (by omega)
  have p62 : hP h3 62 = hP h 62 := p3 62 (by decide) (by omega) (by omega)
  by_cases z : (txP S).1 = 0
  · obtain ⟨rfl, g1, g2, g3⟩ := r1 z
    have gl : okPS (txP S).2.2 := ok_qw 21 0 Q00 ok_Q00 z
    have l20 := gl.2.1
    refine w_iff (i_nm1 (by omega)) ?_
    refine w_gL I3 s_62 l_62_2 ?_
    refine w_eI (m_141 (by omega) hb6 (by omega)) ?_
    refine w_aRn I3 s_65 (by decide) (by decide) hpr (by decide) (show hP h3 65 (pr a b) = some (PO (pr a b)) by rw [p65]; exact c1 _ hpr) ?_
    refine w_gL I3 s_62 l_62_2 ?_
    refine w_eI (m_141 (by omega) hb6 (by omega)) ?_
    refine w_gR I3 s_62 (show hP h3 62 12 = some (PO 15) by rw [p62]; exact c2) ?_
    refine w_wRn I3 (Or.inr (Or.inl rfl)) s_65 hpr (by decide) (Or.inl ⟨by decide, by decide, P15p.s⟩) fun I4 => ?_
    have Pl := c3 (pr a b) (by omega)
    refine w_fR I4 s_62 (by rw [Pl.pact.s]; decide) (by decide) (by decide) (by decide) fun I5 => ?_
    have E5 : Eo WCx h (sP (sP h3 65 (pr a b) (some (PO 15))) 62 12 (some (PO (pr a b)))) := (E.kP (Or.inr (Or.inr (Or.inl rfl)))).kP (Or.inl rfl)
    refine Wp.reti ⟨(if_pos z).symm, ?_, cl E5⟩
    unfold txPact
    rw [if_pos z]
    generalize pr a b = l at *
    refine q0.text o E5 t3 (by rw [txF_0 z]; exact g2) (by rw [txF_0 z]; exact g3) ⟨LO, fun p hp => ?_, ?_, a3, a4, fun p hp => (lold p hp).eo fun k hk => rfl⟩ ⟨fun i => if i = l then PO 15 else if i = 15 then PO l else PO i, fun i hi => ?_, ?_, fun i hi => ?_, fun i hi j hj e => ?_, fun i hi => ?_⟩
    · rw [hP_sP_at, if_neg (by omega), hP_sP_at, if_neg (by omega), p64]; exact a1 p hp
    · rw [hP_sP_at, if_neg (by omega), hP_sP_at, if_neg (by omega), p62]; exact a2
    · show _ = some (if i = l then PO 15 else if i = 15 then PO l else PO i)
      rw [hP_sP_at, if_neg (show ¬ (65 = 62 ∧ i = 12) by omega), hP_sP_at]
      by_cases w : i = l
      · rw [if_pos (show 65 = 65 ∧ i = l from ⟨rfl, w⟩), if_pos w]
      · rw [if_neg (show ¬ (65 = 65 ∧ i = l) from fun y => w y.2), p65, if_neg w, if_neg (show ¬ i = 15 by omega)]; exact c1 i hi
    · show _ = some (if 15 = l then PO 15 else if 15 = 15 then PO l else PO 15)
      rw [hP_sP_at, if_pos ⟨rfl, rfl⟩, if_neg (show ¬ 15 = l by omega), if_pos rfl]
    · show IsPT (if i = l then PO 15 else if i = 15 then PO l else PO i)
      split
      · exact P15
      · split
        · exact Pl
        · exact c3 i hi
    · have e : (if i = l then PO 15 else if i = 15 then PO l else PO i) = (if j = l then PO 15 else if j = 15 then PO l else PO j) := e
      have inj : ∀ u v, u < 16 → v < 16 → PO u = PO v → u = v := fun u v hu hv e => c4 u hu v hv e
      by_cases w1 : i = l
      · rw [if_pos w1] at e
        by_cases w2 : j = l
        · omega
        · rw [if_neg w2] at e
          by_cases w3 : j = 15
          · rw [if_pos w3] at e; have := inj _ _ (by omega) (by omega) e; omega
          · rw [if_neg w3] at e; have := inj _ _ (by omega) (by omega) e; omega
      · rw [if_neg w1] at e
        by_cases w2 : j = l
        · rw [if_pos w2] at e
          by_cases w3 : i = 15
          · rw [if_pos w3] at e; have := inj _ _ (by omega) (by omega) e; omega
          · rw [if_neg w3] at e; have := inj _ _ (by omega) (by omega) e; omega
        · rw [if_neg w2] at e
          by_cases w3 : i = 15
          · rw [if_pos w3] at e
            by_cases w4 : j = 15
            · omega
            · rw [if_neg w4] at e; have := inj _ _ (by omega) (by omega) e; omega
          · rw [if_neg w3] at e
            by_cases w4 : j = 15
            · rw [if_pos w4] at e; have := inj _ _ (by omega) (by omega) e; omega
            · rw [if_neg w4] at e; exact inj _ _ (by omega) (by omega) e
    · have : cPact h3 (if i = l then PO 15 else if i = 15 then PO l else PO i) (updPa (sPc S) l (pactOf (txP S).2.2) i) := by
        unfold updPa
        by_cases w : i = l
        · rw [if_pos w, if_pos w]; exact g1
        · rw [if_neg w, if_neg w, if_neg (show ¬ i = 15 by omega)]; exact old i hi
      exact this.eo rfl rfl rfl
  · obtain ⟨rfl, g2, g3⟩ := r2 z
    refine w_ift rfl ?_
    refine Wp.reti ⟨(if_neg z).symm, ?_, cl E⟩
    unfold txPact
    rw [if_neg z]
    exact q0.text o E t3 (by rw [txF_1 z]; exact g2) (by rw [txF_1 z]; exact g3) ⟨LO, fun i hi => by rw [p64]; exact a1 i hi, by rw [p62]; exact a2, a3, a4, fun i hi => lold i hi⟩ ⟨PO, fun p hp => by rw [p65]; exact c1 p hp, by rw [p62]; exact c2, c3, c4, fun p hp => old p hp⟩
theorem c_txNo {x1 x2 : Int32} (I : Inv h) (q : RC h S) (o : okA S) (hx : ¬ (¬ x1 < 0 ∧ ¬ 6 ≤ x1) ∨ (x2 ≠ -1 ∧ ¬ (¬ x2 < 0 ∧ ¬ 6 ≤ x2 ∧ ¬ x2 ≤ x1))) : Wp (K X (d + 8) 104 [.ref 62, .int x1, .int x2] h) (VI fun v h' => v = -1 ∧ RC h' (txNo S) ∧ Cl h h') := by
  have q0 := q
  obtain ⟨⟨q1, q2, q3, q4, q5, q6, q7, q8, q9⟩, qr⟩ := q
  rw [k_104]
  refine c_beg (d := d + 6) I q4.1 fun h2 I2 B => ?_
  obtain ⟨b1, b2, b3, b4, b5, b6, b7, b8⟩ := B
  have fin : RC h2 (txNo S) ∧ Cl h h2 := by
    refine ⟨q0.text o (b1.wk fun a z => by unfold WCx; omega) b3 b5 b6 (q2.eo (fun a h1 h2 h3 => b1.i (by omega)) (by rw [b2]) (by rw [b2])) (q3.eo (fun a ha => b1.i (by omega)) (by rw [b2]) (by rw [b2])), b1.wk fun a z => by omega⟩
  have c83 : ∀ {g1 : Int32} {v5 : Option Value}, (¬ (¬ x1 < 0 ∧ ¬ 6 ≤ x1) ∨ ¬ (¬ x2 < 0 ∧ ¬ 6 ≤ x2 ∧ ¬ x2 ≤ x1)) → Wp (sem (X, K X (d + 7)) 104 83 [some (.ref 62), some (.int x1), some (.int x2), some (.int g1), some (.int (-1)), v5] [] h2) (VI fun v h' => v = -1 ∧ RC h' (txNo S) ∧ Cl h h') := fun hh => by
    rw [b_104_83]
    refine w_eI m_138 ?_
    by_cases y : ¬ x1 < 0 ∧ ¬ 6 ≤ x1
    · rw [decide_eq_true y]
      have hh := hh.resolve_left fun w => w y
      refine w_iff (by decide) ?_
      refine w_eI m_138 ?_
      by_cases y2 : ¬ x2 < 0 ∧ ¬ 6 ≤ x2
      · rw [decide_eq_true y2]
        refine w_iff (by decide) ?_
        refine w_ift (Classical.byContradiction fun w => hh ⟨y2.1, y2.2, w⟩) ?_
        exact Wp.reti ⟨rfl, fin⟩
      · rw [decide_eq_false y2]
        refine w_ift rfl ?_
        exact Wp.reti ⟨rfl, fin⟩
    · rw [decide_eq_false y]
      refine w_ift rfl ?_
      exact Wp.reti ⟨rfl, fin⟩
  refine w_eI m_138 ?_
  by_cases y : ¬ x1 < 0 ∧ ¬ 6 ≤ x1
  · rw [decide_eq_true y]
    obtain ⟨y2, y3⟩ := hx.resolve_left fun w => w y
    refine w_iff (by decide) ?_
    refine w_ift y2 ?_
    exact c83 (Or.inr y3)
  · rw [decide_eq_false y]
    refine w_ift rfl ?_
    exact c83 (Or.inl y)
end TZ
