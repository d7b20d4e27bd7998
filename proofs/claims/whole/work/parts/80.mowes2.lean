/-! OWES, of the model: the public one -/
section ON
variable {X : Ctx} {d : Nat} {Q : Option Value → Hp → Prop} {S : AS} {h : Hp}
theorem m_215 {y : Nat} {h0 : Hp} (I : Inv h) (q : RM h S) (o : okA S) (hy : y < 2) (p : LaysP (sY S y) (sPc S) h0 h) :
    Wp (K X (d + 7) 215 [.ref 301] h) (VJ fun x h' => x = Int64.ofInt (owT S y (nS S y)) ∧ Mo h h' ∧ RM h' S ∧ hI h' 301 71 = msk (owF S y 0 0) (nS S y) ∧ hI h' 301 72 = msk (owF S y 2 6) (nS S y) ∧ hI h' 301 63 = msk (hisP (vY S y) (sL S) (sPc S)) 6 ∧ hI h' 301 57 = Int32.ofNat (vB S y) ∧ hI h' 301 56 = Int32.ofNat (cnt (sY S y).1 6 360)) := by
  rw [k_215]
  refine w_finds (d := d + 1) I q o p fun h1 I1 q1 M1 m => ?_
  have L1 := m.lv q1 o
  have hn : hI h1 301 55 = Int32.ofNat (nS S y) := m.2.2.2.2.1
  have h56 : hI h1 301 56 = Int32.ofNat (cnt (sY S y).1 6 360) := m.2.2.2.2.2.1
  refine w_fI I1 s_301 fun I2 => ?_
  refine w_fI I2 s_301 fun I3 => ?_
  have z : MvO h1 (sI (sI h1 301 71 0) 301 72 0) := (MvE.o MvE.rf |>.set (Or.inl rfl)).set (Or.inr rfl)
  refine (c215_18 o hy L1 hn (nS S y) 0 _ none none (by omega) I3 ⟨z, ?_, ?_⟩).mono ?_
  · rw [hI_sI_self, up1, if_neg (by decide), hI_sI_self, up1, if_pos rfl]; rfl
  · rw [hI_sI_self, up1, if_pos rfl]; rfl
  · rintro _ h' ⟨x, rfl, rfl, w⟩
    have R := q1.lvO w.1
    refine ⟨_, rfl, rfl, M1.tr R.2, R.1, w.2.1, w.2.2, ?_, ?_, ?_⟩
    · rw [w.1.2 63 (by decide) (by decide)]; exact L1.2.1
    · rw [w.1.2 57 (by decide) (by decide)]; exact L1.2.2.1
    · rw [w.1.2 56 (by decide) (by decide)]; exact h56
theorem m_owes {y w : Int32} (I : Inv h) (q : RM h S) (o : okA S) :
    Wp (K X (d + 8) 216 [.ref 301, .int y, .int w] h) (VJ fun v h' => owesV S y w v ∧ Mo h h' ∧ RM h' S) := by
  have no : ¬ okOw y w → owesV S y w (-1) := fun z => ⟨fun w => absurd w z, fun _ => rfl⟩
  rw [k_216]
  refine w_eI yr_m ?_
  refine w_if (fun c => ?_) (fun c => Wp.retj ⟨no fun z => bi_dec.mp (Classical.byContradiction c) z.1, Eo.rf, q⟩)
  have hy : isYr y := Classical.byContradiction fun z => c (bi_dec.mpr z)
  obtain ⟨yn, y2, rfl⟩ := yr_nat hy
  have dy : dN (Int32.ofNat yn) = yn := dN_of (by omega)
  refine w_lays (d := d + 5) I q o y2 fun h1 I1 q1 M1 p => ?_
  refine w_gS I1 s_301 ?_
  refine w_bJ I1 (m_215 I1 q1 o y2 p) (by decide) rfl ?_
  rintro x h2 I2 ⟨rfl, M2, q2, e71, e72, e63, e57, e56⟩
  have M := M1.tr M2
  have n12 : nS S yn ≤ 12 := (o.1 yn y2).2.1
  have vb : vB S yn < 2147483648 := by
    have a := (o.1 yn y2).2
    have e := sumB_le a.2
    have f : 999999 * (sY S yn).2.2.2.2.length ≤ 999999 * 12 := Nat.mul_le_mul_left _ a.1
    unfold vB; omega
  by_cases hw : ¬ w < 0 ∧ ¬ Int32.ofNat 6 ≤ w
  · have w5 : w ≤ 5 := Int32.not_lt.mp fun z => hw.2 ((lt_le (n := 5) (by decide)).mp z)
    have yes : ∀ v, v = owV S yn w → owesV S (Int32.ofNat yn) w v := fun v e => ⟨fun _ => by rw [dy]; exact e, fun z => absurd ⟨hy, hw.1, w5⟩ z⟩
    obtain ⟨n, n6, rfl⟩ := i_nat (by decide) hw.1 hw.2
    have : n = 0 ∨ n = 1 ∨ n = 2 ∨ n = 3 ∨ n = 4 ∨ n = 5 := by omega
    rcases this with z | z | z | z | z | z <;> subst z
    · have e : tsw 0 [60, 62, 68, 74, 80, 86] 92 (Int32.ofNat 0) = 60 := by decide
      rw [e, b_216_60]
      refine Wp.retj ⟨yes _ ?_, M, q2⟩
      unfold owV
      rw [if_neg (by decide), if_neg (by decide), if_neg (by decide), if_pos (by decide)]
    · have e : tsw 0 [60, 62, 68, 74, 80, 86] 92 (Int32.ofNat 1) = 62 := by decide
      rw [e, b_216_62]
      refine w_gI I2 s_301 (Wp.retj ⟨yes _ ?_, M, q2⟩)
      unfold owV
      rw [if_neg (by decide), if_neg (by decide), if_neg (by decide), if_neg (by decide), if_pos (by decide), e71]
    · have e : tsw 0 [60, 62, 68, 74, 80, 86] 92 (Int32.ofNat 2) = 68 := by decide
      rw [e, b_216_68]
      refine w_gI I2 s_301 (Wp.retj ⟨yes _ ?_, M, q2⟩)
      unfold owV
      rw [if_neg (by decide), if_neg (by decide), if_neg (by decide), if_neg (by decide), if_neg (by decide), e72]
    · have e : tsw 0 [60, 62, 68, 74, 80, 86] 92 (Int32.ofNat 3) = 74 := by decide
      rw [e, b_216_74]
      refine w_gI I2 s_301 (Wp.retj ⟨yes _ ?_, M, q2⟩)
      unfold owV
      rw [if_neg (by decide), if_neg (by decide), if_pos (by decide), e63]
    · have e : tsw 0 [60, 62, 68, 74, 80, 86] 92 (Int32.ofNat 4) = 80 := by decide
      rw [e, b_216_80]
      refine w_gI I2 s_301 (Wp.retj ⟨yes _ ?_, M, q2⟩)
      unfold owV
      rw [if_pos (by decide), e57, nat_j vb]
    · have e : tsw 0 [60, 62, 68, 74, 80, 86] 92 (Int32.ofNat 5) = 86 := by decide
      rw [e, b_216_86]
      refine w_gI I2 s_301 (Wp.retj ⟨yes _ ?_, M, q2⟩)
      unfold owV
      rw [if_neg (by decide), if_pos (by decide), e56]
  · rw [tsw_big rfl hw (by decide), b_216_92]
    refine Wp.retj ⟨no fun z => hw ⟨z.2.1, fun w6 => ?_⟩, M, q2⟩
    exact absurd ((lt_le (n := 5) (by decide)).mpr w6) (Int32.not_lt.mpr z.2.2)
end ON
