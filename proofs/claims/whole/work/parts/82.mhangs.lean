/-! HANGS: the model's public one -/
def hangY (S : AS) (y l : Nat) : Int32 := hangB (hgS (vY S y) (sL S) (cnt (sY S y).1 6 360) l) l (cnt (sY S y).1 6 360 + 1)
def hangP (S : AS) (y l : Int32) : Int32 := if isYr y ∧ isLd l then hangY S (dN y) (dN l) else -1
theorem hangP_no {S : AS} {y l : Int32} (h : ¬ (isYr y ∧ isLd l)) : hangP S y l = -1 := if_neg h
section HM
variable {X : Ctx} {d : Nat} {V : Sv} {AL : Nat → ALaw} {U l : Nat}
theorem c218_37 {h0 : Hp} {v1 : Option Value} (hl : l < 6) (hU : U ≤ 360) : ∀ (c k : Nat) (h : Hp) (v7 v8 : Option Value), k + c = U + 1 → Inv h → Hg h0 h V AL U l →
    Wp (sem (X, K X (d + 3)) 218 37 [some (.ref 301), v1, some (.int (Int32.ofNat l)), some (.int (bi (anK (hgS V AL U l) l k))), some (.int (bi (anK (fun k m => !hgS V AL U l k m) l k))), some (.int (V.1 l)), some (.int (Int32.ofNat k)), v7, v8] [] h) (VI fun x h' => x = hangB (hgS V AL U l) l (U + 1) ∧ Hg h0 h' V AL U l)
  | 0, k, h, v7, v8, em, I, g => by
    have em : k = U + 1 := by omega
    subst em
    rw [b_218_37]
    refine w_gI I s_301 ?_
    rw [g.2.2.2.2.2.1]
    refine w_ift ((i_lt (by omega) (by omega)).mpr (by omega)) ?_
    unfold hangB
    cases anK (hgS V AL U l) l (U + 1)
    · exact w_ift (by decide) (Wp.reti ⟨rfl, g⟩)
    · refine w_iff (by decide) ?_
      cases anK (fun k m => !hgS V AL U l k m) l (U + 1)
      · exact w_ift (by decide) (Wp.reti ⟨rfl, g⟩)
      · exact w_iff (by decide) (Wp.reti ⟨rfl, g⟩)
  | c + 1, k, h, v7, v8, em, I, g => by
    rw [b_218_37]
    refine w_gI I s_301 ?_
    rw [g.2.2.2.2.2.1]
    refine w_iff (fun z => absurd ((i_lt (by omega) (by omega)).mp z) (by omega)) ?_
    have z := c218_49 (X := X) (d := d) (k := k) (v1 := v1) hl 6 0 h v8 rfl I g (fun h' v8 I' g' => c218_37 hl hU c (k + 1) h' _ v8 (by omega) I' g')
    have e : ∀ b, (b || anM (hgS V AL U l k) l 0) = b := fun b => Bool.or_false b
    have e' : ∀ b, (b || anM (fun m => !hgS V AL U l k m) l 0) = b := fun b => Bool.or_false b
    rw [e, e'] at z
    exact z
end HM
section HN
variable {X : Ctx} {d : Nat} {h : Hp} {S : AS}
theorem m_hangs {y l : Int32} (I : Inv h) (q : RM h S) (o : okA S) :
    Wp (K X (d + 4) 218 [.ref 301, .int y, .int l] h) (VI fun v h' => v = hangP S y l ∧ Mo h h' ∧ RM h' S) := by
  rw [k_218]
  refine w_eI yr_m ?_
  refine w_if (fun c => Wp.reti ⟨(hangP_no (fun z => bi_dec.mp c z.1)).symm, Eo.rf, q⟩) (fun c => ?_)
  have hy : isYr y := Classical.byContradiction fun z => c (bi_dec.mpr z)
  refine w_eI ld_m ?_
  refine w_if (fun c => ?_) (fun c => Wp.reti ⟨(hangP_no (fun z => bi_dec.mp (Classical.byContradiction c) z.2)).symm, Eo.rf, q⟩)
  have hl : isLd l := Classical.byContradiction fun z => c (bi_dec.mpr z)
  obtain ⟨yn, y2, rfl⟩ := yr_nat hy
  obtain ⟨ln, l6, rfl⟩ := ld_nat hl
  have er : hangP S (Int32.ofNat yn) (Int32.ofNat ln) = hangY S yn ln := by
    unfold hangP; rw [if_pos ⟨hy, hl⟩, dN_of (by omega), dN_of (by omega)]
  rw [er]
  refine w_lays (d := d + 1) I q o y2 fun h1 I1 q1 M1 p => ?_
  obtain ⟨p1, p2, p3, p4, p5, p6, p7, p8, p9⟩ := p
  obtain ⟨v1, v2, v3, v4⟩ := p2
  refine w_gL I1 s_301 l_301_46 ?_
  refine w_aIn I1 s_335 l6 (by decide) ?_
  rw [v1 ln l6]
  have U360 : cnt (sY S yn).1 6 360 ≤ 360 := cnt_le _ _ _
  refine (c218_37 (V := vY S yn) (AL := sL S) (h0 := h1) l6 U360 (cnt (sY S yn).1 6 360 + 1) 0 h1 none none (by omega) I1 ⟨Eo.rf, fun j hj _ => v1 j hj, v2, v3, v4, p4, q1.laws o⟩).mono ?_
  rintro _ h' ⟨x, rfl, rfl, g⟩
  have E : Eo inMS h1 h' := g.1.wk fun a z => by unfold inMS; omega
  exact ⟨_, rfl, rfl, M1.tr (inMS_mo E), q1.scr E (fun k _ => by rw [g.1.i (by decide)])⟩
end HN
