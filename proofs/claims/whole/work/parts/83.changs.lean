/-! HANGS, of the class -/
theorem anK_mono {f : Nat → Nat → Bool} {l k : Nat} : ∀ {n : Nat}, k ≤ n → anK f l k = true → anK f l n = true
  | 0, h, e => by
    have : k = 0 := by omega
    rw [this] at e; exact e
  | n + 1, h, e => by
    by_cases z : k = n + 1
    · rw [z] at e; exact e
    · show (anK f l n || anM (f n) l 6) = true
      rw [anK_mono (n := n) (by omega) e]; rfl
theorem hI_rI_self {h : Hp} {a : Nat} {f : Nat → Int32} : hI (rI h a f) a = f := if_pos rfl
theorem hI_rI_ne {h : Hp} {a b : Nat} {f : Nat → Int32} (e : b ≠ a) : hI (rI h a f) b = hI h b := if_neg e
def WT (a : Nat) : Prop := a = 88 ∨ a = 89 ∨ (276 ≤ a ∧ a ≤ 281) ∨ a = 283
theorem WT.x {a : Nat} (h : WT a) : WX a := by unfold WT at h; unfold WX WS; omega
section HC
variable {X : Ctx} {d : Nat} {h : Hp} {S : AS} {V : Sv} {U l y : Nat}
/-- Stay.copy into the trial stay -/
theorem m_85 {s : Nat} (I : Inv h) (hs : IsStay s) (hn : s ≠ 88) (hV : cSv h s V) :
    Wp (K X (d + 1) 85 [.ref 88, .ref s] h) (VV fun h' => cSv h' 88 V ∧ hI h' 88 1 = hI h s 1 ∧ Eo (fun a => a = 88 ∨ a = 89) h h') := by
  have rg := hs.rg
  obtain ⟨v1, v2, v3, v4⟩ := hV
  rw [k_85]
  refine w_gL I hs.s hs.l0 ?_
  refine w_gL I s_88 l_88_0 ?_
  refine w_acpI (n := 0) (m := 6) I hs.s1 s_89 (by decide) (by decide) (by decide) fun I1 => ?_
  have E1 : Eo (fun a => a = 88 ∨ a = 89) h (rI h 89 (cpy (hI h (s + 1)) (hI h 89) 0 0 6)) := Eo.rf.kRI (Or.inr rfl)
  generalize hg : rI h 89 (cpy (hI h (s + 1)) (hI h 89) 0 0 6) = g at I1 E1 ⊢
  have e89 : ∀ k, k < 6 → hI g 89 k = V.1 k := fun k hk => by
    have e : hI g 89 = cpy (hI h (s + 1)) (hI h 89) 0 0 6 := by rw [← hg]; exact hI_rI_self
    rw [e, ← v1 k hk]
    unfold cpy
    rw [if_pos (show 0 ≤ k ∧ k < 0 + 6 by omega)]
    congr 1; omega
  have ss : ∀ b, b ≠ 88 → b ≠ 89 → hI g b = hI h b := fun b z1 z2 => E1.i (by rintro (z | z) <;> omega)
  refine w_gI I1 hs.s ?_
  refine w_fI I1 s_88 fun I2 => ?_
  refine w_gI I2 hs.s ?_
  refine w_fI I2 s_88 fun I3 => ?_
  refine w_gI I3 hs.s ?_
  refine w_fI I3 s_88 fun I4 => ?_
  refine w_gI I4 hs.s ?_
  refine w_fI I4 s_88 fun I5 => ?_
  simp only [hI_sI_ne hn]
  rw [ss s hn (by have := IsStay.s hs; intro z; rw [z, s_89] at this; exact absurd this (by decide)), v2, v3, v4]
  refine Wp.retv ⟨⟨fun k hk => ?_, ?_, ?_, ?_⟩, ?_, ?_⟩
  · simp only [hI_sI_ne (show (88 + 1 : Nat) ≠ 88 by decide)]; exact e89 k hk
  all_goals try (simp only [hI_sI_self]; rfl)
  iterate 4 refine Eo.kI ?_ (Or.inl rfl)
  exact E1
theorem m_117 {m k : Nat} {AL : Nat → ALaw} {s : Nat} (I : Inv h) (hs : IsStay s) (hn : s ≠ 88) (hV : cSv h s V) (hu : hI h s 1 = Int32.ofNat U) (hl : l < 6) (hm : m < 6) (hlm : m ≠ l) (hL : cLaws h AL) :
    Wp (K X (d + 5) 117 [.ref 62, .ref s, .int (Int32.ofNat l), .int (Int32.ofNat m), .int (Int32.ofNat k)] h) (VI fun x h' => x = bi (hgS V AL U l k m) ∧ Eo WT h h') := by
  have rg := hs.rg
  have n89 : s ≠ 89 := by have := IsStay.s hs; intro z; rw [z, s_89] at this; exact absurd this (by decide)
  rw [k_117]
  refine w_gL I s_62 l_62_9 ?_
  refine w_gS I s_88 ?_
  refine w_bV I (m_85 I hs hn hV) (by decide) rfl fun h1 I1 p => ?_
  obtain ⟨⟨p1, p2, p3, p4⟩, p5, E1⟩ := p
  refine w_gL I1 s_62 l_62_9 ?_
  refine w_gL I1 s_88 l_88_0 ?_
  refine w_aIn I1 s_89 hl (by decide) ?_
  refine w_wIn I1 s_89 hl (by decide) fun I2 => ?_
  refine w_gL I2 s_62 l_62_9 ?_
  refine w_gL I2 s_88 l_88_0 ?_
  refine w_aIn I2 s_89 hm (by decide) ?_
  refine w_gI I2 hs.s ?_
  have e1 : hI (sI h1 89 l (hI h1 89 l + Int32.ofNat k)) 89 m = V.1 m := by
    rw [hI_sI_self, up1, if_neg hlm]; exact p1 m hm
  have e2 : hI (sI h1 89 l (hI h1 89 l + Int32.ofNat k)) s 1 = Int32.ofNat U := by
    rw [hI_sI_ne n89, E1.i (by rintro (z | z) <;> omega)]; exact hu
  rw [e1, e2]
  refine w_wIn I2 s_89 hm (by decide) fun I3 => ?_
  have E3 : Eo (fun a => a = 88 ∨ a = 89) h (sI (sI h1 89 l (hI h1 89 l + Int32.ofNat k)) 89 m (V.1 m + (Int32.ofNat U - Int32.ofNat k))) := (E1.kI (Or.inr rfl)).kI (Or.inr rfl)
  refine w_gL I3 s_62 l_62_8 ?_
  refine w_gL I3 s_62 l_62_9 ?_
  have hV3 : cSv (sI (sI h1 89 l (hI h1 89 l + Int32.ofNat k)) 89 m (V.1 m + (Int32.ofNat U - Int32.ofNat k))) 88 (trV V U l m k) := by
    refine ⟨fun j hj => ?_, p2, p3, p4⟩
    show _ = if j = m then V.1 m + (Int32.ofNat U - Int32.ofNat k) else if j = l then V.1 l + Int32.ofNat k else V.1 j
    rw [hI_sI_self, up1, hI_sI_self, up1]
    by_cases z : j = m
    · rw [if_pos z, if_pos z]
    · rw [if_neg z, if_neg z]
      by_cases z2 : j = l
      · rw [if_pos z2, if_pos z2]
        show hI h1 89 l + _ = _
        rw [p1 l hl]
      · rw [if_neg z2, if_neg z2]; exact p1 j hj
  obtain ⟨L, a1, a2, a3, a4⟩ := hL l hl
  have IL := a2
  refine w_gS I3 s_274 ?_
  refine w_bI I3 (m_12 (A := AL l) (L := L) I3 (show IsStay 88 by show (88 : Nat) ∈ [88, 104, 121]; decide) hl hV3 ((E3.p (a := 64) (by rintro (z | z) <;> omega)).symm ▸ a1) a2 (a3.eo fun j hj => E3.i (by
    have := IsLaw.rg a2
    rintro (z | z) <;> omega)) a4) (by decide) rfl ?_
  rintro x h4 I4 ⟨rfl, -, E4⟩
  have : okN .boolean (bi (says (pF (trV V U l m k) l) (AL l).1)) := by unfold bi; split <;> decide
  refine w_gd this (Wp.reti ⟨rfl, (E3.wk fun a z => ?_).tr (E4.wk fun a z => ?_)⟩)
  · unfold WT; omega
  · unfold WT; omega
theorem c116_57 {h0 : Hp} {v1 : Option Value} (o : okA S) (q0 : RC h0 S) (hy : y < 2) (hl : l < 6) {k : Nat} {Q : Option Value → Hp → Prop} : ∀ (c m : Nat) (h : Hp) (v8 : Option Value), m + c = 6 → Inv h → Eo WT h0 h →
    (∀ h' v8, Inv h' → Eo WT h0 h' → Wp (sem (X, K X (d + 5)) 116 35 [some (.ref 62), v1, some (.int (Int32.ofNat l)), some (.ref (104 + 17 * y)), some (.int (bi (!anK (hgS (vY S y) (sL S) (cnt (sY S y).1 6 360) l) l (k + 1)))), some (.int (bi (!anK (fun k m => !hgS (vY S y) (sL S) (cnt (sY S y).1 6 360) l k m) l (k + 1)))), some (.int (Int32.ofNat (k + 1))), some (.int (Int32.ofNat 6)), v8] [] h') Q) →
    Wp (sem (X, K X (d + 5)) 116 57 [some (.ref 62), v1, some (.int (Int32.ofNat l)), some (.ref (104 + 17 * y)), some (.int (bi (!(anK (hgS (vY S y) (sL S) (cnt (sY S y).1 6 360) l) l k || anM (hgS (vY S y) (sL S) (cnt (sY S y).1 6 360) l k) l m)))), some (.int (bi (!(anK (fun k m => !hgS (vY S y) (sL S) (cnt (sY S y).1 6 360) l k m) l k || anM (fun m => !hgS (vY S y) (sL S) (cnt (sY S y).1 6 360) l k m) l m)))), some (.int (Int32.ofNat k)), some (.int (Int32.ofNat m)), v8] [] h) Q
  | 0, m, h, v8, em, I, g, q => by
    have em : m = 6 := by omega
    subst em
    rw [b_116_57]
    refine w_ift (by decide) ?_
    rw [i32_ofNat_succ]
    exact q h v8 I g
  | c + 1, m, h, v8, em, I, g, q => by
    have hm : m < 6 := by omega
    have st : ∀ f : Nat → Bool, anM f l (m + 1) = (anM f l m || (decide (m ≠ l) && f m)) := fun _ => rfl
    have ys := year_s hy
    have qc : RC h S := q0.scr o g fun a z => z.x
    have hc := qc.1.1 y hy
    rw [b_116_57]
    refine w_iff (fun z => absurd ((i_le (m := 6) (by omega) (by omega)).mp z) (by omega)) ?_
    refine w_if (fun c0 => ?_) (fun c0 => ?_)
    · have hn : m = l := (i_eq (by omega) (by omega)).mp c0
      have ih := c116_57 (v1 := v1) (k := k) o q0 hy hl c (m + 1) h v8 (by omega) I g q
      rw [st, st, decide_eq_false (fun z => z hn), Bool.false_and, Bool.false_and, Bool.or_false, Bool.or_false] at ih
      rw [i32_ofNat_succ]
      exact ih
    · have hn : m ≠ l := fun z => c0 (by rw [z])
      refine w_gS I s_62 ?_
      refine w_bI I (m_117 (d := d) (V := vY S y) (U := cnt (sY S y).1 6 360) I ys.2.2.2.2.2.2.2.2 (by omega) hc.2.1 hc.2.2.1 hl hm hn (qc.laws o)) (by decide) rfl ?_
      rintro x h1 I1 ⟨rfl, E1⟩
      have ih := fun v8 => c116_57 (v1 := v1) (k := k) o q0 hy hl c (m + 1) h1 v8 (by omega) I1 (g.tr E1) q
      rw [st, st, decide_eq_true hn, Bool.true_and, Bool.true_and, ← Bool.or_assoc, ← Bool.or_assoc] at ih
      generalize (anK (hgS (vY S y) (sL S) (cnt (sY S y).1 6 360) l) l k || anM (hgS (vY S y) (sL S) (cnt (sY S y).1 6 360) l k) l m) = A at ih ⊢
      generalize (anK (fun k m => !hgS (vY S y) (sL S) (cnt (sY S y).1 6 360) l k m) l k || anM (fun m => !hgS (vY S y) (sL S) (cnt (sY S y).1 6 360) l k m) l m) = B at ih ⊢
      generalize hgS (vY S y) (sL S) (cnt (sY S y).1 6 360) l k m = R at ih ⊢
      have fin : ∀ s0, s0 = bi (!(A || R)) → Wp (sem (X, K X (d + 5)) 116 97 [some (.ref 62), v1, some (.int (Int32.ofNat l)), some (.ref (104 + 17 * y)), some (.int (bi (!A))), some (.int (bi (!B))), some (.int (Int32.ofNat k)), some (.int (Int32.ofNat m)), some (.int (bi R))] [.int s0] h1) Q := fun s0 z => by
        subst z
        rw [b_116_97, i32_ofNat_succ]
        cases B
        · refine w_iff (by decide) ?_
          cases R
          · exact w_ift (by decide) (ih _)
          · exact w_iff (by decide) (ih _)
        · exact w_ift (by decide) (ih _)
      cases A
      · refine w_iff (by decide) ?_
        cases R
        · exact w_iff (by decide) (fin 1 rfl)
        · exact w_ift (by decide) (fin 0 rfl)
      · exact w_ift (by decide) (fin 0 rfl)
theorem c116_35 {h0 : Hp} {v1 : Option Value} (o : okA S) (q0 : RC h0 S) (hy : y < 2) (hl : l < 6) : ∀ (c k : Nat) (h : Hp) (v7 v8 : Option Value), k + c = cnt (sY S y).1 6 360 + 1 → Inv h → Eo WT h0 h →
    Wp (sem (X, K X (d + 5)) 116 35 [some (.ref 62), v1, some (.int (Int32.ofNat l)), some (.ref (104 + 17 * y)), some (.int (bi (!anK (hgS (vY S y) (sL S) (cnt (sY S y).1 6 360) l) l k))), some (.int (bi (!anK (fun k m => !hgS (vY S y) (sL S) (cnt (sY S y).1 6 360) l k m) l k))), some (.int (Int32.ofNat k)), v7, v8] [] h) (VI fun x h' => x = hangY S y l ∧ Eo WT h0 h')
  | c, k, h, v7, v8, em, I, g => by
    have qc : RC h S := q0.scr o g fun a z => z.x
    have hc := qc.1.1 y hy
    have U360 : cnt (sY S y).1 6 360 ≤ 360 := cnt_le _ _ _
    rw [b_116_35]
    refine w_gI I (year_s hy).2.2.1 ?_
    rw [hc.2.2.1]
    match c with
    | 0 =>
      have em : k = cnt (sY S y).1 6 360 + 1 := by omega
      refine w_ift ((i_lt (by omega) (by omega)).mpr (by omega)) ?_
      unfold hangY hangB
      rw [em]
      cases anK (hgS (vY S y) (sL S) (cnt (sY S y).1 6 360) l) l (cnt (sY S y).1 6 360 + 1)
      · exact w_iff (by decide) (Wp.reti ⟨rfl, g⟩)
      · refine w_ift (by decide) ?_
        cases anK (fun k m => !hgS (vY S y) (sL S) (cnt (sY S y).1 6 360) l k m) l (cnt (sY S y).1 6 360 + 1)
        · exact w_iff (by decide) (Wp.reti ⟨rfl, g⟩)
        · exact w_ift (by decide) (Wp.reti ⟨rfl, g⟩)
    | c + 1 =>
      refine w_iff (fun z => absurd ((i_lt (by omega) (by omega)).mp z) (by omega)) ?_
      have z := fun v8 => c116_57 (X := X) (d := d) (k := k) (v1 := v1) o q0 hy hl 6 0 h v8 rfl I g (fun h' v8 I' g' => c116_35 o q0 hy hl c (k + 1) h' _ v8 (by omega) I' g')
      have e : ∀ b, (b || anM (hgS (vY S y) (sL S) (cnt (sY S y).1 6 360) l k) l 0) = b := fun b => Bool.or_false b
      have e' : ∀ b, (b || anM (fun m => !hgS (vY S y) (sL S) (cnt (sY S y).1 6 360) l k m) l 0) = b := fun b => Bool.or_false b
      rw [e, e'] at z
      have m1 := anK_mono (f := hgS (vY S y) (sL S) (cnt (sY S y).1 6 360) l) (l := l) (show k ≤ cnt (sY S y).1 6 360 + 1 by omega)
      have m2 := anK_mono (f := fun k m => !hgS (vY S y) (sL S) (cnt (sY S y).1 6 360) l k m) (l := l) (show k ≤ cnt (sY S y).1 6 360 + 1 by omega)
      cases ha : anK (hgS (vY S y) (sL S) (cnt (sY S y).1 6 360) l) l k
      · rw [ha] at z
        exact w_ift (by decide) (z _)
      · rw [ha] at z
        refine w_iff (by decide) ?_
        cases hb : anK (fun k m => !hgS (vY S y) (sL S) (cnt (sY S y).1 6 360) l k m) l k
        · rw [hb] at z
          exact w_iff (by decide) (z _)
        · refine w_ift (by decide) (w_ift (by decide) (w_ift (by decide) (Wp.reti ⟨?_, g⟩)))
          unfold hangY hangB
          rw [if_pos (m1 ha), if_pos (m2 hb)]
theorem c_hangs {y l : Int32} (I : Inv h) (q : RC h S) (o : okA S) :
    Wp (K X (d + 6) 116 [.ref 62, .int y, .int l] h) (VI fun v h' => v = hangP S y l ∧ Cl h h' ∧ RC h' S) := by
  rw [k_116]
  refine w_eI yr_c ?_
  refine w_if (fun c => Wp.reti ⟨(hangP_no (fun z => bi_dec.mp c z.1)).symm, Eo.rf, q⟩) (fun c => ?_)
  have hy : isYr y := Classical.byContradiction fun z => c (bi_dec.mpr z)
  refine w_eI ld_c ?_
  refine w_if (fun c => ?_) (fun c => Wp.reti ⟨(hangP_no (fun z => bi_dec.mp (Classical.byContradiction c) z.2)).symm, Eo.rf, q⟩)
  have hl : isLd l := Classical.byContradiction fun z => c (bi_dec.mpr z)
  obtain ⟨yn, y2, rfl⟩ := yr_nat hy
  obtain ⟨ln, l6, rfl⟩ := ld_nat hl
  have er : hangP S (Int32.ofNat yn) (Int32.ofNat ln) = hangY S yn ln := by
    unfold hangP; rw [if_pos ⟨hy, hl⟩, dN_of (by omega), dN_of (by omega)]
  rw [er]
  have ys := year_s y2
  refine w_gL I s_62 l_62_0 ?_
  refine w_aLn I s_63 (by decide) (by decide) y2 (by decide) (lk_years yn y2) ?_
  refine w_gL I ys.1 ys.2.2.2.2.2.2.1 ?_
  refine (c116_35 (d := d) (v1 := some (.int (Int32.ofNat yn))) (l := ln) o q y2 l6 (cnt (sY S yn).1 6 360 + 1) 0 h none none (by omega) I Eo.rf).mono ?_
  rintro _ h' ⟨x, rfl, rfl, E⟩
  exact ⟨_, rfl, rfl, E.wk fun a z => by have := z.x; unfold WX WS at this; omega, q.scr o E fun a z => z.x⟩
end HC
