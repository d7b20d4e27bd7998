/-! OWES, of the model -/
section OM
variable {X : Ctx} {d : Nat} {Q : Option Value → Hp → Prop} {S : AS} {h : Hp}
theorem w_finds {y : Nat} {h1 : Hp} {f : Hp → Option (Option Value × Hp)} (I1 : Inv h1) (q1 : RM h1 S) (o : okA S) (p : LaysP (sY S y) (sPc S) h h1) (k : ∀ h', Inv h' → RM h' S → Mo h1 h' → MhP (sY S y) (sL S) (sPc S) h h' → Wp (f h') Q) :
    Wp (gd (hS h1 301 = (12, 0)) (bV (K X (d + 5) 197 [.ref 301] h1) f)) Q := by
  obtain ⟨p1, p2, p3, p4, p5, p6, p7, p8, p9⟩ := p
  refine w_gS I1 s_301 ?_
  refine w_bV I1 (m_197 I1 p2 (q1.laws o) (q1.tests o)) (by decide) rfl fun h2 I2 r => ?_
  obtain ⟨r1, r2, r3, r4, r5⟩ := r
  have E2 : Eo inMS h1 h2 := r1.wk fun a z => by unfold WH at z; unfold inMS; omega
  have E : Eo inMS h h2 := (p1.wk fun a z => by unfold WLY at z; unfold inMS; omega).tr E2
  obtain ⟨v1, v2, v3, v4⟩ := p2
  refine k h2 I2 (q1.scr E2 (fun k hk => r4 k (by omega) (by omega))) (inMS_mo E2) ⟨E, fun k hk => (r4 k (by omega) (by omega)).trans (p8 k (by omega)), r5.trans p9, ⟨fun k hk => by rw [r1.i (by unfold WH; omega)]; exact v1 k hk, by rw [r4 52 (by decide) (by decide)]; exact v2, by rw [r4 53 (by decide) (by decide)]; exact v3, by rw [r4 54 (by decide) (by decide)]; exact v4⟩, by rw [r4 55 (by decide) (by decide)]; exact p3, by rw [r4 56 (by decide) (by decide)]; exact p4, by rw [r4 57 (by decide) (by decide)]; exact p5, ?_, ?_, r2, r3⟩
  · exact rSums.eo (r1.i (by unfold WH; omega)) (r1.i (by unfold WH; omega)) (r1.i (by unfold WH; omega)) (r1.i (by unfold WH; omega)) (r1.i (by unfold WH; omega)) p6
  · exact p7.eo (r1.i (by unfold WH; omega)) (r1.i (by unfold WH; omega)) (r1.i (by unfold WH; omega)) (r1.i (by unfold WH; omega))
/-- as MvE, but for two ints that tell of what is owed -/
def MvO (h h' : Hp) : Prop := Eo WMod h h' ∧ ∀ k, k ≠ 71 → k ≠ 72 → hI h' 301 k = hI h 301 k
theorem MvE.o {h h' : Hp} (a : MvE h h') : MvO h h' := ⟨a.1, fun k _ _ => by rw [a.2]⟩
theorem MvO.tr {h h' h'' : Hp} (a : MvO h h') (b : MvO h' h'') : MvO h h'' := ⟨a.1.tr b.1, fun k h1 h2 => (b.2 k h1 h2).trans (a.2 k h1 h2)⟩
theorem MvO.set {h h' : Hp} {k : Nat} {v : Int32} (a : MvO h h') (hk : k = 71 ∨ k = 72) : MvO h (sI h' 301 k v) := ⟨a.1.kI (Or.inl rfl), fun j h1 h2 => by
  rw [hI_sI_self, up1, if_neg (by omega)]; exact a.2 j h1 h2⟩
theorem LvM.eo2 {V : Sv} {AL : Nat → ALaw} {PA : Nat → APact} {Bn : Nat} {r : List SumT} {h h' : Hp} (q : LvM h V AL PA Bn r) (e : MvO h h') : LvM h' V AL PA Bn r := by
  obtain ⟨q1, q2, q3, ⟨v1, v2, v3, v4⟩, q5, q6, q7⟩ := q
  obtain ⟨e1, e2⟩ := e
  refine ⟨q1.eo (e1.i (by unfold WMod; omega)) (e1.i (by unfold WMod; omega)) (e1.i (by unfold WMod; omega)) (e1.i (by unfold WMod; omega)) (e1.i (by unfold WMod; omega)), by rw [e2 63 (by decide) (by decide)]; exact q2, by rw [e2 57 (by decide) (by decide)]; exact q3, ⟨by rw [e1.i (show ¬ WMod 335 by unfold WMod; omega)]; exact v1, by rw [e2 52 (by decide) (by decide)]; exact v2, by rw [e2 53 (by decide) (by decide)]; exact v3, by rw [e2 54 (by decide) (by decide)]; exact v4⟩, q5.eo (e1.i (by unfold WMod; omega)) (e1.i (by unfold WMod; omega)) (e1.i (by unfold WMod; omega)) (e1.i (by unfold WMod; omega)) (e1.i (by unfold WMod; omega)), q6.eo e1 fun a ha => by unfold inML at ha; unfold WMod; omega, q7⟩
theorem isT.eo2 {h h' : Hp} {i : Nat} {T : SumT} (q : isT h i T) (e : MvO h h') : isT h' i T := by
  unfold isT
  rw [e.1.i (show ¬ WMod 336 by unfold WMod; omega), e.1.i (show ¬ WMod 337 by unfold WMod; omega), e.1.i (show ¬ WMod 338 by unfold WMod; omega), e.1.i (show ¬ WMod 339 by unfold WMod; omega), e.1.i (show ¬ WMod 340 by unfold WMod; omega)]
  exact q
theorem RM.lvO {h' : Hp} (q : RM h S) (e : MvO h h') : RM h' S ∧ Mo h h' := by
  refine ⟨q.eo (fun a h1 h2 h3 => ?_) (fun k hk => e.2 k (by omega) (by omega)), e.1.wk fun a z => by unfold WMod at z; omega⟩
  have : ¬ WMod a := fun z => h3 (by unfold WMod at z; unfold inMS; omega)
  exact ⟨e.1.i this, e.1.j this⟩
theorem or_0 (x : Int32) : x ||| 0 = x := bt_ext fun k _ => by rw [bt_or, bt_zero, Bool.or_false]
/-- as far as SUM i -/
def OwM (S : AS) (y : Nat) (h1 h : Hp) (i : Nat) : Prop := MvO h1 h ∧ hI h 301 71 = msk (owF S y 0 0) i ∧ hI h 301 72 = msk (owF S y 2 6) i
theorem c215_38 {y i : Nat} {h1 : Hp} (hi : i < 12) (ht : ∀ l, l < 6 → hJ h 346 l = Int64.ofInt (tkS S y i l)) (jt : ∀ l, l < 6 → jr (tkS S y i l)) (I : Inv h) (w : OwM S y h1 h i) (k : ∀ h2 v4 v5, Inv h2 → OwM S y h1 h2 (i + 1) → Wp (sem (X, K X d) 215 18 [some (.ref 301), some (.long (Int64.ofInt (owT S y (i + 1)))), none, some (.int (Int32.ofNat (i + 1))), v4, v5] [] h2) Q) : ∀ (c l : Nat), l + c = 6 →
    Wp (sem (X, K X d) 215 38 [some (.ref 301), some (.long (Int64.ofInt (owT S y i + sumTo6 (tkS S y i) l))), none, some (.int (Int32.ofNat i)), some (.int (Int32.ofNat (posN (tkS S y i) l))), some (.int (Int32.ofNat l))] [] h) Q
  | 0, l, el => by
    have el : l = 6 := by omega
    subst el
    have pn := posN_le (tkS S y i) 6
    have sm : ∀ lo hi, msk (owF S y lo hi) (i + 1) = if owF S y lo hi i then msk (owF S y lo hi) i ||| (1 <<< (Int32.ofNat i &&& 31)) else msk (owF S y lo hi) i := fun _ _ => rfl
    have fin : ∀ s2, (hI h 301 71 ||| s2) = msk (owF S y 0 0) (i + 1) → Wp (sem (X, K X d) 215 100 [some (.ref 301), some (.long (Int64.ofInt (owT S y i + sumTo6 (tkS S y i) 6))), none, some (.int (Int32.ofNat i)), some (.int (Int32.ofNat (posN (tkS S y i) 6))), some (.int (Int32.ofNat 6))] [.int s2, .int (hI h 301 71), .ref 301] h) Q := fun s2 e1 => by
      rw [b_215_100]
      refine w_fI I s_301 fun I2 => ?_
      refine w_gI I2 s_301 ?_
      have e72 : hI (sI h 301 71 (hI h 301 71 ||| s2)) 301 72 = msk (owF S y 2 6) i := by
        rw [hI_sI_self, up1, if_neg (by decide)]; exact w.2.2
      have two : ∀ v, v = msk (owF S y 2 6) (i + 1) → Wp (fI (sI h 301 71 (hI h 301 71 ||| s2)) 11 301 72 v fun h2 => sem (X, K X d) 215 18 [some (.ref 301), some (.long (Int64.ofInt (owT S y i + sumTo6 (tkS S y i) 6))), none, some (.int (Int32.ofNat i + 1)), some (.int (Int32.ofNat (posN (tkS S y i) 6))), some (.int (Int32.ofNat 6))] [] h2) Q := fun v ev => by
        refine w_fI I2 s_301 fun I3 => ?_
        rw [i32_ofNat_succ]
        refine k _ _ _ I3 ⟨(w.1.set (Or.inl rfl)).set (Or.inr rfl), ?_, ?_⟩
        · rw [hI_sI_self, up1, if_neg (by decide), hI_sI_self, up1, if_pos rfl, e1]
        · rw [hI_sI_self, up1, if_pos rfl, ev]
      rw [e72]
      refine w_if (fun c => ?_) (fun c => ?_)
      · have z : posN (tkS S y i) 6 ≤ 1 := (i_le (n := 1) (by omega) (by omega)).mp c
        refine two _ ?_
        have : owF S y 2 6 i = false := decide_eq_false fun w => by have := w.1; unfold tkC at this; omega
        rw [sm, this, if_neg (by decide), or_0]
      · have z : ¬ posN (tkS S y i) 6 ≤ 1 := fun z => c ((i_le (n := 1) (by omega) (by omega)).mpr z)
        refine two _ ?_
        have : owF S y 2 6 i = true := decide_eq_true ⟨by unfold tkC; omega, pn⟩
        rw [sm, this, if_pos rfl]
    rw [b_215_38]
    refine w_ift (by decide) ?_
    refine w_gI I s_301 ?_
    refine w_if (fun c => ?_) (fun c => ?_)
    · refine fin 0 ?_
      have : owF S y 0 0 i = false := decide_eq_false fun w => c (by have := w.2; unfold tkC at this; rw [show posN (tkS S y i) 6 = 0 by omega]; rfl)
      rw [sm, this, if_neg (by decide), or_0]
      exact w.2.1
    · refine fin _ ?_
      have z : posN (tkS S y i) 6 = 0 := (i_eq (n := 0) (by omega) (by omega)).mp (Classical.byContradiction c)
      have : owF S y 0 0 i = true := decide_eq_true ⟨Nat.zero_le _, by unfold tkC; omega⟩
      rw [sm, this, if_pos rfl, w.2.1]
  | c + 1, l, el => by
    have hl : l < 6 := by omega
    have pn := posN_le (tkS S y i) l
    have ih := c215_38 hi ht jt I w k c (l + 1) (by omega)
    have st : posN (tkS S y i) (l + 1) = posN (tkS S y i) l + if 0 < tkS S y i l then 1 else 0 := rfl
    have s2 : owT S y i + sumTo6 (tkS S y i) (l + 1) = owT S y i + sumTo6 (tkS S y i) l + tkS S y i l := (Int.add_assoc _ _ _).symm
    rw [b_215_38]
    refine w_iff (fun z => absurd ((i_le (m := 6) (by omega) (by omega)).mp z) (by omega)) ?_
    refine w_gL I s_301 l_301_65 ?_
    refine w_aJn I s_346 hl (by decide) ?_
    refine w_gL I s_301 l_301_65 ?_
    refine w_aJn I s_346 hl (by decide) ?_
    rw [ht l hl, ← Int64.ofInt_add, i32_ofNat_succ]
    rw [s2] at ih
    refine w_if (fun c0 => ?_) (fun c0 => ?_)
    · have := (j_le (b := 0) (jt l hl) (by unfold jr; omega)).mp ((lg_cmp_le _ _).mp c0)
      rw [st, if_neg (by omega), Nat.add_zero] at ih
      rw [Int32.add_zero]
      exact ih
    · have : ¬ tkS S y i l ≤ 0 := fun z => c0 ((lg_cmp_le _ _).mpr ((j_le (b := 0) (jt l hl) (by unfold jr; omega)).mpr z))
      rw [st, if_pos (by omega)] at ih
      rw [i32_ofNat_succ]
      exact ih
theorem c215_18 {y : Nat} {h1 : Hp} (o : okA S) (hy : y < 2) (L : LvM h1 (vY S y) (sL S) (sPc S) (vB S y) (sY S y).2.2.2.2) (hn : hI h1 301 55 = Int32.ofNat (nS S y)) : ∀ (c i : Nat) (h : Hp) (v4 v5 : Option Value), i + c = nS S y → Inv h → OwM S y h1 h i →
    Wp (sem (X, K X (d + 6)) 215 18 [some (.ref 301), some (.long (Int64.ofInt (owT S y i))), none, some (.int (Int32.ofNat i)), v4, v5] [] h) (VJ fun x h' => x = Int64.ofInt (owT S y (nS S y)) ∧ OwM S y h1 h' (nS S y))
  | 0, i, h, v4, v5, ei, I, w => by
    have ei : i = nS S y := by omega
    rw [b_215_18]
    refine w_gI I s_301 ?_
    rw [w.1.2 55 (by decide) (by decide), hn, ei]
    exact w_ift (Int32.le_refl _) (Wp.retj ⟨rfl, by rw [← ei]; exact w⟩)
  | c + 1, i, h, v4, v5, ei, I, w => by
    have n12 : nS S y ≤ 12 := (o.1 y hy).2.1
    have hi : i < nS S y := by omega
    have mem := sumA_mem hi
    have oT := (o.1 y hy).2.2 _ mem.1
    have hB := baseB o hy hi
    have L' := L.eo2 w.1
    have hT : isT h i (sumA S y i) := by
      have := rSums.at L'.2.2.2.2.1 hi
      rw [mem.2, Nat.zero_add] at this
      exact ⟨by omega, this⟩
    have jt : ∀ l, l < 6 → jr (tkS S y i l) := fun l hl => by
      have := tak_bd (V := vY S y) (AL := sL S) (PA := sPc S) (B := (vB S y : Int)) oT o.2.1 (by unfold vB; omega) hl
      unfold tkS jr; omega
    rw [b_215_18]
    refine w_gI I s_301 ?_
    rw [w.1.2 55 (by decide) (by decide), hn]
    refine w_iff (fun z => absurd ((i_le (by omega) (by omega)).mp z) (by omega)) ?_
    refine w_gS I s_301 ?_
    refine w_bI I (m_213 I L' hT oT hB) (by decide) rfl ?_
    rintro x h2 I2 ⟨rfl, f⟩
    have n1 : hI h2 301 = hI h 301 := f.1.2
    have w2 : OwM S y h1 h2 i := ⟨w.1.tr f.1.o, by rw [n1]; exact w.2.1, by rw [n1]; exact w.2.2⟩
    have go := c215_38 (X := X) (d := d + 6) (Q := VJ fun x h' => x = Int64.ofInt (owT S y (nS S y)) ∧ OwM S y h1 h' (nS S y)) (by omega) f.2.2 jt I2 w2 (fun h3 v4 v5 I3 w3 => c215_18 o hy L hn c (i + 1) h3 v4 v5 (by omega) I3 w3) 6 0 rfl
    rw [show owT S y i + sumTo6 (tkS S y i) 0 = owT S y i from Int.add_zero _] at go
    exact go
end OM
