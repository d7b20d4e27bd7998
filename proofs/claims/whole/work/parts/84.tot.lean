/-! WHAT IS OWED, of any view, any pacts, any sums: both sides -/
def owG (V : Sv) (AL : Nat → ALaw) (PA : Nat → APact) (B : Int) (r : List SumT) : Nat → Int
  | 0 => 0
  | n + 1 => owG V AL PA B r n + sumTo6 (takP V AL PA B (r.getD n (0, 0, 0, 0, 0))) 6
def okRs (r : List SumT) : Prop := r.length ≤ 12 ∧ ∀ T, T ∈ r → okSm T
/-- OWES -/
def totG (V : Sv) (AL : Nat → ALaw) (PA : Nat → APact) (r : List SumT) : Int := owG V AL PA (sumB r : Nat) r r.length
theorem owT_G {S : AS} {y : Nat} : ∀ n, owT S y n = owG (vY S y) (sL S) (sPc S) (vB S y : Nat) (sY S y).2.2.2.2 n
  | 0 => rfl
  | n + 1 => by
    show owT S y n + _ = owG (vY S y) (sL S) (sPc S) (vB S y : Nat) (sY S y).2.2.2.2 n + _
    rw [owT_G n]; rfl
theorem owT_tot {S : AS} {y : Nat} : owT S y (nS S y) = totG (vY S y) (sL S) (sPc S) (sY S y).2.2.2.2 := owT_G _
theorem getD_mem {r : List SumT} {i : Nat} (h : i < r.length) : r.getD i (0, 0, 0, 0, 0) ∈ r ∧ r[i] = r.getD i (0, 0, 0, 0, 0) := by
  have e : r.getD i (0, 0, 0, 0, 0) = r[i] := by
    rw [List.getD_eq_getElem?_getD, List.getElem?_eq_getElem h]; rfl
  rw [e]
  exact ⟨List.getElem_mem h, rfl⟩
theorem baseG {r : List SumT} {i : Nat} (o : okRs r) (hi : i < r.length) : 0 < sumB r ∧ sumB r ≤ 99999999 := by
  have m := getD_mem hi
  have b := sumB_ge m.1
  have c := (o.2 _ m.1).2.2.2.1
  have e := sumB_le o.2
  have f : 999999 * r.length ≤ 999999 * 12 := Nat.mul_le_mul_left _ o.1
  omega
theorem HearP.lvc {V : Sv} {AL : Nat → ALaw} {PA : Nat → APact} {B : Int} {h0 h : Hp} (q : HearP V AL PA B h0 h) (L : cLaws h AL) (P : cPacts h PA) : LvC h V AL PA B := by
  obtain ⟨q1, q2, q3, q4, q5, q6, q7, g, g1, u1, u2, u3, u4, u5, u6, u7, u8⟩ := q
  exact ⟨fun l hl k hk => q2 l hl k (by omega), q6, q4, q7, u6, u7, u8, ⟨65, Or.inl rfl, u2, P.terms2⟩, L⟩
section TG
variable {X : Ctx} {d : Nat} {Q : Option Value → Hp → Prop} {V : Sv} {AL : Nat → ALaw} {PA : Nat → APact} {r : List SumT} {h : Hp}
theorem g20_5 {y : Nat} {h1 : Hp} (hy : y < 2) (o : okRs r) (oL : ∀ l, l < 6 → okL (AL l)) (L1 : LvC h1 V AL PA (sumB r : Nat)) (hn : hI h1 (102 + 17 * y) 3 = Int32.ofNat r.length) (hs : cSums h1 (107 + 17 * y) r) : ∀ (c i : Nat) (h : Hp), i + c = r.length → Inv h → LvE h1 h → (∃ ro, Rg h ro) →
    Wp (sem (X, K X (d + 6)) 20 5 [some (.ref 274), some (.ref (102 + 17 * y)), some (.long (Int64.ofInt (owG V AL PA (sumB r : Nat) r i))), none, some (.int (Int32.ofNat i))] [] h) (VJ fun x h' => x = Int64.ofInt (totG V AL PA r) ∧ LvE h1 h' ∧ ∃ ro, Rg h' ro)
  | 0, i, h, ei, I, E, g => by
    have n12 : r.length ≤ 12 := o.1
    have ei : i = r.length := by omega
    rw [b_20_5]
    refine w_gI I (year_s hy).1 ?_
    rw [E.1.i (show ¬ WL (102 + 17 * y) by unfold WL; omega), hn, ei]
    exact w_ift (Int32.le_refl _) (Wp.retj ⟨rfl, E, g⟩)
  | c + 1, i, h, ei, I, E, g => by
    have n12 : r.length ≤ 12 := o.1
    have hi : i < r.length := by omega
    have i12 : i < 12 := by omega
    have mem := getD_mem hi
    have oT := o.2 _ mem.1
    have hB := baseG o hi
    have hu2 : 107 + 17 * y + i < 274 := by omega
    have hT : cSum h1 (107 + 17 * y + i) (r.getD i (0, 0, 0, 0, 0)) := by
      have := hs.at hi
      rw [mem.2] at this
      exact this
    obtain ⟨ro, g⟩ := g
    rw [b_20_5]
    refine w_gI I (year_s hy).1 ?_
    rw [E.1.i (show ¬ WL (102 + 17 * y) by unfold WL; omega), hn]
    refine w_iff (fun z => absurd ((i_le (by omega) (by omega)).mp z) (by omega)) ?_
    refine w_gL I (year_s hy).1 (year_s hy).2.2.2.2.2.2.2.1 ?_
    refine w_aLn I (year_s hy).2.2.2.2.1 (by decide) (by decide) i12 (by decide) (lk_sums y hy i i12) ?_
    refine w_gS I s_274 ?_
    refine w_bJ I (m_21 I (sum_s hy i12) hu2 (L1.eo E) (E.sum hu2 hT) oT ⟨by omega, by omega⟩ oL g) (by decide) rfl ?_
    rintro x h2 I2 ⟨rfl, e1, e2, e3, e4, e5⟩
    rw [← Int64.ofInt_add, i32_ofNat_succ]
    exact g20_5 hy o oL L1 hn hs c (i + 1) h2 (by omega) I2 (E.tr e1) e2
/-- settleAll -/
theorem g20 {y : Nat} (I : Inv h) (hy : y < 2) (o : okRs r) (oL : ∀ l, l < 6 → okL (AL l)) (L1 : LvC h V AL PA (sumB r : Nat)) (hn : hI h (102 + 17 * y) 3 = Int32.ofNat r.length) (hs : cSums h (107 + 17 * y) r) (g : ∃ ro, Rg h ro) :
    Wp (K X (d + 7) 20 [.ref 274, .ref (102 + 17 * y)] h) (VJ fun x h' => x = Int64.ofInt (totG V AL PA r) ∧ LvE h h' ∧ ∃ ro, Rg h' ro) := by
  rw [k_20]
  exact g20_5 hy o oL L1 hn hs r.length 0 h (by omega) I LvE.rf g
theorem g215_38 {i : Nat} {a : Int} {t : Nat → Int} {h1 : Hp} (ht : ∀ l, l < 6 → hJ h 346 l = Int64.ofInt (t l)) (jt : ∀ l, l < 6 → jr (t l)) (I : Inv h) (w : MvO h1 h) (k : ∀ h2 v4 v5, Inv h2 → MvO h1 h2 → Wp (sem (X, K X d) 215 18 [some (.ref 301), some (.long (Int64.ofInt (a + sumTo6 t 6))), none, some (.int (Int32.ofNat (i + 1))), v4, v5] [] h2) Q) : ∀ (c l : Nat), l + c = 6 →
    Wp (sem (X, K X d) 215 38 [some (.ref 301), some (.long (Int64.ofInt (a + sumTo6 t l))), none, some (.int (Int32.ofNat i)), some (.int (Int32.ofNat (posN t l))), some (.int (Int32.ofNat l))] [] h) Q
  | 0, l, el => by
    have el : l = 6 := by omega
    subst el
    have fin : ∀ s2 x, Wp (sem (X, K X d) 215 100 [some (.ref 301), some (.long (Int64.ofInt (a + sumTo6 t 6))), none, some (.int (Int32.ofNat i)), some (.int (Int32.ofNat (posN t 6))), some (.int (Int32.ofNat 6))] [.int s2, .int x, .ref 301] h) Q := fun s2 x => by
      rw [b_215_100]
      refine w_fI I s_301 fun I2 => ?_
      refine w_gI I2 s_301 ?_
      have two : ∀ v, Wp (fI (sI h 301 71 (x ||| s2)) 11 301 72 v fun h2 => sem (X, K X d) 215 18 [some (.ref 301), some (.long (Int64.ofInt (a + sumTo6 t 6))), none, some (.int (Int32.ofNat i + 1)), some (.int (Int32.ofNat (posN t 6))), some (.int (Int32.ofNat 6))] [] h2) Q := fun v => by
        refine w_fI I2 s_301 fun I3 => ?_
        rw [i32_ofNat_succ]
        exact k _ _ _ I3 ((w.set (Or.inl rfl)).set (Or.inr rfl))
      exact w_if (fun _ => two _) (fun _ => two _)
    rw [b_215_38]
    refine w_ift (by decide) ?_
    refine w_gI I s_301 ?_
    exact w_if (fun _ => fin _ _) (fun _ => fin _ _)
  | c + 1, l, el => by
    have hl : l < 6 := by omega
    have pn := posN_le t l
    have ih := g215_38 (a := a) ht jt I w k c (l + 1) (by omega)
    have st : posN t (l + 1) = posN t l + if 0 < t l then 1 else 0 := rfl
    have s2 : a + sumTo6 t (l + 1) = a + sumTo6 t l + t l := (Int.add_assoc _ _ _).symm
    rw [b_215_38]
    refine w_iff (fun z => absurd ((i_le (m := 6) (by omega) (by omega)).mp z) (by omega)) ?_
    refine w_gL I s_301 l_301_65 ?_
    refine w_aJn I s_346 hl (by decide) ?_
    refine w_gL I s_301 l_301_65 ?_
    refine w_aJn I s_346 hl (by decide) ?_
    rw [ht l hl, ← Int64.ofInt_add, i32_ofNat_succ]
    rw [s2] at ih
    refine w_if (fun c0 => ?_) (fun c0 => ?_)
    · have := (j_le (b := 0) (jt l hl) (by unfold jr; omega)).mp ((lg_cmp_le _ _).mp c0)
      rw [st, if_neg (by omega), Nat.add_zero] at ih
      rw [Int32.add_zero]
      exact ih
    · have : ¬ t l ≤ 0 := fun z => c0 ((lg_cmp_le _ _).mpr ((j_le (b := 0) (jt l hl) (by unfold jr; omega)).mpr z))
      rw [st, if_pos (by omega)] at ih
      rw [i32_ofNat_succ]
      exact ih
theorem g215_18 {h1 : Hp} (o : okRs r) (L : LvM h1 V AL PA (sumB r) r) (hn : hI h1 301 55 = Int32.ofNat r.length) : ∀ (c i : Nat) (h : Hp) (v4 v5 : Option Value), i + c = r.length → Inv h → MvO h1 h →
    Wp (sem (X, K X (d + 6)) 215 18 [some (.ref 301), some (.long (Int64.ofInt (owG V AL PA (sumB r : Nat) r i))), none, some (.int (Int32.ofNat i)), v4, v5] [] h) (VJ fun x h' => x = Int64.ofInt (totG V AL PA r) ∧ MvO h1 h')
  | 0, i, h, v4, v5, ei, I, w => by
    have n12 : r.length ≤ 12 := o.1
    have ei : i = r.length := by omega
    rw [b_215_18]
    refine w_gI I s_301 ?_
    rw [w.2 55 (by decide) (by decide), hn, ei]
    exact w_ift (Int32.le_refl _) (Wp.retj ⟨rfl, w⟩)
  | c + 1, i, h, v4, v5, ei, I, w => by
    have n12 : r.length ≤ 12 := o.1
    have hi : i < r.length := by omega
    have mem := getD_mem hi
    have oT := o.2 _ mem.1
    have hB := baseG o hi
    have L' := L.eo2 w
    have hT : isT h i (r.getD i (0, 0, 0, 0, 0)) := by
      have := rSums.at L'.2.2.2.2.1 hi
      rw [mem.2, Nat.zero_add] at this
      exact ⟨by omega, this⟩
    have jt : ∀ l, l < 6 → jr (takP V AL PA (sumB r : Nat) (r.getD i (0, 0, 0, 0, 0)) l) := fun l hl => by
      have := tak_bd (V := V) (AL := AL) (PA := PA) (B := (sumB r : Nat)) oT (fun l hl => (L.2.2.2.2.2.1 l hl).2) (by omega) hl
      unfold jr; omega
    rw [b_215_18]
    refine w_gI I s_301 ?_
    rw [w.2 55 (by decide) (by decide), hn]
    refine w_iff (fun z => absurd ((i_le (by omega) (by omega)).mp z) (by omega)) ?_
    refine w_gS I s_301 ?_
    refine w_bI I (m_213 I L' hT oT hB) (by decide) rfl ?_
    rintro x h2 I2 ⟨rfl, f⟩
    have go := g215_38 (X := X) (d := d + 6) (Q := VJ fun x h' => x = Int64.ofInt (totG V AL PA r) ∧ MvO h1 h') (a := owG V AL PA (sumB r : Nat) r i) (i := i) f.2.2 jt I2 (w.tr f.1.o) (fun h3 v4 v5 I3 w3 => g215_18 o L hn c (i + 1) h3 v4 v5 (by omega) I3 w3) 6 0 rfl
    rw [show owG V AL PA (sumB r : Nat) r i + sumTo6 (takP V AL PA (sumB r : Nat) (r.getD i (0, 0, 0, 0, 0))) 0 = owG V AL PA (sumB r : Nat) r i from Int.add_zero _] at go
    exact go
/-- what a year laid out is for the model -/
def LaidM (h : Hp) (V : Sv) (AL : Nat → ALaw) (PA : Nat → APact) (r : List SumT) : Prop := mSv h V ∧ hI h 301 55 = Int32.ofNat r.length ∧ hI h 301 57 = Int32.ofNat (sumB r) ∧ curS h r ∧ mNow h PA ∧ mLaws h AL ∧ mPTs h PA ∧ ∀ p, p < 15 → okP (PA p)
/-- what stays when the model finds what is owed -/
def MvT (h h' : Hp) : Prop := Eo WMod h h' ∧ ∀ k, (k < 62 ∨ 72 < k) → hI h' 301 k = hI h 301 k
theorem MvT.tr {h h' h'' : Hp} (a : MvT h h') (b : MvT h' h'') : MvT h h'' := ⟨a.1.tr b.1, fun k hk => (b.2 k hk).trans (a.2 k hk)⟩
theorem g215 (I : Inv h) (o : okRs r) (q : LaidM h V AL PA r) :
    Wp (K X (d + 7) 215 [.ref 301] h) (VJ fun x h' => x = Int64.ofInt (totG V AL PA r) ∧ MvT h h') := by
  obtain ⟨p2, p3, p5, p6, p7, qL, qT, oP⟩ := q
  rw [k_215]
  refine w_gS I s_301 ?_
  refine w_bV I (m_197 (d := d + 1) I p2 qL qT) (by decide) rfl fun h2 I2 t => ?_
  obtain ⟨r1, r2, r3, r4, r5⟩ := t
  have nW : ∀ a, a ≠ 301 → a ≠ 333 → a ≠ 334 → ¬ WH a := fun a h1 h2 h3 z => by unfold WH at z; omega
  obtain ⟨v1, v2, v3, v4⟩ := p2
  have L2 : mLaws h2 AL := qL.eo r1 fun a ha => by unfold inML at ha; unfold WH; omega
  have L1 : LvM h2 V AL PA (sumB r) r := by
    refine ⟨⟨p7.eo (r1.i (nW _ (by decide) (by decide) (by decide))) (r1.i (nW _ (by decide) (by decide) (by decide))) (r1.i (nW _ (by decide) (by decide) (by decide))) (r1.i (nW _ (by decide) (by decide) (by decide))), fun l hl => ?_, fun p hp => (oP p hp).2.2, fun l hl => (qL l hl).2.2.2.2.2.2⟩, r3, by rw [r4 57 (by decide) (by decide)]; exact p5, ⟨fun k hk => by rw [r1.i (nW _ (by decide) (by decide) (by decide))]; exact v1 k hk, by rw [r4 52 (by decide) (by decide)]; exact v2, by rw [r4 53 (by decide) (by decide)]; exact v3, by rw [r4 54 (by decide) (by decide)]; exact v4⟩, ?_, L2, oP⟩
    · obtain ⟨os, _, _, _, _, _, _, _, z⟩ := (L2 l hl).1
      exact z
    · exact rSums.eo (r1.i (nW _ (by decide) (by decide) (by decide))) (r1.i (nW _ (by decide) (by decide) (by decide))) (r1.i (nW _ (by decide) (by decide) (by decide))) (r1.i (nW _ (by decide) (by decide) (by decide))) (r1.i (nW _ (by decide) (by decide) (by decide))) p6
  refine w_fI I2 s_301 fun I3 => ?_
  refine w_fI I3 s_301 fun I4 => ?_
  have z : MvO h2 (sI (sI h2 301 71 0) 301 72 0) := (MvE.o MvE.rf |>.set (Or.inl rfl)).set (Or.inr rfl)
  refine (g215_18 (d := d) o L1 (by rw [r4 55 (by decide) (by decide)]; exact p3) r.length 0 _ none none (by omega) I4 z).mono ?_
  rintro _ h' ⟨x, rfl, rfl, w⟩
  exact ⟨_, rfl, rfl, (r1.wk fun a z => by unfold WH at z; unfold WMod; omega).tr w.1, fun k hk => (w.2 k (by omega) (by omega)).trans (r4 k (by omega) (by omega))⟩
theorem LaidM.mv {h h' : Hp} (q : LaidM h V AL PA r) (e : MvT h h') : LaidM h' V AL PA r := by
  obtain ⟨⟨v1, v2, v3, v4⟩, p3, p5, p6, p7, qL, qT, oP⟩ := q
  obtain ⟨e1, e2⟩ := e
  have nW : ∀ a, (302 ≤ a ∧ a ≤ 332) ∨ (335 ≤ a ∧ a ≤ 344) → ¬ WMod a := fun a h1 z => by unfold WMod at z; omega
  refine ⟨⟨fun k hk => by rw [e1.i (nW _ (by omega))]; exact v1 k hk, by rw [e2 52 (by decide)]; exact v2, by rw [e2 53 (by decide)]; exact v3, by rw [e2 54 (by decide)]; exact v4⟩, by rw [e2 55 (by decide)]; exact p3, by rw [e2 57 (by decide)]; exact p5, ?_, p7.eo (e1.i (nW _ (by omega))) (e1.i (nW _ (by omega))) (e1.i (nW _ (by omega))) (e1.i (nW _ (by omega))), qL.eo e1 fun a ha => nW a (by unfold inML at ha; omega), ?_, oP⟩
  · exact rSums.eo (e1.i (nW _ (by omega))) (e1.i (nW _ (by omega))) (e1.i (nW _ (by omega))) (e1.i (nW _ (by omega))) (e1.i (nW _ (by omega))) p6
  · exact fun a ha b hb hn => ⟨(qT a ha b hb hn).1.eo (e1.i (nW _ (by omega))) (e1.i (nW _ (by omega))), (qT a ha b hb hn).2⟩
theorem LaysP.laid {S : AS} {y : Nat} {h0 h : Hp} (p : LaysP (sY S y) (sPc S) h0 h) (q : RM h S) (o : okA S) : LaidM h (vY S y) (sL S) (sPc S) (sY S y).2.2.2.2 := by
  obtain ⟨p1, p2, p3, p4, p5, p6, p7, p8, p9⟩ := p
  exact ⟨p2, p3, p5, p6, p7, q.laws o, q.tests o, fun p hp => o.2.2.1 p hp⟩
theorem MvT.rm {S : AS} {h' : Hp} (e : MvT h h') (q : RM h S) : RM h' S ∧ Mo h h' := by
  refine ⟨q.eo (fun a h1 h2 h3 => ?_) (fun k hk => e.2 k (by omega)), e.1.wk fun a z => by unfold WMod at z; omega⟩
  have : ¬ WMod a := fun z => h3 (by unfold WMod at z; unfold inMS; omega)
  exact ⟨e.1.i this, e.1.j this⟩
end TG
