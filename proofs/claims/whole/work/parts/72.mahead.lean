/-! THE MODEL: what a LAND takes ahead -/
section MA
variable {X : Ctx} {d : Nat} {Q : Option Value → Hp → Prop} {V : Sv} {AL : Nat → ALaw} {PA : Nat → APact} {Bn : Nat} {T : SumT} {r : List SumT}
/-- the model, having heard a year -/
def LvM (h : Hp) (V : Sv) (AL : Nat → ALaw) (PA : Nat → APact) (Bn : Nat) (r : List SumT) : Prop := mRel h AL PA ∧ hI h 301 63 = msk (hisP V AL PA) 6 ∧ hI h 301 57 = Int32.ofNat Bn ∧ mSv h V ∧ curS h r ∧ mLaws h AL ∧ ∀ p, p < 15 → okP (PA p)
def WMod (a : Nat) : Prop := a = 301 ∨ a = 333 ∨ a = 334 ∨ (345 ≤ a ∧ a ≤ 350)
def MvE (h h' : Hp) : Prop := Eo WMod h h' ∧ hI h' 301 = hI h 301
theorem MvE.rf {h : Hp} : MvE h h := ⟨Eo.rf, rfl⟩
theorem MvE.tr {h h' h'' : Hp} (a : MvE h h') (b : MvE h' h'') : MvE h h'' := ⟨a.1.tr b.1, b.2.trans a.2⟩
theorem MvE.of {W : Nat → Prop} {h h' : Hp} (a : Eo W h h') (w : ∀ x, W x → x = 333 ∨ x = 334 ∨ (345 ≤ x ∧ x ≤ 350)) : MvE h h' := ⟨a.wk fun x z => Or.inr (w x z), a.i fun z => by have := w 301 z; omega⟩
theorem LvM.eo {h h' : Hp} (q : LvM h V AL PA Bn r) (e : MvE h h') : LvM h' V AL PA Bn r := by
  obtain ⟨q1, q2, q3, q4, q5, q6, q7⟩ := q
  obtain ⟨e1, e2⟩ := e
  refine ⟨q1.eo (e1.i (by unfold WMod; omega)) (e1.i (by unfold WMod; omega)) (e1.i (by unfold WMod; omega)) (e1.i (by unfold WMod; omega)) (e1.i (by unfold WMod; omega)), by rw [e2]; exact q2, by rw [e2]; exact q3, q4.eo e2 (e1.i (by unfold WMod; omega)), q5.eo (e1.i (by unfold WMod; omega)) (e1.i (by unfold WMod; omega)) (e1.i (by unfold WMod; omega)) (e1.i (by unfold WMod; omega)) (e1.i (by unfold WMod; omega)), q6.eo e1 fun a ha => by unfold inML at ha; unfold WMod; omega, q7⟩
/-- SUM i of it -/
def isT (h : Hp) (i : Nat) (T : SumT) : Prop := i < 12 ∧ hI h 336 i = Int32.ofNat T.1 ∧ hI h 337 i = Int32.ofNat T.2.1 ∧ hI h 338 i = Int32.ofNat T.2.2.1 ∧ hI h 339 i = Int32.ofNat T.2.2.2.1 ∧ hI h 340 i = Int32.ofNat T.2.2.2.2
theorem isT.eo {h h' : Hp} {i : Nat} (q : isT h i T) (e : MvE h h') : isT h' i T := by
  unfold isT
  rw [e.1.i (show ¬ WMod 336 by unfold WMod; omega), e.1.i (show ¬ WMod 337 by unfold WMod; omega), e.1.i (show ¬ WMod 338 by unfold WMod; omega), e.1.i (show ¬ WMod 339 by unfold WMod; omega), e.1.i (show ¬ WMod 340 by unfold WMod; omega)]
  exact q
theorem see_t {his : Nat → Bool} {l m : Nat} (hm : m < 6) (h1 : m ≠ l) (h2 : looksP PA l m = true) (h3 : (his l || his m) = true) : seeP PA his l = true := by
  unfold seeP
  rw [List.any_eq_true]
  exact ⟨m, List.mem_range.mpr hm, by rw [decide_eq_true h1, h2, h3]; rfl⟩
theorem see_f {his : Nat → Bool} {l : Nat} (h : ∀ m, m < 6 → (decide (m ≠ l) && (looksP PA l m && (his l || his m))) = false) : seeP PA his l = false := by
  cases z : seeP PA his l
  · rfl
  · unfold seeP at z
    rw [List.any_eq_true] at z
    obtain ⟨m, m1, m2⟩ := z
    rw [h m (List.mem_range.mp m1)] at m2
    cases m2
theorem c203_38 {h : Hp} {i l : Nat} (I : Inv h) (q : LvM h V AL PA Bn r) (hT : isT h i T) (hl : l < 6) (h5 : T.1 = 5) : ∀ (c m : Nat), m + c = 6 → (∀ k, k < m → (decide (k ≠ l) && (looksP PA l k && (hisP V AL PA l || hisP V AL PA k))) = false) →
    Wp (sem (X, K X (d + 1)) 203 38 [some (.ref 301), some (.int (Int32.ofNat i)), some (.int (Int32.ofNat l)), some (.int (bi (hisP V AL PA l))), some (.int (Int32.ofNat m))] [] h) (VI fun x h' => x = Int32.ofNat (lkP PA (hisP V AL PA) T l) ∧ h' = h)
  | 0, m, em, no => by
    rw [b_203_38]
    refine w_ift ((i_le (m := 6) (by omega) (by omega)).mpr (by omega)) (Wp.reti ⟨?_, rfl⟩)
    unfold lkP
    rw [see_f fun k hk => no k (by omega), if_neg (by decide), h5]; rfl
  | c + 1, m, em, no => by
    have hm : m < 6 := by omega
    have skip : (decide (m ≠ l) && (looksP PA l m && (hisP V AL PA l || hisP V AL PA m))) = false → Wp (sem (X, K X (d + 1)) 203 38 [some (.ref 301), some (.int (Int32.ofNat i)), some (.int (Int32.ofNat l)), some (.int (bi (hisP V AL PA l))), some (.int (Int32.ofNat m + 1))] [] h) (VI fun x h' => x = Int32.ofNat (lkP PA (hisP V AL PA) T l) ∧ h' = h) := fun z => by
      rw [i32_ofNat_succ]
      refine c203_38 I q hT hl h5 c (m + 1) (by omega) fun k hk => ?_
      by_cases w : k = m
      · rw [w]; exact z
      · exact no k (by omega)
    have look : m ≠ l → (hisP V AL PA l || hisP V AL PA m) = true → Wp (sem (X, K X (d + 1)) 203 68 [some (.ref 301), some (.int (Int32.ofNat i)), some (.int (Int32.ofNat l)), some (.int (bi (hisP V AL PA l))), some (.int (Int32.ofNat m))] [] h) (VI fun x h' => x = Int32.ofNat (lkP PA (hisP V AL PA) T l) ∧ h' = h) := fun hn ho => by
      have t := (q.1.1 (pr l m) (pr_lt l hl m hm (Ne.symm hn))).2.2.2
      rw [← pm_pr l hl m hm (Ne.symm hn)] at t
      rw [b_203_68]
      refine w_gL I s_301 l_301_61 ?_
      refine w_eI (m_186 hl hm) ?_
      have := pm_lt l hl m hm
      refine w_aZn I s_344 (by omega) (by decide) ?_
      have t : hI h 344 (pm l m) = bi (looksP PA l m) := t
      rw [t]
      refine w_if (fun c1 => ?_) (fun c1 => ?_)
      · exact skip (by rw [bi_0.mp c1, Bool.false_and, Bool.and_false])
      · have hk : looksP PA l m = true := by cases z : looksP PA l m; rw [z] at c1; exact absurd rfl c1; rfl
        refine w_gL I s_301 l_301_48 ?_
        refine w_aIn I s_337 (by have := hT.1; omega) (by decide) (Wp.reti ⟨?_, rfl⟩)
        unfold lkP
        rw [see_t hm hn hk ho, if_pos rfl]
        exact hT.2.2.1
    rw [b_203_38]
    refine w_iff (fun z => absurd ((i_le (m := 6) (by omega) (by omega)).mp z) (by omega)) ?_
    refine w_if (fun c0 => ?_) (fun c0 => ?_)
    · have : m = l := (i_eq (by omega) (by omega)).mp c0
      exact skip (by rw [decide_eq_false (fun z => z this), Bool.false_and])
    · have hn : m ≠ l := fun z => c0 (by rw [z])
      refine w_if (fun c1 => ?_) (fun c1 => ?_)
      · have : hisP V AL PA l = true := by cases z : hisP V AL PA l; rw [z] at c1; exact absurd rfl c1; rfl
        exact look hn (by rw [this]; rfl)
      · have hlf : hisP V AL PA l = false := bi_0.mp (Classical.byContradiction c1)
        refine w_gI I s_301 ?_
        rw [q.2.1, shr_bt (by omega), bt_msk (by decide) (by omega), decide_eq_true hm, Bool.true_and]
        refine w_if (fun c2 => ?_) (fun c2 => ?_)
        · have : hisP V AL PA m = false := by cases z : hisP V AL PA m; rfl; rw [z] at c2; exact absurd rfl c2
          exact skip (by rw [hlf, this]; simp)
        · have : hisP V AL PA m = true := by cases z : hisP V AL PA m; rw [z] at c2; exact absurd (by decide) c2; rfl
          exact look hn (by rw [this, Bool.or_true])
theorem m_203 {h : Hp} {i l : Nat} (I : Inv h) (q : LvM h V AL PA Bn r) (hT : isT h i T) (o : okSm T) (hl : l < 6) : K X (d + 2) 203 [.ref 301, .int (Int32.ofNat i), .int (Int32.ofNat l)] h = some (some (.int (Int32.ofNat (lkP PA (hisP V AL PA) T l))), h) := by
  refine Wp.eqI ?_
  have hi := hT.1
  rw [k_203]
  refine w_gL I s_301 l_301_47 ?_
  refine w_aIn I s_336 (by omega) (by decide) ?_
  rw [hT.2.1]
  refine w_if (fun c => ?_) (fun c => ?_)
  · have h5 : T.1 = 5 := (i_eq (n := 5) (by have := o.1; omega) (by omega)).mp c
    refine w_gI I s_301 ?_
    rw [q.2.1, shr_bt (by omega), bt_msk (by decide) (by omega), decide_eq_true hl, Bool.true_and]
    have e := c203_38 (X := X) (d := d) I q hT hl h5 6 0 rfl fun k hk => absurd hk (Nat.not_lt_zero _)
    cases hq : hisP V AL PA l
    · rw [hq] at e
      exact w_ift (by decide) e
    · rw [hq] at e
      exact w_iff (by decide) e
  · refine w_gL I s_301 l_301_47 ?_
    refine w_aIn I s_336 (by omega) (by decide) (Wp.reti ⟨?_, rfl⟩)
    have h5 : T.1 ≠ 5 := fun z => c (by rw [z]; rfl)
    unfold lkP
    rw [o.2.2.1 h5]
    split <;> exact hT.2.1
theorem m_204 {h : Hp} {i l : Nat} (I : Inv h) (q : LvM h V AL PA Bn r) (hT : isT h i T) (o : okSm T) (hl : l < 6) : K X (d + 3) 204 [.ref 301, .int (Int32.ofNat i), .int (Int32.ofNat l)] h = some (some (.int (bi (frT V AL PA T l))), h) := by
  refine Wp.eqI ?_
  have hi := hT.1
  have hs : T.2.2.2.1 < 6 := o.2.2.2.2.2.1
  rw [k_204]
  unfold frT frP
  refine w_gI I s_301 ?_
  rw [q.2.1, shr_bt (by omega), bt_msk (by decide) (by omega), decide_eq_true hl, Bool.true_and]
  refine w_if (fun c => ?_) (fun c => ?_)
  · have : hisP V AL PA l = false := by cases z : hisP V AL PA l; rfl; rw [z] at c; exact absurd rfl c
    exact Wp.reti ⟨by rw [this, Bool.false_and, Bool.and_false]; rfl, rfl⟩
  · have hq : hisP V AL PA l = true := by cases z : hisP V AL PA l; rw [z] at c; exact absurd (by decide) c; rfl
    rw [hq, Bool.true_and]
    refine w_gL I s_301 l_301_50 ?_
    refine w_aIn I s_339 (by omega) (by decide) ?_
    rw [hT.2.2.2.2.1]
    refine w_if (fun c1 => ?_) (fun c1 => ?_)
    · have : T.2.2.2.1 = l := (i_eq (by omega) (by omega)).mp c1
      exact Wp.reti ⟨by rw [decide_eq_false (fun z => z this), Bool.false_and]; rfl, rfl⟩
    · have hn : T.2.2.2.1 ≠ l := fun z => c1 (by rw [z])
      have b : relP AL PA l T.2.2.2.1 ≤ 2 := rel_le (q.1.2.2.2 l hl) (q.1.2.2.1 _ (pr_lt l hl _ hs (Ne.symm hn)))
      rw [decide_eq_true hn, Bool.true_and]
      refine w_gL I s_301 l_301_50 ?_
      refine w_aIn I s_339 (by omega) (by decide) ?_
      rw [hT.2.2.2.2.1]
      refine w_gS I s_301 ?_
      refine w_eI (m_202 I q.1 hl hs (Ne.symm hn)) ?_
      refine w_if (fun c2 => ?_) (fun c2 => ?_)
      · have : relP AL PA l T.2.2.2.1 ≠ 2 := fun z => c2 (by rw [z]; rfl)
        exact Wp.reti ⟨by rw [decide_eq_false this]; rfl, rfl⟩
      · have : relP AL PA l T.2.2.2.1 = 2 := (i_eq (n := 2) (by omega) (by omega)).mp (Classical.byContradiction c2)
        exact Wp.reti ⟨by rw [decide_eq_true this]; rfl, rfl⟩
theorem m_206 {h : Hp} {l m k rt : Nat} (I : Inv h) (q : LvM h V AL PA Bn r) (hl : l < 6) (hm : m < 6) (hn : m ≠ l) (hk : k < 6) (hr : rt ≤ 100) : K X (d + 1) 206 [.ref 301, .int (Int32.ofNat rt), .int (Int32.ofNat (pm l m)), .int (Int32.ofNat k)] h = some (some (.int (Int32.ofNat (min (limP PA (pr m l) k) rt))), h) := by
  have np := pm_lt l hl m hm
  have t := q.1.1 (pr l m) (pr_lt l hl m hm (Ne.symm hn))
  rw [← pm_pr l hl m hm (Ne.symm hn)] at t
  rw [pr_comm m hm l hl]
  have ok := q.2.2.2.2.2.2 (pr l m) (pr_lt l hl m hm (Ne.symm hn))
  refine Wp.eqI ?_
  rw [k_206]
  refine w_gL I s_301 l_301_58 ?_
  refine w_aIn I s_341 (by omega) (by decide) ?_
  rw [shr_bt (by omega), t.1 k hk]
  unfold limP
  cases hb : (PA (pr l m)).2.1 k
  · refine w_ift (by decide) ?_
    rw [if_neg (by decide)]
    refine w_gL I s_301 l_301_59 ?_
    rw [show (6 : Int32) = Int32.ofNat 6 from rfl, i_lin1]
    refine w_aIn I s_342 (by omega) (by decide) ?_
    rcases t.2.1 k hk with ⟨z, e⟩ | e
    · refine w_ift e (Wp.reti ⟨?_, rfl⟩)
      rw [z, Nat.min_eq_right hr]
    · have b := ok.2.1 k
      have ne : ∀ n, n ≤ 100 → Int32.ofNat n ≠ -1 := by decide
      rw [e]
      refine w_iff (ne _ b) ?_
      refine w_if (fun c => Wp.reti ⟨?_, rfl⟩) (fun c => Wp.reti ⟨?_, rfl⟩)
      · rw [Nat.min_eq_right ((i_le (by omega) (by omega)).mp c)]
      · rw [Nat.min_eq_left (Nat.le_of_lt (Nat.lt_of_not_le fun z => c ((i_le (by omega) (by omega)).mpr z)))]
  · refine w_iff (by decide) (Wp.reti ⟨?_, rfl⟩)
    rw [if_pos rfl, Nat.zero_min]; rfl
end MA
