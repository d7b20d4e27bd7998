/-! ROUND: both sides -/
def legN (S : AS) (k l m : Nat) : Nat := min (limP (sPc S) (pr l m) k) (rtN legF k (sL S l).1)
def rdF (S : AS) (k a b : Nat) : Nat → Nat × Int32
  | 0 => (legN S k a b, -1)
  | l + 1 => if (l ≠ a ∧ l ≠ b) ∧ legN S k a l + legN S k l b < (rdF S k a b l).1 then (legN S k a l + legN S k l b, Int32.ofNat l) else rdF S k a b l
def rndV (S : AS) (k a b : Nat) (w : Int32) : Int32 := if w = 0 then Int32.ofNat (legN S k a b) else if w = 1 then (rdF S k a b 6).2 else Int32.ofNat (rdF S k a b 6).1
def okRd (k a b w : Int32) : Prop := (¬ k < 0 ∧ ¬ 5 ≤ k) ∧ isLd a ∧ isLd b ∧ a ≠ b ∧ (¬ w < 0 ∧ w ≤ 2)
def roundP (S : AS) (k a b w v : Int32) : Prop := (okRd k a b w → v = rndV S (dN k) (dN a) (dN b) w) ∧ (¬ okRd k a b w → v = -1)
theorem legN_le {S : AS} {k l m : Nat} : legN S k l m ≤ 100 := Nat.le_trans (Nat.min_le_right _ _) (rt_eq legF k (sL S l).1).2
theorem rdF_le {S : AS} {k a b : Nat} : ∀ l, (rdF S k a b l).1 ≤ 100
  | 0 => legN_le
  | l + 1 => by
    have := rdF_le (S := S) (k := k) (a := a) (b := b) l
    unfold rdF
    split
    · next c => show legN S k a l + legN S k l b ≤ 100; omega
    · exact this
section RO
variable {X : Ctx} {d : Nat} {Q : Option Value → Hp → Prop} {h : Hp} {S : AS}
theorem m_28 {k l : Nat} (I : Inv h) (q : RC h S) (ok : okA S) (hk : k < 6) (hl : l < 6) : Wp (K X (d + 4) 28 [.ref 274, .int (Int32.ofNat l), .int (Int32.ofNat k)] h) (VI fun x h' => x = Int32.ofNat (rtN legF k (sL S l).1) ∧ Eo (fun a => a = 283) h h') := by
  obtain ⟨L, a1, a2, a3, a4⟩ := q.laws ok l hl
  rw [k_28]
  refine w_gL I s_274 l_274_0 ?_
  refine w_aRn I s_64 (by decide) (by decide) hl (by decide) a1 ?_
  refine w_gL I s_274 l_274_2 ?_
  refine w_gL I s_274 l_274_3 ?_
  refine w_gS I a2.s ?_
  refine w_bI I (m_7 (d := d) I hk a2 s_282 s_283 a3 a4 q.1.2.2.2.2.2.2.2.1) (by decide) rfl ?_
  rintro x h1 I1 ⟨rfl, E⟩
  exact Wp.reti ⟨(rt_eq legF k (sL S l).1).1, E⟩
theorem m_131 {k l m : Nat} (I : Inv h) (q : RC h S) (ok : okA S) (hk : k < 6) (hl : l < 6) (hm : m < 6) (hn : l ≠ m) : Wp (K X (d + 5) 131 [.ref 62, .int (Int32.ofNat k), .int (Int32.ofNat l), .int (Int32.ofNat m)] h) (VI fun x h' => x = Int32.ofNat (legN S k l m) ∧ RC h' S ∧ Cl h h') := by
  rw [k_131]
  refine w_gL I s_62 l_62_8 ?_
  refine w_gS I s_274 ?_
  refine w_bI I (m_28 (d := d) I q ok hk hl) (by decide) rfl ?_
  rintro x h1 I1 ⟨rfl, E⟩
  have q1 : RC h1 S := q.scr ok E fun a z => by unfold WX WS; omega
  have lp := pr_lt l hl m hm hn
  obtain ⟨P, p1, p2, p3, p4⟩ := q1.pacts ok (pr l m) lp
  refine w_gL I1 s_62 l_62_2 ?_
  refine w_eI (m_141 hl hm hn) ?_
  refine w_aRn I1 s_65 (by decide) (by decide) lp (by decide) p1 ?_
  refine w_gS I1 p2.s ?_
  refine w_eI (m_34 (d := d + 2) I1 p2 hk p3.2.2) ?_
  refine Wp.reti ⟨?_, q1, E.wk fun a z => by omega⟩
  have lb : (if (sPc S (pr l m)).2.1 k then 0 else (sPc S (pr l m)).2.2.1 k) ≤ 100 := by
    split
    · decide
    · exact p4.2.1 k
  have rb := (rt_eq legF k (sL S l).1).2
  show _ = Int32.ofNat (min (if (sPc S (pr l m)).2.1 k then 0 else (sPc S (pr l m)).2.2.1 k) (rtN legF k (sL S l).1))
  generalize (if (sPc S (pr l m)).2.1 k then 0 else (sPc S (pr l m)).2.2.1 k) = t at lb
  by_cases z : t < rtN legF k (sL S l).1
  · rw [if_pos ((i_lt (by omega) (by omega)).mpr z), Nat.min_eq_left (by omega)]
  · rw [if_neg (fun w => z ((i_lt (by omega) (by omega)).mp w)), Nat.min_eq_right (by omega)]
theorem c130_60 {k a b : Nat} {w : Int32} {h0 : Hp} (ok : okA S) (hk : k < 5) (ha : a < 6) (hb : b < 6) (hab : a ≠ b) (hw : ¬ w < 0 ∧ w ≤ 2) : ∀ (c l : Nat) (h : Hp) (v9 : Option Value), l + c = 6 → Inv h → RC h S → Cl h0 h →
    Wp (sem (X, K X (d + 5)) 130 60 [some (.ref 62), some (.int (Int32.ofNat k)), some (.int (Int32.ofNat a)), some (.int (Int32.ofNat b)), some (.int w), some (.int (Int32.ofNat (legN S k a b))), some (.int (Int32.ofNat (rdF S k a b l).1)), some (.int (rdF S k a b l).2), some (.int (Int32.ofNat l)), v9] [] h) (VI fun v h' => v = rndV S k a b w ∧ Cl h0 h' ∧ RC h' S)
  | 0, l, h, v9, e, I, q, C => by
    have e : l = 6 := by omega
    subst e
    rw [b_130_60]
    refine w_ift (by decide) ?_
    unfold rndV
    refine w_if (fun c => ?_) (fun c => ?_)
    · rw [if_neg c]
      refine w_if (fun c1 => ?_) (fun c1 => ?_)
      · rw [if_neg c1]; exact Wp.reti ⟨rfl, C, q⟩
      · rw [if_pos (Classical.byContradiction c1)]; exact Wp.reti ⟨rfl, C, q⟩
    · rw [if_pos (Classical.byContradiction c)]; exact Wp.reti ⟨rfl, C, q⟩
  | c + 1, l, h, v9, e, I, q, C => by
    have hl : l < 6 := by omega
    have st : rdF S k a b (l + 1) = if (l ≠ a ∧ l ≠ b) ∧ legN S k a l + legN S k l b < (rdF S k a b l).1 then (legN S k a l + legN S k l b, Int32.ofNat l) else rdF S k a b l := rfl
    have r1 := rdF_le (S := S) (k := k) (a := a) (b := b) l
    have l1 := legN_le (S := S) (k := k) (l := a) (m := l)
    have l2 := legN_le (S := S) (k := k) (l := l) (m := b)
    rw [b_130_60]
    refine w_iff (fun z => absurd ((i_le (m := 6) (by omega) (by omega)).mp z) (by omega)) ?_
    rw [i32_ofNat_succ]
    refine w_if (fun c0 => ?_) (fun c0 => ?_)
    · have : l = a := (i_eq (by omega) (by omega)).mp c0
      have ih := c130_60 (w := w) ok hk ha hb hab hw c (l + 1) h v9 (by omega) I q C
      rw [st, if_neg (fun z => z.1.1 this)] at ih
      exact ih
    · have na : l ≠ a := fun z => c0 (by rw [z])
      refine w_if (fun c1 => ?_) (fun c1 => ?_)
      · have : l = b := (i_eq (by omega) (by omega)).mp c1
        have ih := c130_60 (w := w) ok hk ha hb hab hw c (l + 1) h v9 (by omega) I q C
        rw [st, if_neg (fun z => z.1.2 this)] at ih
        exact ih
      · have nb : l ≠ b := fun z => c1 (by rw [z])
        refine w_gS I s_62 ?_
        refine w_bI I (m_131 (d := d) I q ok (by omega) ha hl (Ne.symm na)) (by decide) rfl ?_
        rintro x h1 I1 ⟨rfl, q1, C1⟩
        refine w_gS I1 s_62 ?_
        refine w_bI I1 (m_131 (d := d) I1 q1 ok (by omega) hl hb nb) (by decide) rfl ?_
        rintro x h2 I2 ⟨rfl, q2, C2⟩
        have ih := fun v9 => c130_60 (w := w) ok hk ha hb hab hw c (l + 1) h2 v9 (by omega) I2 q2 ((C.tr C1).tr C2)
        rw [i_add]
        refine w_if (fun c2 => ?_) (fun c2 => ?_)
        · have := (i_le (by omega) (by omega)).mp c2
          rw [st, if_neg (fun z => by have := z.2; omega)] at ih
          exact ih _
        · have : legN S k a l + legN S k l b < (rdF S k a b l).1 := Nat.lt_of_not_le fun z => c2 ((i_le (by omega) (by omega)).mpr z)
          rw [st, if_pos ⟨⟨na, nb⟩, this⟩] at ih
          exact ih _
theorem c_round {k a b w : Int32} (I : Inv h) (q : RC h S) (ok : okA S) :
    Wp (K X (d + 6) 130 [.ref 62, .int k, .int a, .int b, .int w] h) (VI fun v h' => roundP S k a b w v ∧ Cl h h' ∧ RC h' S) := by
  have no : ¬ okRd k a b w → roundP S k a b w (-1) := fun z => ⟨fun w => absurd w z, fun _ => rfl⟩
  rw [k_130]
  refine w_if (fun c => Wp.reti ⟨no fun z => z.1.1 c, Eo.rf, q⟩) (fun c0 => ?_)
  refine w_if (fun c => Wp.reti ⟨no fun z => z.1.2 c, Eo.rf, q⟩) (fun c1 => ?_)
  refine w_eI ld_c ?_
  refine w_if (fun c => Wp.reti ⟨no fun z => bi_dec.mp c z.2.1, Eo.rf, q⟩) (fun c2 => ?_)
  refine w_eI ld_c ?_
  refine w_if (fun c => Wp.reti ⟨no fun z => bi_dec.mp c z.2.2.1, Eo.rf, q⟩) (fun c3 => ?_)
  refine w_if (fun c => Wp.reti ⟨no fun z => z.2.2.2.1 c, Eo.rf, q⟩) (fun c4 => ?_)
  refine w_if (fun c => Wp.reti ⟨no fun z => z.2.2.2.2.1 c, Eo.rf, q⟩) (fun c5 => ?_)
  refine w_if (fun c6 => ?_) (fun c => Wp.reti ⟨no fun z => c z.2.2.2.2.2, Eo.rf, q⟩)
  have ha : isLd a := Classical.byContradiction fun z => c2 (bi_dec.mpr z)
  have hb : isLd b := Classical.byContradiction fun z => c3 (bi_dec.mpr z)
  have okr : okRd k a b w := ⟨⟨c0, c1⟩, ha, hb, c4, c5, c6⟩
  obtain ⟨kn, k5, rfl⟩ := i_nat (n := 5) (by decide) c0 c1
  obtain ⟨an, a6, rfl⟩ := ld_nat ha
  obtain ⟨bn, b6, rfl⟩ := ld_nat hb
  have nab : an ≠ bn := fun z => c4 (by rw [z])
  refine w_gS I s_62 ?_
  refine w_bI I (m_131 (d := d) I q ok (by omega) a6 b6 nab) (by decide) rfl ?_
  rintro x h1 I1 ⟨rfl, q1, C1⟩
  refine (c130_60 (d := d) (w := w) (h0 := h) ok k5 a6 b6 nab ⟨c5, c6⟩ 6 0 h1 none rfl I1 q1 C1).mono ?_
  rintro _ h2 ⟨v, rfl, e, C, R⟩
  exact ⟨_, rfl, ⟨fun _ => by rw [dN_of (by omega), dN_of (by omega), dN_of (by omega)]; exact e, fun z => absurd okr z⟩, C, R⟩
/-! the model -/
theorem m_206n {PA : Nat → APact} {l m k rt : Nat} (I : Inv h) (q : mNow h PA) (ok : ∀ p, p < 15 → okP (PA p)) (hl : l < 6) (hm : m < 6) (hn : l ≠ m) (hk : k < 6) (hr : rt ≤ 100) : K X (d + 1) 206 [.ref 301, .int (Int32.ofNat rt), .int (Int32.ofNat (pm l m)), .int (Int32.ofNat k)] h = some (some (.int (Int32.ofNat (min (limP PA (pr l m) k) rt))), h) := by
  have np := pm_lt l hl m hm
  have t := q (pr l m) (pr_lt l hl m hm hn)
  rw [← pm_pr l hl m hm hn] at t
  have ok := ok (pr l m) (pr_lt l hl m hm hn)
  refine Wp.eqI ?_
  rw [k_206]
  refine w_gL I s_301 l_301_58 ?_
  refine w_aIn I s_341 (by omega) (by decide) ?_
  rw [shr_bt (by omega), t.1 k hk]
  unfold limP
  cases hb : (PA (pr l m)).2.1 k
  · refine w_ift (by decide) ?_
    rw [if_neg (by decide)]
    refine w_gL I s_301 l_301_59 ?_
    rw [show (6 : Int32) = Int32.ofNat 6 from rfl, i_lin1]
    refine w_aIn I s_342 (by omega) (by decide) ?_
    rcases t.2.1 k hk with ⟨z, e⟩ | e
    · refine w_ift e (Wp.reti ⟨?_, rfl⟩)
      rw [z, Nat.min_eq_right hr]
    · have b := ok.2.1 k
      have ne : ∀ n, n ≤ 100 → Int32.ofNat n ≠ -1 := by decide
      rw [e]
      refine w_iff (ne _ b) ?_
      refine w_if (fun c => Wp.reti ⟨?_, rfl⟩) (fun c => Wp.reti ⟨?_, rfl⟩)
      · rw [Nat.min_eq_right ((i_le (by omega) (by omega)).mp c)]
      · rw [Nat.min_eq_left (Nat.le_of_lt (Nat.lt_of_not_le fun z => c ((i_le (by omega) (by omega)).mpr z)))]
  · refine w_iff (by decide) (Wp.reti ⟨?_, rfl⟩)
    rw [if_pos rfl, Nat.zero_min]; rfl
theorem c229_3 {v1 v2 v3 : Option Value} {h0 : Hp} {x1 x2 x3 : Int32} (e1 : v1 = some (.int x1)) (e2 : v2 = some (.int x2)) (e3 : v3 = some (.int x3)) (kk : ∀ h', Inv h' → Eo (fun a => a = 334) h0 h' → gRow h' legF → Wp (gd (hS h' 301 = (12, 0)) (bI (K X d 205 [.ref 301, .int x2, .int x1] h') fun r4 h4 => bI (K X d 186 [.int x2, .int x3] h4) fun r5 h5 => gd (hS h5 301 = (12, 0)) (bI (K X d 206 [.ref 301, .int r4, .int r5, .int x1] h5) fun r6 h6 => some (some (.int r6), h6)))) Q) : ∀ (c i : Nat) (h : Hp), i + c = 9 → Inv h → Eo (fun a => a = 334) h0 h → (∀ j, j < i → hI h 334 j = 0) →
    Wp (sem (X, K X d) 229 3 [some (.ref 301), v1, v2, v3, some (.int (Int32.ofNat i))] [] h) Q
  | 0, i, h, e, I, E, z => by
    subst e1; subst e2; subst e3
    have e : i = 9 := by omega
    subst e
    rw [b_229_3]
    refine w_ift (by decide) ?_
    refine w_gL I s_301 l_301_32 ?_
    refine w_wIn (m := 6) I s_334 (by decide) (by decide) fun I1 => ?_
    refine w_gL I1 s_301 l_301_32 ?_
    refine w_wIn (m := 7) I1 s_334 (by decide) (by decide) fun I2 => ?_
    refine w_gL I2 s_301 l_301_32 ?_
    refine w_wIn (m := 8) I2 s_334 (by decide) (by decide) fun I3 => ?_
    refine kk _ I3 (((E.kI rfl).kI rfl).kI rfl) fun k hk => ?_
    simp only [hI_sI_self, up1]
    unfold legF
    have : k = 5 ∨ k = 6 ∨ k = 7 ∨ (k ≠ 5 ∧ k ≠ 6 ∧ k ≠ 7) := by omega
    rcases this with rfl | rfl | rfl | ⟨h5, h6, h7⟩
    · rfl
    · rfl
    · rfl
    · rw [if_neg h5, if_neg h6, if_neg h7, if_neg (by omega), if_neg (by omega), if_neg (by omega)]
      exact z (k + 1) (by omega)
  | c + 1, i, h, e, I, E, z => by
    subst e1; subst e2; subst e3
    rw [b_229_3]
    refine w_iff (fun z => absurd ((i_le (m := 9) (by omega) (by omega)).mp z) (by omega)) ?_
    rw [i32_ofNat_succ]
    refine w_gL I s_301 l_301_32 ?_
    refine w_wIn I s_334 (by omega) (by decide) fun I1 => ?_
    refine c229_3 rfl rfl rfl kk c (i + 1) _ (by omega) I1 (E.kI rfl) fun j hj => ?_
    rw [hI_sI_self, up1]
    by_cases y : j = i
    · rw [if_pos y]
    · rw [if_neg y]; exact z j (by omega)
theorem m_229 {k l m : Nat} (I : Inv h) (q : RM h S) (ok : okA S) (n : mNow h (sPc S)) (hk : k < 6) (hl : l < 6) (hm : m < 6) (hn : l ≠ m) : Wp (K X (d + 4) 229 [.ref 301, .int (Int32.ofNat k), .int (Int32.ofNat l), .int (Int32.ofNat m)] h) (VI fun x h' => x = Int32.ofNat (legN S k l m) ∧ RM h' S ∧ Mo h h' ∧ mNow h' (sPc S)) := by
  rw [k_229]
  refine c229_3 (d := d + 3) rfl rfl rfl (fun h1 I1 E1 g1 => ?_) 9 0 h (by omega) I Eo.rf fun j hj => absurd hj (Nat.not_lt_zero _)
  have lm : mLaw h1 l (sL S l) := (q.laws ok l hl).1.eo fun a ha => E1.i (by unfold inML at ha; omega)
  refine w_gS I1 s_301 ?_
  refine w_bI I1 (m_205 (d := d) I1 (by omega) hk lm (q.laws ok l hl).2 g1) (by decide) rfl ?_
  rintro x h2 I2 ⟨rfl, E2⟩
  have E : Eo (fun a => a = 333 ∨ a = 334) h h2 := (E1.wk fun a z => Or.inr z).tr (E2.wk fun a z => Or.inl z)
  have Em : Eo inMS h h2 := E.wk fun a z => by unfold inMS; omega
  have q2 : RM h2 S := q.scr Em fun k _ => by rw [E.i (show ¬ (301 = 333 ∨ 301 = 334) by decide)]
  have n2 : mNow h2 (sPc S) := n.eo (E.i (by decide)) (E.i (by decide)) (E.i (by decide)) (E.i (by decide))
  have rb := rt_eq legF k (sL S l).1
  refine w_eI (m_186 hl hm) ?_
  refine w_gS I2 s_301 ?_
  rw [rb.1]
  refine w_eI (m_206n (d := d + 2) I2 n2 ok.2.2.1 hl hm hn hk rb.2) ?_
  exact Wp.reti ⟨rfl, q2, inMS_mo Em, n2⟩
theorem c230_64 {k a b : Nat} {w : Int32} {h0 : Hp} (ok : okA S) (hk : k < 5) (ha : a < 6) (hb : b < 6) (hab : a ≠ b) (hw : ¬ w < 0 ∧ w ≤ 2) : ∀ (c l : Nat) (h : Hp) (v9 : Option Value), l + c = 6 → Inv h → RM h S → mNow h (sPc S) → Mo h0 h →
    Wp (sem (X, K X (d + 4)) 230 64 [some (.ref 301), some (.int (Int32.ofNat k)), some (.int (Int32.ofNat a)), some (.int (Int32.ofNat b)), some (.int w), some (.int (Int32.ofNat (legN S k a b))), some (.int (Int32.ofNat (rdF S k a b l).1)), some (.int (rdF S k a b l).2), some (.int (Int32.ofNat l)), v9] [] h) (VI fun v h' => v = rndV S k a b w ∧ Mo h0 h' ∧ RM h' S)
  | 0, l, h, v9, e, I, q, n, C => by
    have e : l = 6 := by omega
    subst e
    rw [b_230_64]
    refine w_ift (by decide) ?_
    unfold rndV
    refine w_if (fun c => ?_) (fun c => ?_)
    · rw [if_neg c]
      refine w_if (fun c1 => ?_) (fun c1 => ?_)
      · rw [if_neg c1]; exact Wp.reti ⟨rfl, C, q⟩
      · rw [if_pos (Classical.byContradiction c1)]; exact Wp.reti ⟨rfl, C, q⟩
    · rw [if_pos (Classical.byContradiction c)]; exact Wp.reti ⟨rfl, C, q⟩
  | c + 1, l, h, v9, e, I, q, n, C => by
    have hl : l < 6 := by omega
    have st : rdF S k a b (l + 1) = if (l ≠ a ∧ l ≠ b) ∧ legN S k a l + legN S k l b < (rdF S k a b l).1 then (legN S k a l + legN S k l b, Int32.ofNat l) else rdF S k a b l := rfl
    have r1 := rdF_le (S := S) (k := k) (a := a) (b := b) l
    have l1 := legN_le (S := S) (k := k) (l := a) (m := l)
    have l2 := legN_le (S := S) (k := k) (l := l) (m := b)
    rw [b_230_64]
    refine w_iff (fun z => absurd ((i_le (m := 6) (by omega) (by omega)).mp z) (by omega)) ?_
    rw [i32_ofNat_succ]
    refine w_if (fun c0 => ?_) (fun c0 => ?_)
    · have : l = a := (i_eq (by omega) (by omega)).mp c0
      have ih := c230_64 (w := w) ok hk ha hb hab hw c (l + 1) h v9 (by omega) I q n C
      rw [st, if_neg (fun z => z.1.1 this)] at ih
      exact ih
    · have na : l ≠ a := fun z => c0 (by rw [z])
      refine w_if (fun c1 => ?_) (fun c1 => ?_)
      · have nb : l ≠ b := fun z => c1 (by rw [z])
        refine w_gS I s_301 ?_
        refine w_bI I (m_229 (d := d) I q ok n (by omega) ha hl (Ne.symm na)) (by decide) rfl ?_
        rintro x h1 I1 ⟨rfl, q1, C1, n1⟩
        refine w_gS I1 s_301 ?_
        refine w_bI I1 (m_229 (d := d) I1 q1 ok n1 (by omega) hl hb nb) (by decide) rfl ?_
        rintro x h2 I2 ⟨rfl, q2, C2, n2⟩
        have ih := fun v9 => c230_64 (w := w) ok hk ha hb hab hw c (l + 1) h2 v9 (by omega) I2 q2 n2 ((C.tr C1).tr C2)
        rw [i_add]
        refine w_if (fun c2 => ?_) (fun c2 => ?_)
        · have := (i_lt (by omega) (by omega)).mp c2
          rw [st, if_pos ⟨⟨na, nb⟩, this⟩] at ih
          exact ih _
        · rw [st, if_neg (fun z => c2 ((i_lt (by omega) (by omega)).mpr z.2))] at ih
          exact ih _
      · have : l = b := (i_eq (by omega) (by omega)).mp (Classical.byContradiction c1)
        have ih := c230_64 (w := w) ok hk ha hb hab hw c (l + 1) h v9 (by omega) I q n C
        rw [st, if_neg (fun z => z.1.2 this)] at ih
        exact ih
theorem m_round {k a b w : Int32} (I : Inv h) (q : RM h S) (ok : okA S) :
    Wp (K X (d + 5) 230 [.ref 301, .int k, .int a, .int b, .int w] h) (VI fun v h' => roundP S k a b w v ∧ Mo h h' ∧ RM h' S) := by
  have no : ¬ okRd k a b w → roundP S k a b w (-1) := fun z => ⟨fun w => absurd w z, fun _ => rfl⟩
  have c4k : ∀ k : Int32, (4 : Int32) < k ↔ 5 ≤ k := fun k => lt_le (n := 4) (by decide)
  rw [k_230]
  refine w_eI m_142 ?_
  refine w_if (fun c => Wp.reti ⟨no fun z => bi_dec.mp c ⟨z.1.1, fun y => z.1.2 ((c4k k).mp y)⟩, Eo.rf, q⟩) (fun c0 => ?_)
  refine w_eI ld_m ?_
  refine w_if (fun c => Wp.reti ⟨no fun z => bi_dec.mp c z.2.1, Eo.rf, q⟩) (fun c2 => ?_)
  refine w_eI ld_m ?_
  refine w_if (fun c => Wp.reti ⟨no fun z => bi_dec.mp c z.2.2.1, Eo.rf, q⟩) (fun c3 => ?_)
  refine w_if (fun c => Wp.reti ⟨no fun z => z.2.2.2.1 c, Eo.rf, q⟩) (fun c4 => ?_)
  refine w_eI m_142 ?_
  refine w_if (fun c5 => ?_) (fun c => Wp.reti ⟨no fun z => bi_dec.mp (Classical.byContradiction c) ⟨z.2.2.2.2.1, Int32.not_lt.mpr z.2.2.2.2.2⟩, Eo.rf, q⟩)
  have hk : ¬ k < 0 ∧ ¬ (4 : Int32) < k := Classical.byContradiction fun z => c0 (bi_dec.mpr z)
  have ha : isLd a := Classical.byContradiction fun z => c2 (bi_dec.mpr z)
  have hb : isLd b := Classical.byContradiction fun z => c3 (bi_dec.mpr z)
  have hw : ¬ w < 0 ∧ ¬ (2 : Int32) < w := Classical.byContradiction fun z => c5 (bi_dec.mpr z)
  have okr : okRd k a b w := ⟨⟨hk.1, fun y => hk.2 ((c4k k).mpr y)⟩, ha, hb, c4, hw.1, Int32.not_lt.mp hw.2⟩
  obtain ⟨kn, k5, rfl⟩ := i_nat (n := 5) (by decide) hk.1 okr.1.2
  obtain ⟨an, a6, rfl⟩ := ld_nat ha
  obtain ⟨bn, b6, rfl⟩ := ld_nat hb
  have nab : an ≠ bn := fun z => c4 (by rw [z])
  refine w_gS I s_301 ?_
  refine w_bV I (m_187 (d := d + 3) (set := 0) (PA := sPc S) (ws := sW S) I q.2.2.1.1 q.words ok.2.2.2.2.2.2.1.2 q.2.2.2.2.2.2.2.1.1 ok.2.2.2.2.2.2.1.1) (by decide) rfl fun h1 I1 p => ?_
  obtain ⟨E, n⟩ := p
  rw [worded_0] at n
  have Em : Eo inMS h h1 := E.wk fun a z => by unfold W4 at z; unfold inMS; omega
  have q1 : RM h1 S := q.scr Em fun k _ => by rw [E.i (show ¬ W4 301 by unfold W4; omega)]
  refine w_gS I1 s_301 ?_
  refine w_bI I1 (m_229 (d := d) I1 q1 ok n (by omega) a6 b6 nab) (by decide) rfl ?_
  rintro x h2 I2 ⟨rfl, q2, C2, n2⟩
  refine (c230_64 (d := d) (w := w) (h0 := h) ok k5 a6 b6 nab ⟨hw.1, Int32.not_lt.mp hw.2⟩ 6 0 h2 none rfl I2 q2 n2 ((inMS_mo Em).tr C2)).mono ?_
  rintro _ h3 ⟨v, rfl, e, C, R⟩
  exact ⟨_, rfl, ⟨fun _ => by rw [dN_of (by omega), dN_of (by omega), dN_of (by omega)]; exact e, fun z => absurd okr z⟩, C, R⟩
end RO
