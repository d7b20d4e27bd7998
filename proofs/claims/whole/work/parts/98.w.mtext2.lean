/-! TEXT: the model's answer for a PACT, and for neither -/
section TY
variable {X : Ctx} {d : Nat} {Q : Option Value → Hp → Prop} {h : Hp} {S : AS}
theorem m_txPact {a b : Nat} (hv : X.2.2 = .null ∨ X.2.2 = .ref 61) (I : Inv h) (q : RM h S) (o : okA S) (hab : a < b) (hb6 : b < 6) : Wp (K X (d + 41) 182 [.ref 301, .int (Int32.ofNat a), .int (Int32.ofNat b)] h) (VI fun v h' => v = ansP S ∧ RM h' (txPact S (pr a b)) ∧ Mo h h') := by
  have ha6 : a < 6 := by omega
  have epm : pm a b = 6 * a + b := if_pos hab
  rw [k_182]
  refine w_fI I s_301 fun I1 => ?_
  refine w_eI m_144 ?_
  rw [decide_eq_true (show ¬ Int32.ofNat a < 0 ∧ ¬ (5 : Int32) < Int32.ofNat a from ⟨i_lt0 (by omega), fun z => absurd ((i_lt (m := 5) (by omega) (by omega)).mp z) (by omega)⟩)]
  refine w_iff (by decide) ?_
  refine w_iff (i_nm1 (by omega)) ?_
  rw [i32_ofNat_succ]
  refine w_eI m_142 ?_
  rw [decide_eq_true (show ¬ Int32.ofNat b < Int32.ofNat (a + 1) ∧ ¬ (5 : Int32) < Int32.ofNat b from ⟨fun z => absurd ((i_lt (by omega) (by omega)).mp z) (by omega), fun z => absurd ((i_lt (m := 5) (by omega) (by omega)).mp z) (by omega)⟩)]
  refine w_ift (by decide) ?_
  rw [b_182_45]
  refine w_iff (i_nm1 (by omega)) ?_
  refine m_beg (d := d + 32) (b := true) hv I q o fun h5 I5 B => ?_
  obtain ⟨b1, b0, b2, b3, ⟨d4, b4⟩, b5, b6, b7, ⟨b8, b9, b10, b11⟩, b13⟩ := B
  have q5 : MLq (sT S).1 (sT S).2 h5 h5 0 0 Q00 := ⟨⟨d4, b4⟩, ⟨b6, b8, trivial, fun k hk => by rw [b9, bt_zero]; rfl, fun k hk => b13 k hk, b10, b11⟩, FrP.rf, b5⟩
  refine c182_74p (d := d + 29) hv 21 0 Q00 h5 1 rfl ok_Q00 I5 q5 (by decide) b5 fun x h6 I6 EW => ?_
  obtain ⟨F6, f45, e0, e1⟩ := EW
  have gl : okPS (txP S).2.2 ∨ (txP S).1 ≠ 0 := by
    by_cases z : (txP S).1 = 0
    · exact Or.inl (ok_qw 21 0 Q00 ok_Q00 z)
    · exact Or.inr z
  have er : txP S = pQw (tC (sT S).1 (sT S).2) (tV (sT S).1 (sT S).2) 21 0 Q00 := rfl
  rw [← er] at e0 e1
  have E6 : Eo WTx h h6 := b1.tr (F6.1.wk fun a z => by unfold WTx; omega)
  have low6 : ∀ a j, lowP a j → hI h6 a j = hI h a j := fun a j hj => by rw [F6.2.2.1 a j hj, b3 a j (Or.inr hj)]
  have lom6 : ∀ a j, lowM a j → hI h6 a j = hI h a j := fun a j hj => by
    by_cases z : a = 317
    · subst z
      exact low6 317 j (by unfold lowM at hj; unfold lowP; omega)
    · rw [F6.1.i (by unfold lowM at hj; omega)]; exact b3 a j (Or.inl hj)
  have e311 : hI h6 311 = hI h 311 := by rw [F6.1.i (by omega), b0]
  have f6 : ∀ k, k = 73 ∨ k = 76 ∨ k = 77 ∨ k = 84 → hI h6 301 k = hI h 301 k := fun k hk => by rw [F6.2.1 k (by omega), b2 k hk]
  have tail : ∀ (s1 : Int32) (h7 : Hp), Inv h7 → h7 = sI (sI (sI h6 301 35 0) 301 42 (hI h6 301 40)) 301 44 s1 → (∀ a, a ≠ 301 → hI h7 a = hI h6 a) ∧ (∀ k, k ≠ 35 → k ≠ 42 → k ≠ 44 → hI h7 301 k = hI h6 301 k) ∧ hI h7 301 35 = 0 ∧ hI h7 301 42 = hI h6 301 40 ∧ hI h7 301 44 = s1 ∧ Eo WTx h h7 := fun s1 h7 I7 e => by
    subst e
    refine ⟨fun a ha => by rw [sI_other ha, sI_other ha, sI_other ha], fun k h1 h2 h3 => by rw [hI_sI_self, up1, if_neg h3, hI_sI_self, up1, if_neg h2, hI_sI_self, up1, if_neg h1], ?_, ?_, ?_, ((E6.kI (Or.inl rfl)).kI (Or.inl rfl)).kI (Or.inl rfl)⟩
    · rw [hI_sI_self, up1, if_neg (by decide), hI_sI_self, up1, if_neg (by decide), hI_sI_self, up1, if_pos rfl]
    · rw [hI_sI_self, up1, if_neg (by decide), hI_sI_self, up1, if_pos rfl]
    · rw [hI_sI_self, up1, if_pos rfl]
  have mo : ∀ {h' : Hp}, Eo WTx h h' → Mo h h' := fun E => E.wk fun a z => by unfold WTx at z; omega
  rw [b_182_107]
  refine w_fI I6 s_301 fun J1 => ?_
  refine w_gI J1 s_301 ?_
  rw [hI_sI_self, up1, if_neg (by decide)]
  refine w_fI J1 s_301 fun J2 => ?_
  by_cases z : (txP S).1 = 0
  · obtain ⟨x0, ⟨dd, dp⟩, R6, -, -⟩ := e0 z
    have ok6 := gl.resolve_right fun w => w z
    refine w_iff x0 ?_
    rw [b_182_133]
    refine w_fI J2 s_301 fun J3 => ?_
    obtain ⟨a1, a2, a3, a4, a5, a6⟩ := tail (-1) _ J3 rfl
    generalize sI (sI (sI h6 301 35 0) 301 42 (hI h6 301 40)) 301 44 (-1) = h7 at *
    refine w_ift x0 ?_
    refine w_gI J3 s_301 ?_
    rw [a2 45 (by decide) (by decide) (by decide), f45]
    refine w_iff (by decide) ?_
    refine w_gS J3 s_301 ?_
    have R7 : MRowQ h7 (txP S).2.2.1 (txP S).2.2 := R6.eo (fun a h1 h2 => a1 a (by omega)) (a2 34 (by decide) (by decide) (by decide))
    have x6 : (6 : Int32) * Int32.ofNat a + Int32.ofNat b = Int32.ofNat (pm a b) := by rw [epm]; exact i_lin1 6 a b
    have hpm := pm_lt a ha6 b hb6
    rw [x6]
    refine w_bV J3 (m_181 (d := d + 39) hpm J3 (by rw [R7.2.2.2.2.2.2]; exact bi_ok _)) (by decide) rfl fun h8 I8 kp => ?_
    obtain ⟨k1, k2, k3, k4⟩ := kp
    refine w_gI I8 s_301 ?_
    have fx : ∀ k, hI h8 301 k = hI h7 301 k := fun k => by rw [k1.i (by omega)]
    rw [fx, R7.1]
    have E8 : Eo WTx h h8 := a6.tr (k1.wk fun a z => by unfold WTx; omega)
    refine Wp.reti ⟨(if_pos z).symm, ?_, mo E8⟩
    unfold txPact
    rw [if_pos z]
    obtain ⟨r1, r2, r3, r4, r5, r6, r7⟩ := R7
    have l7 : ∀ a j, lowP a j → a ≠ 317 → hI h7 a j = hI h a j := fun a j hj _ => by rw [a1 a (by unfold lowP at hj; omega)]; exact low6 a j hj
    have okr := ok6.2.2.2.2
    -- the new pact
    have new : mTrm h8 328 329 330 331 (pm a b) (pactOf (txP S).2.2) := by
      refine ⟨fun k hk => by rw [k2 328 (by omega), if_pos rfl]; exact r4 k hk, fun k hk => ?_, ?_, by rw [k2 331 (by omega), if_pos rfl]; exact r7⟩
      · rw [k3, if_pos (by omega), show 6 * pm a b + k - 6 * pm a b + 216 = 216 + k by omega, r5 k hk]
        show (((txP S).2.2.2.2.2.1 k).getD 100 = 100 ∧ _) ∨ _ = Int32.ofNat (((txP S).2.2.2.2.2.1 k).getD 100)
        cases hs : (txP S).2.2.2.2.2.1 k with
        | none => exact Or.inl ⟨rfl, rfl⟩
        | some t => exact Or.inr rfl
      · rw [k2 330 (by omega), if_pos rfl, r6]
        by_cases w : (txP S).2.2.2.2.2.2.1 = 0
        · rw [if_pos w]; exact Or.inl ⟨w, rfl⟩
        · rw [if_neg w]; exact Or.inr ⟨w, rfl⟩
    have newT : mTests h8 (pm a b) (txP S).2.2.2.1 := by
      refine ⟨by rw [k2 326 (by omega), if_pos rfl]; exact r2, r3.cp fun i hi => ?_⟩
      have := ok6.1
      have := ok6.2.1
      rw [k4, if_pos (by omega)]; congr 1; omega
    have old : ∀ p, p < 36 → p ≠ pm a b → (∀ A, mTrm h 328 329 330 331 p A → mTrm h8 328 329 330 331 p A) ∧ (∀ ts, ts.length ≤ 20 → mTests h p ts → mTests h8 p ts) := fun p hp hn => by
      refine ⟨fun A t => t.cp ?_ (fun k hk => ?_) ?_ ?_, fun ts hl t => ⟨?_, t.2.cp fun i hi => ?_⟩⟩
      · rw [k2 328 (by omega), if_neg hn]; exact l7 _ _ (by unfold lowP; omega) (by decide)
      · rw [k3, if_neg (by omega)]; exact l7 _ _ (by unfold lowP; omega) (by decide)
      · rw [k2 330 (by omega), if_neg hn]; exact l7 _ _ (by unfold lowP; omega) (by decide)
      · rw [k2 331 (by omega), if_neg hn]; exact l7 _ _ (by unfold lowP; omega) (by decide)
      · rw [k2 326 (by omega), if_neg hn, l7 _ _ (by unfold lowP; omega) (by decide)]; exact t.1
      · rw [k4, if_neg (by omega)]; exact l7 _ _ (by unfold lowP; omega) (by decide)
    have epr : pm a b = pmOf (pr a b) := pm_pr a ha6 b hb6 (by omega)
    have hpr := pr_lt a ha6 b hb6 (by omega)
    refine q.text E8 (fun k hk => by rw [fx, a2 k (by omega) (by omega) (by omega)]; exact f6 k hk) (by rw [fx]; exact a3) (by rw [fx, a4, txF_0 z]; exact dp.2.2.2.2.2.2.2) (by rw [fx, a5, txF_0 z]) (fun l' hl' => mLaw.low hl' (fun a j hj => by rw [k1.i (by unfold lowM at hj; omega), a1 a (by unfold lowM at hj; omega)]; exact lom6 a j hj) (by rw [k1.i (by omega), a1 311 (by decide)]; exact e311) (o.2.1 l' hl') (q.2.1 l' hl')) ⟨fun p hp => ?_, fun p hp => ?_⟩ (fun a' ha' b' hb' hn' => ?_)
    · unfold updPa
      by_cases w : p = pr a b
      · rw [if_pos w, w, ← epr]; exact new
      · rw [if_neg w]
        exact (old (pmOf p) (pmOf_lt p hp) (fun y => w (pmOf_inj p hp _ hpr (y.trans epr)))).1 _ (q.2.2.1.1.1 p hp)
    · rw [k2 331 (by omega)]
      by_cases w : p = pm a b
      · rw [if_pos w, r7]; exact bi_ok _
      · rw [if_neg w]
        by_cases y : p = 36
        · rw [y, r7]; exact bi_ok _
        · rw [l7 331 p (by unfold lowP; omega) (by decide)]; exact q.2.2.1.1.2 p hp
    · have ep' : pm a' b' = pmOf (pr a' b') := pm_pr a' ha' b' hb' hn'
      have hpr' := pr_lt a' ha' b' hb' hn'
      unfold updPa
      by_cases w : pr a' b' = pr a b
      · rw [if_pos w, ep', w, ← epr]; exact newT
      · rw [if_neg w]
        exact (old (pm a' b') (pm_lt a' ha' b' hb') (fun y => w (pmOf_inj _ hpr' _ hpr (by rw [← ep', ← epr]; exact y)))).2 _ (o.2.2.1 _ hpr').1.1 (q.2.2.1.2 a' ha' b' hb' hn')
  · obtain ⟨rfl, t1, t2⟩ := e1 z
    refine w_ift rfl ?_
    refine w_gI J2 s_301 ?_
    rw [hI_sI_self, up1, if_neg (by decide), hI_sI_self, up1, if_neg (by decide)]
    rw [b_182_133]
    refine w_fI J2 s_301 fun J3 => ?_
    obtain ⟨a1, a2, a3, a4, a5, a6⟩ := tail (hI h6 301 41) _ J3 rfl
    generalize sI (sI (sI h6 301 35 0) 301 42 (hI h6 301 40)) 301 44 (hI h6 301 41) = h7 at *
    refine w_iff (by decide) ?_
    refine Wp.reti ⟨(if_neg z).symm, ?_, mo a6⟩
    unfold txPact
    rw [if_neg z]
    have p36 : okN .boolean (hI h6 331 36) := F6.2.2.2 (by rw [b11]; decide)
    have lp : ∀ a j, lowP a j → a ≠ 317 → hI h7 a j = hI h a j := fun a j hj _ => by rw [a1 a (by unfold lowP at hj; omega)]; exact low6 a j hj
    refine q.text a6 (fun k hk => by rw [a2 k (by omega) (by omega) (by omega)]; exact f6 k hk) a3 (by rw [a4, txF_1 z]; exact t1) (by rw [a5, txF_1 z]; exact t2) (fun l' hl' => mLaw.low hl' (fun a j hj => by rw [a1 a (by unfold lowM at hj; omega)]; exact lom6 a j hj) (by rw [a1 311 (by decide)]; exact e311) (o.2.1 l' hl') (q.2.1 l' hl')) (keep_low q.2.2.1.1 lp (by rw [a1 331 (by decide)]; exact p36)) (fun a ha b hb hn => tests_low (pm_lt a ha b hb) (o.2.2.1 _ (pr_lt a ha b hb hn)).1.1 (q.2.2.1.2 a ha b hb hn) lp)
theorem m_txNo {x1 x2 : Int32} (I : Inv h) (q : RM h S) (o : okA S) (hx : ¬ (¬ x1 < 0 ∧ ¬ 6 ≤ x1) ∨ (x2 ≠ -1 ∧ ¬ (¬ x2 < 0 ∧ ¬ 6 ≤ x2 ∧ ¬ x2 ≤ x1))) : Wp (K X (d + 41) 182 [.ref 301, .int x1, .int x2] h) (VI fun v h' => v = -1 ∧ RM h' (txNo S) ∧ Mo h h') := by
  have fin : ∀ h', h' = sI (sI (sI (sI h 301 40 0) 301 35 0) 301 42 0) 301 44 (-1) → RM h' (txNo S) ∧ Mo h h' := fun h' e => by
    have E : Eo (fun a => a = 301) h h' := by rw [e]; exact (((Eo.kI (W := fun a => a = 301) Eo.rf rfl).kI rfl).kI rfl).kI rfl
    have f : ∀ k, k ≠ 40 → k ≠ 35 → k ≠ 42 → k ≠ 44 → hI h' 301 k = hI h 301 k := fun k h1 h2 h3 h4 => by rw [e, hI_sI_self, up1, if_neg h4, hI_sI_self, up1, if_neg h3, hI_sI_self, up1, if_neg h2, hI_sI_self, up1, if_neg h1]
    have f35 : hI h' 301 35 = 0 := by rw [e, hI_sI_self, up1, if_neg (by decide), hI_sI_self, up1, if_neg (by decide), hI_sI_self, up1, if_pos rfl]
    have f42 : hI h' 301 42 = 0 := by rw [e, hI_sI_self, up1, if_neg (by decide), hI_sI_self, up1, if_pos rfl]
    have f44 : hI h' 301 44 = -1 := by rw [e, hI_sI_self, up1, if_pos rfl]
    refine ⟨q.text (E.wk fun a z => Or.inl z) (fun k hk => f k (by omega) (by omega) (by omega) (by omega)) f35 f42 f44 (fun l hl => (q.2.1 l hl).eo fun a ha => E.i (by unfold inML at ha; omega)) (keep_low q.2.2.1.1 (fun a j hj _ => by rw [E.i (by unfold lowP at hj; omega)]) (by rw [E.i (by decide)]; exact q.2.2.1.1.2 36 (by decide))) (fun a ha b hb hn => (q.2.2.1.2 a ha b hb hn).eo (E.i (by decide)) (E.i (by decide))), E.wk fun a z => by omega⟩
  have out : ∀ {h1 : Hp}, h1 = sI h 301 40 0 → Inv h1 → Wp (fI h1 11 301 35 0 fun h3 => fI h3 11 301 42 0 fun h4 => fI h4 11 301 44 (-1) fun h5 => some (some (.int (-1)), h5)) (VI fun v h' => v = -1 ∧ RM h' (txNo S) ∧ Mo h h') := fun {h1} e I1 => by
    refine w_fI I1 s_301 fun I2 => ?_
    refine w_fI I2 s_301 fun I3 => ?_
    refine w_fI I3 s_301 fun I4 => ?_
    exact Wp.reti ⟨rfl, fin _ (by rw [e])⟩
  rw [k_182]
  refine w_fI I s_301 fun I1 => ?_
  refine w_eI m_144 ?_
  have e56 : (¬ x1 < 0 ∧ ¬ (5 : Int32) < x1) ↔ (¬ x1 < 0 ∧ ¬ 6 ≤ x1) := by
    have : ((5 : Int32) < x1 ↔ 6 ≤ x1) := by
      rw [Int32.lt_iff_toInt_lt, Int32.le_iff_toInt_le]
      have e5 : (5 : Int32).toInt = 5 := by decide
      have e6 : (6 : Int32).toInt = 6 := by decide
      rw [e5, e6]; omega
    rw [this]
  by_cases y : ¬ x1 < 0 ∧ ¬ 6 ≤ x1
  · rw [decide_eq_true (e56.mpr y)]
    refine w_iff (by decide) ?_
    obtain ⟨y2, y3⟩ := hx.resolve_left fun w => w y
    refine w_iff y2 ?_
    refine w_eI m_142 ?_
    obtain ⟨a, ha, rfl⟩ := i_nat (n := 6) (by decide) y.1 y.2
    rw [i32_ofNat_succ]
    rw [decide_eq_false (show ¬ (¬ x2 < Int32.ofNat (a + 1) ∧ ¬ (5 : Int32) < x2) from fun w => by
      apply y3
      have h1 : ¬ x2 < 0 := fun z => w.1 (by
        rw [Int32.lt_iff_toInt_lt] at z ⊢
        have e0 : (0 : Int32).toInt = 0 := by decide
        rw [e0] at z
        rw [i32_ofNat_lt (show a + 1 < 2147483648 by omega)]; omega)
      have h2 : ¬ 6 ≤ x2 := fun z => w.2 (by
        rw [Int32.lt_iff_toInt_lt]
        rw [Int32.le_iff_toInt_le] at z
        have e5 : (5 : Int32).toInt = 5 := by decide
        have e6 : (6 : Int32).toInt = 6 := by decide
        rw [e6] at z
        rw [e5]; omega)
      obtain ⟨b, hb, rfl⟩ := i_nat (n := 6) (by decide) h1 h2
      exact ⟨h1, h2, fun z => w.1 ((i_lt (by omega) (by omega)).mpr (by have := (i_le (by omega) (by omega)).mp z; omega))⟩)]
    refine w_iff (by decide) ?_
    exact out rfl I1
  · rw [decide_eq_false (fun w => y (e56.mp w))]
    refine w_ift (by decide) ?_
    exact out rfl I1
end TY
