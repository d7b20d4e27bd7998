/-! TEXT: the model's answer, and the state after it -/
def mkT (S : AS) (AL : Nat → ALaw) (PA : Nat → APact) (F : Int32 × Int32) : AS := (sY S, AL, PA, ((sT S).1, 0), F, sM S, sU S, sW S, sA S)
def txL (S : AS) : LRes := pLw (tC (sT S).1 (sT S).2) (tV (sT S).1 (sT S).2) (sT S).2 21 0 S00
def txP (S : AS) : QRes := pQw (tC (sT S).1 (sT S).2) (tV (sT S).1 (sT S).2) 21 0 Q00
def txF (S : AS) (w k : Nat) : Int32 × Int32 := if w = 0 then (0, -1) else (Int32.ofNat w, Int32.ofNat (tP (sT S).1 (sT S).2 k))
def updL (AL : Nat → ALaw) (l : Nat) (A : ALaw) : Nat → ALaw := fun i => if i = l then A else AL i
def updPa (PA : Nat → APact) (p : Nat) (A : APact) : Nat → APact := fun i => if i = p then A else PA i
def txLaw (S : AS) (l : Nat) : AS := mkT S (if (txL S).1 = 0 then updL (sL S) l (lawOf (txL S).2.2) else sL S) (sPc S) (txF S (txL S).1 (txL S).2.1)
def txPact (S : AS) (p : Nat) : AS := mkT S (sL S) (if (txP S).1 = 0 then updPa (sPc S) p (pactOf (txP S).2.2) else sPc S) (txF S (txP S).1 (txP S).2.1)
def txNo (S : AS) : AS := mkT S (sL S) (sPc S) (0, -1)
def ansL (S : AS) : Int32 := if (txL S).1 = 0 then Int32.ofNat (txL S).2.2.1.length else -1
def ansP (S : AS) : Int32 := if (txP S).1 = 0 then Int32.ofNat (txP S).2.2.1 else -1
theorem ok_S00 : okLS S00 := ⟨Nat.le_refl _, Nat.zero_le _, fun r hr => absurd hr (List.not_mem_nil), fun r hr => absurd hr (List.not_mem_nil), Nat.zero_le _, Nat.zero_le _⟩
theorem ok_Q00 : okPS Q00 := ⟨Nat.le_refl _, Nat.zero_le _, fun r hr => absurd hr (List.not_mem_nil), fun k => Nat.le_refl 100, Nat.zero_le _⟩
def WTx (a : Nat) : Prop := a = 301 ∨ (311 ≤ a ∧ a ≤ 324) ∨ (326 ≤ a ∧ a ≤ 331)
theorem RM.text {h h' : Hp} {S : AS} {AL : Nat → ALaw} {PA : Nat → APact} {F : Int32 × Int32} (q : RM h S) (E : Eo WTx h h') (e2 : ∀ k, k = 73 ∨ k = 76 ∨ k = 77 ∨ k = 84 → hI h' 301 k = hI h 301 k) (t : hI h' 301 35 = 0) (f1 : hI h' 301 42 = F.1) (f2 : hI h' 301 44 = F.2) (laws : ∀ l, l < 6 → mLaw h' l (AL l)) (pk : mKeep h' PA) (pt : ∀ a, a < 6 → ∀ b, b < 6 → a ≠ b → mTests h' (pm a b) (PA (pr a b)).1) : RM h' (mkT S AL PA F) := by
  obtain ⟨q1, q2, q3, q4, q5, q6, q7, q8, q9⟩ := q
  have i : ∀ a, a ≠ 301 → ¬ (311 ≤ a ∧ a ≤ 324) → ¬ (326 ≤ a ∧ a ≤ 331) → hI h' a = hI h a := fun a h1 h2 h3 => E.i (by unfold WTx; omega)
  refine ⟨fun y hy => ?_, laws, ⟨pk, pt⟩, ⟨t, fun k hk => absurd hk (Nat.not_lt_zero k)⟩, ⟨f1, f2⟩, ?_, ?_, ?_, ?_⟩
  · obtain ⟨a1, a2, a3, a4, a5, a6⟩ := q1 y hy
    exact ⟨fun k hk => by rw [i 302 (by decide) (by omega) (by omega)]; exact a1 k hk, by rw [i 303 (by decide) (by omega) (by omega)]; exact a2, by rw [i 304 (by decide) (by omega) (by omega)]; exact a3, by rw [i 304 (by decide) (by omega) (by omega)]; exact a4, by rw [i 305 (by decide) (by omega) (by omega)]; exact a5, a6.eo (i _ (by decide) (by omega) (by omega)) (i _ (by decide) (by omega) (by omega)) (i _ (by decide) (by omega) (by omega)) (i _ (by decide) (by omega) (by omega)) (i _ (by decide) (by omega) (by omega))⟩
  · rw [e2 73 (by omega)]
    exact ⟨q6.1, q6.2.eo (i _ (by decide) (by omega) (by omega)) (i _ (by decide) (by omega) (by omega))⟩
  · rw [e2 76 (by omega)]
    exact ⟨q7.1, q7.2.eo (i _ (by decide) (by omega) (by omega)) (i _ (by decide) (by omega) (by omega)) (i _ (by decide) (by omega) (by omega))⟩
  · rw [e2 77 (by omega)]
    exact ⟨q8.1, q8.2.eo (i _ (by decide) (by omega) (by omega)) (i _ (by decide) (by omega) (by omega)) (i _ (by decide) (by omega) (by omega))⟩
  · rw [e2 84 (by omega)]
    exact ⟨q9.1, q9.2.eo (i _ (by decide) (by omega) (by omega)) (i _ (by decide) (by omega) (by omega)) (i _ (by decide) (by omega) (by omega)) (E.j (show ¬ WTx 362 by unfold WTx; omega))⟩
/-- where no row of the six LAWS changed -/
theorem mLaw.low {h1 h' : Hp} {l : Nat} {A : ALaw} (hl : l < 6) (e : ∀ a j, lowM a j → hI h' a j = hI h1 a j) (e1 : hI h' 311 = hI h1 311) (o : okL A) (q : mLaw h1 l A) : mLaw h' l A := by
  obtain ⟨os, q1, q2, q3, q4, q5, q6, q7, q8⟩ := q
  have st : ∀ {i : Nat} {ops : List Op}, stepsAt h1 l i ops → i + ops.length ≤ 610 → stepsAt h' l i ops := fun s hi j hj => by
    have := s j hj
    rw [e 317 _ (by unfold lowM; omega), e 317 _ (by unfold lowM; omega)]; exact this
  have lines : ∀ (os : List (Option Rule)) (j : Nat), j + os.length ≤ 20 → mLines h1 l j os → mLines h' l j os := fun os => by
    induction os with
    | nil => intro _ _ _; trivial
    | cons o os ih =>
      intro j hj q
      have hj : j + (os.length + 1) ≤ 20 := hj
      have g : ∀ a, 312 ≤ a → a ≤ 316 → hI h' a (20 * l + j) = hI h1 a (20 * l + j) := fun a h1 h2 => e a _ (by unfold lowM; omega)
      refine ⟨?_, ih (j + 1) (by omega) q.2⟩
      have q := q.1
      cases o with
      | none =>
        obtain ⟨s, s1, s2, s3⟩ := q
        exact ⟨s, s1, s2, by rw [g 312 (by decide) (by decide)]; exact s3⟩
      | some r =>
        rcases q with ⟨q1, q2, a, b, q3, q4, q5, q6, q7⟩ | ⟨q1, q2, q3, z, a, b, q4, q5, q6, q7, q8, q9, q10, q11⟩
        · exact Or.inl ⟨q1, by rw [g 312 (by decide) (by decide)]; exact q2, a, b, by rw [g 315 (by decide) (by decide)]; exact q3, by rw [g 316 (by decide) (by decide)]; exact q4, st q5 (by omega), q6, q7⟩
        · exact Or.inr ⟨q1, by rw [g 312 (by decide) (by decide)]; exact q2, by rw [g 313 (by decide) (by decide)]; exact q3, z, a, b, by rw [g 314 (by decide) (by decide)]; exact q4, by rw [g 315 (by decide) (by decide)]; exact q5, by rw [g 316 (by decide) (by decide)]; exact q6, st q7 (by omega), q8, st q9 (by omega), q10, q11⟩
  have steps : ∀ (ss : List (Nat × Nat)) (j : Nat), j + ss.length ≤ 20 → mSteps h1 l j ss → mSteps h' l j ss := fun ss => by
    induction ss with
    | nil => intro _ _ _; trivial
    | cons s ss ih =>
      intro j hj q
      have hj : j + (ss.length + 1) ≤ 20 := hj
      exact ⟨by rw [e 320 _ (by unfold lowM; omega), e 321 _ (by unfold lowM; omega)]; exact q.1, ih (j + 1) (by omega) q.2⟩
  have := o.2.2.1
  exact ⟨os, q1, q2, by rw [e1]; exact q3, lines os 0 (by omega) q4, by rw [e 319 _ (by unfold lowM; omega)]; exact q5, steps A.2.1 0 (by omega) q6, by rw [e 318 _ (by unfold lowM; omega)]; exact q7, by rw [e 322 _ (by unfold lowM; omega)]; exact q8⟩
theorem mTst.cp {h h' : Hp} {p q : Nat} : ∀ {ts : List Nat} {j : Nat}, mTst h p j ts → (∀ i, i < j + ts.length → hI h' 327 (20 * q + i) = hI h 327 (20 * p + i)) → mTst h' q j ts
  | [], _, _, _ => trivial
  | t :: ts, j, r, e => by
    have l : j + (t :: ts).length = j + 1 + ts.length := by rw [List.length_cons]; omega
    rw [l] at e
    exact ⟨by rw [e j (by omega)]; exact r.1, mTst.cp r.2 e⟩
theorem mTrm.cp {h h' : Hp} {p q : Nat} {A : APact} (t : mTrm h 328 329 330 331 p A) (e1 : hI h' 328 q = hI h 328 p) (e2 : ∀ k, k < 6 → hI h' 329 (6 * q + k) = hI h 329 (6 * p + k)) (e3 : hI h' 330 q = hI h 330 p) (e4 : hI h' 331 q = hI h 331 p) : mTrm h' 328 329 330 331 q A := by
  obtain ⟨t1, t2, t3, t4⟩ := t
  exact ⟨by rw [e1]; exact t1, fun k hk => by rw [e2 k hk]; exact t2 k hk, by rw [e3]; exact t3, by rw [e4]; exact t4⟩
theorem keep_low {h h' : Hp} {PA : Nat → APact} (q : mKeep h PA) (e : ∀ a j, lowP a j → a ≠ 317 → hI h' a j = hI h a j) (b : okN .boolean (hI h' 331 36)) : mKeep h' PA := by
  refine ⟨fun p hp => ?_, fun p hp => ?_⟩
  · have := pmOf_lt p hp
    exact (q.1 p hp).cp (e _ _ (by unfold lowP; omega) (by decide)) (fun k hk => e _ _ (by unfold lowP; omega) (by decide)) (e _ _ (by unfold lowP; omega) (by decide)) (e _ _ (by unfold lowP; omega) (by decide))
  · by_cases z : p = 36
    · rw [z]; exact b
    · rw [e 331 p (by unfold lowP; omega) (by decide)]; exact q.2 p hp
theorem tests_low {h h' : Hp} {p : Nat} {ts : List Nat} (hp : p < 36) (hl : ts.length ≤ 20) (q : mTests h p ts) (e : ∀ a j, lowP a j → a ≠ 317 → hI h' a j = hI h a j) : mTests h' p ts := ⟨by rw [e 326 p (by unfold lowP; omega) (by decide)]; exact q.1, q.2.cp fun i hi => e 327 _ (by unfold lowP; omega) (by decide)⟩
theorem i32_some (x : Int32) : ∃ n, x = Int32.ofNat n := ⟨x.toBitVec.toNat, by
  apply Int32.toBitVec_inj.mp
  show x.toBitVec = BitVec.ofNat 32 x.toBitVec.toNat
  rw [BitVec.ofNat_toNat, BitVec.setWidth_eq]⟩
section TX
variable {X : Ctx} {d : Nat} {Q : Option Value → Hp → Prop} {h : Hp} {S : AS}
/-- what the model's state is when it begins to read -/
def Beg (h h5 : Hp) (T : Nat → Nat) (L : Nat) (b : Bool) : Prop := Eo WTx h h5 ∧ hI h5 311 = hI h 311 ∧ (∀ k, k = 73 ∨ k = 76 ∨ k = 77 ∨ k = 84 → hI h5 301 k = hI h 301 k) ∧ (∀ a j, lowM a j ∨ lowP a j → hI h5 a j = hI h a j) ∧ (∃ dd, MP T L h5 0 [] dd 0) ∧ hI h5 301 45 = bi b ∧ hI h5 301 34 = 0 ∧ (hI h5 319 6 = 0 ∧ hI h5 323 6 = 0 ∧ hI h5 324 6 = 0 ∧ hI h5 318 6 = 0 ∧ hI h5 322 6 = 0) ∧ (hI h5 326 36 = 0 ∧ hI h5 328 36 = 0 ∧ hI h5 330 36 = -1 ∧ hI h5 331 36 = 0) ∧ ∀ k, k < 6 → hI h5 329 (216 + k) = -1
theorem m_beg {b : Bool} {f : Hp → Option (Option Value × Hp)} (hv : X.2.2 = .null ∨ X.2.2 = .ref 61) (I : Inv h) (q : RM h S) (o : okA S) (kk : ∀ h5, Inv h5 → Beg h h5 (sT S).1 (sT S).2 b → Wp (f h5) Q) : Wp (fZ (sI h 301 40 0) 11 301 45 (bi b) fun h1 => fI h1 11 301 36 0 fun h2 => gd (hS h2 301 = (12, 0)) (bV (K X (d + 8) 178 [.ref 301] h2) fun h3 => gd (hS h3 301 = (12, 0)) (bV (K X (d + 8) 159 [.ref 301] h3) f))) Q := by
  have I0 : Inv (sI h 301 40 0) := I.sI
  refine w_fZ I0 s_301 (bi_ok b) fun I1 => ?_
  refine w_fI I1 s_301 fun I2 => ?_
  refine w_gS I2 s_301 ?_
  refine w_bV I2 (m_178 (d := d + 6) I2) (by decide) rfl fun h4 I4 c => ?_
  refine w_gS I4 s_301 ?_
  obtain ⟨c1, c2, c3, ⟨c4, c4'⟩, c5, c6, c7⟩ := c
  have oo : ∀ a, a ≠ 301 → hI (sI (sI (sI h 301 40 0) 301 45 (bi b)) 301 36 0) a = hI h a := fun a ha => by rw [sI_other ha, sI_other ha, sI_other ha]
  have of : ∀ k, k ≠ 40 → k ≠ 45 → k ≠ 36 → hI (sI (sI (sI h 301 40 0) 301 45 (bi b)) 301 36 0) 301 k = hI h 301 k := fun k h1 h2 h3 => by rw [hI_sI_self, up1, if_neg h3, hI_sI_self, up1, if_neg h2, hI_sI_self, up1, if_neg h1]
  have o40 : hI (sI (sI (sI h 301 40 0) 301 45 (bi b)) 301 36 0) 301 40 = 0 := by rw [hI_sI_self, up1, if_neg (by decide), hI_sI_self, up1, if_neg (by decide), hI_sI_self, up1, if_pos rfl]
  have o45 : hI (sI (sI (sI h 301 40 0) 301 45 (bi b)) 301 36 0) 301 45 = bi b := by rw [hI_sI_self, up1, if_neg (by decide), hI_sI_self, up1, if_pos rfl]
  have o36 : hI (sI (sI (sI h 301 40 0) 301 45 (bi b)) 301 36 0) 301 36 = 0 := by rw [hI_sI_self, up1, if_pos rfl]
  have EE : Eo WTx h (sI (sI (sI h 301 40 0) 301 45 (bi b)) 301 36 0) := ((Eo.rf.kI (Or.inl rfl)).kI (Or.inl rfl)).kI (Or.inl rfl)
  generalize sI (sI (sI h 301 40 0) 301 45 (bi b)) 301 36 0 = g at *
  obtain ⟨t1, t2⟩ := q.2.2.2.1
  obtain ⟨t3, t4⟩ := o.2.2.2.1
  have tm4 : Tm (sT S).1 (sT S).2 h4 := ⟨by rw [c2 35 (by decide) (by decide), of 35 (by decide) (by decide) (by decide)]; exact t1, fun k hk => by rw [c1.i (show ¬ (332 = 301 ∨ WC 332) by unfold WC; omega), oo 332 (by decide)]; exact t2 k hk, t3, t4⟩
  refine w_bV I4 (m_159 (d := d) (p := 0) hv I4 tm4 (Nat.zero_le _) (by rw [c2 36 (by decide) (by decide), o36]; rfl)) (by decide) rfl fun h5 I5 r => kk h5 I5 ?_
  obtain ⟨r1, r2⟩ := r
  have i5 : ∀ a, a ≠ 301 → hI h5 a = hI h4 a := fun a ha => r1.1.i ha
  obtain ⟨dd, hd⟩ := i32_some (hI h5 301 43)
  refine ⟨(EE.tr (c1.wk fun a z => by unfold WC at z; unfold WTx; omega)).tr (r1.1.wk fun a z => Or.inl z), by rw [i5 311 (by decide), c1.i (show ¬ (311 = 301 ∨ WC 311) by unfold WC; omega), oo 311 (by decide)], fun k hk => by rw [r1.2 k (by omega), c2 k (by omega) (by omega), of k (by omega) (by omega) (by omega)], fun a j hj => ?_, ⟨dd, tm4.lf r1, r2, fun j hj => absurd hj (Nat.not_lt_zero j), by rw [r1.2 33 (by omega)]; exact c4, fun j hj => absurd hj (Nat.not_lt_zero j), Nat.le_refl _, hd, by rw [r1.2 40 (by omega), c2 40 (by decide) (by decide)]; exact o40⟩, by rw [r1.2 45 (by omega), c2 45 (by decide) (by decide)]; exact o45, by rw [r1.2 34 (by omega)]; exact c4', ?_, ?_, fun k hk => by rw [i5 329 (by decide)]; exact c7 k hk⟩
  · have a301 : a ≠ 301 := by unfold lowM lowP at hj; omega
    rw [i5 a a301, c3 a j hj, oo a a301]
  · rw [i5 319 (by decide), i5 323 (by decide), i5 324 (by decide), i5 318 (by decide), i5 322 (by decide)]; exact c5
  · rw [i5 326 (by decide), i5 328 (by decide), i5 330 (by decide), i5 331 (by decide)]; exact c6
/-- fault, or what was read -/
theorem txF_0 {w k : Nat} (z : w = 0) : txF S w k = (0, -1) := if_pos z
theorem txF_1 {w k : Nat} (z : w ≠ 0) : txF S w k = (Int32.ofNat w, Int32.ofNat (tP (sT S).1 (sT S).2 k)) := if_neg z
theorem m_txLaw {l : Nat} (hv : X.2.2 = .null ∨ X.2.2 = .ref 61) (I : Inv h) (q : RM h S) (o : okA S) (hl : l < 6) : Wp (K X (d + 41) 182 [.ref 301, .int (Int32.ofNat l), .int (-1)] h) (VI fun v h' => v = ansL S ∧ RM h' (txLaw S l) ∧ Mo h h') := by
  rw [k_182]
  refine w_fI I s_301 fun I1 => ?_
  refine w_eI m_144 ?_
  rw [decide_eq_true (show ¬ Int32.ofNat l < 0 ∧ ¬ (5 : Int32) < Int32.ofNat l from ⟨i_lt0 (by omega), fun z => absurd ((i_lt (m := 5) (by omega) (by omega)).mp z) (by omega)⟩)]
  refine w_iff (by decide) ?_
  refine w_ift rfl ?_
  rw [b_182_45]
  refine w_ift rfl ?_
  refine m_beg (d := d + 32) (b := false) hv I q o fun h5 I5 B => ?_
  obtain ⟨b1, b0, b2, b3, b4, b5, b6, ⟨b7, b8, b9, b10, b11⟩, b12, b13⟩ := B
  have q5 : MLw (sT S).1 (sT S).2 h5 h5 0 S00 := ⟨b4, ⟨b6, trivial, b7, trivial, b10, b11, b8, b9⟩, FrM.rf, b5⟩
  refine c182_74 (d := d) hv 21 0 S00 h5 1 rfl ok_S00 I5 q5 (by decide) b5 fun x h6 I6 EW => ?_
  obtain ⟨F6, f45, e0, e1⟩ := EW
  have gl : okLS (pLw (tC (sT S).1 (sT S).2) (tV (sT S).1 (sT S).2) (sT S).2 21 0 S00).2.2 ∨ (txL S).1 ≠ 0 := by
    by_cases z : (txL S).1 = 0
    · exact Or.inl (ok_lw (fun k => tV_le) 21 0 S00 (fun j hj => absurd hj (Nat.not_lt_zero j)) ok_S00 z)
    · exact Or.inr z
  have er : txL S = pLw (tC (sT S).1 (sT S).2) (tV (sT S).1 (sT S).2) (sT S).2 21 0 S00 := rfl
  rw [← er] at e0 e1 gl
  have E6 : Eo WTx h h6 := b1.tr (F6.1.wk fun a z => by unfold WTx; omega)
  have low6 : ∀ a j, lowP a j → hI h6 a j = hI h a j := fun a j hj => by
    rw [← b3 a j (Or.inr hj)]
    by_cases z : a = 317
    · subst z; exact F6.2.2 317 j (by unfold lowP at hj; unfold lowM; omega)
    · rw [F6.1.i (by unfold lowP at hj; omega)]
  have lom6 : ∀ a j, lowM a j → hI h6 a j = hI h a j := fun a j hj => by rw [F6.2.2 a j hj, b3 a j (Or.inl hj)]
  have p36 : okN .boolean (hI h6 331 36) := by rw [F6.1.i (by omega), b12.2.2.2]; decide
  have e311 : hI h6 311 = hI h 311 := by rw [F6.1.i (by omega), b0]
  have f6 : ∀ k, k = 73 ∨ k = 76 ∨ k = 77 ∨ k = 84 → hI h6 301 k = hI h 301 k := fun k hk => by rw [F6.2.1 k (by omega), b2 k hk]
  -- what follows writes fields 35, 42 and 44 first
  have tail : ∀ (s1 : Int32) (h7 : Hp), Inv h7 → h7 = sI (sI (sI h6 301 35 0) 301 42 (hI h6 301 40)) 301 44 s1 → (∀ a, a ≠ 301 → hI h7 a = hI h6 a) ∧ (∀ k, k ≠ 35 → k ≠ 42 → k ≠ 44 → hI h7 301 k = hI h6 301 k) ∧ hI h7 301 35 = 0 ∧ hI h7 301 42 = hI h6 301 40 ∧ hI h7 301 44 = s1 ∧ Eo WTx h h7 := fun s1 h7 I7 e => by
    subst e
    refine ⟨fun a ha => by rw [sI_other ha, sI_other ha, sI_other ha], fun k h1 h2 h3 => by rw [hI_sI_self, up1, if_neg h3, hI_sI_self, up1, if_neg h2, hI_sI_self, up1, if_neg h1], ?_, ?_, ?_, ((E6.kI (Or.inl rfl)).kI (Or.inl rfl)).kI (Or.inl rfl)⟩
    · rw [hI_sI_self, up1, if_neg (by decide), hI_sI_self, up1, if_neg (by decide), hI_sI_self, up1, if_pos rfl]
    · rw [hI_sI_self, up1, if_neg (by decide), hI_sI_self, up1, if_pos rfl]
    · rw [hI_sI_self, up1, if_pos rfl]
  have mo : ∀ {h' : Hp}, Eo WTx h h' → Mo h h' := fun E => E.wk fun a z => by unfold WTx at z; omega
  rw [b_182_107]
  refine w_fI I6 s_301 fun J1 => ?_
  refine w_gI J1 s_301 ?_
  rw [hI_sI_self, up1, if_neg (by decide)]
  refine w_fI J1 s_301 fun J2 => ?_
  by_cases z : (txL S).1 = 0
  · obtain ⟨x0, dp, R6, -, -⟩ := e0 z
    have ok6 := gl.resolve_right fun w => w z
    refine w_iff x0 ?_
    rw [b_182_133]
    refine w_fI J2 s_301 fun J3 => ?_
    obtain ⟨a1, a2, a3, a4, a5, a6⟩ := tail (-1) _ J3 rfl
    generalize sI (sI (sI h6 301 35 0) 301 42 (hI h6 301 40)) 301 44 (-1) = h7 at *
    refine w_ift x0 ?_
    refine w_gI J3 s_301 ?_
    rw [a2 45 (by decide) (by decide) (by decide), f45]
    refine w_ift rfl ?_
    refine w_gS J3 s_301 ?_
    obtain ⟨dd, dp⟩ := dp
    have bk := dp.k
    have dv : 2 * (stOf (rulesOf (txL S).2.2.1)).length / 2 = (stOf (rulesOf (txL S).2.2.1)).length := by omega
    refine w_bV J3 (m_180 (d := d + 39) (m := 2 * (stOf (rulesOf (txL S).2.2.1)).length) hl J3 (by omega) (by rw [dv, a2 33 (by decide) (by decide) (by decide)]; exact dp.2.2.2.1) (by omega)) (by decide) rfl fun h8 I8 kp => ?_
    obtain ⟨kp, k311⟩ := kp
    refine w_gI I8 s_301 ?_
    have fx : ∀ k, hI h8 301 k = hI h7 301 k := fun k => by rw [kp.1.i (by omega)]
    rw [fx, a2 34 (by decide) (by decide) (by decide), R6.1]
    have E8 : Eo WTx h h8 := a6.tr (kp.1.wk fun a z => by unfold WTx; omega)
    refine Wp.reti ⟨(if_pos z).symm, ?_, mo E8⟩
    unfold txLaw
    rw [if_pos z]
    have lp : ∀ a j, lowP a j → a ≠ 317 → hI h8 a j = hI h a j := fun a j hj w => by
      rw [kp.1.i (by unfold lowP at hj; omega), a1 a (by unfold lowP at hj; omega)]; exact low6 a j hj
    refine q.text E8 (fun k hk => by rw [fx, a2 k (by omega) (by omega) (by omega)]; exact f6 k hk) (by rw [fx]; exact a3) (by rw [fx, a4, txF_0 z]; exact dp.2.2.2.2.2.2.2) (by rw [fx, a5, txF_0 z]) (fun l' hl' => ?_) (keep_low q.2.2.1.1 lp ?_) (fun a ha b hb hn => tests_low (pm_lt a ha b hb) (o.2.2.1 _ (pr_lt a ha b hb hn)).1.1 (q.2.2.1.2 a ha b hb hn) lp)
    · unfold updL
      by_cases w : l' = l
      · subst w
        rw [if_pos rfl]
        exact kp.law hl (dp.2.2.2.2.1.eo (a1 317 (by decide))) bk.2.2 (R6.eo (fun a h1 h2 _ => a1 a (by omega)) (a2 34 (by decide) (by decide) (by decide))) ok6 k311
      · rw [if_neg w]
        refine kp.other hl hl' w (by omega) (o.2.1 l' hl') (mLaw.low hl' (fun a j hj => ?_) ?_ (o.2.1 l' hl') (q.2.1 l' hl'))
        · rw [a1 a (by unfold lowM at hj; omega)]; exact lom6 a j hj
        · rw [a1 311 (by decide)]; exact e311
    · rw [kp.1.i (by omega), a1 331 (by decide)]; exact p36
  · obtain ⟨rfl, t1, t2⟩ := e1 z
    refine w_ift rfl ?_
    refine w_gI J2 s_301 ?_
    rw [hI_sI_self, up1, if_neg (by decide), hI_sI_self, up1, if_neg (by decide)]
    rw [b_182_133]
    refine w_fI J2 s_301 fun J3 => ?_
    obtain ⟨a1, a2, a3, a4, a5, a6⟩ := tail (hI h6 301 41) _ J3 rfl
    generalize sI (sI (sI h6 301 35 0) 301 42 (hI h6 301 40)) 301 44 (hI h6 301 41) = h7 at *
    refine w_iff (by decide) ?_
    refine Wp.reti ⟨(if_neg z).symm, ?_, mo a6⟩
    unfold txLaw
    rw [if_neg z]
    have lp : ∀ a j, lowP a j → a ≠ 317 → hI h7 a j = hI h a j := fun a j hj _ => by rw [a1 a (by unfold lowP at hj; omega)]; exact low6 a j hj
    refine q.text a6 (fun k hk => by rw [a2 k (by omega) (by omega) (by omega)]; exact f6 k hk) a3 (by rw [a4, txF_1 z]; exact t1) (by rw [a5, txF_1 z]; exact t2) (fun l' hl' => mLaw.low hl' (fun a j hj => by rw [a1 a (by unfold lowM at hj; omega)]; exact lom6 a j hj) (by rw [a1 311 (by decide)]; exact e311) (o.2.1 l' hl') (q.2.1 l' hl')) (keep_low q.2.2.1.1 lp (by rw [a1 331 (by decide)]; exact p36)) (fun a ha b hb hn => tests_low (pm_lt a ha b hb) (o.2.2.1 _ (pr_lt a ha b hb hn)).1.1 (q.2.2.1.2 a ha b hb hn) lp)
end TX
