/-! tie, end, fault, look, move -/
abbrev putP (S : AS) (M : List (Nat × Nat)) (U : List ATurn) (Wd : List AWord) (An : List AAns) : AS := (S.1, S.2.1, S.2.2.1, S.2.2.2.1, S.2.2.2.2.1, M, U, Wd, An)
section PD
variable {X : Ctx} {d : Nat} {h : Hp} {S : AS}
theorem RC.plans {h' : Hp} {W : Nat → Prop} {M : List (Nat × Nat)} {U : List ATurn} {Wd : List AWord} {An : List AAns} (q : RC h S) (o : okA S) (e : Eo W h h') (w : ∀ a, W a → 67 ≤ a ∧ a ≤ 80) (c : plansC h' (putP S M U Wd An)) (c2 : hI h' 76 4 = Int32.ofNat An.length ∧ rA h' 77 78 79 80 0 An) : RC h' (putP S M U Wd An) := by
  obtain ⟨q1, q2, q3, q4, q5, q6, q7, q8, q9⟩ := q.1
  have n : ∀ a, (a < 67 ∨ 80 < a) → ¬ W a := fun a z k => by have := w a k; omega
  refine ⟨⟨P1 (S := S) q1 o e (fun a z z2 => n a (by omega)), P2 q2 e (fun a z => n a (by omega)) (e.p (n _ (by omega))), P3 q3 e (fun a z => n a (by omega)) (e.p (n _ (by omega))), ?_, ?_, c, c2, q8.eo (e.i (n _ (by omega))), ?_⟩, q.2.eo (e.p (n _ (by omega)))⟩
  · rw [e.i (n 62 (by omega)), e.i (n 81 (by omega))]; exact q4
  · rw [e.i (n 82 (by omega))]; exact q5
  · rw [e.j (n 83 (by omega))]; exact q9
theorem RM.plans {h' : Hp} {W : Nat → Prop} {M : List (Nat × Nat)} {U : List ATurn} {Wd : List AWord} {An : List AAns} (q : RM h S) (e : Eo W h h') (w : ∀ a, W a → a = 301 ∨ (351 ≤ a ∧ a ≤ 362)) (f : ∀ k, k < 73 → hI h' 301 k = hI h 301 k)
    (c6 : hI h' 301 73 = Int32.ofNat M.length ∧ r2 h' 351 352 0 M) (c7 : hI h' 301 76 = Int32.ofNat U.length ∧ r3 h' 353 354 355 0 U) (c8 : hI h' 301 77 = Int32.ofNat Wd.length ∧ rW h' 356 357 358 pmOf 0 Wd) (c9 : hI h' 301 84 = Int32.ofNat An.length ∧ rA h' 359 360 361 362 0 An) : RM h' (putP S M U Wd An) := by
  obtain ⟨q1, q2, q3, q4, q5, q6, q7, q8, q9⟩ := q
  have n : ∀ a, 301 < a → a < 351 → ¬ W a := fun a z z2 k => by have := w a k; omega
  refine ⟨fun y hy => ?_, fun l hl => (q2 l hl).eo (fun a ha => by unfold inML at ha; exact e.i (n a (by omega) (by omega))), ⟨q3.1.eo (e.i (n _ (by omega) (by omega))) (e.i (n _ (by omega) (by omega))) (e.i (n _ (by omega) (by omega))) (e.i (n _ (by omega) (by omega))), fun a ha b hb hn => (q3.2 a ha b hb hn).eo (e.i (n _ (by omega) (by omega))) (e.i (n _ (by omega) (by omega)))⟩, ?_, ?_, c6, c7, c8, c9⟩
  · obtain ⟨a1, a2, a3, a4, a5, a6⟩ := q1 y hy
    exact ⟨fun k hk => by rw [e.i (n 302 (by omega) (by omega))]; exact a1 k hk, by rw [e.i (n 303 (by omega) (by omega))]; exact a2, by rw [e.i (n 304 (by omega) (by omega))]; exact a3, by rw [e.i (n 304 (by omega) (by omega))]; exact a4, by rw [e.i (n 305 (by omega) (by omega))]; exact a5, a6.eo (e.i (n _ (by omega) (by omega))) (e.i (n _ (by omega) (by omega))) (e.i (n _ (by omega) (by omega))) (e.i (n _ (by omega) (by omega))) (e.i (n _ (by omega) (by omega)))⟩
  · rw [f 35 (by omega), e.i (n 332 (by omega) (by omega))]; exact q4
  · rw [f 42 (by omega), f 44 (by omega)]; exact q5
/-! tie -/
def okTie (y w l : Int32) : Prop := isYr y ∧ isLN l ∧ ¬ w < 0 ∧ w ≤ 1
def tieS (S : AS) (y : Nat) (w l : Int32) : AS := putY S y (if w = 0 then ((sY S y).1, (sY S y).2.1, l, (sY S y).2.2.2) else ((sY S y).1, (sY S y).2.1, (sY S y).2.2.1, l, (sY S y).2.2.2.2))
theorem okA_tie {y : Nat} {w l : Int32} (o : okA S) (hy : y < 2) : okA (tieS S y w l) := by
  unfold tieS
  split
  · exact okA_putY o (o.1 y hy) (fun z => by subst z; exact Nat.le_refl _)
  · exact okA_putY o (o.1 y hy) (fun z => by subst z; exact Nat.le_refl _)
theorem c_tie {y w l : Int32} (I : Inv h) (q : RC h S) (o : okA S) :
    Wp (K X (d + 4) 99 [.ref 62, .int y, .int w, .int l] h) (VI fun v h' => (okTie y w l → (v = 1 ∧ Cl h h' ∧ RC h' (tieS S (dN y) w l))) ∧ (¬ okTie y w l → v = 0 ∧ h' = h)) := by
  rw [k_99]
  refine w_eI yr_c ?_
  refine w_if (fun c => failI fun z => bi_dec.mp c z.1) (fun c => ?_)
  have hy : isYr y := Classical.byContradiction fun z => c (bi_dec.mpr z)
  refine w_eI ln_c ?_
  refine w_if (fun c => failI fun z => bi_dec.mp c z.2.1) (fun c => ?_)
  have hl : isLN l := Classical.byContradiction fun z => c (bi_dec.mpr z)
  refine w_if (fun c => failI fun z => z.2.2.1 c) (fun c0 => ?_)
  refine w_if (fun c1 => ?_) (fun c => failI fun z => c z.2.2.2)
  refine passI ⟨hy, hl, c0, c1⟩ ?_
  obtain ⟨yn, y2, rfl⟩ := yr_nat hy
  have ys := year_s y2
  obtain ⟨a1, a2, a3, a4, a5⟩ := q.1.1 yn y2
  rw [dN_of (by omega)]
  have fin : ∀ (k : Nat) (A : AY), (k = 3 ∨ k = 4) → tieS S yn w l = putY S yn A → A.1 = (sY S yn).1 → A.2.1 = (sY S yn).2.1 → A.2.2.2.2 = (sY S yn).2.2.2.2 → A.2.2.1 = (if k = 3 then l else (sY S yn).2.2.1) → A.2.2.2.1 = (if k = 4 then l else (sY S yn).2.2.2.1) → Wp (some (some (.int 1), sI h (104 + 17 * yn) k l)) (VI fun x h' => x = 1 ∧ Cl h h' ∧ RC h' (tieS S yn w l)) := fun k A hk e0 e1 e2 e3 e4 e5 => by
    have E : Eo (fun a => a = 104 + 17 * yn) h (sI h (104 + 17 * yn) k l) := Eo.rf.kI rfl
    have c : cYear (sI h (104 + 17 * yn) k l) yn A := by
      refine ⟨fun j hj => by rw [e1, sI_other (by omega)]; exact a1 j hj, ⟨fun j hj => ?_, ?_, ?_, ?_⟩, ?_, by rw [e3, sI_other (by omega)]; exact a4, by rw [e3]; exact a5.eo (fun a h1 h2 => sI_other (by omega))⟩
      · rw [sI_other (by omega)]; show _ = Int32.ofNat (cnt A.1 j 360); rw [e1]; exact a2.1 j hj
      · rw [hI_sI_self, up1, if_neg (by omega)]; show _ = A.2.1; rw [e2]; exact a2.2.1
      · rw [hI_sI_self, up1]; show _ = A.2.2.1; rw [e4]
        rcases hk with rfl | rfl
        · rfl
        · exact a2.2.2.1
      · rw [hI_sI_self, up1]; show _ = A.2.2.2.1; rw [e5]
        rcases hk with rfl | rfl
        · exact a2.2.2.2
        · rfl
      · rw [hI_sI_self, up1, if_neg (by omega), e1]; exact a3
    rw [e0]
    exact Wp.reti ⟨rfl, E.wk (fun a z => by omega), q.years o E (fun a z => by omega) y2 c⟩
  refine w_if (fun c => ?_) (fun c => ?_)
  · refine w_gL I s_62 l_62_0 ?_
    refine w_aLn I s_63 (by decide) (by decide) y2 (by decide) (lk_years yn y2) ?_
    refine w_gL I ys.1 ys.2.2.2.2.2.2.1 ?_
    refine w_fI I ys.2.2.1 fun I => ?_
    exact fin 4 ((sY S yn).1, (sY S yn).2.1, (sY S yn).2.2.1, l, (sY S yn).2.2.2.2) (Or.inr rfl) (congrArg (putY S yn) (if_neg c)) rfl rfl rfl rfl rfl
  · refine w_gL I s_62 l_62_0 ?_
    refine w_aLn I s_63 (by decide) (by decide) y2 (by decide) (lk_years yn y2) ?_
    refine w_gL I ys.1 ys.2.2.2.2.2.2.1 ?_
    refine w_fI I ys.2.2.1 fun I => ?_
    exact fin 3 ((sY S yn).1, (sY S yn).2.1, l, (sY S yn).2.2.2) (Or.inl rfl) (congrArg (putY S yn) (if_pos (Classical.byContradiction c))) rfl rfl rfl rfl rfl
theorem m_tie {y w l : Int32} (I : Inv h) (q : RM h S) (o : okA S) :
    Wp (K X (d + 4) 149 [.ref 301, .int y, .int w, .int l] h) (VI fun v h' => (okTie y w l → (v = 1 ∧ Mo h h' ∧ RM h' (tieS S (dN y) w l))) ∧ (¬ okTie y w l → v = 0 ∧ h' = h)) := by
  rw [k_149]
  refine w_eI yr_m ?_
  refine w_if (fun c => failI fun z => bi_dec.mp c z.1) (fun c => ?_)
  have hy : isYr y := Classical.byContradiction fun z => c (bi_dec.mpr z)
  refine w_eI m_142 ?_
  refine w_if (fun c => failI fun z => bi_dec.mp c ⟨z.2.2.1, Int32.not_lt.mpr z.2.2.2⟩) (fun c => ?_)
  have hw : ¬ w < 0 ∧ ¬ 1 < w := Classical.byContradiction fun z => c (bi_dec.mpr z)
  have go : isLN l → ∀ h2, h2 = h → Inv h2 → Wp (wI h2 304 ((2 * y) + w) l fun h3 => some (some (.int 1), h3)) (VI fun v h' => (okTie y w l → (v = 1 ∧ Mo h h' ∧ RM h' (tieS S (dN y) w l))) ∧ (¬ okTie y w l → v = 0 ∧ h' = h)) := by
    intro hl h2 e2 _
    subst e2
    refine passI ⟨hy, hl, hw.1, Int32.not_lt.mp hw.2⟩ ?_
    obtain ⟨yn, y2, rfl⟩ := yr_nat hy
    have w2 : ¬ Int32.ofNat 2 ≤ w := fun z => hw.2 ((lt_le (n := 1) (by decide)).mpr z)
    obtain ⟨wn, wn2, rfl⟩ := i_nat (n := 2) (by decide) hw.1 w2
    have x1 : (2 : Int32) * Int32.ofNat yn + Int32.ofNat wn = Int32.ofNat (2 * yn + wn) := i_lin1 2 yn wn
    rw [dN_of (by omega), x1]
    refine w_wIn I s_304 (by omega) (by decide) fun I => ?_
    have E : Eo (fun a => a = 304) h2 (sI h2 304 (2 * yn + wn) l) := Eo.rf.kI rfl
    have e : ∀ a, a ≠ 304 → hI (sI h2 304 (2 * yn + wn) l) a = hI h2 a := fun a ha => sI_other ha
    refine Wp.reti ⟨rfl, E.wk (fun a z => by omega), ?_⟩
    obtain ⟨b1, b2, b3, b4, b5⟩ := q.1 yn y2
    have oth : ∀ z, z < 2 → z ≠ yn → mYear (sI h2 304 (2 * yn + wn) l) z (sY S z) := fun z hz zy => by
      obtain ⟨c1, c2, c3, c4, c5⟩ := q.1 z hz
      exact ⟨fun k hk => by rw [e 302 (by decide)]; exact c1 k hk, by rw [e 303 (by decide)]; exact c2, by rw [hI_sI_self, up1, if_neg (by omega)]; exact c3, by rw [hI_sI_self, up1, if_neg (by omega)]; exact c4, by rw [e 305 (by decide)]; exact c5.1, c5.2.eo (e _ (by decide)) (e _ (by decide)) (e _ (by decide)) (e _ (by decide)) (e _ (by decide))⟩
    have : wn = 0 ∨ wn = 1 := by omega
    rcases this with rfl | rfl
    · have es : tieS S yn (Int32.ofNat 0) l = putY S yn ((sY S yn).1, (sY S yn).2.1, l, (sY S yn).2.2.2) := congrArg (putY S yn) (if_pos rfl)
      rw [es]
      exact q.years E (fun a z => by omega) ⟨fun k hk => by rw [e 302 (by decide)]; exact b1 k hk, by rw [e 303 (by decide)]; exact b2, by rw [hI_sI_self, up1, if_pos (by omega)], by rw [hI_sI_self, up1, if_neg (by omega)]; exact b4, by rw [e 305 (by decide)]; exact b5.1, b5.2.eo (e _ (by decide)) (e _ (by decide)) (e _ (by decide)) (e _ (by decide)) (e _ (by decide))⟩ oth
    · have es : tieS S yn (Int32.ofNat 1) l = putY S yn ((sY S yn).1, (sY S yn).2.1, (sY S yn).2.2.1, l, (sY S yn).2.2.2.2) := congrArg (putY S yn) (if_neg (by decide))
      rw [es]
      exact q.years E (fun a z => by omega) ⟨fun k hk => by rw [e 302 (by decide)]; exact b1 k hk, by rw [e 303 (by decide)]; exact b2, by rw [hI_sI_self, up1, if_neg (by omega)]; exact b3, by rw [hI_sI_self, up1, if_pos (by omega)], by rw [e 305 (by decide)]; exact b5.1, b5.2.eo (e _ (by decide)) (e _ (by decide)) (e _ (by decide)) (e _ (by decide)) (e _ (by decide))⟩ oth
  refine w_if (fun c => ?_) (fun c1 => ?_)
  · exact w_gL I s_301 l_301_2 (go (Or.inl c) h rfl I)
  · refine w_eI ld_m ?_
    refine w_if (fun c => ?_) (fun c => failI fun z => ?_)
    · exact w_gL I s_301 l_301_2 (go (Or.inr (Classical.byContradiction fun z => c (bi_dec.mpr z))) h rfl I)
    · exact bi_dec.mp (Classical.byContradiction c) (z.2.1.resolve_left c1)
/-! end -/
def putT (S : AS) (t : (Nat → Nat) × Nat) : AS := (S.1, S.2.1, S.2.2.1, t, S.2.2.2.2)
def okEnd (S : AS) (n : Int32) : Prop := ¬ n < 0 ∧ ¬ Int32.ofNat (sT S).2 < n
theorem RC.tape {h' : Hp} {W : Nat → Prop} {t : (Nat → Nat) × Nat} (q : RC h S) (o : okA S) (e : Eo W h h') (w : ∀ a, W a → a = 62 ∨ a = 81) (e62 : hP h' 62 = hP h 62) (c : hI h' 62 13 = Int32.ofNat t.2 ∧ ∀ k, k < t.2 → hI h' 81 k = Int32.ofNat (t.1 k)) : RC h' (putT S t) := by
  obtain ⟨q1, q2, q3, q4, q5, q6, q7, q8, q9⟩ := q.1
  have n : ∀ a, a ≠ 62 → a ≠ 81 → ¬ W a := fun a z z2 k => by have := w a k; omega
  refine ⟨⟨P1 (S := S) q1 o e (fun a z z2 => n a (by omega) (by omega)), P2 q2 e (fun a z => n a (by omega) (by omega)) e62, P3 q3 e (fun a z => n a (by omega) (by omega)) e62, c, ?_, P6 (S := putT S t) q6 e (fun a z z2 => n a (by omega) (by omega)), P7 q7 e (fun a z z2 => n a (by omega) (by omega)), q8.eo (e.i (n _ (by omega) (by omega))), ?_⟩, q.2.eo (e.p (n _ (by omega) (by omega)))⟩
  · rw [e.i (n 82 (by omega) (by omega))]; exact q5
  · rw [e.j (n 83 (by omega) (by omega))]; exact q9
theorem RM.tape {h' : Hp} {W : Nat → Prop} {t : (Nat → Nat) × Nat} (q : RM h S) (e : Eo W h h') (w : ∀ a, W a → a = 301 ∨ a = 332) (f : ∀ k, k ≠ 35 → hI h' 301 k = hI h 301 k) (c : hI h' 301 35 = Int32.ofNat t.2 ∧ ∀ k, k < t.2 → hI h' 332 k = Int32.ofNat (t.1 k)) : RM h' (putT S t) := by
  have n : ∀ a, 301 < a → a ≠ 332 → ¬ W a := fun a z z2 k => by have := w a k; omega
  obtain ⟨q1, q2, q3, q4, q5, q6, q7, q8, q9⟩ := q
  refine ⟨fun y hy => ?_, fun l hl => (q2 l hl).eo (fun a ha => by unfold inML at ha; exact e.i (n a (by omega) (by omega))), ⟨q3.1.eo (e.i (n _ (by omega) (by omega))) (e.i (n _ (by omega) (by omega))) (e.i (n _ (by omega) (by omega))) (e.i (n _ (by omega) (by omega))), fun a ha b hb hn => (q3.2 a ha b hb hn).eo (e.i (n _ (by omega) (by omega))) (e.i (n _ (by omega) (by omega)))⟩, c, ?_, ?_, ?_, ?_, ?_⟩
  · obtain ⟨a1, a2, a3, a4, a5, a6⟩ := q1 y hy
    exact ⟨fun k hk => by rw [e.i (n 302 (by omega) (by omega))]; exact a1 k hk, by rw [e.i (n 303 (by omega) (by omega))]; exact a2, by rw [e.i (n 304 (by omega) (by omega))]; exact a3, by rw [e.i (n 304 (by omega) (by omega))]; exact a4, by rw [e.i (n 305 (by omega) (by omega))]; exact a5, a6.eo (e.i (n _ (by omega) (by omega))) (e.i (n _ (by omega) (by omega))) (e.i (n _ (by omega) (by omega))) (e.i (n _ (by omega) (by omega))) (e.i (n _ (by omega) (by omega)))⟩
  · rw [f 42 (by omega), f 44 (by omega)]; exact q5
  · rw [f 73 (by omega)]; exact ⟨q6.1, q6.2.eo (e.i (n _ (by omega) (by omega))) (e.i (n _ (by omega) (by omega)))⟩
  · rw [f 76 (by omega)]; exact ⟨q7.1, q7.2.eo (e.i (n _ (by omega) (by omega))) (e.i (n _ (by omega) (by omega))) (e.i (n _ (by omega) (by omega)))⟩
  · rw [f 77 (by omega)]; exact ⟨q8.1, q8.2.eo (e.i (n _ (by omega) (by omega))) (e.i (n _ (by omega) (by omega))) (e.i (n _ (by omega) (by omega)))⟩
  · rw [f 84 (by omega)]; exact ⟨q9.1, q9.2.eo (e.i (n _ (by omega) (by omega))) (e.i (n _ (by omega) (by omega))) (e.i (n _ (by omega) (by omega))) (e.j (n _ (by omega) (by omega)))⟩
theorem end_nat {n : Int32} (k : okEnd S n) (o : okA S) : ∃ m, m ≤ (sT S).2 ∧ n = Int32.ofNat m := by
  have h6 := o.2.2.2.1.1
  have : ¬ Int32.ofNat ((sT S).2 + 1) ≤ n := fun z => k.2 ((lt_le (by omega)).mpr z)
  obtain ⟨m, m1, m2⟩ := i_nat (by omega) k.1 this
  exact ⟨m, by omega, m2⟩
def endS (S : AS) (n : Nat) : AS := putT S ((sT S).1, n)
theorem c_end {n : Int32} (I : Inv h) (q : RC h S) (o : okA S) :
    Wp (K X (d + 4) 103 [.ref 62, .int n] h) (VI fun v h' => (okEnd S n → (v = 1 ∧ Cl h h' ∧ RC h' (endS S (dN n)))) ∧ (¬ okEnd S n → v = 0 ∧ h' = h)) := by
  obtain ⟨t1, t2⟩ := q.1.2.2.2.1
  rw [k_103]
  refine w_if (fun c => failI fun z => z.1 c) (fun c0 => ?_)
  refine w_gI I s_62 ?_
  rw [t1]
  refine w_if (fun c => ?_) (fun c => failI fun z => c (Int32.not_lt.mp z.2))
  have ok : okEnd S n := ⟨c0, Int32.not_lt.mpr c⟩
  obtain ⟨m, m1, rfl⟩ := end_nat ok o
  have h6 := o.2.2.2.1.1
  refine passI ok ?_
  refine w_fI I s_62 fun I => ?_
  rw [dN_of (by omega)]
  have E : Eo (fun a => a = 62) h (sI h 62 13 (Int32.ofNat m)) := Eo.rf.kI rfl
  exact Wp.reti ⟨rfl, E.wk (fun a z => by omega), q.tape o E (fun a z => Or.inl z) rfl ⟨by rw [hI_sI_self, up1, if_pos rfl], fun k hk => by rw [sI_other (by decide)]; exact t2 k (Nat.lt_of_lt_of_le hk m1)⟩⟩
theorem m_end {n : Int32} (I : Inv h) (q : RM h S) (o : okA S) :
    Wp (K X (d + 4) 152 [.ref 301, .int n] h) (VI fun v h' => (okEnd S n → (v = 1 ∧ Mo h h' ∧ RM h' (endS S (dN n)))) ∧ (¬ okEnd S n → v = 0 ∧ h' = h)) := by
  obtain ⟨t1, t2⟩ := q.2.2.2.1
  rw [k_152]
  refine w_gI I s_301 ?_
  rw [t1]
  refine w_eI m_142 ?_
  refine w_if (fun c => ?_) (fun c => failI fun z => bi_dec.mp (Classical.byContradiction c) z)
  have ok : okEnd S n := Classical.byContradiction fun z => c (bi_dec.mpr z)
  obtain ⟨m, m1, rfl⟩ := end_nat ok o
  have h6 := o.2.2.2.1.1
  refine passI ok ?_
  refine w_fI I s_301 fun I => ?_
  rw [dN_of (by omega)]
  have E : Eo (fun a => a = 301) h (sI h 301 35 (Int32.ofNat m)) := Eo.rf.kI rfl
  exact Wp.reti ⟨rfl, E.wk (fun a z => by omega), q.tape E (fun a z => Or.inl z) (fun k hk => by rw [hI_sI_self, up1, if_neg hk]) ⟨by rw [hI_sI_self, up1, if_pos rfl], fun k hk => by rw [sI_other (by decide)]; exact t2 k (Nat.lt_of_lt_of_le hk m1)⟩⟩
theorem okA_end {n : Nat} (o : okA S) (hn : n ≤ (sT S).2) : okA (endS S n) := by
  obtain ⟨o1, o2, o3, o4, o5⟩ := o
  exact ⟨o1, o2, o3, ⟨Nat.le_trans hn o4.1, o4.2⟩, o5⟩
/-! fault -/
def faultP (S : AS) (w : Int32) : Int32 := if w = 0 then (sF S).1 else if w = 1 then (sF S).2 else -1
theorem c_fault {w : Int32} (I : Inv h) (q : RC h S) : K X (d + 4) 105 [.ref 62, .int w] h = some (some (.int (faultP S w)), h) := by
  obtain ⟨f1, f2⟩ := q.1.2.2.2.2.1
  refine Wp.eqI ?_
  rw [k_105]
  unfold faultP
  by_cases w0 : w = 0
  · refine w_iff (fun z => z w0) ?_
    rw [if_pos w0]
    refine w_gL I s_62 l_62_7 ?_
    refine w_gI I s_82 ?_
    exact Wp.reti ⟨f1, rfl⟩
  · refine w_ift w0 ?_
    rw [if_neg w0]
    by_cases w1 : w = 1
    · refine w_iff (fun z => z w1) ?_
      rw [if_pos w1]
      refine w_gL I s_62 l_62_7 ?_
      refine w_gI I s_82 ?_
      exact Wp.reti ⟨f2, rfl⟩
    · refine w_ift w1 ?_
      rw [if_neg w1]
      exact Wp.reti ⟨rfl, rfl⟩
theorem m_fault {w : Int32} (I : Inv h) (q : RM h S) : K X (d + 4) 183 [.ref 301, .int w] h = some (some (.int (faultP S w)), h) := by
  obtain ⟨f1, f2⟩ := q.2.2.2.2.1
  refine Wp.eqI ?_
  rw [k_183]
  unfold faultP
  by_cases w0 : w = 0
  · refine w_iff (fun z => z w0) ?_
    rw [if_pos w0]
    refine w_gI I s_301 ?_
    exact Wp.reti ⟨f1, rfl⟩
  · refine w_ift w0 ?_
    rw [if_neg w0]
    by_cases w1 : w = 1
    · refine w_iff (fun z => z w1) ?_
      rw [if_pos w1]
      refine w_gI I s_301 ?_
      exact Wp.reti ⟨f2, rfl⟩
    · refine w_ift w1 ?_
      rw [if_neg w1]
      exact Wp.reti ⟨rfl, rfl⟩
end PD
