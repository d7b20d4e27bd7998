/-! of, decides, tax -/
def ofV (V : Sv) (AL : Nat → ALaw) (PA : Nat → APact) (l : Nat) (w : Int32) : Int32 := if w = 0 then pF V l 0 else if w = 1 then pF V l 1 else if w = 2 then pF V l 2 else if w = 3 then pF V l 3 else if w = 4 then pF V l 4 else if w = 5 then bi (syP V AL l) else if w = 6 then bi (hisP V AL PA l) else if w = 7 then fstF (advP V AL PA l) 6 0 else -1
def vY (S : AS) (y : Nat) : Sv := viewY (sY S y)
def ofP (S : AS) (y l w : Int32) : Int32 := if isYr y ∧ isLd l then ofV (vY S (dN y)) (sL S) (sPc S) (dN l) w else -1
theorem w_8 {w : Int32} : (w = 0 ∨ w = 1 ∨ w = 2 ∨ w = 3 ∨ w = 4 ∨ w = 5 ∨ w = 6 ∨ w = 7) ∨ ¬ (¬ w < 0 ∧ ¬ Int32.ofNat 8 ≤ w) := by
  by_cases c : ¬ w < 0 ∧ ¬ Int32.ofNat 8 ≤ w
  · obtain ⟨n, n6, rfl⟩ := i_nat (by decide) c.1 c.2
    left
    have : n = 0 ∨ n = 1 ∨ n = 2 ∨ n = 3 ∨ n = 4 ∨ n = 5 ∨ n = 6 ∨ n = 7 := by omega
    rcases this with rfl | rfl | rfl | rfl | rfl | rfl | rfl | rfl <;> simp
  · exact Or.inr c
theorem ofV_no {V : Sv} {AL : Nat → ALaw} {PA : Nat → APact} {l : Nat} {w : Int32} (c : ¬ (¬ w < 0 ∧ ¬ Int32.ofNat 8 ≤ w)) : ofV V AL PA l w = -1 := by
  unfold ofV
  rw [if_neg, if_neg, if_neg, if_neg, if_neg, if_neg, if_neg, if_neg]
  all_goals (intro z; rw [z] at c; exact c (by decide))
theorem ofV_5 {V : Sv} {AL : Nat → ALaw} {PA : Nat → APact} {l : Nat} : ofV V AL PA l 5 = bi (syP V AL l) := by
  unfold ofV
  rw [if_neg (by decide), if_neg (by decide), if_neg (by decide), if_neg (by decide), if_neg (by decide), if_pos rfl]
theorem ofV_6 {V : Sv} {AL : Nat → ALaw} {PA : Nat → APact} {l : Nat} : ofV V AL PA l 6 = bi (hisP V AL PA l) := by
  unfold ofV
  rw [if_neg (by decide), if_neg (by decide), if_neg (by decide), if_neg (by decide), if_neg (by decide), if_neg (by decide), if_pos rfl]
theorem ofV_7 {V : Sv} {AL : Nat → ALaw} {PA : Nat → APact} {l : Nat} : ofV V AL PA l 7 = fstF (advP V AL PA l) 6 0 := by
  unfold ofV
  rw [if_neg (by decide), if_neg (by decide), if_neg (by decide), if_neg (by decide), if_neg (by decide), if_neg (by decide), if_neg (by decide), if_pos rfl]
theorem ofP_ok {S : AS} {y l w : Int32} (h : isYr y ∧ isLd l) : ofP S y l w = ofV (vY S (dN y)) (sL S) (sPc S) (dN l) w := if_pos h
theorem ofP_no {S : AS} {y l w : Int32} (h : ¬ (isYr y ∧ isLd l)) : ofP S y l w = -1 := if_neg h
section OF
variable {X : Ctx} {d : Nat} {h : Hp} {S : AS} {Q : Option Value → Hp → Prop}
theorem fst_loop {s : Int32} {h : Hp} : ∀ (c i : Nat), i + c = 6 → sem (X, K X (d + 1)) 107 2 [some (.int s), some (.int (Int32.ofNat i))] [] h = some (some (.int (fstF (fun k => bt s k) c i)), h)
  | 0, i, e => by
    rw [b_107_2]
    exact if_pos ((i_le (m := 6) (by omega) (by omega)).mpr (by omega))
  | c + 1, i, e => by
    have ih := fst_loop (s := s) (h := h) c (i + 1) (by omega)
    refine Wp.eqI ?_
    rw [b_107_2]
    refine w_iff (fun z => absurd ((i_le (m := 6) (by omega) (by omega)).mp z) (by omega)) ?_
    refine w_eI (m_has (by omega)) ?_
    rw [i32_ofNat_succ]
    refine w_if (fun c0 => ?_) (fun c0 => ?_)
    · refine Wp.eq ih ⟨_, rfl, ?_, rfl⟩
      show _ = if bt s i then _ else _
      rw [bi_0.mp c0]; rfl
    · have c1 : bt s i = true := by cases z : bt s i; rw [z] at c0; exact absurd rfl c0; rfl
      refine Wp.reti ⟨?_, rfl⟩
      show _ = if bt s i then _ else _
      rw [c1]; rfl
theorem m_107 {s : Int32} {h : Hp} : K X (d + 2) 107 [.int s] h = some (some (.int (fstF (fun k => bt s k) 6 0)), h) := by
  rw [k_107]; exact fst_loop 6 0 rfl
/-- hear, as it stands in public methods -/
def HS (S : AS) (y : Nat) (h0 h : Hp) : Prop := HearP (vY S y) (sL S) (sPc S) (sumB (sY S y).2.2.2.2 : Nat) h0 h
theorem w_hear {y : Nat} {f : Hp → Option (Option Value × Hp)} (I : Inv h) (q : RC h S) (o : okA S) (hy : y < 2) (k : ∀ h', Inv h' → RC h' S → Cl h h' → HS S y h h' → Wp (f h') Q) : Wp (gd (hS h 62 = (11, 0)) (bV (K X (d + 6) 136 [.ref 62, .int (Int32.ofNat y)] h) f)) Q := by
  refine w_gS I s_62 ?_
  refine w_bV I (m_136 I hy (q.1.1 y hy) (o.1 y hy) (q.laws o) (q.pacts o)) (by decide) rfl fun h1 I1 p => ?_
  exact k h1 I1 (q.scr o p.1 (fun a z => by unfold WX; unfold WS at z ⊢; omega)) (p.1.wk fun a z => by unfold WS at z; omega) p
theorem c_of {y l w : Int32} (I : Inv h) (q : RC h S) (o : okA S) :
    Wp (K X (d + 7) 106 [.ref 62, .int y, .int l, .int w] h) (VI fun v h' => v = ofP S y l w ∧ Cl h h' ∧ RC h' S) := by
  rw [k_106]
  refine w_eI yr_c ?_
  refine w_if (fun c => Wp.reti ⟨(ofP_no (fun z => bi_dec.mp c z.1)).symm, Eo.rf, q⟩) (fun c => ?_)
  have hy : isYr y := Classical.byContradiction fun z => c (bi_dec.mpr z)
  refine w_eI ld_c ?_
  refine w_if (fun c => Wp.reti ⟨(ofP_no (fun z => bi_dec.mp c z.2)).symm, Eo.rf, q⟩) (fun c => ?_)
  have hl : isLd l := Classical.byContradiction fun z => c (bi_dec.mpr z)
  rw [ofP_ok ⟨hy, hl⟩]
  refine w_if (fun c => Wp.reti ⟨(ofV_no (fun z => z.1 c)).symm, Eo.rf, q⟩) (fun c0 => ?_)
  refine w_if (fun c1 => ?_) (fun c => Wp.reti ⟨(ofV_no (fun z => c (Int32.not_lt.mp fun w2 => z.2 ((lt_le (n := 7) (by decide)).mp w2)))).symm, Eo.rf, q⟩)
  obtain ⟨yn, y2, rfl⟩ := yr_nat hy
  obtain ⟨ln, l6, rfl⟩ := ld_nat hl
  rw [dN_of (by omega), dN_of (by omega)]
  refine w_hear I q o y2 fun h1 I1 q1 C1 p => ?_
  obtain ⟨p1, p2, p3, p4, p5, p6, p7, p8⟩ := p
  have w8 : ¬ w < 0 ∧ ¬ Int32.ofNat 8 ≤ w := ⟨c0, fun z => absurd ((lt_le (n := 7) (by decide)).mpr z) (Int32.not_lt.mpr c1)⟩
  refine w_gL I1 s_62 l_62_8 ?_
  refine w_gL I1 s_274 l_274_1 ?_
  refine w_aLn I1 s_275 (by decide) (by decide) l6 (by decide) (lk_facts ln l6) ?_
  have fr := p2 ln l6
  have fin : ∀ k, k < 5 → w = Int32.ofNat k → ofV (vY S yn) (sL S) (sPc S) ln w = pF (vY S yn) ln k → Wp (aI X h1 (276 + ln) w fun g16 => some (some (.int g16), h1)) (VI fun v h' => v = ofV (vY S yn) (sL S) (sPc S) ln w ∧ Cl h h' ∧ RC h' S) := fun k hk hw e => by
    rw [e, hw]
    refine w_aIn I1 (IsFact.s (is_fact ln l6)) (by omega) (by decide) ?_
    exact Wp.reti ⟨fr k (by omega), C1, q1⟩
  rcases w_8 (w := w) with (rfl | rfl | rfl | rfl | rfl | rfl | rfl | rfl) | c
  · exact w_iff (by decide) (fin 0 (by decide) rfl rfl)
  · exact w_iff (by decide) (fin 1 (by decide) rfl rfl)
  · exact w_iff (by decide) (fin 2 (by decide) rfl rfl)
  · exact w_iff (by decide) (fin 3 (by decide) rfl rfl)
  · exact w_iff (by decide) (fin 4 (by decide) rfl rfl)
  · refine w_ift (by decide) ?_
    refine w_iff (by decide) ?_
    refine w_gL I1 s_62 l_62_8 ?_
    refine w_gI I1 s_274 ?_
    refine w_eI (m_has (by omega)) ?_
    rw [p3, bt_msk (by decide) (by omega), decide_eq_true l6, Bool.true_and]
    rw [ofV_5]
    refine w_if (fun c => Wp.reti ⟨c.symm, C1, q1⟩) (fun c => Wp.reti ⟨?_, C1, q1⟩)
    cases z : syP (vY S yn) (sL S) ln
    · rw [z] at c; exact absurd rfl c
    · rfl
  · refine w_ift (by decide) ?_
    refine w_ift (by decide) ?_
    refine w_iff (by decide) ?_
    refine w_gL I1 s_62 l_62_8 ?_
    refine w_gI I1 s_274 ?_
    refine w_eI (m_has (by omega)) ?_
    rw [p6, bt_msk (by decide) (by omega), decide_eq_true l6, Bool.true_and]
    rw [ofV_6]
    refine w_if (fun c => Wp.reti ⟨c.symm, C1, q1⟩) (fun c => Wp.reti ⟨?_, C1, q1⟩)
    cases z : hisP (vY S yn) (sL S) (sPc S) ln
    · rw [z] at c; exact absurd rfl c
    · rfl
  · refine w_ift (by decide) ?_
    refine w_ift (by decide) ?_
    refine w_ift (by decide) ?_
    refine w_gL I1 s_62 l_62_8 ?_
    refine w_gL I1 s_274 l_274_4 ?_
    refine w_aIn I1 s_284 l6 (by decide) ?_
    refine w_eI m_107 ?_
    refine Wp.reti ⟨?_, C1, q1⟩
    rw [ofV_7]
    refine fstF_congr fun j _ hj => ?_
    rw [p5 ln l6 j (by omega)]
    unfold advP
    congr 1
    exact decide_eq_decide.mpr (by omega)
  · exact absurd w8 c
/-! the model -/
def MhP (A : AY) (AL : Nat → ALaw) (PA : Nat → APact) (h0 h : Hp) : Prop := Eo inMS h0 h ∧ (∀ k, (k < 52 ∨ 63 < k) → hI h 301 k = hI h0 301 k) ∧ hJ h 301 = hJ h0 301 ∧ mSv h (viewY A) ∧ hI h 301 55 = Int32.ofNat A.2.2.2.2.length ∧ hI h 301 56 = Int32.ofNat (cnt A.1 6 360) ∧ hI h 301 57 = Int32.ofNat (sumB A.2.2.2.2) ∧ curS h A.2.2.2.2 ∧ mNow h PA ∧ hI h 301 62 = msk (syP (viewY A) AL) 6 ∧ hI h 301 63 = msk (hisP (viewY A) AL PA) 6
theorem RM.scr {h' : Hp} (q : RM h S) (e : Eo inMS h h') (f : ∀ k, (k < 52 ∨ 72 < k) → hI h' 301 k = hI h 301 k) : RM h' S := q.eo (fun a h1 h2 h3 => ⟨e.i h3, e.j h3⟩) (fun k hk => f k (by omega))
theorem inMS_mo {h' : Hp} (e : Eo inMS h h') : Mo h h' := e.wk fun a z => by unfold inMS at z; omega
theorem w_lays {y : Nat} {f : Hp → Option (Option Value × Hp)} (I : Inv h) (q : RM h S) (o : okA S) (hy : y < 2) (k : ∀ h', Inv h' → RM h' S → Mo h h' → LaysP (sY S y) (sPc S) h h' → Wp (f h') Q) : Wp (gd (hS h 301 = (12, 0)) (bV (K X (d + 2) 189 [.ref 301, .int (Int32.ofNat y)] h) f)) Q := by
  refine w_gS I s_301 ?_
  refine w_bV I (m_189 I hy (q.1 y hy) (o.1 y hy) q.2.2.1.1 q.words o.2.2.2.2.2.2.1.2 q.2.2.2.2.2.2.2.1.1 o.2.2.2.2.2.2.1.1) (by decide) rfl fun h1 I1 p => ?_
  have E : Eo inMS h h1 := p.1.wk fun a z => by unfold WLY at z; unfold inMS; omega
  exact k h1 I1 (q.scr E (fun k hk => p.2.2.2.2.2.2.2.1 k (by omega))) (inMS_mo E) p
theorem w_heard {y : Nat} {f : Hp → Option (Option Value × Hp)} (I : Inv h) (q : RM h S) (o : okA S) (hy : y < 2) (k : ∀ h', Inv h' → RM h' S → Mo h h' → MhP (sY S y) (sL S) (sPc S) h h' → Wp (f h') Q) :
    Wp (gd (hS h 301 = (12, 0)) (bV (K X (d + 5) 189 [.ref 301, .int (Int32.ofNat y)] h) fun h1 => gd (hS h1 301 = (12, 0)) (bV (K X (d + 5) 197 [.ref 301] h1) f))) Q := by
  refine w_lays I q o hy fun h1 I1 q1 M1 p => ?_
  obtain ⟨p1, p2, p3, p4, p5, p6, p7, p8, p9⟩ := p
  refine w_gS I1 s_301 ?_
  refine w_bV I1 (m_197 I1 p2 (q1.laws o) (q1.tests o)) (by decide) rfl fun h2 I2 r => ?_
  obtain ⟨r1, r2, r3, r4, r5⟩ := r
  have E2 : Eo inMS h1 h2 := r1.wk fun a z => by unfold WH at z; unfold inMS; omega
  have E : Eo inMS h h2 := (p1.wk fun a z => by unfold WLY at z; unfold inMS; omega).tr E2
  obtain ⟨v1, v2, v3, v4⟩ := p2
  refine k h2 I2 (q1.scr E2 (fun k hk => r4 k (by omega) (by omega))) (inMS_mo E) ⟨E, fun k hk => (r4 k (by omega) (by omega)).trans (p8 k (by omega)), r5.trans p9, ⟨fun k hk => by rw [r1.i (by unfold WH; omega)]; exact v1 k hk, by rw [r4 52 (by decide) (by decide)]; exact v2, by rw [r4 53 (by decide) (by decide)]; exact v3, by rw [r4 54 (by decide) (by decide)]; exact v4⟩, by rw [r4 55 (by decide) (by decide)]; exact p3, by rw [r4 56 (by decide) (by decide)]; exact p4, by rw [r4 57 (by decide) (by decide)]; exact p5, ?_, ?_, r2, r3⟩
  · exact rSums.eo (r1.i (by unfold WH; omega)) (r1.i (by unfold WH; omega)) (r1.i (by unfold WH; omega)) (r1.i (by unfold WH; omega)) (r1.i (by unfold WH; omega)) p6
  · exact p7.eo (r1.i (by unfold WH; omega)) (r1.i (by unfold WH; omega)) (r1.i (by unfold WH; omega)) (r1.i (by unfold WH; omega))
theorem m_of {y l w : Int32} (I : Inv h) (q : RM h S) (o : okA S) :
    Wp (K X (d + 7) 198 [.ref 301, .int y, .int l, .int w] h) (VI fun v h' => v = ofP S y l w ∧ Mo h h' ∧ RM h' S) := by
  rw [k_198]
  refine w_eI yr_m ?_
  refine w_if (fun c => Wp.reti ⟨(ofP_no (fun z => bi_dec.mp c z.1)).symm, Eo.rf, q⟩) (fun c => ?_)
  have hy : isYr y := Classical.byContradiction fun z => c (bi_dec.mpr z)
  refine w_eI ld_m ?_
  refine w_if (fun c => ?_) (fun c => Wp.reti ⟨(ofP_no (fun z => bi_dec.mp (Classical.byContradiction c) z.2)).symm, Eo.rf, q⟩)
  have hl : isLd l := Classical.byContradiction fun z => c (bi_dec.mpr z)
  rw [ofP_ok ⟨hy, hl⟩]
  obtain ⟨yn, y2, rfl⟩ := yr_nat hy
  obtain ⟨ln, l6, rfl⟩ := ld_nat hl
  rw [dN_of (by omega), dN_of (by omega)]
  refine w_heard (d := d + 1) I q o y2 fun h1 I1 q1 M1 p => ?_
  obtain ⟨p1, p2, p3, p4, p5, p6, p7, p8, p9, p10, p11⟩ := p
  refine w_gS I1 s_301 ?_
  refine w_bV I1 (m_191 I1 l6 p4) (by decide) rfl fun h2 I2 r => ?_
  obtain ⟨r1, r2⟩ := r
  have E2 : Eo inMS h1 h2 := r2.wk fun a z => by unfold inMS; omega
  have q2 : RM h2 S := q1.scr E2 (fun k _ => by rw [r2.i (by decide)])
  have M2 : Mo h h2 := M1.tr (inMS_mo E2)
  have fin : ∀ k, k < 5 → ∀ x, x = pF (vY S yn) ln k → Wp (gR h2 11 301 32 fun g1 => aI X h2 g1 (Int32.ofNat (k + 1)) fun g2 => some (some (.int g2), h2)) (VI fun v h' => v = x ∧ Mo h h' ∧ RM h' S) := fun k hk x hx => by
    refine w_gL I2 s_301 l_301_32 ?_
    refine w_aIn I2 s_334 (by omega) (by decide) ?_
    exact Wp.reti ⟨by rw [hx]; exact r1 k (by omega), M2, q2⟩
  rcases w_8 (w := w) with (rfl | rfl | rfl | rfl | rfl | rfl | rfl | rfl) | c
  · show Wp (sem (X, K X (d + 6)) 198 76 _ [] h2) _
    rw [b_198_76]; exact fin 0 (by decide) _ rfl
  · show Wp (sem (X, K X (d + 6)) 198 83 _ [] h2) _
    rw [b_198_83]; exact fin 1 (by decide) _ rfl
  · show Wp (sem (X, K X (d + 6)) 198 90 _ [] h2) _
    rw [b_198_90]; exact fin 2 (by decide) _ rfl
  · show Wp (sem (X, K X (d + 6)) 198 97 _ [] h2) _
    rw [b_198_97]; exact fin 3 (by decide) _ rfl
  · show Wp (sem (X, K X (d + 6)) 198 104 _ [] h2) _
    rw [b_198_104]; exact fin 4 (by decide) _ rfl
  · show Wp (sem (X, K X (d + 6)) 198 111 _ [] h2) _
    rw [b_198_111]
    refine w_gI I2 s_301 ?_
    rw [r2.i (by decide), p10, shr_bt (by omega), bt_msk (by decide) (by omega), decide_eq_true l6, Bool.true_and, ofV_5]
    exact Wp.reti ⟨rfl, M2, q2⟩
  · show Wp (sem (X, K X (d + 6)) 198 120 _ [] h2) _
    rw [b_198_120]
    refine w_gI I2 s_301 ?_
    rw [r2.i (by decide), p11, shr_bt (by omega), bt_msk (by decide) (by omega), decide_eq_true l6, Bool.true_and, ofV_6]
    exact Wp.reti ⟨rfl, M2, q2⟩
  · show Wp (sem (X, K X (d + 6)) 198 129 _ [] h2) _
    rw [b_198_129, ofV_7]
    refine w_gS I2 s_301 ?_
    refine w_eI (m_196 (d := d + 2) I2 l6 (p4.eo (r2.i (by decide)) (r2.i (by decide))) (fun k hk => by rw [r2.i (by decide), p10, bt_msk (by decide) (by omega), decide_eq_true hk]; rfl) (q2.tests o)) ?_
    exact Wp.reti ⟨rfl, M2, q2⟩
  · rw [tsw_big rfl c (by decide), b_198_135, ofV_no c]
    exact Wp.reti ⟨rfl, M2, q2⟩
/-! decides -/
def decidesP (S : AS) (y a b : Int32) : Int32 := if isYr y ∧ isLd a ∧ isLd b ∧ a ≠ b then (if syP (vY S (dN y)) (sL S) (dN a) && syP (vY S (dN y)) (sL S) (dN b) then decI (decF (pF (vY S (dN y)) (dN a)) (pF (vY S (dN y)) (dN b)) (sPc S (pr (dN a) (dN b))).1) else -1) else -1
theorem c_decides {y a b : Int32} (I : Inv h) (q : RC h S) (o : okA S) :
    Wp (K X (d + 7) 108 [.ref 62, .int y, .int a, .int b] h) (VI fun v h' => v = decidesP S y a b ∧ Cl h h' ∧ RC h' S) := by
  rw [k_108]
  unfold decidesP
  refine w_eI yr_c ?_
  refine w_if (fun c => Wp.reti ⟨by rw [if_neg (fun z => bi_dec.mp c z.1)], Eo.rf, q⟩) (fun c => ?_)
  have hy : isYr y := Classical.byContradiction fun z => c (bi_dec.mpr z)
  refine w_eI ld_c ?_
  refine w_if (fun c => Wp.reti ⟨by rw [if_neg (fun z => bi_dec.mp c z.2.1)], Eo.rf, q⟩) (fun c => ?_)
  have ha : isLd a := Classical.byContradiction fun z => c (bi_dec.mpr z)
  refine w_eI ld_c ?_
  refine w_if (fun c => Wp.reti ⟨by rw [if_neg (fun z => bi_dec.mp c z.2.2.1)], Eo.rf, q⟩) (fun c => ?_)
  have hb : isLd b := Classical.byContradiction fun z => c (bi_dec.mpr z)
  refine w_if (fun hab => ?_) (fun c => Wp.reti ⟨by rw [if_neg (fun z => c z.2.2.2)], Eo.rf, q⟩)
  rw [if_pos ⟨hy, ha, hb, hab⟩]
  obtain ⟨yn, y2, rfl⟩ := yr_nat hy
  obtain ⟨an, a6, rfl⟩ := ld_nat ha
  obtain ⟨bn, b6, rfl⟩ := ld_nat hb
  have anb : an ≠ bn := fun z => hab (by rw [z])
  rw [dN_of (by omega), dN_of (by omega), dN_of (by omega)]
  refine w_hear I q o y2 fun h1 I1 q1 C1 p => ?_
  obtain ⟨p1, p2, p3, p4, p5, p6, p7, p8⟩ := p
  refine w_gL I1 s_62 l_62_8 ?_
  refine w_gI I1 s_274 ?_
  refine w_eI (m_has (by omega)) ?_
  rw [p3, bt_msk (by decide) (by omega), decide_eq_true a6, Bool.true_and]
  refine w_if (fun c => Wp.reti ⟨by rw [bi_0.mp c]; rfl, C1, q1⟩) (fun c => ?_)
  have sa : syP (vY S yn) (sL S) an = true := by cases z : syP (vY S yn) (sL S) an; rw [z] at c; exact absurd rfl c; rfl
  refine w_gL I1 s_62 l_62_8 ?_
  refine w_gI I1 s_274 ?_
  refine w_eI (m_has (by omega)) ?_
  rw [p3, bt_msk (by decide) (by omega), decide_eq_true b6, Bool.true_and]
  refine w_if (fun c => ?_) (fun c => Wp.reti ⟨by rw [bi_0.mp (Classical.byContradiction c), Bool.and_false]; rfl, C1, q1⟩)
  have sb : syP (vY S yn) (sL S) bn = true := by cases z : syP (vY S yn) (sL S) bn; rw [z] at c; exact absurd rfl c; rfl
  rw [sa, sb]
  refine w_gL I1 s_62 l_62_8 ?_
  refine w_gL I1 s_62 l_62_2 ?_
  refine w_eI (m_141 a6 b6 anb) ?_
  have hpr := pr_lt an a6 bn b6 anb
  obtain ⟨P, t1, t2, t3, t4⟩ := q1.pacts o (pr an bn) hpr
  refine w_aRn I1 s_65 (by decide) (by decide) hpr (by decide) t1 ?_
  refine w_gS I1 s_274 ?_
  refine w_eI (m_15 I1 t2 a6 b6 (p2 an a6) (p2 bn b6) t3.1 t3.2.1 t4.1) ?_
  exact Wp.reti ⟨rfl, C1, q1⟩
theorem m_decides {y a b : Int32} (I : Inv h) (q : RM h S) (o : okA S) :
    Wp (K X (d + 7) 199 [.ref 301, .int y, .int a, .int b] h) (VI fun v h' => v = decidesP S y a b ∧ Mo h h' ∧ RM h' S) := by
  rw [k_199]
  unfold decidesP
  refine w_eI yr_m ?_
  refine w_if (fun c => Wp.reti ⟨by rw [if_neg (fun z => bi_dec.mp c z.1)], Eo.rf, q⟩) (fun c => ?_)
  have hy : isYr y := Classical.byContradiction fun z => c (bi_dec.mpr z)
  refine w_eI ld_m ?_
  refine w_if (fun c => Wp.reti ⟨by rw [if_neg (fun z => bi_dec.mp c z.2.1)], Eo.rf, q⟩) (fun c => ?_)
  have ha : isLd a := Classical.byContradiction fun z => c (bi_dec.mpr z)
  refine w_eI ld_m ?_
  refine w_if (fun c => Wp.reti ⟨by rw [if_neg (fun z => bi_dec.mp c z.2.2.1)], Eo.rf, q⟩) (fun c => ?_)
  have hb : isLd b := Classical.byContradiction fun z => c (bi_dec.mpr z)
  refine w_if (fun hab => ?_) (fun c => Wp.reti ⟨by rw [if_neg (fun z => c z.2.2.2)], Eo.rf, q⟩)
  rw [if_pos ⟨hy, ha, hb, hab⟩]
  obtain ⟨yn, y2, rfl⟩ := yr_nat hy
  obtain ⟨an, a6, rfl⟩ := ld_nat ha
  obtain ⟨bn, b6, rfl⟩ := ld_nat hb
  have anb : an ≠ bn := fun z => hab (by rw [z])
  rw [dN_of (by omega), dN_of (by omega), dN_of (by omega)]
  refine w_heard (d := d + 1) I q o y2 fun h1 I1 q1 M1 p => ?_
  obtain ⟨p1, p2, p3, p4, p5, p6, p7, p8, p9, p10, p11⟩ := p
  refine w_gI I1 s_301 ?_
  refine w_gI I1 s_301 ?_
  rw [and_sh (by omega) (by omega), p10, bt_msk (by decide) (by omega), bt_msk (by decide) (by omega), decide_eq_true a6, decide_eq_true b6, Bool.true_and, Bool.true_and]
  refine w_if (fun c => Wp.reti ⟨?_, M1, q1⟩) (fun c => ?_)
  · have : (syP (viewY (sY S yn)) (sL S) an && syP (viewY (sY S yn)) (sL S) bn) = false := by
      cases z : (syP (viewY (sY S yn)) (sL S) an && syP (viewY (sY S yn)) (sL S) bn)
      · rfl
      · rw [z] at c; exact absurd rfl c
    show _ = if (syP (viewY (sY S yn)) (sL S) an && syP (viewY (sY S yn)) (sL S) bn) = true then _ else _
    rw [this]; rfl
  · have : (syP (viewY (sY S yn)) (sL S) an && syP (viewY (sY S yn)) (sL S) bn) = true := bi_1.mp (Classical.byContradiction c)
    refine w_gS I1 s_301 ?_
    have t := q1.tests o an a6 bn b6 anb
    refine w_eI (m_194 I1 a6 b6 p4 t.1 t.2) ?_
    refine Wp.reti ⟨?_, M1, q1⟩
    show _ = if (syP (viewY (sY S yn)) (sL S) an && syP (viewY (sY S yn)) (sL S) bn) = true then _ else _
    rw [this]; rfl
/-! tax -/
def taxP (S : AS) (l b : Int32) : Int64 := if isLd l ∧ (¬ b < 0 ∧ ¬ 99999999 < b) then Int64.ofInt (tx ((dN b : Int) - (sL S (dN l)).2.2.1) (sL S (dN l)).2.1) else -1
theorem c_tax {l b : Int32} (I : Inv h) (q : RC h S) (o : okA S) : K X (d + 7) 109 [.ref 62, .int l, .int b] h = some (some (.long (taxP S l b)), h) := by
  refine Wp.eqJ ?_
  rw [k_109]
  unfold taxP
  refine w_eI ld_c ?_
  refine w_if (fun c => Wp.retj ⟨by rw [if_neg (fun z => bi_dec.mp c z.1)], rfl⟩) (fun c => ?_)
  have hl : isLd l := Classical.byContradiction fun z => c (bi_dec.mpr z)
  refine w_if (fun c => Wp.retj ⟨by rw [if_neg (fun z => z.2.1 c)], rfl⟩) (fun c0 => ?_)
  refine w_if (fun c1 => ?_) (fun c => Wp.retj ⟨by rw [if_neg (fun z => c (Int32.not_lt.mp z.2.2))], rfl⟩)
  have c1 : ¬ 99999999 < b := Int32.not_lt.mpr c1
  rw [if_pos ⟨hl, c0, c1⟩]
  obtain ⟨ln, l6, rfl⟩ := ld_nat hl
  obtain ⟨bn, b6, rfl⟩ := i_nat (n := 100000000) (by decide) c0 (fun z => c1 ((lt_le (n := 99999999) (by decide)).mpr z))
  rw [dN_of (by omega), dN_of (by omega)]
  obtain ⟨L, t1, t2, t3, t4⟩ := q.laws o ln l6
  refine w_gL I s_62 l_62_1 ?_
  refine w_aRn I s_64 (by decide) (by decide) l6 (by decide) t1 ?_
  refine w_gS I t2.s ?_
  rw [nat_j (by omega)]
  refine w_eJ (m_8 I t2 t3 t4 (by omega)) ?_
  exact Wp.retj ⟨rfl, rfl⟩
theorem m_tax {l b : Int32} (I : Inv h) (q : RM h S) (o : okA S) : K X (d + 7) 201 [.ref 301, .int l, .int b] h = some (some (.long (taxP S l b)), h) := by
  refine Wp.eqJ ?_
  rw [k_201]
  unfold taxP
  refine w_eI ld_m ?_
  refine w_if (fun c => Wp.retj ⟨by rw [if_neg (fun z => bi_dec.mp c z.1)], rfl⟩) (fun c => ?_)
  have hl : isLd l := Classical.byContradiction fun z => c (bi_dec.mpr z)
  refine w_eI m_142 ?_
  refine w_if (fun c => Wp.retj ⟨by rw [if_neg (fun z => bi_dec.mp c z.2)], rfl⟩) (fun c => ?_)
  have hb : ¬ b < 0 ∧ ¬ 99999999 < b := Classical.byContradiction fun z => c (bi_dec.mpr z)
  rw [if_pos ⟨hl, hb⟩]
  obtain ⟨ln, l6, rfl⟩ := ld_nat hl
  obtain ⟨bn, b6, rfl⟩ := i_nat (n := 100000000) (by decide) hb.1 (fun z => hb.2 ((lt_le (n := 99999999) (by decide)).mpr z))
  rw [dN_of (by omega), dN_of (by omega)]
  obtain ⟨⟨os, t1, t2, t3, t4, t5, t6, t7, t8⟩, t9⟩ := q.laws o ln l6
  refine w_gS I s_301 ?_
  refine w_eJ (m_200 I (by omega) t5 t6 t7 t9 (by omega)) ?_
  exact Wp.retj ⟨rfl, rfl⟩
end OF
