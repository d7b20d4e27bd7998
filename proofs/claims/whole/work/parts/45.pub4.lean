/-! move, turning, word, answer, look -/
section PE
variable {X : Ctx} {d : Nat} {h : Hp} {S : AS}
theorem ofNat_m1 (n : Nat) : Int32.ofNat n + 1 - 1 = Int32.ofNat n := by rw [i32_ofNat_succ, i_s1]
def okMove (S : AS) (n l : Int32) : Prop := ¬ n < 0 ∧ ¬ 360 ≤ n ∧ isLd l ∧ (sM S).length ≠ 20
def moveS (S : AS) (n l : Nat) : AS := putP S (sM S ++ [(n, l)]) (sU S) (sW S) (sA S)
theorem okA_move {n l : Nat} (o : okA S) (hn : n < 360) (hl : l < 6) (hm : (sM S).length ≠ 20) : okA (moveS S n l) := by
  obtain ⟨o1, o2, o3, o4, o5, o6, o7, o8⟩ := o
  refine ⟨o1, o2, o3, o4, ⟨?_, fun m hm => ?_⟩, o6, o7, o8⟩
  · show (sM S ++ [(n, l)]).length ≤ 20
    have := o5.1
    simp; omega
  · have hm : m ∈ sM S ++ [(n, l)] := hm
    rcases List.mem_append.mp hm with z | z
    · exact o5.2 m z
    · rw [List.mem_singleton.mp z]; exact ⟨hn, hl⟩
theorem c_move {n l : Int32} (I : Inv h) (q : RC h S) (o : okA S) :
    Wp (K X (d + 4) 118 [.ref 62, .int n, .int l] h) (VI fun v h' => (okMove S n l → (v = Int32.ofNat (sM S).length ∧ Cl h h' ∧ RC h' (moveS S (dN n) (dN l)))) ∧ (¬ okMove S n l → v = -1 ∧ h' = h)) := by
  obtain ⟨p1, p2, p3, p4, p5, p6⟩ := q.1.2.2.2.2.2.1
  have len := o.2.2.2.2.1.1
  rw [k_118]
  refine w_if (fun c => failI fun z => z.1 c) (fun c0 => ?_)
  refine w_if (fun c => failI fun z => z.2.1 c) (fun c1 => ?_)
  refine w_eI ld_c ?_
  refine w_if (fun c => failI fun z => bi_dec.mp c z.2.2.1) (fun c => ?_)
  have hl : isLd l := Classical.byContradiction fun z => c (bi_dec.mpr z)
  refine w_gL I s_62 l_62_4 ?_
  refine w_gI I s_67 ?_
  rw [p1]
  refine w_if (fun c => ?_) (fun c => failI fun z => c ((i_lt (n := 20) (by omega) (by omega)).mpr (by have := z.2.2.2; omega)))
  have c2 := (i_lt (n := 20) (by omega) (by omega)).mp c
  refine passI ⟨c0, c1, hl, by omega⟩ ?_
  obtain ⟨nn, n3, rfl⟩ := i_nat (n := 360) (by decide) c0 c1
  obtain ⟨ln, l6, rfl⟩ := ld_nat hl
  rw [dN_of (by omega), dN_of (by omega)]
  refine w_gL I s_62 l_62_4 ?_
  refine w_gL I s_67 l_67_0 ?_
  refine w_gL I s_62 l_62_4 ?_
  refine w_gI I s_67 ?_
  rw [p1]
  refine w_wIn I s_68 c2 (by decide) fun I => ?_
  refine w_gL I s_62 l_62_4 ?_
  refine w_gL I s_67 l_67_1 ?_
  refine w_gL I s_62 l_62_4 ?_
  refine w_gI I s_67 ?_
  rw [sI_other (b := 67) (by decide), p1]
  refine w_wIn I s_69 c2 (by decide) fun I => ?_
  refine w_gL I s_62 l_62_4 ?_
  refine w_gI I s_67 ?_
  rw [sI_other (b := 67) (by decide), sI_other (b := 67) (by decide), p1]
  refine w_fI I s_67 fun I => ?_
  refine w_gL I s_62 l_62_4 ?_
  refine w_gI I s_67 ?_
  generalize hg : sI (sI (sI h 68 (sM S).length (Int32.ofNat nn)) 69 (sM S).length (Int32.ofNat ln)) 67 8 (Int32.ofNat (sM S).length + 1) = g at I ⊢
  have E : Eo (fun a => a = 67 ∨ a = 68 ∨ a = 69) h g := by rw [← hg]; exact ((Eo.rf.kI (by omega)).kI (by omega)).kI (by omega)
  have g8 : hI g 67 8 = Int32.ofNat (sM S).length + 1 := by rw [← hg, hI_sI_self, up1, if_pos rfl]
  have gk : ∀ k, k ≠ 8 → hI g 67 k = hI h 67 k := fun k hk => by rw [← hg, hI_sI_self, up1, if_neg hk, sI_other (by decide), sI_other (by decide)]
  have g68 : hI g 68 = up1 (hI h 68) (sM S).length (Int32.ofNat nn) := by rw [← hg, sI_other (by decide), sI_other (by decide), hI_sI_self]
  have g69 : hI g 69 = up1 (hI h 69) (sM S).length (Int32.ofNat ln) := by rw [← hg, sI_other (by decide), hI_sI_self, sI_other (by decide)]
  rw [g8, ofNat_m1]
  refine Wp.reti ⟨rfl, E.wk (fun a z => by omega), q.plans o E (fun a z => by omega) ⟨?_, ?_, by rw [gk 9 (by decide)]; exact p3, p4.eo (E.i (by decide)) (E.i (by decide)) (E.i (by decide)), by rw [gk 10 (by decide)]; exact p5, p6.eo (E.i (by decide)) (E.i (by decide)) (E.i (by decide))⟩ (P7 q.1.2.2.2.2.2.2.1 E (fun a z z2 => by omega))⟩
  · rw [g8, i32_ofNat_succ]; show _ = Int32.ofNat (sM S ++ [(nn, ln)]).length; congr 1; simp
  · refine p2.snoc (fun i hi => ?_) ?_ ?_
    · rw [g68, g69, up1, up1, if_neg (by omega), if_neg (by omega)]; exact ⟨rfl, rfl⟩
    · rw [g68, up1, if_pos (by omega)]
    · rw [g69, up1, if_pos (by omega)]
theorem m_move {n l : Int32} (I : Inv h) (q : RM h S) (o : okA S) :
    Wp (K X (d + 4) 219 [.ref 301, .int n, .int l] h) (VI fun v h' => (okMove S n l → (v = Int32.ofNat (sM S).length ∧ Mo h h' ∧ RM h' (moveS S (dN n) (dN l)))) ∧ (¬ okMove S n l → v = -1 ∧ h' = h)) := by
  obtain ⟨-, -, -, -, -, ⟨p1, p2⟩, q7, q8, q9⟩ := id q
  have len := o.2.2.2.2.1.1
  rw [k_219]
  refine w_eI m_142 ?_
  refine w_if (fun c => failI fun z => bi_dec.mp c ⟨z.1, fun w => z.2.1 ((lt_le (n := 359) (by decide)).mp w)⟩) (fun c => ?_)
  have hn : ¬ n < 0 ∧ ¬ 359 < n := Classical.byContradiction fun z => c (bi_dec.mpr z)
  have c1 : ¬ Int32.ofNat 360 ≤ n := fun z => hn.2 ((lt_le (n := 359) (by decide)).mpr z)
  refine w_eI ld_m ?_
  refine w_if (fun c => failI fun z => bi_dec.mp c z.2.2.1) (fun c => ?_)
  have hl : isLd l := Classical.byContradiction fun z => c (bi_dec.mpr z)
  refine w_gI I s_301 ?_
  rw [p1]
  refine w_if (fun c => ?_) (fun c => failI fun z => z.2.2.2 ((i_eq (n := 20) (by omega) (by omega)).mp (Classical.byContradiction c)))
  have c2 : (sM S).length ≠ 20 := fun z => c (by rw [z]; rfl)
  refine passI ⟨hn.1, c1, hl, c2⟩ ?_
  obtain ⟨nn, n3, rfl⟩ := i_nat (n := 360) (by decide) hn.1 c1
  obtain ⟨ln, l6, rfl⟩ := ld_nat hl
  rw [dN_of (by omega), dN_of (by omega)]
  refine w_gL I s_301 l_301_74 ?_
  refine w_gI I s_301 ?_
  rw [p1]
  refine w_wIn I s_351 (by omega) (by decide) fun I => ?_
  refine w_gL I s_301 l_301_75 ?_
  refine w_gI I s_301 ?_
  rw [sI_other (b := 301) (by decide), p1]
  refine w_wIn I s_352 (by omega) (by decide) fun I => ?_
  refine w_gI I s_301 ?_
  rw [sI_other (b := 301) (by decide), sI_other (b := 301) (by decide), p1]
  refine w_fI I s_301 fun I => ?_
  refine w_gI I s_301 ?_
  generalize hg : sI (sI (sI h 351 (sM S).length (Int32.ofNat nn)) 352 (sM S).length (Int32.ofNat ln)) 301 73 (Int32.ofNat (sM S).length + 1) = g at I ⊢
  have E : Eo (fun a => a = 301 ∨ a = 351 ∨ a = 352) h g := by rw [← hg]; exact ((Eo.rf.kI (by omega)).kI (by omega)).kI (by omega)
  have g8 : hI g 301 73 = Int32.ofNat (sM S).length + 1 := by rw [← hg, hI_sI_self, up1, if_pos rfl]
  have gk : ∀ k, k ≠ 73 → hI g 301 k = hI h 301 k := fun k hk => by rw [← hg, hI_sI_self, up1, if_neg hk, sI_other (by decide), sI_other (by decide)]
  have g1 : hI g 351 = up1 (hI h 351) (sM S).length (Int32.ofNat nn) := by rw [← hg, sI_other (by decide), sI_other (by decide), hI_sI_self]
  have g2 : hI g 352 = up1 (hI h 352) (sM S).length (Int32.ofNat ln) := by rw [← hg, sI_other (by decide), hI_sI_self, sI_other (by decide)]
  rw [g8, ofNat_m1]
  refine Wp.reti ⟨rfl, E.wk (fun a z => by omega), q.plans E (fun a z => by omega) (fun k hk => gk k (by omega)) ⟨?_, ?_⟩ ?_ ?_ ?_⟩
  · rw [g8, i32_ofNat_succ]; congr 1; simp
  · refine p2.snoc (fun i hi => ?_) ?_ ?_
    · rw [g1, g2, up1, up1, if_neg (by omega), if_neg (by omega)]; exact ⟨rfl, rfl⟩
    · rw [g1, up1, if_pos (by omega)]
    · rw [g2, up1, if_pos (by omega)]
  · rw [gk 76 (by decide)]; exact ⟨q7.1, q7.2.eo (E.i (by decide)) (E.i (by decide)) (E.i (by decide))⟩
  · rw [gk 77 (by decide)]; exact ⟨q8.1, q8.2.eo (E.i (by decide)) (E.i (by decide)) (E.i (by decide))⟩
  · rw [gk 84 (by decide)]; exact ⟨q9.1, q9.2.eo (E.i (by decide)) (E.i (by decide)) (E.i (by decide)) (E.j (by decide))⟩
/-! turning -/
def okTurning (S : AS) (i p c : Int32) : Prop := (¬ i < 0 ∧ ¬ Int32.ofNat (nS S 0) ≤ i) ∧ isLd p ∧ (¬ c < 0 ∧ ¬ 999999 < c) ∧ (sU S).length ≠ 6
def turnS (S : AS) (i p c : Nat) : AS := putP S (sM S) (sU S ++ [(i, p, c)]) (sW S) (sA S)
theorem okA_turn {i p c : Nat} (o : okA S) (hi : i < nS S 0) (hp : p < 6) (hc : c ≤ 999999) (hm : (sU S).length ≠ 6) : okA (turnS S i p c) := by
  obtain ⟨o1, o2, o3, o4, o5, o6, o7, o8⟩ := o
  refine ⟨o1, o2, o3, o4, o5, ⟨?_, fun m hm => ?_⟩, o7, o8⟩
  · show (sU S ++ [(i, p, c)]).length ≤ 6
    have := o6.1
    simp; omega
  · have hm : m ∈ sU S ++ [(i, p, c)] := hm
    rcases List.mem_append.mp hm with z | z
    · exact o6.2 m z
    · rw [List.mem_singleton.mp z]; exact ⟨hi, hp, hc⟩
theorem tells_c {y : Nat} {i : Int32} (I : Inv h) (q : RC h S) (hy : y < 2) : K X (d + 1) 92 [.ref (102 + 17 * y), .int i] h = some (some (.int (bi (decide (¬ i < 0 ∧ ¬ Int32.ofNat (nS S y) ≤ i)))), h) := by
  refine Wp.eqI ?_
  rw [k_92]
  by_cases c : i < 0
  · rw [if_pos c]; exact Wp.reti ⟨by simp [c, bi], rfl⟩
  · rw [if_neg c]
    refine w_gI I (year_s hy).1 ?_
    rw [(q.1.1 y hy).2.2.2.1]
    by_cases c2 : Int32.ofNat (nS S y) ≤ i
    · refine w_ift c2 ?_
      exact Wp.reti ⟨by rw [decide_eq_false (fun z => z.2 c2)]; rfl, rfl⟩
    · refine w_iff c2 ?_
      exact Wp.reti ⟨by rw [decide_eq_true ⟨c, c2⟩]; rfl, rfl⟩
theorem tells_m {n : Nat} {i : Int32} (hn : n ≤ 12) : K X (d + 1) 142 [.int i, .int 0, .int (Int32.ofNat n - 1)] h = some (some (.int (bi (decide (¬ i < 0 ∧ ¬ Int32.ofNat n ≤ i)))), h) := by
  rw [m_142]
  have e : decide (¬ i < 0 ∧ ¬ Int32.ofNat n - 1 < i) = decide (¬ i < 0 ∧ ¬ Int32.ofNat n ≤ i) := by
    apply decide_eq_decide.mpr
    cases n with
    | zero =>
      have h1 : (Int32.ofNat 0 - 1 < i) ↔ ¬ i < 0 := by
        rw [Int32.lt_iff_toInt_lt, Int32.lt_iff_toInt_lt]
        have a1 : (Int32.ofNat 0 - 1).toInt = -1 := by decide
        have a2 : (0 : Int32).toInt = 0 := by decide
        rw [a1, a2]; omega
      have h2 : (Int32.ofNat 0 ≤ i) ↔ ¬ i < 0 := Int32.not_lt.symm
      rw [h1, h2]
    | succ n =>
      rw [i_s1]
      exact and_congr Iff.rfl (not_congr (lt_le (by omega)))
  rw [e]
theorem c_turning {i p c : Int32} (I : Inv h) (q : RC h S) (o : okA S) :
    Wp (K X (d + 4) 121 [.ref 62, .int i, .int p, .int c] h) (VI fun v h' => (okTurning S i p c → (v = Int32.ofNat (sU S).length ∧ Cl h h' ∧ RC h' (turnS S (dN i) (dN p) (dN c)))) ∧ (¬ okTurning S i p c → v = -1 ∧ h' = h)) := by
  obtain ⟨p1, p2, p3, p4, p5, p6⟩ := q.1.2.2.2.2.2.1
  have len := o.2.2.2.2.2.1.1
  have n12 : nS S 0 ≤ 12 := (o.1 0 (by decide)).2.1
  rw [k_121]
  refine w_gL I s_62 l_62_0 ?_
  refine w_aLn (m := 0) I s_63 (by decide) (by decide) (by decide) (by decide) (lk_years 0 (by decide)) ?_
  refine w_gS I (year_s (y := 0) (by decide)).1 ?_
  refine w_eI (tells_c I q (by decide)) ?_
  refine w_if (fun c => failI fun z => bi_dec.mp c z.1) (fun c => ?_)
  have hi : ¬ i < 0 ∧ ¬ Int32.ofNat (nS S 0) ≤ i := Classical.byContradiction fun z => c (bi_dec.mpr z)
  refine w_eI ld_c ?_
  refine w_if (fun c => failI fun z => bi_dec.mp c z.2.1) (fun c => ?_)
  have hl : isLd p := Classical.byContradiction fun z => c (bi_dec.mpr z)
  refine w_if (fun c => failI fun z => z.2.2.1.1 c) (fun c0 => ?_)
  refine w_if (fun c => failI fun z => z.2.2.1.2 c) (fun c1 => ?_)
  refine w_gL I s_62 l_62_4 ?_
  refine w_gI I s_67 ?_
  rw [p3]
  refine w_if (fun c => ?_) (fun c => failI fun z => c ((i_lt (n := 6) (by omega) (by omega)).mpr (by have := z.2.2.2; omega)))
  have c2 := (i_lt (n := 6) (by omega) (by omega)).mp c
  refine passI ⟨hi, hl, ⟨c0, c1⟩, by omega⟩ ?_
  obtain ⟨nn, n3, rfl⟩ := i_nat (by omega) hi.1 hi.2
  obtain ⟨ln, l6, rfl⟩ := ld_nat hl
  obtain ⟨cn, cn6, rfl⟩ := i_nat (n := 1000000) (by decide) c0 (fun z => c1 ((lt_le (n := 999999) (by decide)).mpr z))
  rw [dN_of (by omega), dN_of (by omega), dN_of (by omega)]
  refine w_gL I s_62 l_62_4 ?_
  refine w_gL I s_67 l_67_2 ?_
  refine w_gL I s_62 l_62_4 ?_
  refine w_gI I s_67 ?_
  rw [p3]
  refine w_wIn I s_70 c2 (by decide) fun I => ?_
  refine w_gL I s_62 l_62_4 ?_
  refine w_gL I s_67 l_67_3 ?_
  refine w_gL I s_62 l_62_4 ?_
  refine w_gI I s_67 ?_
  rw [sI_other (b := 67) (by decide), p3]
  refine w_wIn I s_71 c2 (by decide) fun I => ?_
  refine w_gL I s_62 l_62_4 ?_
  refine w_gL I s_67 l_67_4 ?_
  refine w_gL I s_62 l_62_4 ?_
  refine w_gI I s_67 ?_
  rw [sI_other (b := 67) (by decide), sI_other (b := 67) (by decide), p3]
  refine w_wIn I s_72 c2 (by decide) fun I => ?_
  refine w_gL I s_62 l_62_4 ?_
  refine w_gI I s_67 ?_
  rw [sI_other (b := 67) (by decide), sI_other (b := 67) (by decide), sI_other (b := 67) (by decide), p3]
  refine w_fI I s_67 fun I => ?_
  refine w_gL I s_62 l_62_4 ?_
  refine w_gI I s_67 ?_
  generalize hg : sI (sI (sI (sI h 70 (sU S).length (Int32.ofNat nn)) 71 (sU S).length (Int32.ofNat ln)) 72 (sU S).length (Int32.ofNat cn)) 67 9 (Int32.ofNat (sU S).length + 1) = g at I ⊢
  have E : Eo (fun a => a = 67 ∨ a = 70 ∨ a = 71 ∨ a = 72) h g := by rw [← hg]; exact (((Eo.rf.kI (by omega)).kI (by omega)).kI (by omega)).kI (by omega)
  have g8 : hI g 67 9 = Int32.ofNat (sU S).length + 1 := by rw [← hg, hI_sI_self, up1, if_pos rfl]
  have gk : ∀ k, k ≠ 9 → hI g 67 k = hI h 67 k := fun k hk => by rw [← hg, hI_sI_self, up1, if_neg hk, sI_other (by decide), sI_other (by decide), sI_other (by decide)]
  have g1 : hI g 70 = up1 (hI h 70) (sU S).length (Int32.ofNat nn) := by rw [← hg, sI_other (by decide), sI_other (by decide), sI_other (by decide), hI_sI_self]
  have g2 : hI g 71 = up1 (hI h 71) (sU S).length (Int32.ofNat ln) := by rw [← hg, sI_other (by decide), sI_other (by decide), hI_sI_self, sI_other (by decide)]
  have g3 : hI g 72 = up1 (hI h 72) (sU S).length (Int32.ofNat cn) := by rw [← hg, sI_other (by decide), hI_sI_self, sI_other (by decide), sI_other (by decide)]
  rw [g8, ofNat_m1]
  refine Wp.reti ⟨rfl, E.wk (fun a z => by omega), q.plans o E (fun a z => by omega) ⟨by rw [gk 8 (by decide)]; exact p1, p2.eo (E.i (by decide)) (E.i (by decide)), ?_, ?_, by rw [gk 10 (by decide)]; exact p5, p6.eo (E.i (by decide)) (E.i (by decide)) (E.i (by decide))⟩ (P7 q.1.2.2.2.2.2.2.1 E (fun a z z2 => by omega))⟩
  · rw [g8, i32_ofNat_succ]; show _ = Int32.ofNat (sU S ++ [(nn, ln, cn)]).length; congr 1; simp
  · refine p4.snoc (fun i hi => ?_) ?_ ?_ ?_
    · rw [g1, g2, g3, up1, up1, up1, if_neg (by omega), if_neg (by omega), if_neg (by omega)]; exact ⟨rfl, rfl, rfl⟩
    · rw [g1, up1, if_pos (by omega)]
    · rw [g2, up1, if_pos (by omega)]
    · rw [g3, up1, if_pos (by omega)]
theorem m_turning {i p c : Int32} (I : Inv h) (q : RM h S) (o : okA S) :
    Wp (K X (d + 4) 222 [.ref 301, .int i, .int p, .int c] h) (VI fun v h' => (okTurning S i p c → (v = Int32.ofNat (sU S).length ∧ Mo h h' ∧ RM h' (turnS S (dN i) (dN p) (dN c)))) ∧ (¬ okTurning S i p c → v = -1 ∧ h' = h)) := by
  obtain ⟨q1, -, -, -, -, q6, ⟨p1, p2⟩, q8, q9⟩ := id q
  have len := o.2.2.2.2.2.1.1
  have n12 : nS S 0 ≤ 12 := (o.1 0 (by decide)).2.1
  rw [k_222]
  refine w_gL I s_301 l_301_3 ?_
  refine w_aIn (m := 0) I s_305 (by decide) (by decide) ?_
  rw [(q1 0 (by decide)).2.2.2.2.1]
  refine w_eI (tells_m n12) ?_
  refine w_if (fun c => failI fun z => bi_dec.mp c z.1) (fun cq => ?_)
  have hi : ¬ i < 0 ∧ ¬ Int32.ofNat (nS S 0) ≤ i := Classical.byContradiction fun z => cq (bi_dec.mpr z)
  refine w_eI ld_m ?_
  refine w_if (fun c => failI fun z => bi_dec.mp c z.2.1) (fun cq => ?_)
  have hl : isLd p := Classical.byContradiction fun z => cq (bi_dec.mpr z)
  refine w_eI m_142 ?_
  refine w_if (fun c => failI fun z => bi_dec.mp c z.2.2.1) (fun c9 => ?_)
  have hc : ¬ c < 0 ∧ ¬ 999999 < c := Classical.byContradiction fun z => c9 (bi_dec.mpr z)
  refine w_gI I s_301 ?_
  rw [p1]
  refine w_if (fun c => ?_) (fun c => failI fun z => z.2.2.2 ((i_eq (n := 6) (by omega) (by omega)).mp (Classical.byContradiction c)))
  have c2 : (sU S).length ≠ 6 := fun z => c (by rw [z]; rfl)
  refine passI ⟨hi, hl, hc, c2⟩ ?_
  obtain ⟨nn, n3, rfl⟩ := i_nat (by omega) hi.1 hi.2
  obtain ⟨ln, l6, rfl⟩ := ld_nat hl
  obtain ⟨cn, cn6, rfl⟩ := i_nat (n := 1000000) (by decide) hc.1 (fun z => hc.2 ((lt_le (n := 999999) (by decide)).mpr z))
  rw [dN_of (by omega), dN_of (by omega), dN_of (by omega)]
  refine w_gL I s_301 l_301_78 ?_
  refine w_gI I s_301 ?_
  rw [p1]
  refine w_wIn I s_353 (by omega) (by decide) fun I => ?_
  refine w_gL I s_301 l_301_79 ?_
  refine w_gI I s_301 ?_
  rw [sI_other (b := 301) (by decide), p1]
  refine w_wIn I s_354 (by omega) (by decide) fun I => ?_
  refine w_gL I s_301 l_301_80 ?_
  refine w_gI I s_301 ?_
  rw [sI_other (b := 301) (by decide), sI_other (b := 301) (by decide), p1]
  refine w_wIn I s_355 (by omega) (by decide) fun I => ?_
  refine w_gI I s_301 ?_
  rw [sI_other (b := 301) (by decide), sI_other (b := 301) (by decide), sI_other (b := 301) (by decide), p1]
  refine w_fI I s_301 fun I => ?_
  refine w_gI I s_301 ?_
  generalize hg : sI (sI (sI (sI h 353 (sU S).length (Int32.ofNat nn)) 354 (sU S).length (Int32.ofNat ln)) 355 (sU S).length (Int32.ofNat cn)) 301 76 (Int32.ofNat (sU S).length + 1) = g at I ⊢
  have E : Eo (fun a => a = 301 ∨ a = 353 ∨ a = 354 ∨ a = 355) h g := by rw [← hg]; exact (((Eo.rf.kI (by omega)).kI (by omega)).kI (by omega)).kI (by omega)
  have g8 : hI g 301 76 = Int32.ofNat (sU S).length + 1 := by rw [← hg, hI_sI_self, up1, if_pos rfl]
  have gk : ∀ k, k ≠ 76 → hI g 301 k = hI h 301 k := fun k hk => by rw [← hg, hI_sI_self, up1, if_neg hk, sI_other (by decide), sI_other (by decide), sI_other (by decide)]
  have g1 : hI g 353 = up1 (hI h 353) (sU S).length (Int32.ofNat nn) := by rw [← hg, sI_other (by decide), sI_other (by decide), sI_other (by decide), hI_sI_self]
  have g2 : hI g 354 = up1 (hI h 354) (sU S).length (Int32.ofNat ln) := by rw [← hg, sI_other (by decide), sI_other (by decide), hI_sI_self, sI_other (by decide)]
  have g3 : hI g 355 = up1 (hI h 355) (sU S).length (Int32.ofNat cn) := by rw [← hg, sI_other (by decide), hI_sI_self, sI_other (by decide), sI_other (by decide)]
  rw [g8, ofNat_m1]
  refine Wp.reti ⟨rfl, E.wk (fun a z => by omega), q.plans E (fun a z => by omega) (fun k hk => gk k (by omega)) ?_ ⟨?_, ?_⟩ ?_ ?_⟩
  · rw [gk 73 (by decide)]; exact ⟨q6.1, q6.2.eo (E.i (by decide)) (E.i (by decide))⟩
  · rw [g8, i32_ofNat_succ]; congr 1; simp
  · refine p2.snoc (fun i hi => ?_) ?_ ?_ ?_
    · rw [g1, g2, g3, up1, up1, up1, if_neg (by omega), if_neg (by omega), if_neg (by omega)]; exact ⟨rfl, rfl, rfl⟩
    · rw [g1, up1, if_pos (by omega)]
    · rw [g2, up1, if_pos (by omega)]
    · rw [g3, up1, if_pos (by omega)]
  · rw [gk 77 (by decide)]; exact ⟨q8.1, q8.2.eo (E.i (by decide)) (E.i (by decide)) (E.i (by decide))⟩
  · rw [gk 84 (by decide)]; exact ⟨q9.1, q9.2.eo (E.i (by decide)) (E.i (by decide)) (E.i (by decide)) (E.j (by decide))⟩
end PE
