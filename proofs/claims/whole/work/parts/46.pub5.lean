/-! word, answer, look -/
section PF
variable {X : Ctx} {d : Nat} {h : Hp} {S : AS}
def okWord (S : AS) (a b s k : Int32) : Prop := isLd a ∧ isLd b ∧ a ≠ b ∧ (¬ s < 0 ∧ ¬ 4 < s) ∧ (s = 1 ∨ s = 2 → ¬ k < 0 ∧ ¬ 6 ≤ k) ∧ (sW S).length ≠ 6
def wordS (S : AS) (a b s : Nat) (k : Int32) : AS := putP S (sM S) (sU S) (sW S ++ [(pr a b, s, k)]) (sA S)
theorem okA_word {a b s : Nat} {k : Int32} (o : okA S) (ha : a < 6) (hb : b < 6) (hab : a ≠ b) (hs : s ≤ 4) (hk : s = 1 ∨ s = 2 → ∃ j, j < 6 ∧ k = Int32.ofNat j) (hm : (sW S).length ≠ 6) : okA (wordS S a b s k) := by
  obtain ⟨o1, o2, o3, o4, o5, o6, o7, o8⟩ := o
  refine ⟨o1, o2, o3, o4, o5, o6, ⟨?_, fun m hm => ?_⟩, o8⟩
  · show (sW S ++ [(pr a b, s, k)]).length ≤ 6
    have := o7.1
    simp; omega
  · have hm : m ∈ sW S ++ [(pr a b, s, k)] := hm
    rcases List.mem_append.mp hm with z | z
    · exact o7.2 m z
    · rw [List.mem_singleton.mp z]; exact ⟨pr_lt a ha b hb hab, hs, hk⟩
theorem c_word {a b s k : Int32} (I : Inv h) (q : RC h S) (o : okA S) :
    Wp (K X (d + 4) 124 [.ref 62, .int a, .int b, .int s, .int k] h) (VI fun v h' => (okWord S a b s k → (v = Int32.ofNat (sW S).length ∧ Cl h h' ∧ RC h' (wordS S (dN a) (dN b) (dN s) k))) ∧ (¬ okWord S a b s k → v = -1 ∧ h' = h)) := by
  obtain ⟨p1, p2, p3, p4, p5, p6⟩ := q.1.2.2.2.2.2.1
  have len := o.2.2.2.2.2.2.1.1
  rw [k_124]
  refine w_eI ld_c ?_
  refine w_if (fun c => failI fun z => bi_dec.mp c z.1) (fun c => ?_)
  have ha : isLd a := Classical.byContradiction fun z => c (bi_dec.mpr z)
  refine w_eI ld_c ?_
  refine w_if (fun c => failI fun z => bi_dec.mp c z.2.1) (fun c => ?_)
  have hb : isLd b := Classical.byContradiction fun z => c (bi_dec.mpr z)
  refine w_if (fun c => failI fun z => z.2.2.1 c) (fun cab => ?_)
  refine w_if (fun c => failI fun z => z.2.2.2.1.1 c) (fun c0 => ?_)
  refine w_if (fun c => failI fun z => z.2.2.2.1.2 c) (fun c1 => ?_)
  refine w_gL I s_62 l_62_4 ?_
  refine w_gI I s_67 ?_
  rw [p5]
  refine w_if (fun c => ?_) (fun c => failI fun z => c ((i_lt (n := 6) (by omega) (by omega)).mpr (by have := z.2.2.2.2.2; omega)))
  have c2 := (i_lt (n := 6) (by omega) (by omega)).mp c
  have go : (s = 1 ∨ s = 2 → ¬ k < 0 ∧ ¬ 6 ≤ k) → Wp (sem (X, K X (d + 3)) 124 66 [some (.ref 62), some (.int a), some (.int b), some (.int s), some (.int k)] [] h) (VI fun v h' => (okWord S a b s k → (v = Int32.ofNat (sW S).length ∧ Cl h h' ∧ RC h' (wordS S (dN a) (dN b) (dN s) k))) ∧ (¬ okWord S a b s k → v = -1 ∧ h' = h)) := by
    intro hk
    refine passI ⟨ha, hb, cab, ⟨c0, c1⟩, hk, by omega⟩ ?_
    obtain ⟨an, a6, rfl⟩ := ld_nat ha
    obtain ⟨bn, b6, rfl⟩ := ld_nat hb
    have anb : an ≠ bn := fun z => cab (by rw [z])
    obtain ⟨sn, s5, rfl⟩ := i_nat (n := 5) (by decide) c0 (fun z => c1 ((lt_le (n := 4) (by decide)).mpr z))
    rw [dN_of (by omega), dN_of (by omega), dN_of (by omega)]
    rw [b_124_66]
    refine w_gL I s_62 l_62_4 ?_
    refine w_gL I s_67 l_67_5 ?_
    refine w_gL I s_62 l_62_4 ?_
    refine w_gI I s_67 ?_
    refine w_eI (m_141 a6 b6 anb) ?_
    rw [p5]
    refine w_wIn I s_73 c2 (by decide) fun I => ?_
    refine w_gL I s_62 l_62_4 ?_
    refine w_gL I s_67 l_67_6 ?_
    refine w_gL I s_62 l_62_4 ?_
    refine w_gI I s_67 ?_
    rw [sI_other (b := 67) (by decide), p5]
    refine w_wIn I s_74 c2 (by decide) fun I => ?_
    refine w_gL I s_62 l_62_4 ?_
    refine w_gL I s_67 l_67_7 ?_
    refine w_gL I s_62 l_62_4 ?_
    refine w_gI I s_67 ?_
    rw [sI_other (b := 67) (by decide), sI_other (b := 67) (by decide), p5]
    refine w_wIn I s_75 c2 (by decide) fun I => ?_
    refine w_gL I s_62 l_62_4 ?_
    refine w_gI I s_67 ?_
    rw [sI_other (b := 67) (by decide), sI_other (b := 67) (by decide), sI_other (b := 67) (by decide), p5]
    refine w_fI I s_67 fun I => ?_
    refine w_gL I s_62 l_62_4 ?_
    refine w_gI I s_67 ?_
    generalize hg : sI (sI (sI (sI h 73 (sW S).length (Int32.ofNat (pr an bn))) 74 (sW S).length (Int32.ofNat sn)) 75 (sW S).length k) 67 10 (Int32.ofNat (sW S).length + 1) = g at I ⊢
    have E : Eo (fun a => a = 67 ∨ a = 73 ∨ a = 74 ∨ a = 75) h g := by rw [← hg]; exact (((Eo.rf.kI (by omega)).kI (by omega)).kI (by omega)).kI (by omega)
    have g8 : hI g 67 10 = Int32.ofNat (sW S).length + 1 := by rw [← hg, hI_sI_self, up1, if_pos rfl]
    have gk : ∀ k, k ≠ 10 → hI g 67 k = hI h 67 k := fun k hk => by rw [← hg, hI_sI_self, up1, if_neg hk, sI_other (by decide), sI_other (by decide), sI_other (by decide)]
    have g1 : hI g 73 = up1 (hI h 73) (sW S).length (Int32.ofNat (pr an bn)) := by rw [← hg, sI_other (by decide), sI_other (by decide), sI_other (by decide), hI_sI_self]
    have g2 : hI g 74 = up1 (hI h 74) (sW S).length (Int32.ofNat sn) := by rw [← hg, sI_other (by decide), sI_other (by decide), hI_sI_self, sI_other (by decide)]
    have g3 : hI g 75 = up1 (hI h 75) (sW S).length k := by rw [← hg, sI_other (by decide), hI_sI_self, sI_other (by decide), sI_other (by decide)]
    rw [g8, ofNat_m1]
    refine Wp.reti ⟨rfl, E.wk (fun a z => by omega), q.plans o E (fun a z => by omega) ⟨by rw [gk 8 (by decide)]; exact p1, p2.eo (E.i (by decide)) (E.i (by decide)), by rw [gk 9 (by decide)]; exact p3, p4.eo (E.i (by decide)) (E.i (by decide)) (E.i (by decide)), ?_, ?_⟩ (P7 q.1.2.2.2.2.2.2.1 E (fun a z z2 => by omega))⟩
    · rw [g8, i32_ofNat_succ]; show _ = Int32.ofNat (sW S ++ [(pr an bn, sn, k)]).length; congr 1; simp
    · refine p6.snoc (fun i hi => ?_) ?_ ?_ ?_
      · rw [g1, g2, g3, up1, up1, up1, if_neg (by omega), if_neg (by omega), if_neg (by omega)]; exact ⟨rfl, rfl, rfl⟩
      · rw [g1, up1, if_pos (by omega)]; rfl
      · rw [g2, up1, if_pos (by omega)]
      · rw [g3, up1, if_pos (by omega)]
  have bad : (s = 1 ∨ s = 2) → ¬ (¬ k < 0 ∧ ¬ 6 ≤ k) → Wp (some (some (.int (-1)), h)) (VI fun v h' => (okWord S a b s k → (v = Int32.ofNat (sW S).length ∧ Cl h h' ∧ RC h' (wordS S (dN a) (dN b) (dN s) k))) ∧ (¬ okWord S a b s k → v = -1 ∧ h' = h)) := fun z1 z2 => failI fun z => z2 (z.2.2.2.2.1 z1)
  refine w_if (fun e1 => ?_) (fun e1 => ?_)
  · refine w_if (fun c => bad (Or.inl e1) (fun z => z.1 c)) (fun c5 => ?_)
    refine w_if (fun c => go (fun _ => ⟨c5, Int32.not_le.mpr c⟩)) (fun c => bad (Or.inl e1) (fun z => c (Int32.not_le.mp z.2)))
  · refine w_if (fun e2 => go (fun z => by rcases z with z | z; exact absurd z e1; exact absurd z e2)) (fun e2 => ?_)
    have e2 : s = 2 := Classical.byContradiction e2
    refine w_if (fun c => bad (Or.inr e2) (fun z => z.1 c)) (fun c5 => ?_)
    refine w_if (fun c => go (fun _ => ⟨c5, Int32.not_le.mpr c⟩)) (fun c => bad (Or.inr e2) (fun z => c (Int32.not_le.mp z.2)))
theorem m_word {a b s k : Int32} (I : Inv h) (q : RM h S) (o : okA S) :
    Wp (K X (d + 4) 226 [.ref 301, .int a, .int b, .int s, .int k] h) (VI fun v h' => (okWord S a b s k → (v = Int32.ofNat (sW S).length ∧ Mo h h' ∧ RM h' (wordS S (dN a) (dN b) (dN s) k))) ∧ (¬ okWord S a b s k → v = -1 ∧ h' = h)) := by
  obtain ⟨-, -, -, -, -, q6, q7, ⟨p1, p2⟩, q9⟩ := id q
  have len := o.2.2.2.2.2.2.1.1
  rw [k_226]
  refine w_eI ld_m ?_
  refine w_if (fun c => failI fun z => bi_dec.mp c z.1) (fun c => ?_)
  have ha : isLd a := Classical.byContradiction fun z => c (bi_dec.mpr z)
  refine w_eI ld_m ?_
  refine w_if (fun c => failI fun z => bi_dec.mp c z.2.1) (fun c => ?_)
  have hb : isLd b := Classical.byContradiction fun z => c (bi_dec.mpr z)
  refine w_if (fun c => failI fun z => z.2.2.1 c) (fun cab => ?_)
  refine w_eI m_142 ?_
  refine w_if (fun c => failI fun z => bi_dec.mp c z.2.2.2.1) (fun c => ?_)
  have hs : ¬ s < 0 ∧ ¬ 4 < s := Classical.byContradiction fun z => c (bi_dec.mpr z)
  have go : (s = 1 ∨ s = 2 → ¬ k < 0 ∧ ¬ 6 ≤ k) → Wp (sem (X, K X (d + 3)) 226 48 [some (.ref 301), some (.int a), some (.int b), some (.int s), some (.int k)] [] h) (VI fun v h' => (okWord S a b s k → (v = Int32.ofNat (sW S).length ∧ Mo h h' ∧ RM h' (wordS S (dN a) (dN b) (dN s) k))) ∧ (¬ okWord S a b s k → v = -1 ∧ h' = h)) := by
    intro hk
    rw [b_226_48]
    refine w_gI I s_301 ?_
    rw [p1]
    refine w_if (fun c => ?_) (fun c => failI fun z => z.2.2.2.2.2 ((i_eq (n := 6) (by omega) (by omega)).mp (Classical.byContradiction c)))
    have c2 : (sW S).length ≠ 6 := fun z => c (by rw [z]; rfl)
    refine passI ⟨ha, hb, cab, hs, hk, c2⟩ ?_
    obtain ⟨an, a6, rfl⟩ := ld_nat ha
    obtain ⟨bn, b6, rfl⟩ := ld_nat hb
    have anb : an ≠ bn := fun z => cab (by rw [z])
    obtain ⟨sn, s5, rfl⟩ := i_nat (n := 5) (by decide) hs.1 (fun z => hs.2 ((lt_le (n := 4) (by decide)).mpr z))
    rw [dN_of (by omega), dN_of (by omega), dN_of (by omega)]
    refine w_gL I s_301 l_301_81 ?_
    refine w_gI I s_301 ?_
    refine w_eI (m_186 a6 b6) ?_
    rw [p1, pm_pr an a6 bn b6 anb]
    refine w_wIn I s_356 (by omega) (by decide) fun I => ?_
    refine w_gL I s_301 l_301_82 ?_
    refine w_gI I s_301 ?_
    rw [sI_other (b := 301) (by decide), p1]
    refine w_wIn I s_357 (by omega) (by decide) fun I => ?_
    refine w_gL I s_301 l_301_83 ?_
    refine w_gI I s_301 ?_
    rw [sI_other (b := 301) (by decide), sI_other (b := 301) (by decide), p1]
    refine w_wIn I s_358 (by omega) (by decide) fun I => ?_
    refine w_gI I s_301 ?_
    rw [sI_other (b := 301) (by decide), sI_other (b := 301) (by decide), sI_other (b := 301) (by decide), p1]
    refine w_fI I s_301 fun I => ?_
    refine w_gI I s_301 ?_
    generalize hg : sI (sI (sI (sI h 356 (sW S).length (Int32.ofNat (pmOf (pr an bn)))) 357 (sW S).length (Int32.ofNat sn)) 358 (sW S).length k) 301 77 (Int32.ofNat (sW S).length + 1) = g at I ⊢
    have E : Eo (fun a => a = 301 ∨ a = 356 ∨ a = 357 ∨ a = 358) h g := by rw [← hg]; exact (((Eo.rf.kI (by omega)).kI (by omega)).kI (by omega)).kI (by omega)
    have g8 : hI g 301 77 = Int32.ofNat (sW S).length + 1 := by rw [← hg, hI_sI_self, up1, if_pos rfl]
    have gk : ∀ k, k ≠ 77 → hI g 301 k = hI h 301 k := fun k hk => by rw [← hg, hI_sI_self, up1, if_neg hk, sI_other (by decide), sI_other (by decide), sI_other (by decide)]
    have g1 : hI g 356 = up1 (hI h 356) (sW S).length (Int32.ofNat (pmOf (pr an bn))) := by rw [← hg, sI_other (by decide), sI_other (by decide), sI_other (by decide), hI_sI_self]
    have g2 : hI g 357 = up1 (hI h 357) (sW S).length (Int32.ofNat sn) := by rw [← hg, sI_other (by decide), sI_other (by decide), hI_sI_self, sI_other (by decide)]
    have g3 : hI g 358 = up1 (hI h 358) (sW S).length k := by rw [← hg, sI_other (by decide), hI_sI_self, sI_other (by decide), sI_other (by decide)]
    rw [g8, ofNat_m1]
    refine Wp.reti ⟨rfl, E.wk (fun a z => by omega), q.plans E (fun a z => by omega) (fun k hk => gk k (by omega)) ?_ ?_ ⟨?_, ?_⟩ ?_⟩
    · rw [gk 73 (by decide)]; exact ⟨q6.1, q6.2.eo (E.i (by decide)) (E.i (by decide))⟩
    · rw [gk 76 (by decide)]; exact ⟨q7.1, q7.2.eo (E.i (by decide)) (E.i (by decide)) (E.i (by decide))⟩
    · rw [g8, i32_ofNat_succ]; congr 1; simp
    · refine p2.snoc (fun i hi => ?_) ?_ ?_ ?_
      · rw [g1, g2, g3, up1, up1, up1, if_neg (by omega), if_neg (by omega), if_neg (by omega)]; exact ⟨rfl, rfl, rfl⟩
      · rw [g1, up1, if_pos (by omega)]
      · rw [g2, up1, if_pos (by omega)]
      · rw [g3, up1, if_pos (by omega)]
    · rw [gk 84 (by decide)]; exact ⟨q9.1, q9.2.eo (E.i (by decide)) (E.i (by decide)) (E.i (by decide)) (E.j (by decide))⟩
  have k6 : (¬ k < 0 ∧ ¬ 5 < k) ↔ (¬ k < 0 ∧ ¬ 6 ≤ k) := and_congr Iff.rfl (not_congr (lt_le (n := 5) (by decide)))
  refine w_if (fun e1 => ?_) (fun e1 => ?_)
  · refine w_eI m_142 ?_
    refine w_if (fun c => failI fun z => bi_dec.mp c (k6.mpr (z.2.2.2.2.1 (Or.inl e1)))) (fun c => go fun _ => k6.mp (Classical.byContradiction fun z => c (bi_dec.mpr z)))
  · refine w_if (fun e2 => go (fun z => by rcases z with z | z; exact absurd z e1; exact absurd z e2)) (fun e2 => ?_)
    have e2 : s = 2 := Classical.byContradiction e2
    refine w_eI m_142 ?_
    refine w_if (fun c => failI fun z => bi_dec.mp c (k6.mpr (z.2.2.2.2.1 (Or.inr e2)))) (fun c => go fun _ => k6.mp (Classical.byContradiction fun z => c (bi_dec.mpr z)))
/-! answer -/
def okAnswer (S : AS) (s l i : Int32) (v : Int64) : Prop := (¬ s < 0 ∧ ¬ 2 < s) ∧ (s ≠ 2 → isLd l) ∧ (s = 1 → ¬ i < 0 ∧ ¬ Int32.ofNat (nS S 0) ≤ i) ∧ (s = 0 → v = 0 ∨ v = 1) ∧ (sA S).length ≠ 10
def ansS (S : AS) (s : Nat) (l i : Int32) (v : Int64) : AS := putP S (sM S) (sU S) (sW S) (sA S ++ [(s, l, i, v)])
theorem okA_ans {s l i : Int32} {v : Int64} (o : okA S) (k : okAnswer S s l i v) : okA (ansS S (dN s) l i v) := by
  obtain ⟨o1, o2, o3, o4, o5, o6, o7, o8⟩ := o
  obtain ⟨k1, k2, k3, k4, k5⟩ := k
  obtain ⟨sn, s3, rfl⟩ := i_nat (n := 3) (by decide) k1.1 (fun z => k1.2 ((lt_le (n := 2) (by decide)).mpr z))
  rw [dN_of (by omega)]
  refine ⟨o1, o2, o3, o4, o5, o6, o7, ⟨?_, fun m hm => ?_⟩⟩
  · show (sA S ++ [(sn, l, i, v)]).length ≤ 10
    have := o8.1
    simp; omega
  · have hm : m ∈ sA S ++ [(sn, l, i, v)] := hm
    rcases List.mem_append.mp hm with z | z
    · exact o8.2 m z
    · rw [List.mem_singleton.mp z]
      have n12 : nS S 0 ≤ 12 := (o1 0 (by decide)).2.1
      refine ⟨by omega, fun w => ld_nat (k2 (fun z => by have := (i_eq (n := 2) (by omega) (by decide)).mp z; have w : sn < 2 := w; omega)), fun w => ?_⟩
      have w : sn = 1 := w
      have := k3 (by rw [w]; rfl)
      exact i_nat (n := nS S 0) (by omega) this.1 this.2
theorem c_answer {s l i : Int32} {v : Int64} (I : Inv h) (q : RC h S) (o : okA S) :
    Wp (K X (d + 4) 132 [.ref 62, .int s, .int l, .int i, .long v] h) (VI fun x h' => (okAnswer S s l i v → (x = Int32.ofNat (sA S).length ∧ Cl h h' ∧ RC h' (ansS S (dN s) l i v))) ∧ (¬ okAnswer S s l i v → x = -1 ∧ h' = h)) := by
  obtain ⟨p1, p2⟩ := q.1.2.2.2.2.2.2.1
  have len := o.2.2.2.2.2.2.2.1
  have n12 : nS S 0 ≤ 12 := (o.1 0 (by decide)).2.1
  rw [k_132]
  refine w_if (fun c => failI fun z => z.1.1 c) (fun c0 => ?_)
  refine w_if (fun c => failI fun z => z.1.2 c) (fun c1 => ?_)
  have go : (s ≠ 2 → isLd l) → Wp (sem (X, K X (d + 3)) 132 21 [some (.ref 62), some (.int s), some (.int l), some (.int i), some (.long v), none] [] h) (VI fun x h' => (okAnswer S s l i v → (x = Int32.ofNat (sA S).length ∧ Cl h h' ∧ RC h' (ansS S (dN s) l i v))) ∧ (¬ okAnswer S s l i v → x = -1 ∧ h' = h)) := by
    intro hl
    rw [b_132_21]
    refine w_gL I s_62 l_62_5 ?_
    refine w_gI I s_76 ?_
    rw [p1]
    refine w_if (fun c => ?_) (fun c => failI fun z => c ((i_lt (n := 10) (by omega) (by omega)).mpr (by have := z.2.2.2.2; omega)))
    have c2 := (i_lt (n := 10) (by omega) (by omega)).mp c
    have g73 : (s = 0 → v = 0 ∨ v = 1) → (s = 1 → ¬ i < 0 ∧ ¬ Int32.ofNat (nS S 0) ≤ i) → Wp (sem (X, K X (d + 3)) 132 73 [some (.ref 62), some (.int s), some (.int l), some (.int i), some (.long v), none] [] h) (VI fun x h' => (okAnswer S s l i v → (x = Int32.ofNat (sA S).length ∧ Cl h h' ∧ RC h' (ansS S (dN s) l i v))) ∧ (¬ okAnswer S s l i v → x = -1 ∧ h' = h)) := by
      intro hv hi
      refine passI ⟨⟨c0, c1⟩, hl, hi, hv, by omega⟩ ?_
      obtain ⟨sn, s3, rfl⟩ := i_nat (n := 3) (by decide) c0 (fun z => c1 ((lt_le (n := 2) (by decide)).mpr z))
      rw [dN_of (by omega), b_132_73]
      refine w_gL I s_62 l_62_5 ?_
      refine w_gL I s_76 l_76_0 ?_
      refine w_gL I s_62 l_62_5 ?_
      refine w_gI I s_76 ?_
      rw [p1]
      refine w_wIn I s_77 c2 (by decide) fun I => ?_
      refine w_gL I s_62 l_62_5 ?_
      refine w_gL I s_76 l_76_1 ?_
      refine w_gL I s_62 l_62_5 ?_
      refine w_gI I s_76 ?_
      rw [sI_other (b := 76) (by decide), p1]
      refine w_wIn I s_78 c2 (by decide) fun I => ?_
      refine w_gL I s_62 l_62_5 ?_
      refine w_gL I s_76 l_76_2 ?_
      refine w_gL I s_62 l_62_5 ?_
      refine w_gI I s_76 ?_
      rw [sI_other (b := 76) (by decide), sI_other (b := 76) (by decide), p1]
      refine w_wIn I s_79 c2 (by decide) fun I => ?_
      refine w_gL I s_62 l_62_5 ?_
      refine w_gL I s_76 l_76_3 ?_
      refine w_gL I s_62 l_62_5 ?_
      refine w_gI I s_76 ?_
      rw [sI_other (b := 76) (by decide), sI_other (b := 76) (by decide), sI_other (b := 76) (by decide), p1]
      refine w_wJn I s_80 c2 (by decide) fun I => ?_
      refine w_gL I s_62 l_62_5 ?_
      refine w_gI I s_76 ?_
      have e9 : hI (sJ (sI (sI (sI h 77 (sA S).length (Int32.ofNat sn)) 78 (sA S).length l) 79 (sA S).length i) 80 (sA S).length v) 76 4 = Int32.ofNat (sA S).length := by
        show hI (sI (sI (sI h 77 (sA S).length (Int32.ofNat sn)) 78 (sA S).length l) 79 (sA S).length i) 76 4 = _
        rw [sI_other (by decide), sI_other (by decide), sI_other (by decide), p1]
      rw [e9]
      refine w_fI I s_76 fun I => ?_
      refine w_gL I s_62 l_62_5 ?_
      refine w_gI I s_76 ?_
      generalize hg : sI (sJ (sI (sI (sI h 77 (sA S).length (Int32.ofNat sn)) 78 (sA S).length l) 79 (sA S).length i) 80 (sA S).length v) 76 4 (Int32.ofNat (sA S).length + 1) = g at I ⊢
      have E : Eo (fun a => 76 ≤ a ∧ a ≤ 80) h g := by rw [← hg]; exact ((((Eo.rf.kI (by omega)).kI (by omega)).kI (by omega)).kJ (by omega)).kI (by omega)
      have g8 : hI g 76 4 = Int32.ofNat (sA S).length + 1 := by rw [← hg, hI_sI_self, up1, if_pos rfl]
      have sj : ∀ (g : Hp) (a b k : Nat) (w : Int64), hI (sJ g a k w) b = hI g b := fun _ _ _ _ _ => rfl
      have g1 : hI g 77 = up1 (hI h 77) (sA S).length (Int32.ofNat sn) := by rw [← hg, sI_other (by decide), sj, sI_other (by decide), sI_other (by decide), hI_sI_self]
      have g2 : hI g 78 = up1 (hI h 78) (sA S).length l := by rw [← hg, sI_other (by decide), sj, sI_other (by decide), hI_sI_self, sI_other (by decide)]
      have g3 : hI g 79 = up1 (hI h 79) (sA S).length i := by rw [← hg, sI_other (by decide), sj, hI_sI_self, sI_other (by decide), sI_other (by decide)]
      have g4 : hJ g 80 = up1 (hJ h 80) (sA S).length v := by
        rw [← hg]
        show hJ (sJ (sI (sI (sI h 77 (sA S).length (Int32.ofNat sn)) 78 (sA S).length l) 79 (sA S).length i) 80 (sA S).length v) 80 = _
        rw [hJ_sJ_self]; rfl
      rw [g8, ofNat_m1]
      refine Wp.reti ⟨rfl, E.wk (fun a z => by omega), q.plans o E (fun a z => by omega) (P6 q.1.2.2.2.2.2.1 E (fun a z z2 => by omega)) ⟨?_, ?_⟩⟩
      · rw [g8, i32_ofNat_succ]; congr 1; simp
      · refine p2.snoc (fun i hi => ?_) ?_ ?_ ?_ ?_
        · rw [g1, g2, g3, g4, up1, up1, up1, up1, if_neg (by omega), if_neg (by omega), if_neg (by omega), if_neg (by omega)]; exact ⟨rfl, rfl, rfl, rfl⟩
        · rw [g1, up1, if_pos (by omega)]
        · rw [g2, up1, if_pos (by omega)]
        · rw [g3, up1, if_pos (by omega)]
        · rw [g4, up1, if_pos (by omega)]
    have g53 : (s = 0 → v = 0 ∨ v = 1) → Wp (sem (X, K X (d + 3)) 132 53 [some (.ref 62), some (.int s), some (.int l), some (.int i), some (.long v), none] [] h) (VI fun x h' => (okAnswer S s l i v → (x = Int32.ofNat (sA S).length ∧ Cl h h' ∧ RC h' (ansS S (dN s) l i v))) ∧ (¬ okAnswer S s l i v → x = -1 ∧ h' = h)) := by
      intro hv
      rw [b_132_53]
      refine w_if (fun e1 => g73 hv (fun z => absurd z e1)) (fun e1 => ?_)
      have e1 : s = 1 := Classical.byContradiction e1
      refine w_gL I s_62 l_62_0 ?_
      refine w_aLn (m := 0) I s_63 (by decide) (by decide) (by decide) (by decide) (lk_years 0 (by decide)) ?_
      refine w_gS I (year_s (y := 0) (by decide)).1 ?_
      refine w_eI (tells_c I q (by decide)) ?_
      refine w_if (fun c => g73 hv (fun _ => Classical.byContradiction fun z => c (bi_dec.mpr z))) (fun c => failI fun z => bi_dec.mp (Classical.byContradiction c) (z.2.2.1 e1))
    refine w_if (fun e0 => g53 (fun z => absurd z e0)) (fun e0 => ?_)
    have e0 : s = 0 := Classical.byContradiction e0
    refine w_if (fun c => g53 (fun _ => Or.inl ((lg_cmp_eq _ _).mp c))) (fun c3 => ?_)
    refine w_if (fun c => failI fun z => ?_) (fun c => g53 (fun _ => Or.inr ((lg_cmp_eq _ _).mp (Classical.byContradiction c))))
    rcases z.2.2.2.1 e0 with w | w
    · exact c3 ((lg_cmp_eq _ _).mpr w)
    · exact c ((lg_cmp_eq _ _).mpr w)
  refine w_if (fun e2 => go (fun z => absurd e2 z)) (fun e2 => ?_)
  refine w_eI ld_c ?_
  refine w_if (fun c => failI fun z => bi_dec.mp c (z.2.1 e2)) (fun c => go (fun _ => Classical.byContradiction fun z => c (bi_dec.mpr z)))
end PF
