/-! answer of the model; look; sum -/
section PG
variable {X : Ctx} {d : Nat} {h : Hp} {S : AS}
theorem m_answer {s l i : Int32} {v : Int64} (I : Inv h) (q : RM h S) (o : okA S) :
    Wp (K X (d + 4) 231 [.ref 301, .int s, .int l, .int i, .long v] h) (VI fun x h' => (okAnswer S s l i v → (x = Int32.ofNat (sA S).length ∧ Mo h h' ∧ RM h' (ansS S (dN s) l i v))) ∧ (¬ okAnswer S s l i v → x = -1 ∧ h' = h)) := by
  obtain ⟨q1, -, -, -, -, q6, q7, q8, ⟨p1, p2⟩⟩ := id q
  have len := o.2.2.2.2.2.2.2.1
  have n12 : nS S 0 ≤ 12 := (o.1 0 (by decide)).2.1
  rw [k_231]
  refine w_eI m_142 ?_
  refine w_if (fun c => failI fun z => bi_dec.mp c z.1) (fun c => ?_)
  have hs : ¬ s < 0 ∧ ¬ 2 < s := Classical.byContradiction fun z => c (bi_dec.mpr z)
  obtain ⟨sn, s3, es⟩ := i_nat (n := 3) (by decide) hs.1 (fun z => hs.2 ((lt_le (n := 2) (by decide)).mpr z))
  have s2 : (2 ≤ s) ↔ s = 2 := by
    rw [es]
    constructor
    · intro z; have := (i_le (m := 2) (by decide) (by omega)).mp z; have : sn = 2 := by omega
      rw [this]; rfl
    · intro z; rw [z]; decide
  have go : (s ≠ 2 → isLd l) → Wp (sem (X, K X (d + 3)) 231 21 [some (.ref 301), some (.int s), some (.int l), some (.int i), some (.long v), none] [] h) (VI fun x h' => (okAnswer S s l i v → (x = Int32.ofNat (sA S).length ∧ Mo h h' ∧ RM h' (ansS S (dN s) l i v))) ∧ (¬ okAnswer S s l i v → x = -1 ∧ h' = h)) := by
    intro hl
    have g60 : (s = 0 → v = 0 ∨ v = 1) → (s = 1 → ¬ i < 0 ∧ ¬ Int32.ofNat (nS S 0) ≤ i) → Wp (sem (X, K X (d + 3)) 231 60 [some (.ref 301), some (.int s), some (.int l), some (.int i), some (.long v), none] [] h) (VI fun x h' => (okAnswer S s l i v → (x = Int32.ofNat (sA S).length ∧ Mo h h' ∧ RM h' (ansS S (dN s) l i v))) ∧ (¬ okAnswer S s l i v → x = -1 ∧ h' = h)) := by
      intro hv hi
      rw [b_231_60]
      refine w_gI I s_301 ?_
      rw [p1]
      refine w_if (fun c => ?_) (fun c => failI fun z => z.2.2.2.2 ((i_eq (n := 10) (by omega) (by omega)).mp (Classical.byContradiction c)))
      have c2 : (sA S).length ≠ 10 := fun z => c (by rw [z]; rfl)
      refine passI ⟨hs, hl, hi, hv, c2⟩ ?_
      have ds : dN s = sn := by rw [es, dN_of (by omega)]
      rw [ds]
      refine w_gL I s_301 l_301_85 ?_
      refine w_gI I s_301 ?_
      rw [p1, es]
      refine w_wIn I s_359 (by omega) (by decide) fun I => ?_
      refine w_gL I s_301 l_301_86 ?_
      refine w_gI I s_301 ?_
      rw [sI_other (b := 301) (by decide), p1]
      refine w_wIn I s_360 (by omega) (by decide) fun I => ?_
      refine w_gL I s_301 l_301_87 ?_
      refine w_gI I s_301 ?_
      rw [sI_other (b := 301) (by decide), sI_other (b := 301) (by decide), p1]
      refine w_wIn I s_361 (by omega) (by decide) fun I => ?_
      refine w_gL I s_301 l_301_88 ?_
      refine w_gI I s_301 ?_
      rw [sI_other (b := 301) (by decide), sI_other (b := 301) (by decide), sI_other (b := 301) (by decide), p1]
      refine w_wJn I s_362 (by omega) (by decide) fun I => ?_
      refine w_gI I s_301 ?_
      have sj : ∀ (g : Hp) (a b k : Nat) (w : Int64), hI (sJ g a k w) b = hI g b := fun _ _ _ _ _ => rfl
      have e9 : hI (sJ (sI (sI (sI h 359 (sA S).length (Int32.ofNat sn)) 360 (sA S).length l) 361 (sA S).length i) 362 (sA S).length v) 301 84 = Int32.ofNat (sA S).length := by
        rw [sj, sI_other (by decide), sI_other (by decide), sI_other (by decide), p1]
      rw [e9]
      refine w_fI I s_301 fun I => ?_
      refine w_gI I s_301 ?_
      generalize hg : sI (sJ (sI (sI (sI h 359 (sA S).length (Int32.ofNat sn)) 360 (sA S).length l) 361 (sA S).length i) 362 (sA S).length v) 301 84 (Int32.ofNat (sA S).length + 1) = g at I ⊢
      have E : Eo (fun a => a = 301 ∨ (359 ≤ a ∧ a ≤ 362)) h g := by rw [← hg]; exact ((((Eo.rf.kI (by omega)).kI (by omega)).kI (by omega)).kJ (by omega)).kI (by omega)
      have g8 : hI g 301 84 = Int32.ofNat (sA S).length + 1 := by rw [← hg, hI_sI_self, up1, if_pos rfl]
      have gk : ∀ k, k ≠ 84 → hI g 301 k = hI h 301 k := fun k hk => by rw [← hg, hI_sI_self, up1, if_neg hk, sj, sI_other (by decide), sI_other (by decide), sI_other (by decide)]
      have g1 : hI g 359 = up1 (hI h 359) (sA S).length (Int32.ofNat sn) := by rw [← hg, sI_other (by decide), sj, sI_other (by decide), sI_other (by decide), hI_sI_self]
      have g2 : hI g 360 = up1 (hI h 360) (sA S).length l := by rw [← hg, sI_other (by decide), sj, sI_other (by decide), hI_sI_self, sI_other (by decide)]
      have g3 : hI g 361 = up1 (hI h 361) (sA S).length i := by rw [← hg, sI_other (by decide), sj, hI_sI_self, sI_other (by decide), sI_other (by decide)]
      have g4 : hJ g 362 = up1 (hJ h 362) (sA S).length v := by
        rw [← hg]
        show hJ (sJ (sI (sI (sI h 359 (sA S).length (Int32.ofNat sn)) 360 (sA S).length l) 361 (sA S).length i) 362 (sA S).length v) 362 = _
        rw [hJ_sJ_self]; rfl
      rw [g8, ofNat_m1]
      refine Wp.reti ⟨rfl, E.wk (fun a z => by omega), q.plans E (fun a z => by omega) (fun k hk => gk k (by omega)) ?_ ?_ ?_ ⟨?_, ?_⟩⟩
      · rw [gk 73 (by decide)]; exact ⟨q6.1, q6.2.eo (E.i (by omega)) (E.i (by omega))⟩
      · rw [gk 76 (by decide)]; exact ⟨q7.1, q7.2.eo (E.i (by omega)) (E.i (by omega)) (E.i (by omega))⟩
      · rw [gk 77 (by decide)]; exact ⟨q8.1, q8.2.eo (E.i (by omega)) (E.i (by omega)) (E.i (by omega))⟩
      · rw [g8, i32_ofNat_succ]; congr 1; simp
      · refine p2.snoc (fun i hi => ?_) ?_ ?_ ?_ ?_
        · rw [g1, g2, g3, g4, up1, up1, up1, up1, if_neg (by omega), if_neg (by omega), if_neg (by omega), if_neg (by omega)]; exact ⟨rfl, rfl, rfl, rfl⟩
        · rw [g1, up1, if_pos (by omega)]
        · rw [g2, up1, if_pos (by omega)]
        · rw [g3, up1, if_pos (by omega)]
        · rw [g4, up1, if_pos (by omega)]
    have g42 : (s = 1 → ¬ i < 0 ∧ ¬ Int32.ofNat (nS S 0) ≤ i) → Wp (sem (X, K X (d + 3)) 231 42 [some (.ref 301), some (.int s), some (.int l), some (.int i), some (.long v), none] [] h) (VI fun x h' => (okAnswer S s l i v → (x = Int32.ofNat (sA S).length ∧ Mo h h' ∧ RM h' (ansS S (dN s) l i v))) ∧ (¬ okAnswer S s l i v → x = -1 ∧ h' = h)) := by
      intro hi
      rw [b_231_42]
      refine w_if (fun e0 => g60 (fun z => absurd z e0) hi) (fun e0 => ?_)
      have e0 : s = 0 := Classical.byContradiction e0
      refine w_if (fun c => g60 (fun _ => Or.inl ((lg_cmp_eq _ _).mp c)) hi) (fun c3 => ?_)
      refine w_if (fun c => failI fun z => ?_) (fun c => g60 (fun _ => Or.inr ((lg_cmp_eq _ _).mp (Classical.byContradiction c))) hi)
      rcases z.2.2.2.1 e0 with w | w
      · exact c3 ((lg_cmp_eq _ _).mpr w)
      · exact c ((lg_cmp_eq _ _).mpr w)
    rw [b_231_21]
    refine w_if (fun e1 => g42 (fun z => absurd z e1)) (fun e1 => ?_)
    have e1 : s = 1 := Classical.byContradiction e1
    refine w_gL I s_301 l_301_3 ?_
    refine w_aIn (m := 0) I s_305 (by decide) (by decide) ?_
    rw [(q1 0 (by decide)).2.2.2.2.1]
    refine w_eI (tells_m n12) ?_
    refine w_if (fun c => failI fun z => bi_dec.mp c (z.2.2.1 e1)) (fun c => g42 (fun _ => Classical.byContradiction fun z => c (bi_dec.mpr z)))
  refine w_if (fun e2 => go (fun z => absurd (s2.mp e2) z)) (fun e2 => ?_)
  have e2 : s ≠ 2 := fun z => e2 (s2.mpr z)
  refine w_eI ld_m ?_
  refine w_if (fun c => failI fun z => bi_dec.mp c (z.2.1 e2)) (fun c => go (fun _ => Classical.byContradiction fun z => c (bi_dec.mpr z)))
/-! look -/
def lookP (S : AS) (w : Int32) : Int32 := if w = 0 then Int32.ofNat (nS S 0) else if w = 1 then Int32.ofNat (nS S 1) else if w = 2 then Int32.ofNat (sM S).length else if w = 3 then Int32.ofNat (sU S).length else if w = 4 then Int32.ofNat (sW S).length else if w = 5 then Int32.ofNat (sA S).length else -1
theorem tsw_big {ts : List Nat} {dd : Nat} {w : Int32} {n : Nat} (hn : ts.length = n) (hw : ¬ (¬ w < 0 ∧ ¬ Int32.ofNat n ≤ w)) (h2 : n < 2147483648) : tsw 0 ts dd w = dd := by
  unfold tsw
  refine if_pos ?_
  rw [Int32.lt_iff_toInt_lt, Int32.le_iff_toInt_le, i32_ofNat_lt h2] at hw
  have : (0 : Int32).toInt = 0 := by decide
  rw [this] at hw
  rw [hn]
  omega
theorem w_6 {w : Int32} : (w = 0 ∨ w = 1 ∨ w = 2 ∨ w = 3 ∨ w = 4 ∨ w = 5) ∨ ¬ (¬ w < 0 ∧ ¬ Int32.ofNat 6 ≤ w) := by
  by_cases c : ¬ w < 0 ∧ ¬ Int32.ofNat 6 ≤ w
  · obtain ⟨n, n6, rfl⟩ := i_nat (by decide) c.1 c.2
    left
    have : n = 0 ∨ n = 1 ∨ n = 2 ∨ n = 3 ∨ n = 4 ∨ n = 5 := by omega
    rcases this with rfl | rfl | rfl | rfl | rfl | rfl <;> simp
  · exact Or.inr c
theorem look_no {w : Int32} (c : ¬ (¬ w < 0 ∧ ¬ Int32.ofNat 6 ≤ w)) : lookP S w = -1 := by
  unfold lookP
  rw [if_neg, if_neg, if_neg, if_neg, if_neg, if_neg]
  all_goals (intro z; rw [z] at c; exact c (by decide))
theorem c_look {w : Int32} (I : Inv h) (q : RC h S) : K X (d + 4) 135 [.ref 62, .int w] h = some (some (.int (lookP S w)), h) := by
  obtain ⟨p1, p2, p3, p4, p5, p6⟩ := q.1.2.2.2.2.2.1
  refine Wp.eqI ?_
  rw [k_135]
  rcases w_6 (w := w) with (rfl | rfl | rfl | rfl | rfl | rfl) | c
  · show Wp (sem (X, K X (d + 3)) 135 40 [some (.ref 62), some (.int 0)] [] h) _
    rw [b_135_40]
    refine w_gL I s_62 l_62_0 ?_
    refine w_aLn (m := 0) I s_63 (by decide) (by decide) (by decide) (by decide) (lk_years 0 (by decide)) ?_
    refine w_gI I (year_s (y := 0) (by decide)).1 ?_
    exact Wp.reti ⟨(q.1.1 0 (by decide)).2.2.2.1, rfl⟩
  · show Wp (sem (X, K X (d + 3)) 135 50 [some (.ref 62), some (.int 1)] [] h) _
    rw [b_135_50]
    refine w_gL I s_62 l_62_0 ?_
    refine w_aLn (m := 1) I s_63 (by decide) (by decide) (by decide) (by decide) (lk_years 1 (by decide)) ?_
    refine w_gI I (year_s (y := 1) (by decide)).1 ?_
    exact Wp.reti ⟨(q.1.1 1 (by decide)).2.2.2.1, rfl⟩
  · show Wp (sem (X, K X (d + 3)) 135 60 [some (.ref 62), some (.int 2)] [] h) _
    rw [b_135_60]
    refine w_gL I s_62 l_62_4 ?_
    refine w_gI I s_67 ?_
    exact Wp.reti ⟨p1, rfl⟩
  · show Wp (sem (X, K X (d + 3)) 135 68 [some (.ref 62), some (.int 3)] [] h) _
    rw [b_135_68]
    refine w_gL I s_62 l_62_4 ?_
    refine w_gI I s_67 ?_
    exact Wp.reti ⟨p3, rfl⟩
  · show Wp (sem (X, K X (d + 3)) 135 76 [some (.ref 62), some (.int 4)] [] h) _
    rw [b_135_76]
    refine w_gL I s_62 l_62_4 ?_
    refine w_gI I s_67 ?_
    exact Wp.reti ⟨p5, rfl⟩
  · show Wp (sem (X, K X (d + 3)) 135 84 [some (.ref 62), some (.int 5)] [] h) _
    rw [b_135_84]
    refine w_gL I s_62 l_62_5 ?_
    refine w_gI I s_76 ?_
    exact Wp.reti ⟨q.1.2.2.2.2.2.2.1.1, rfl⟩
  · rw [tsw_big rfl c (by decide), b_135_92, look_no c]
    exact Wp.reti ⟨rfl, rfl⟩
theorem m_look {w : Int32} (I : Inv h) (q : RM h S) : K X (d + 4) 233 [.ref 301, .int w] h = some (some (.int (lookP S w)), h) := by
  obtain ⟨q1, -, -, -, -, q6, q7, q8, q9⟩ := q
  refine Wp.eqI ?_
  rw [k_233]
  rcases w_6 (w := w) with (rfl | rfl | rfl | rfl | rfl | rfl) | c
  · show Wp (sem (X, K X (d + 3)) 233 40 [some (.ref 301), some (.int 0)] [] h) _
    rw [b_233_40]
    refine w_gL I s_301 l_301_3 ?_
    refine w_aIn (m := 0) I s_305 (by decide) (by decide) ?_
    exact Wp.reti ⟨(q1 0 (by decide)).2.2.2.2.1, rfl⟩
  · show Wp (sem (X, K X (d + 3)) 233 47 [some (.ref 301), some (.int 1)] [] h) _
    rw [b_233_47]
    refine w_gL I s_301 l_301_3 ?_
    refine w_aIn (m := 1) I s_305 (by decide) (by decide) ?_
    exact Wp.reti ⟨(q1 1 (by decide)).2.2.2.2.1, rfl⟩
  · show Wp (sem (X, K X (d + 3)) 233 54 [some (.ref 301), some (.int 2)] [] h) _
    rw [b_233_54]
    exact w_gI I s_301 (Wp.reti ⟨q6.1, rfl⟩)
  · show Wp (sem (X, K X (d + 3)) 233 59 [some (.ref 301), some (.int 3)] [] h) _
    rw [b_233_59]
    exact w_gI I s_301 (Wp.reti ⟨q7.1, rfl⟩)
  · show Wp (sem (X, K X (d + 3)) 233 64 [some (.ref 301), some (.int 4)] [] h) _
    rw [b_233_64]
    exact w_gI I s_301 (Wp.reti ⟨q8.1, rfl⟩)
  · show Wp (sem (X, K X (d + 3)) 233 69 [some (.ref 301), some (.int 5)] [] h) _
    rw [b_233_69]
    exact w_gI I s_301 (Wp.reti ⟨q9.1, rfl⟩)
  · rw [tsw_big rfl c (by decide), b_233_74, look_no c]
    exact Wp.reti ⟨rfl, rfl⟩
end PG
