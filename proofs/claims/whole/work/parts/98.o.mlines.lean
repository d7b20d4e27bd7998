/-! TEXT: the model reads the lines of a LAW -/
section MU
variable {X : Ctx} {d : Nat} {Q : Option Value → Hp → Prop} {T : Nat → Nat} {L : Nat} {h0 h : Hp}
theorem i120 (n : Nat) : (120 : Int32) + Int32.ofNat n = Int32.ofNat (120 + n) := i_add 120 n
theorem tk_k {k : Nat} (y : 8 ≤ tC T L k ∧ tC T L k ≤ 13) : Int32.ofNat (mt (tC T L k)) - 40 = Int32.ofNat (tC T L k - 8) := by
  have e : mt (tC T L k) = 32 + tC T L k := by unfold mt; rw [if_neg (by omega), if_pos (by omega)]
  rw [e]
  have := i_sub (m := 32 + tC T L k) (n := 40) (by omega)
  rw [show 32 + tC T L k - 40 = tC T L k - 8 by omega] at this
  exact this
/-- a kind -/
theorem m_171 {k dd e : Nat} {st : List Op} (hv : X.2.2 = .null ∨ X.2.2 = .ref 61) (I : Inv h) (q : MP T L h k st dd e) (M : MFr h0 h) : Wp (K X (d + 9) 171 [.ref 301] h) (VI fun v h' => SimM T L dd e h0 st (if 8 ≤ tC T L k ∧ tC T L k ≤ 13 then (0, k + 1, []) else (1, k, [])) v h') := by
  have vv : vld (tC T L k) := tC_vld
  have rg := mt_rng _ (vld_lt vv) vv
  have ti : (¬ Int32.ofNat (mt (tC T L k)) < 40 ∧ ¬ (45 : Int32) < Int32.ofNat (mt (tC T L k))) ↔ (40 ≤ mt (tC T L k) ∧ mt (tC T L k) ≤ 45) := tok_in (lo := 40) (hi := 45) vv (by decide) (by decide)
  rw [k_171]
  refine w_gI I s_301 ?_
  rw [q.tok]
  refine w_eI m_142 ?_
  by_cases y : 8 ≤ tC T L k ∧ tC T L k ≤ 13
  · rw [if_pos y, decide_eq_true (ti.mpr (rg.2.1.mpr y))]
    refine w_ift (by decide) ?_
    refine w_next (d := d) hv I q M (by omega) fun h1 I1 q1 M1 _ => ?_
    exact Wp.reti ⟨M1, fun _ => ⟨rfl, by rw [List.append_nil]; exact q1.wk (by omega)⟩, fun z => absurd rfl z⟩
  · rw [if_neg y, decide_eq_false (fun z => y (rg.2.1.mp (ti.mp z)))]
    refine w_iff (by decide) ?_
    exact w_bad (w := 1) (d := d + 7) I q M (by decide) rfl
/-- mine -/
theorem m_172a {k n : Nat} {S : LSt} (hv : X.2.2 = .null ∨ X.2.2 = .ref 61) (I : Inv h) (q : MLb T L h0 h k n S) (hn : n = S.1.length) (hl : n < 20) : Wp (K X (d + 39) 172 [.ref 301, .int 0] h) (VI fun v h' => SimN T L h0 n (pMin (tC T L) (tV T L) L k S) v h') := by
  rw [k_172]
  refine w_gI I s_301 ?_
  refine w_gL I s_301 l_301_10 ?_
  rw [q.2.1.1, i120]
  refine w_wIn I s_312 (by omega) (by decide) fun I1 => ?_
  have q1 := q.w (a := 312) (v := 0) hn (by decide)
  refine w_gL I1 s_301 l_301_11 ?_
  refine w_gI I1 s_301 ?_
  refine w_wIn I1 s_313 (by omega) (by decide) fun I2 => ?_
  have q2 := q1.w (a := 313) (v := hI (sI h 312 (120 + n) 0) 301 37 - 40) hn (by decide)
  refine w_ift (by decide) ?_
  rw [b_172_42]
  refine w_gL I2 s_301 l_301_12 ?_
  refine w_gI I2 s_301 ?_
  rw [q2.1.2.2.2.1]
  refine w_wIn I2 s_314 (by omega) (by decide) fun I3 => ?_
  have q3 := q2.w (a := 314) (v := Int32.ofNat (stOf (rulesOf S.1)).length) hn (by decide)
  refine w_ift (by decide) ?_
  rw [b_172_66]
  refine w_gL I3 s_301 l_301_13 ?_
  refine w_gI I3 s_301 ?_
  rw [q3.1.2.2.2.1]
  refine w_wIn I3 s_315 (by omega) (by decide) fun I4 => ?_
  have q4 := q3.w (a := 315) (v := Int32.ofNat (stOf (rulesOf S.1)).length) hn (by decide)
  refine w_gL I4 s_301 l_301_14 ?_
  refine w_gI I4 s_301 ?_
  rw [q4.1.2.2.2.1]
  refine w_wIn I4 s_316 (by omega) (by decide) fun I5 => ?_
  have q5 := q4.w (a := 316) (v := Int32.ofNat (stOf (rulesOf S.1)).length) hn (by decide)
  refine w_iff (by decide) ?_
  rw [b_172_95]
  refine w_ift (by decide) ?_
  rw [b_172_115]
  refine w_ift (by decide) ?_
  have a2 : hI (sI (sI (sI (sI (sI h 312 (120 + n) 0) 313 (120 + n) (hI (sI h 312 (120 + n) 0) 301 37 - 40)) 314 (120 + n) (Int32.ofNat (stOf (rulesOf S.1)).length)) 315 (120 + n) (Int32.ofNat (stOf (rulesOf S.1)).length)) 316 (120 + n) (Int32.ofNat (stOf (rulesOf S.1)).length)) 312 (120 + n) = 0 := by
    rw [sI_other (by decide), sI_other (by decide), sI_other (by decide), sI_other (by decide), hI_sI_self, up1, if_pos rfl]
  have a4 : hI (sI (sI (sI (sI (sI h 312 (120 + n) 0) 313 (120 + n) (hI (sI h 312 (120 + n) 0) 301 37 - 40)) 314 (120 + n) (Int32.ofNat (stOf (rulesOf S.1)).length)) 315 (120 + n) (Int32.ofNat (stOf (rulesOf S.1)).length)) 316 (120 + n) (Int32.ofNat (stOf (rulesOf S.1)).length)) 314 (120 + n) = Int32.ofNat (stOf (rulesOf S.1)).length := by
    rw [sI_other (by decide), sI_other (by decide), hI_sI_self, up1, if_pos rfl]
  have a5 : hI (sI (sI (sI (sI (sI h 312 (120 + n) 0) 313 (120 + n) (hI (sI h 312 (120 + n) 0) 301 37 - 40)) 314 (120 + n) (Int32.ofNat (stOf (rulesOf S.1)).length)) 315 (120 + n) (Int32.ofNat (stOf (rulesOf S.1)).length)) 316 (120 + n) (Int32.ofNat (stOf (rulesOf S.1)).length)) 315 (120 + n) = Int32.ofNat (stOf (rulesOf S.1)).length := by
    rw [sI_other (by decide), hI_sI_self, up1, if_pos rfl]
  generalize (sI (sI (sI (sI (sI h 312 (120 + n) 0) 313 (120 + n) (hI (sI h 312 (120 + n) 0) 301 37 - 40)) 314 (120 + n) (Int32.ofNat (stOf (rulesOf S.1)).length)) 315 (120 + n) (Int32.ofNat (stOf (rulesOf S.1)).length)) 316 (120 + n) (Int32.ofNat (stOf (rulesOf S.1)).length)) = g at *
  refine w_gS I5 s_301 ?_
  refine w_bI I5 (m_any (d := d) hv k 0 (stOf (rulesOf S.1)) g g I5 q5.1 MFr.rf) (by decide) rfl fun x h6 I6 s => ?_
  obtain ⟨s1, s2, s3⟩ := s
  unfold pMin
  by_cases z : (pAny (tC T L) (tV T L) L k).1 = 0
  · obtain ⟨rfl, p6⟩ := s2 z
    rw [bL_ok z]
    refine w_ift (by decide) ?_
    have R6 := q5.2.1.mf s1
    have F6 := q5.2.2.1.mf s1
    refine w_gL I6 s_301 l_301_14 ?_
    refine w_gI I6 s_301 ?_
    rw [p6.2.2.2.1]
    refine w_wIn I6 s_316 (by omega) (by decide) fun I7 => ?_
    generalize (pAny (tC T L) (tV T L) L k).2.2 = o1 at *
    have e317 : ∀ a, 312 ≤ a → a ≤ 315 → hI (sI h6 316 (120 + n) (Int32.ofNat (stOf (rulesOf S.1) ++ o1).length)) a = hI g a := fun a ha hb => by rw [sI_other (by omega), s1.1.i (by omega)]
    refine Wp.reti ⟨F6.w (by decide) (by unfold lowM; omega), fun _ => ⟨rfl, ?_, ?_, F6.w (by decide) (by unfold lowM; omega), ?_⟩, fun y => absurd rfl y⟩
    · show MP T L _ _ (stOf (rulesOf (S.1 ++ [some (6, [], o1)]))) 0 0
      rw [rules_sn, stOf_sn]
      exact p6.w (by decide) (by decide) (by decide)
    · refine (R6.w (a := 316) (v := Int32.ofNat (stOf (rulesOf S.1) ++ o1).length) hn (by decide)).sn ?_
      rw [← hn]
      refine ⟨?_, fun y => absurd rfl y, fun _ => rfl, ?_, ?_, ?_⟩
      · rw [e317 312 (by decide) (by decide), a2]; rfl
      · rw [e317 314 (by decide) (by decide), a4]
      · rw [e317 315 (by decide) (by decide), a5]; rfl
      · rw [hI_sI_self, up1, if_pos rfl, List.length_append]; rfl
    · rw [sI_other (by decide), s1.2.1 45 (by omega)]; exact q5.2.2.2
  · obtain ⟨rfl, t1, t2⟩ := s3 z
    exact w_iff (by decide) (Wp.reti (simN_no z (q5.2.2.1.mf s1) t1 t2))
/-- take, from where the guard may begin -/
theorem c172_115 {k n kd : Nat} {S : LSt} {o1 : List Op} {v1 : Option Value} {x3 : Int32} (hv : X.2.2 = .null ∨ X.2.2 = .ref 61) (I : Inv h) (p : MP T L h k (stOf (rulesOf S.1) ++ o1) 0 0) (R : MRow h n S) (F : FrM h0 h) (hf : hI h 301 45 = 0) (hn : n = S.1.length) (hl : n < 20) (hk : kd < 6) (a2 : hI h 312 (120 + n) = 1) (a3 : hI h 313 (120 + n) = Int32.ofNat kd) (a4 : hI h 314 (120 + n) = Int32.ofNat (stOf (rulesOf S.1)).length) (a5 : hI h 315 (120 + n) = Int32.ofNat ((stOf (rulesOf S.1)).length + o1.length)) (a6 : hI h 316 (120 + n) = Int32.ofNat ((stOf (rulesOf S.1)).length + o1.length)) :
    Wp (sem (X, K X (d + 38)) 172 115 [some (.ref 301), v1, some (.int (Int32.ofNat (120 + n))), some (.int x3)] [] h) (VI fun v h' => SimN T L h0 n (if x3 = 0 then (0, k, (S.1 ++ [some (kd, o1, [])], S.2)) else bL (pAny (tC T L) (tV T L) L k) S fun k2 o2 => (0, k2, (S.1 ++ [some (kd, o1, o2)], S.2))) v h') := by
  rw [b_172_115]
  by_cases z0 : x3 = 0
  · rw [if_pos z0]
    refine w_iff (fun y => y z0) (Wp.reti ⟨F, fun _ => ⟨rfl, ?_, R.sn ?_, F, hf⟩, fun y => absurd rfl y⟩)
    · show MP T L _ _ (stOf (rulesOf (S.1 ++ [some (kd, o1, [])]))) 0 0
      rw [rules_sn, stOf_sn]; show MP T L h k (stOf (rulesOf S.1) ++ (o1 ++ [])) 0 0; rw [List.append_nil]; exact p
    · rw [← hn]
      exact ⟨by rw [a2, if_neg (show ¬ kd = 6 by omega)], fun _ => a3, fun y => absurd (show kd = 6 from y) (by omega), a4, a5, a6⟩
  · rw [if_neg z0]
    refine w_ift z0 ?_
    refine w_gS I s_301 ?_
    refine w_bI I (m_any (d := d) hv k 0 _ h h I p MFr.rf) (by decide) rfl fun x h6 I6 s => ?_
    obtain ⟨s1, s2, s3⟩ := s
    by_cases z : (pAny (tC T L) (tV T L) L k).1 = 0
    · obtain ⟨rfl, p6⟩ := s2 z
      rw [bL_ok z]
      refine w_ift (by decide) ?_
      have R6 := R.mf s1
      have F6 := F.mf s1
      refine w_gL I6 s_301 l_301_14 ?_
      refine w_gI I6 s_301 ?_
      rw [p6.2.2.2.1]
      refine w_wIn I6 s_316 (by omega) (by decide) fun I7 => ?_
      generalize (pAny (tC T L) (tV T L) L k).2.2 = o2 at *
      have e317 : ∀ a, 312 ≤ a → a ≤ 315 → hI (sI h6 316 (120 + n) (Int32.ofNat (stOf (rulesOf S.1) ++ o1 ++ o2).length)) a = hI h a := fun a ha hb => by rw [sI_other (by omega), s1.1.i (by omega)]
      refine Wp.reti ⟨F6.w (by decide) (by unfold lowM; omega), fun _ => ⟨rfl, ?_, ?_, F6.w (by decide) (by unfold lowM; omega), ?_⟩, fun y => absurd rfl y⟩
      · show MP T L _ _ (stOf (rulesOf (S.1 ++ [some (kd, o1, o2)]))) 0 0
        rw [rules_sn, stOf_sn]
        have := p6.w (a := 316) (j := 120 + n) (v := Int32.ofNat (stOf (rulesOf S.1) ++ o1 ++ o2).length) (by decide) (by decide) (by decide)
        rw [List.append_assoc] at this
        exact this
      · refine (R6.w (a := 316) (v := Int32.ofNat (stOf (rulesOf S.1) ++ o1 ++ o2).length) hn (by decide)).sn ?_
        rw [← hn]
        refine ⟨?_, fun y => ?_, fun y => absurd (show kd = 6 from y) (by omega), ?_, ?_, ?_⟩
        · rw [e317 312 (by decide) (by decide), a2, if_neg (show ¬ kd = 6 by omega)]
        · rw [e317 313 (by decide) (by decide), a3]
        · rw [e317 314 (by decide) (by decide), a4]
        · rw [e317 315 (by decide) (by decide), a5]
        · rw [hI_sI_self, up1, if_pos rfl, List.length_append, List.length_append]
      · rw [sI_other (by decide), s1.2.1 45 (by omega)]; exact hf
    · obtain ⟨rfl, t1, t2⟩ := s3 z
      exact w_iff (by decide) (Wp.reti (simN_no z (F.mf s1) t1 t2))
theorem m_172b {k n : Nat} {S : LSt} (hv : X.2.2 = .null ∨ X.2.2 = .ref 61) (I : Inv h) (q : MLb T L h0 h k n S) (hn : n = S.1.length) (hl : n < 20) : Wp (K X (d + 39) 172 [.ref 301, .int 1] h) (VI fun v h' => SimN T L h0 n (pTk (tC T L) (tV T L) L k S) v h') := by
  rw [k_172]
  refine w_gI I s_301 ?_
  refine w_gL I s_301 l_301_10 ?_
  rw [q.2.1.1, i120]
  refine w_wIn I s_312 (by omega) (by decide) fun I1 => ?_
  have q1 := q.w (a := 312) (v := 1) hn (by decide)
  refine w_gL I1 s_301 l_301_11 ?_
  refine w_gI I1 s_301 ?_
  rw [q1.1.tok]
  refine w_wIn I1 s_313 (by omega) (by decide) fun I2 => ?_
  have q2 := q1.w (a := 313) (v := Int32.ofNat (mt (tC T L k)) - 40) hn (by decide)
  refine w_iff (by decide) ?_
  have b2 : hI (sI (sI h 312 (120 + n) 1) 313 (120 + n) (Int32.ofNat (mt (tC T L k)) - 40)) 312 (120 + n) = 1 := by rw [sI_other (by decide), hI_sI_self, up1, if_pos rfl]
  have b3 : hI (sI (sI h 312 (120 + n) 1) 313 (120 + n) (Int32.ofNat (mt (tC T L k)) - 40)) 313 (120 + n) = Int32.ofNat (mt (tC T L k)) - 40 := by rw [hI_sI_self, up1, if_pos rfl]
  generalize sI (sI h 312 (120 + n) 1) 313 (120 + n) (Int32.ofNat (mt (tC T L k)) - 40) = g2 at *
  refine w_gS I2 s_301 ?_
  refine w_bI I2 (m_171 (d := d + 29) hv I2 q2.1 MFr.rf) (by decide) rfl fun x h3 I3 s => ?_
  obtain ⟨s1, s2, s3⟩ := s
  unfold pTk
  by_cases y : 8 ≤ tC T L k ∧ tC T L k ≤ 13
  · rw [if_pos y] at s2 s3 ⊢
    obtain ⟨rfl, p3⟩ := s2 rfl
    rw [List.append_nil] at p3
    have q3 := q2.mf (dd := 0) s1 p3
    refine w_ift (by decide) ?_
    have c2 : hI h3 312 (120 + n) = 1 := by rw [s1.1.i (by decide)]; exact b2
    have c3 : hI h3 313 (120 + n) = Int32.ofNat (tC T L k - 8) := by rw [s1.1.i (by decide), b3, tk_k y]
    rw [b_172_42]
    refine w_gL I3 s_301 l_301_12 ?_
    refine w_gI I3 s_301 ?_
    rw [q3.1.2.2.2.1]
    refine w_wIn I3 s_314 (by omega) (by decide) fun I4 => ?_
    have q4 := q3.w (a := 314) (v := Int32.ofNat (stOf (rulesOf S.1)).length) hn (by decide)
    refine w_iff (by decide) ?_
    refine w_gS I4 s_301 ?_
    refine w_bI I4 (m_165 (d := d + 27) (h0 := sI h3 314 (120 + n) (Int32.ofNat (stOf (rulesOf S.1)).length)) hv I4 q4.1 MFr.rf) (by decide) rfl fun x h5 I5 t => ?_
    obtain ⟨t1, t2, t3⟩ := t
    by_cases z : (pSum (tC T L) (tV T L) L (k + 1)).1 = 0
    · obtain ⟨rfl, p5⟩ := t2 z
      rw [bL_ok z]
      generalize (pSum (tC T L) (tV T L) L (k + 1)).2.1 = k1 at *
      generalize (pSum (tC T L) (tV T L) L (k + 1)).2.2 = o1 at *
      refine w_ift (by decide) ?_
      have R5 := q4.2.1.mf t1
      have F5 := q4.2.2.1.mf t1
      have hf5 : hI h5 301 45 = 0 := by rw [t1.2.1 45 (by omega)]; exact q4.2.2.2
      have e5 : ∀ a, 312 ≤ a → a ≤ 316 → a ≠ 314 → hI h5 a = hI h3 a := fun a h1 h2 h3 => by rw [t1.1.i (by omega), sI_other (by omega)]
      have d4 : hI h5 314 (120 + n) = Int32.ofNat (stOf (rulesOf S.1)).length := by rw [t1.1.i (by decide), hI_sI_self, up1, if_pos rfl]
      rw [b_172_66]
      refine w_gL I5 s_301 l_301_13 ?_
      refine w_gI I5 s_301 ?_
      rw [p5.2.2.2.1]
      refine w_wIn I5 s_315 (by omega) (by decide) fun I6 => ?_
      refine w_gL I6 s_301 l_301_14 ?_
      refine w_gI I6 s_301 ?_
      rw [sI_other (show 301 ≠ 315 by decide), p5.2.2.2.1]
      refine w_wIn I6 s_316 (by omega) (by decide) fun I7 => ?_
      rw [List.length_append]
      rw [List.length_append] at I7
      have p7 := (p5.w (a := 315) (j := 120 + n) (v := Int32.ofNat ((stOf (rulesOf S.1)).length + o1.length)) (by decide) (by decide) (by decide)).w (a := 316) (j := 120 + n) (v := Int32.ofNat ((stOf (rulesOf S.1)).length + o1.length)) (by decide) (by decide) (by decide)
      have R7 := (R5.w (a := 315) (v := Int32.ofNat ((stOf (rulesOf S.1)).length + o1.length)) hn (by decide)).w (a := 316) (v := Int32.ofNat ((stOf (rulesOf S.1)).length + o1.length)) hn (by decide)
      have F7 := (F5.w (a := 315) (j := 120 + n) (v := Int32.ofNat ((stOf (rulesOf S.1)).length + o1.length)) (by decide) (by unfold lowM; omega)).w (a := 316) (j := 120 + n) (v := Int32.ofNat ((stOf (rulesOf S.1)).length + o1.length)) (by decide) (by unfold lowM; omega)
      have f2 : hI (sI (sI h5 315 (120 + n) (Int32.ofNat ((stOf (rulesOf S.1)).length + o1.length))) 316 (120 + n) (Int32.ofNat ((stOf (rulesOf S.1)).length + o1.length))) 312 (120 + n) = 1 := by rw [sI_other (by decide), sI_other (by decide), e5 312 (by decide) (by decide) (by decide)]; exact c2
      have f3 : hI (sI (sI h5 315 (120 + n) (Int32.ofNat ((stOf (rulesOf S.1)).length + o1.length))) 316 (120 + n) (Int32.ofNat ((stOf (rulesOf S.1)).length + o1.length))) 313 (120 + n) = Int32.ofNat (tC T L k - 8) := by rw [sI_other (by decide), sI_other (by decide), e5 313 (by decide) (by decide) (by decide)]; exact c3
      have f4 : hI (sI (sI h5 315 (120 + n) (Int32.ofNat ((stOf (rulesOf S.1)).length + o1.length))) 316 (120 + n) (Int32.ofNat ((stOf (rulesOf S.1)).length + o1.length))) 314 (120 + n) = Int32.ofNat (stOf (rulesOf S.1)).length := by rw [sI_other (by decide), sI_other (by decide)]; exact d4
      have f5 : hI (sI (sI h5 315 (120 + n) (Int32.ofNat ((stOf (rulesOf S.1)).length + o1.length))) 316 (120 + n) (Int32.ofNat ((stOf (rulesOf S.1)).length + o1.length))) 315 (120 + n) = Int32.ofNat ((stOf (rulesOf S.1)).length + o1.length) := by rw [sI_other (by decide), hI_sI_self, up1, if_pos rfl]
      have f6 : hI (sI (sI h5 315 (120 + n) (Int32.ofNat ((stOf (rulesOf S.1)).length + o1.length))) 316 (120 + n) (Int32.ofNat ((stOf (rulesOf S.1)).length + o1.length))) 316 (120 + n) = Int32.ofNat ((stOf (rulesOf S.1)).length + o1.length) := by rw [hI_sI_self, up1, if_pos rfl]
      have f45 : hI (sI (sI h5 315 (120 + n) (Int32.ofNat ((stOf (rulesOf S.1)).length + o1.length))) 316 (120 + n) (Int32.ofNat ((stOf (rulesOf S.1)).length + o1.length))) 301 45 = 0 := by rw [sI_other (by decide), sI_other (by decide)]; exact hf5
      generalize sI (sI h5 315 (120 + n) (Int32.ofNat ((stOf (rulesOf S.1)).length + o1.length))) 316 (120 + n) (Int32.ofNat ((stOf (rulesOf S.1)).length + o1.length)) = g7 at *
      refine w_ift (by decide) ?_
      rw [b_172_95]
      refine w_iff (by decide) ?_
      refine w_gI I7 s_301 ?_
      rw [p7.tok]
      have tt : Int32.ofNat (mt (tC T L k1)) = 3 ↔ tC T L k1 = 19 := tok_is tC_vld (vkw (c := 19) (by decide)) rfl
      refine w_if (fun c0 => ?_) (fun c0 => ?_)
      · have n19 : tC T L k1 ≠ 19 := fun z => c0 (tt.mpr z)
        rw [if_neg n19]
        have := c172_115 (d := d) (x3 := 0) (v1 := some (.int 1)) hv I7 p7 R7 F7 f45 hn hl (show tC T L k - 8 < 6 by omega) f2 f3 f4 f5 f6
        rw [if_pos rfl] at this
        exact this
      · have e19 : tC T L k1 = 19 := tt.mp (Classical.byContradiction c0)
        rw [if_pos e19]
        refine w_next (d := d + 30) (h0 := g7) hv I7 p7 MFr.rf (by omega) fun h8 I8 p8 M8 _ => ?_
        have i8 : ∀ a, 312 ≤ a → a ≤ 316 → hI h8 a = hI g7 a := fun a h1 h2 => M8.1.i (by omega)
        have := c172_115 (d := d) (x3 := 1) (v1 := some (.int 1)) hv I8 (p8.wk (by omega)) (R7.mf M8) (F7.mf M8) (by rw [M8.2.1 45 (by omega)]; exact f45) hn hl (show tC T L k - 8 < 6 by omega) (by rw [i8 312 (by decide) (by decide)]; exact f2) (by rw [i8 313 (by decide) (by decide)]; exact f3) (by rw [i8 314 (by decide) (by decide)]; exact f4) (by rw [i8 315 (by decide) (by decide)]; exact f5) (by rw [i8 316 (by decide) (by decide)]; exact f6)
        rw [if_neg (show ¬ (1 : Int32) = 0 by decide)] at this
        exact this
    · obtain ⟨rfl, u1, u2⟩ := t3 z
      exact w_iff (by decide) (Wp.reti (simN_no z (q4.2.2.1.mf t1) u1 u2))
  · rw [if_neg y] at s2 s3 ⊢
    obtain ⟨rfl, u1, u2⟩ := s3 (Nat.succ_ne_zero _)
    exact w_iff (by decide) (Wp.reti ⟨q2.2.2.1.mf s1, fun z => absurd z (Nat.succ_ne_zero _), fun _ => ⟨rfl, u1, u2⟩⟩)
end MU
