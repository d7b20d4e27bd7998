/-! TEXT: the model reads a PACT, and keeps it -/
theorem mt_t0 : ∀ c, c < 103 → c ≤ 3 → mt c = 61 + c := by decide
section MR2
variable {X : Ctx} {d : Nat} {Q : Option Value → Hp → Prop} {T : Nat → Nat} {L : Nat} {h0 h : Hp}
theorem simP_n {n m : Nat} {r : QRes} {v : Int32} (s : SimP T L h0 n r v h) (z : r.1 ≠ 0) : SimP T L h0 m r v h := ⟨s.1, fun y => absurd y z, s.2.2⟩
theorem c177_142 {k n : Nat} {S : PSt} {x1 : Int32} (hv : X.2.2 = .null ∨ X.2.2 = .ref 61) (I : Inv h) (q : MLq T L h0 h k n S) (n6 : x1 ≠ 6) (n7 : x1 ≠ 7) (n4 : x1 ≠ 4) (n8 : x1 ≠ 8) : Wp (sem (X, K X (d + 10)) 177 142 [some (.ref 301), some (.int x1)] [] h) (VI fun v h' => SimP T L h0 (n + 1) (eQ (tC T L) (0, k, S)) v h') := by
  rw [b_177_142]
  refine w_iff n6 ?_
  refine w_ift n7 ?_
  rw [b_177_164]
  refine w_ift n4 ?_
  rw [b_177_193]
  refine w_ift n8 ?_
  exact w_tailQ (d := d + 1) hv I q
theorem c177_75 {k x : Nat} {S : PSt} (hv : X.2.2 = .null ∨ X.2.2 = .ref 61) (I : Inv h) (q : MLq T L h0 h k S.1 S) (ok : okPS S) (hl : S.1 < 20) (hx : (x = 4 ∧ tC T L k = 18) ∨ (x = 5 ∧ tC T L k = 25) ∨ (x = 6 ∧ tC T L k = 26) ∨ (x = 7 ∧ tC T L k = 27) ∨ (x = 8 ∧ tC T L k = 28)) : Wp (sem (X, K X (d + 10)) 177 75 [some (.ref 301), some (.int (Int32.ofNat x))] [] h) (VI fun v h' => SimP T L h0 (S.1 + 1) (eQ (tC T L) (pQb (tC T L) (tV T L) k S)) v h') := by
  have l1 := ok.1
  rw [b_177_75]
  refine w_nextQ (d := d + 2) hv I q (by omega) fun h1 I1 q1 => ?_
  obtain ⟨dd, p1⟩ := q1.1
  rcases hx with ⟨rfl, e⟩ | ⟨rfl, e⟩ | ⟨rfl, e⟩ | ⟨rfl, e⟩ | ⟨rfl, e⟩
  · have eb : pQb (tC T L) (tV T L) k S = if tC T L (k + 1) = 21 ∨ tC T L (k + 1) = 16 then (0, k + 2, (S.1 + 1, S.2.1, S.2.2.1, S.2.2.2.1, rlV (tC T L (k + 1)), S.2.2.2.2.2)) else (1, k + 1, S) := by
      unfold pQb
      rw [if_neg (show ¬ tC T L k = 25 by omega), if_neg (show ¬ tC T L k = 26 by omega), if_neg (show ¬ tC T L k = 27 by omega), if_pos e]
    rw [eb]
    refine w_ift (by decide) ?_
    rw [b_177_142]
    refine w_iff (by decide) ?_
    refine w_ift (by decide) ?_
    rw [b_177_164]
    refine w_iff (by decide) ?_
    refine w_gL I1 s_301 l_301_28 ?_
    refine w_gS I1 s_301 ?_
    refine w_bI I1 (m_174 (d := d + 1) (b := true) hv I1 p1 q1.2.2.2) (by decide) rfl fun x h2 I2 s => ?_
    obtain ⟨s1, s2⟩ := s
    rcases s2 with ⟨y, rfl, p2⟩ | ⟨y, rfl, t1, t2⟩
    · have y' : tC T L (k + 1) = 21 ∨ tC T L (k + 1) = 16 := y.resolve_left fun z => Bool.noConfusion z.2
      rw [if_pos y']
      have rl := rlV_le (tC T L (k + 1))
      have rl1 : rlV (tC T L (k + 1)) ≠ 0 := by
        unfold rlV
        rcases y' with z | z <;> rw [z] <;> decide
      refine w_wIn (m := 36) I2 s_330 (by decide) (by decide) fun I3 => ?_
      refine w_gL I3 s_301 l_301_28 ?_
      refine w_aIn (m := 36) I3 s_330 (by decide) (by decide) ?_
      rw [hI_sI_self, up1, if_pos rfl]
      refine w_ift (i_nm1 (by omega)) ?_
      rw [b_177_193]
      refine w_ift (by decide) ?_
      obtain ⟨⟨d2, p2⟩, ⟨r1, r2, r3, r4, r5, r6, r7⟩, F2, f2⟩ := q1.mf s1 p2
      have o : ∀ a, a ≠ 330 → hI (sI h2 330 36 (Int32.ofNat (rlV (tC T L (k + 1))))) a = hI h2 a := fun a ha => sI_other ha
      exact w_tailQ (d := d + 1) (S := (S.1 + 1, S.2.1, S.2.2.1, S.2.2.2.1, rlV (tC T L (k + 1)), S.2.2.2.2.2)) hv I3 ⟨⟨d2, p2.w (by decide) (by decide) (by decide)⟩, ⟨by rw [o 301 (by decide)]; exact r1, by rw [o 326 (by decide)]; exact r2, r3.eo (o _ (by decide)), by rw [o 328 (by decide)]; exact r4, by rw [o 329 (by decide)]; exact r5, by rw [hI_sI_self, up1, if_pos rfl, if_neg (show ¬ rlV (tC T L (k + 1)) = 0 from rl1)], by rw [o 331 (by decide)]; exact r7⟩, F2.w (by decide) (by unfold lowP; omega), by rw [o 301 (by decide)]; exact f2⟩
    · rw [if_neg (show ¬ (tC T L (k + 1) = 21 ∨ tC T L (k + 1) = 16) from fun z => y (Or.inr z))]
      refine w_wIn (m := 36) I2 s_330 (by decide) (by decide) fun I3 => ?_
      refine w_gL I3 s_301 l_301_28 ?_
      refine w_aIn (m := 36) I3 s_330 (by decide) (by decide) ?_
      rw [hI_sI_self, up1, if_pos rfl]
      refine w_iff (by decide) ?_
      exact Wp.reti ⟨(q1.2.2.1.mf s1).w (by decide) (by unfold lowP; omega), fun z => absurd z (Nat.succ_ne_zero _), fun _ => ⟨rfl, by rw [sI_other (by decide)]; exact t1, by rw [sI_other (by decide)]; exact t2⟩⟩
  · have eb : pQb (tC T L) (tV T L) k S = if tC T L (k + 1) ≤ 3 then (0, k + 2, (S.1 + 1, S.2.1 ++ [tC T L (k + 1)], S.2.2)) else (1, k + 1, S) := by
      unfold pQb
      rw [if_pos e]
    rw [eb]
    have vv : vld (tC T L (k + 1)) := tC_vld
    have rg := (mt_rng _ (vld_lt vv) vv).2.2.2.2
    have ti : (¬ Int32.ofNat (mt (tC T L (k + 1))) < 61 ∧ ¬ (64 : Int32) < Int32.ofNat (mt (tC T L (k + 1)))) ↔ (61 ≤ mt (tC T L (k + 1)) ∧ mt (tC T L (k + 1)) ≤ 64) := tok_in (lo := 61) (hi := 64) vv (by decide) (by decide)
    refine w_iff (by decide) ?_
    refine w_gI I1 s_301 ?_
    rw [p1.tok]
    refine w_eI m_142 ?_
    by_cases y : tC T L (k + 1) ≤ 3
    · rw [if_pos y, decide_eq_true (ti.mpr (rg.mpr y))]
      refine w_ift (by decide) ?_
      refine w_gL I1 s_301 l_301_25 ?_
      refine w_gL I1 s_301 l_301_24 ?_
      refine w_aIn (m := 36) I1 s_326 (by decide) (by decide) ?_
      refine w_gI I1 s_301 ?_
      have x720 : (720 : Int32) + Int32.ofNat S.2.1.length = Int32.ofNat (720 + S.2.1.length) := i_add 720 _
      have x60 : Int32.ofNat (mt (tC T L (k + 1))) - 60 = Int32.ofNat (tC T L (k + 1) + 1) := by
        rw [mt_t0 _ (vld_lt vv) y]
        have := i_sub (m := 61 + tC T L (k + 1)) (n := 60) (by omega)
        rw [show 61 + tC T L (k + 1) - 60 = tC T L (k + 1) + 1 by omega] at this
        exact this
      rw [q1.2.1.2.1, p1.tok, x720, x60]
      refine w_wIn I1 s_327 (by omega) (by decide) fun I2 => ?_
      refine w_gL I2 s_301 l_301_24 ?_
      refine w_aIn (m := 36) I2 s_326 (by decide) (by decide) ?_
      rw [sI_other (show 326 ≠ 327 by decide), q1.2.1.2.1, i32_ofNat_succ]
      refine w_wIn (m := 36) I2 s_326 (by decide) (by decide) fun I3 => ?_
      have q3 : MLq T L h0 (sI (sI h1 327 (720 + S.2.1.length) (Int32.ofNat (tC T L (k + 1) + 1))) 326 36 (Int32.ofNat (S.2.1.length + 1))) (k + 1) S.1 (S.1 + 1, S.2.1 ++ [tC T L (k + 1)], S.2.2) := by
        obtain ⟨-, ⟨r1, r2, r3, r4, r5, r6, r7⟩, F2, f2⟩ := q1
        have o : ∀ a, a ≠ 327 → a ≠ 326 → hI (sI (sI h1 327 (720 + S.2.1.length) (Int32.ofNat (tC T L (k + 1) + 1))) 326 36 (Int32.ofNat (S.2.1.length + 1))) a = hI h1 a := fun a ha hb => by rw [sI_other hb, sI_other ha]
        have o7 : hI (sI (sI h1 327 (720 + S.2.1.length) (Int32.ofNat (tC T L (k + 1) + 1))) 326 36 (Int32.ofNat (S.2.1.length + 1))) 327 = up1 (hI h1 327) (720 + S.2.1.length) (Int32.ofNat (tC T L (k + 1) + 1)) := by rw [sI_other (by decide), hI_sI_self]
        refine ⟨⟨dd, (p1.w (by decide) (by decide) (by decide)).w (by decide) (by decide) (by decide)⟩, ⟨by rw [o 301 (by decide) (by decide)]; exact r1, ?_, ?_, by rw [o 328 (by decide) (by decide)]; exact r4, by rw [o 329 (by decide) (by decide)]; exact r5, by rw [o 330 (by decide) (by decide)]; exact r6, by rw [o 331 (by decide) (by decide)]; exact r7⟩, (F2.w (by decide) (by unfold lowP; omega)).w (by decide) (by unfold lowP; omega), by rw [o 301 (by decide) (by decide)]; exact f2⟩
        · rw [hI_sI_self, up1, if_pos rfl]
          show _ = Int32.ofNat (S.2.1 ++ [tC T L (k + 1)]).length
          rw [List.length_append]; rfl
        · show mTst _ 36 0 (S.2.1 ++ [tC T L (k + 1)])
          refine r3.sn (fun i hi => ?_) ?_
          · rw [o7, up1, if_neg (by omega)]
          · rw [o7, up1, if_pos (by omega)]
      refine w_nextQ (d := d + 2) hv I3 q3 (by omega) fun h4 I4 q4 => ?_
      exact c177_142 hv I4 q4 (by decide) (by decide) (by decide) (by decide)
    · rw [if_neg y, decide_eq_false (fun z => y (rg.mp (ti.mp z)))]
      refine w_iff (by decide) ?_
      refine (w_badP (w := 1) (d := d + 9) (S' := S) I1 q1 (by decide) rfl).mono fun v h' hh => ?_
      obtain ⟨x, rfl, s⟩ := hh
      exact ⟨x, rfl, simP_n s (Nat.succ_ne_zero _)⟩
  · have eb : pQb (tC T L) (tV T L) k S = pOnl (tC T L) (k + 1) S := by
      unfold pQb pOnl
      rw [if_neg (show ¬ tC T L k = 25 by omega), if_pos e]
    rw [eb]
    refine w_ift (by decide) ?_
    rw [b_177_142]
    refine w_ift (by decide) ?_
    refine w_gS I1 s_301 ?_
    refine w_bI I1 (m_176o (d := d) hv I1 q1) (by decide) rfl fun x h2 I2 s => ?_
    by_cases z : (pOnl (tC T L) (k + 1) S).1 = 0
    · obtain ⟨rfl, q2⟩ := s.2.1 z
      rw [eQ_z z]
      refine w_ift (by decide) ?_
      rw [b_177_164]
      refine w_ift (by decide) ?_
      rw [b_177_193]
      refine w_ift (by decide) ?_
      exact w_tailQ (d := d + 1) hv I2 q2
    · obtain ⟨rfl, -⟩ := s.2.2 z
      rw [eQ_n z]
      exact w_iff (by decide) (Wp.reti (simP_n s z))
  · have eb : pQb (tC T L) (tV T L) k S = pTop (tC T L) (tV T L) (k + 1) S := by
      unfold pQb pTop
      rw [if_neg (show ¬ tC T L k = 25 by omega), if_neg (show ¬ tC T L k = 26 by omega), if_pos e]
    rw [eb]
    refine w_ift (by decide) ?_
    rw [b_177_142]
    refine w_iff (by decide) ?_
    refine w_iff (by decide) ?_
    refine w_gS I1 s_301 ?_
    refine w_bI I1 (m_176t (d := d) hv I1 q1 ok) (by decide) rfl fun x h2 I2 s => ?_
    by_cases z : (pTop (tC T L) (tV T L) (k + 1) S).1 = 0
    · obtain ⟨rfl, q2⟩ := s.2.1 z
      rw [eQ_z z]
      refine w_ift (by decide) ?_
      rw [b_177_164]
      refine w_ift (by decide) ?_
      rw [b_177_193]
      refine w_ift (by decide) ?_
      exact w_tailQ (d := d + 1) hv I2 q2
    · obtain ⟨rfl, -⟩ := s.2.2 z
      rw [eQ_n z]
      exact w_iff (by decide) (Wp.reti (simP_n s z))
  · have eb : pQb (tC T L) (tV T L) k S = (0, k + 1, (S.1 + 1, S.2.1, S.2.2.1, S.2.2.2.1, S.2.2.2.2.1, true)) := by
      unfold pQb
      rw [if_neg (show ¬ tC T L k = 25 by omega), if_neg (show ¬ tC T L k = 26 by omega), if_neg (show ¬ tC T L k = 27 by omega), if_neg (show ¬ tC T L k = 18 by omega)]
    rw [eb]
    refine w_ift (by decide) ?_
    rw [b_177_142]
    refine w_iff (by decide) ?_
    refine w_ift (by decide) ?_
    rw [b_177_164]
    refine w_ift (by decide) ?_
    rw [b_177_193]
    refine w_iff (by decide) ?_
    refine w_gL I1 s_301 l_301_29 ?_
    refine w_wZn (m := 36) I1 s_331 (by decide) (by decide) (by decide) fun I2 => ?_
    obtain ⟨-, ⟨r1, r2, r3, r4, r5, r6, r7⟩, F2, f2⟩ := q1
    have o : ∀ a, a ≠ 331 → hI (sI h1 331 36 1) a = hI h1 a := fun a ha => sI_other ha
    exact w_tailQ (d := d + 1) (S := (S.1 + 1, S.2.1, S.2.2.1, S.2.2.2.1, S.2.2.2.2.1, true)) hv I2 ⟨⟨dd, p1.w (by decide) (by decide) (by decide)⟩, ⟨by rw [o 301 (by decide)]; exact r1, by rw [o 326 (by decide)]; exact r2, r3.eo (o _ (by decide)), by rw [o 328 (by decide)]; exact r4, by rw [o 329 (by decide)]; exact r5, by rw [o 330 (by decide)]; exact r6, by rw [hI_sI_self, up1, if_pos rfl]; rfl⟩, F2.w (by decide) (by unfold lowP; omega), by rw [o 301 (by decide)]; exact f2⟩
theorem m_177 {k : Nat} {S : PSt} (hv : X.2.2 = .null ∨ X.2.2 = .ref 61) (I : Inv h) (q : MLq T L h0 h k S.1 S) (ok : okPS S) : Wp (K X (d + 11) 177 [.ref 301] h) (VI fun v h' => SimP T L h0 (S.1 + 1) (eQ (tC T L) (pQ0 (tC T L) (tV T L) k S)) v h') := by
  have vv : vld (tC T L k) := tC_vld
  have rg := (mt_rng _ (vld_lt vv) vv).2.2.2.1
  have ti : (¬ Int32.ofNat (mt (tC T L k)) < 24 ∧ ¬ (28 : Int32) < Int32.ofNat (mt (tC T L k))) ↔ (24 ≤ mt (tC T L k) ∧ mt (tC T L k) ≤ 28) := tok_in (lo := 24) (hi := 28) vv (by decide) (by decide)
  obtain ⟨dd, p⟩ := q.1
  have l2 := ok.2.1
  have bad : ∀ {w : Nat}, w ≠ 0 → Wp (gd (hS h 301 = (12, 0)) (bI (K X (d + 10) 160 [.ref 301, .int (Int32.ofNat w)] h) fun r2 h2 => gd (okN .boolean r2) (some (some (.int r2), h2)))) (VI fun v h' => SimP T L h0 (S.1 + 1) (w, k, S) v h') := fun {w} hw => by
    refine (w_badP (w := w) (d := d + 9) (S' := S) I q hw rfl).mono fun v h' hh => ?_
    obtain ⟨x, rfl, s⟩ := hh
    exact ⟨x, rfl, simP_n s hw⟩
  rw [k_177]
  refine w_gI I s_301 ?_
  rw [p.tok]
  refine w_eI m_142 ?_
  unfold pQ0
  by_cases y : tC T L k = 18 ∨ (25 ≤ tC T L k ∧ tC T L k ≤ 28)
  · rw [if_pos y, decide_eq_true (ti.mpr (rg.mpr y))]
    refine w_ift (by decide) ?_
    refine w_gI I s_301 ?_
    refine w_gI I s_301 ?_
    rw [p.tok, q.2.1.1]
    obtain ⟨-, -, -, -, -, r6, r7⟩ := q.2.1
    have : ∃ x, ((x = 4 ∧ tC T L k = 18) ∨ (x = 5 ∧ tC T L k = 25) ∨ (x = 6 ∧ tC T L k = 26) ∨ (x = 7 ∧ tC T L k = 27) ∨ (x = 8 ∧ tC T L k = 28)) ∧ Int32.ofNat (mt (tC T L k)) - 20 = Int32.ofNat x := by
      have : tC T L k = 18 ∨ tC T L k = 25 ∨ tC T L k = 26 ∨ tC T L k = 27 ∨ tC T L k = 28 := by omega
      rcases this with e | e | e | e | e
      · exact ⟨4, Or.inl ⟨rfl, e⟩, by rw [e]; decide⟩
      · exact ⟨5, Or.inr (Or.inl ⟨rfl, e⟩), by rw [e]; decide⟩
      · exact ⟨6, Or.inr (Or.inr (Or.inl ⟨rfl, e⟩)), by rw [e]; decide⟩
      · exact ⟨7, Or.inr (Or.inr (Or.inr (Or.inl ⟨rfl, e⟩))), by rw [e]; decide⟩
      · exact ⟨8, Or.inr (Or.inr (Or.inr (Or.inr ⟨rfl, e⟩))), by rw [e]; decide⟩
    obtain ⟨x, hx, ex⟩ := this
    rw [ex]
    refine w_if (fun c0 => ?_) (fun c0 => ?_)
    · have := (i_eq (n := 20) (by omega) (by omega)).mp c0
      rw [if_pos (by omega)]
      exact bad (w := 3) (by decide)
    · have n20 : S.1 ≠ 20 := fun z => c0 (by rw [z]; rfl)
      rw [if_neg (show ¬ 20 ≤ S.1 by omega)]
      have main : ¬ ((tC T L k = 18 ∧ S.2.2.2.2.1 ≠ 0) ∨ (tC T L k = 28 ∧ S.2.2.2.2.2 = true)) → Wp (sem (X, K X (d + 10)) 177 75 [some (.ref 301), some (.int (Int32.ofNat x))] [] h) (VI fun v h' => SimP T L h0 (S.1 + 1) (eQ (tC T L) (if (tC T L k = 18 ∧ S.2.2.2.2.1 ≠ 0) ∨ (tC T L k = 28 ∧ S.2.2.2.2.2 = true) then (3, k, S) else pQb (tC T L) (tV T L) k S)) v h') := fun nn => by
        rw [if_neg nn]
        exact c177_75 hv I q ok (by omega) hx
      have c53 : ¬ (tC T L k = 18 ∧ S.2.2.2.2.1 ≠ 0) → Wp (sem (X, K X (d + 10)) 177 53 [some (.ref 301), some (.int (Int32.ofNat x))] [] h) (VI fun v h' => SimP T L h0 (S.1 + 1) (eQ (tC T L) (if (tC T L k = 18 ∧ S.2.2.2.2.1 ≠ 0) ∨ (tC T L k = 28 ∧ S.2.2.2.2.2 = true) then (3, k, S) else pQb (tC T L) (tV T L) k S)) v h') := fun nr => by
        rw [b_177_53]
        refine w_if (fun c1 => main fun z => z.elim nr fun w => c1 (by rcases hx with u | u | u | u | u <;> first | (exfalso; omega) | (rw [u.1]; rfl))) (fun c1 => ?_)
        have e8 : x = 8 := (i_eq (n := 8) (by omega) (by omega)).mp (Classical.byContradiction c1)
        have e28 : tC T L k = 28 := by omega
        refine w_gL I s_301 l_301_29 ?_
        refine w_aZn (m := 36) I s_331 (by decide) (by decide) ?_
        rw [r7]
        refine w_if (fun c2 => main fun z => z.elim nr fun w => by have := bi_0.mp c2; rw [w.2] at this; cases this) (fun c2 => ?_)
        have eb : S.2.2.2.2.2 = true := by
          cases hb : S.2.2.2.2.2
          · exact absurd (by rw [hb]; rfl) c2
          · rfl
        rw [if_pos (Or.inr ⟨e28, eb⟩)]
        exact bad (w := 3) (by decide)
      refine w_if (fun c1 => c53 fun z => c1 (by rcases hx with u | u | u | u | u <;> first | (exfalso; omega) | (rw [u.1]; rfl))) (fun c1 => ?_)
      have e4 : x = 4 := (i_eq (n := 4) (by omega) (by omega)).mp (Classical.byContradiction c1)
      have e18 : tC T L k = 18 := by omega
      have rl := ok.2.2.2.2
      refine w_gL I s_301 l_301_28 ?_
      refine w_aIn (m := 36) I s_330 (by decide) (by decide) ?_
      rw [r6]
      by_cases z : S.2.2.2.2.1 = 0
      · rw [if_pos z]
        refine w_iff (by decide) ?_
        exact c53 fun w => w.2 z
      · rw [if_neg z]
        refine w_ift (i_nm1 (by omega)) ?_
        rw [if_pos (Or.inl ⟨e18, z⟩)]
        exact bad (w := 3) (by decide)
  · rw [if_neg y, decide_eq_false (fun z => y (rg.mp (ti.mp z)))]
    refine w_iff (by decide) ?_
    exact bad (w := 1) (by decide)
def EndP (T : Nat → Nat) (L : Nat) (h0 : Hp) (r : QRes) (x : Int32) (h : Hp) : Prop := FrP h0 h ∧ hI h 301 45 = 1 ∧ (r.1 = 0 → x ≠ 0 ∧ MLq T L h0 h r.2.1 r.2.2.1 r.2.2) ∧ (r.1 ≠ 0 → x = 0 ∧ hI h 301 40 = Int32.ofNat r.1 ∧ hI h 301 41 = Int32.ofNat (tP T L r.2.1))
theorem c182_74p {v1 v2 : Option Value} (hv : X.2.2 = .null ∨ X.2.2 = .ref 61) : ∀ (f k : Nat) (S : PSt) (h : Hp) (x3 : Int32), f + S.1 = 21 → okPS S → Inv h → MLq T L h0 h k S.1 S → x3 ≠ 0 → hI h0 301 45 = 1 →
    (∀ x h', Inv h' → EndP T L h0 (pQw (tC T L) (tV T L) f k S) x h' → Wp (sem (X, K X (d + 11)) 182 107 [some (.ref 301), v1, v2, some (.int x)] [] h') Q) →
    Wp (sem (X, K X (d + 11)) 182 74 [some (.ref 301), v1, v2, some (.int x3)] [] h) Q
  | 0, k, S, h, x3, hf, ok, I, q, hx, h45, kk => absurd ok.2.1 (by omega)
  | f + 1, k, S, h, x3, hf, ok, I, q, hx, h45, kk => by
    obtain ⟨dd, p⟩ := q.1
    have t101 : Int32.ofNat (mt (tC T L k)) = 0 ↔ tC T L k = 101 := tok_is tC_vld (Or.inr (Or.inr ⟨by decide, by decide⟩)) rfl
    rw [b_182_74]
    refine w_iff hx ?_
    refine w_gI I s_301 ?_
    rw [p.tok]
    unfold pQw at kk
    by_cases y : tC T L k = 101
    · rw [if_pos y] at kk
      refine w_ift (t101.mpr y) ?_
      exact kk x3 h I ⟨q.2.2.1, q.2.2.2, fun _ => ⟨hx, q⟩, fun z => absurd rfl z⟩
    · rw [if_neg y] at kk
      refine w_iff (fun z => y (t101.mp z)) ?_
      refine w_gI I s_301 ?_
      rw [q.2.2.2]
      refine w_iff (by decide) ?_
      refine w_gS I s_301 ?_
      refine w_bI I (m_177 (d := d) hv I q ok) (by decide) rfl fun x h1 I1 s => ?_
      obtain ⟨s1, s2, s3⟩ := s
      by_cases z : (eQ (tC T L) (pQ0 (tC T L) (tV T L) k S)).1 = 0
      · rw [if_pos z] at kk
        obtain ⟨rfl, q1⟩ := s2 z
        obtain ⟨g1, g2, g3⟩ := gd_q ok z
        rw [← g3] at q1
        exact c182_74p hv f _ _ h1 1 (by omega) g2 I1 q1 (by decide) h45 kk
      · rw [if_neg z] at kk
        obtain ⟨rfl, t1, t2⟩ := s3 z
        rw [b_182_74]
        refine w_ift rfl ?_
        exact kk 0 h1 I1 ⟨s1, by rw [s1.2.1 45 (by omega)]; exact h45, fun y => absurd y z, fun _ => ⟨rfl, t1, t2⟩⟩
end MR2
