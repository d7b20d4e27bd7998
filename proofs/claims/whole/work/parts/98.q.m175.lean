/-! TEXT: the model's lines of a LAW, one after another -/
theorem eL_z {c : Nat → Nat} {r : LRes} (h : r.1 = 0) : eL c r = eL c (0, r.2.1, r.2.2) := by
  obtain ⟨a, b⟩ := r
  have h : a = 0 := h
  subst h; rfl
theorem eL_n {c : Nat → Nat} {r : LRes} (h : r.1 ≠ 0) : eL c r = r := if_neg h
section MZ
variable {X : Ctx} {d : Nat} {Q : Option Value → Hp → Prop} {T : Nat → Nat} {L : Nat} {h0 h : Hp}
theorem c175_162 {k n : Nat} {S : LSt} {x1 : Int32} {v2 : Option Value} (hv : X.2.2 = .null ∨ X.2.2 = .ref 61) (I : Inv h) (q : MLb T L h0 h k n S) (hn : S.1.length = n + 1) (hx : x1 ≠ 4) : Wp (sem (X, K X (d + 39)) 175 162 [some (.ref 301), some (.int x1), v2] [] h) (VI fun v h' => SimW T L h0 (eL (tC T L) (0, k, S)) v h') := by
  rw [b_175_162]
  refine w_ift hx ?_
  exact w_tail (d := d + 30) hv I q hn
theorem simN_W {n : Nat} {r : LRes} {v : Int32} (s : SimN T L h0 n r v h) (z : r.1 ≠ 0) : SimW T L h0 (eL (tC T L) r) v h := by
  rw [eL_n z]
  exact ⟨s.1, fun y => absurd y z, s.2.2⟩
theorem c175_73 {k x : Nat} {S : LSt} {v2 : Option Value} (hv : X.2.2 = .null ∨ X.2.2 = .ref 61) (I : Inv h) (q : MLw T L h0 h k S) (ok : okLS S) (hl : S.1.length < 20) (e : tC T L k = 14 + x) (hx : x ≤ 4) : Wp (sem (X, K X (d + 39)) 175 73 [some (.ref 301), some (.int (Int32.ofNat x)), v2] [] h) (VI fun v h' => SimW T L h0 (eL (tC T L) (pBd (tC T L) (tV T L) L k S)) v h') := by
  obtain ⟨⟨dd, p⟩, R, F, hf⟩ := q
  rw [b_175_73]
  refine w_fI I s_301 fun I1 => ?_
  have q1 : MLb T L h0 (sI h 301 43 0) k S.1.length S := by
    obtain ⟨r1, r2, r3, r4, r5, r6, r7, r8⟩ := R
    have o : ∀ a, a ≠ 301 → hI (sI h 301 43 0) a = hI h a := fun a ha => sI_other ha
    exact ⟨p.d0, ⟨by rw [hI_sI_self, up1, if_neg (by decide)]; exact r1, r2.eo fun a i h1 h2 _ => by rw [o a (by omega)], by rw [o 319 (by decide)]; exact r3, r4.e0 (o _ (by decide)) (o _ (by decide)), by rw [o 318 (by decide)]; exact r5, by rw [o 322 (by decide)]; exact r6, by rw [o 323 (by decide)]; exact r7, by rw [o 324 (by decide)]; exact r8⟩, F.s (by omega), by rw [hI_sI_self, up1, if_neg (by decide)]; exact hf⟩
  have ne := p.2.2.1.s (show tC T L k ≠ 101 by omega)
  refine w_nextB (d := d + 31) hv I1 q1 (by omega) fun h2 I2 q2 _ => ?_
  refine w_gL I2 s_301 l_301_10 ?_
  refine w_gI I2 s_301 ?_
  rw [q2.2.1.1, i120]
  refine w_wIn I2 s_312 (by omega) (by decide) fun I3 => ?_
  have q3 := q2.w (a := 312) (v := Int32.ofNat x) rfl (by decide)
  have s3 : hI (sI h2 312 (120 + S.1.length) (Int32.ofNat x)) 312 (120 + S.1.length) = Int32.ofNat x := by rw [hI_sI_self, up1, if_pos rfl]
  generalize sI h2 312 (120 + S.1.length) (Int32.ofNat x) = g at *
  refine w_gI I3 s_301 ?_
  have hx39 : tC T L (k + 1) = 100 → hI g 301 39 = Int32.ofNat (tV T L (k + 1)) := fun z => q3.1.num z
  have : x = 0 ∨ x = 1 ∨ x = 2 ∨ x = 3 ∨ x = 4 := by omega
  unfold pBd
  rcases this with rfl | rfl | rfl | rfl | rfl
  · rw [if_pos e]
    refine w_iff (by decide) ?_
    refine w_gS I3 s_301 ?_
    refine w_bI I3 (m_172a (d := d) hv I3 q3 rfl hl) (by decide) rfl fun x h4 I4 s => ?_
    by_cases z : (pMin (tC T L) (tV T L) L (k + 1) S).1 = 0
    · obtain ⟨rfl, q4⟩ := s.2.1 z
      refine w_ift (by decide) ?_
      rw [b_175_115]
      refine w_ift (by decide) ?_
      refine w_ift (by decide) ?_
      rw [eL_z z]
      exact c175_162 hv I4 q4 (gd_min (fun k => tV_le) ne ok hl z).2.2.2 (by decide)
    · obtain ⟨rfl, -⟩ := s.2.2 z
      exact w_iff (by decide) (Wp.reti (simN_W s z))
  · rw [if_neg (show ¬ tC T L k = 14 by omega), if_pos e]
    refine w_iff (by decide) ?_
    refine w_gS I3 s_301 ?_
    refine w_bI I3 (m_172b (d := d) hv I3 q3 rfl hl) (by decide) rfl fun x h4 I4 s => ?_
    by_cases z : (pTk (tC T L) (tV T L) L (k + 1) S).1 = 0
    · obtain ⟨rfl, q4⟩ := s.2.1 z
      refine w_ift (by decide) ?_
      rw [b_175_115]
      refine w_ift (by decide) ?_
      refine w_ift (by decide) ?_
      rw [eL_z z]
      exact c175_162 hv I4 q4 (gd_tk (fun k => tV_le) ne ok hl z).2.2.2 (by decide)
    · obtain ⟨rfl, -⟩ := s.2.2 z
      exact w_iff (by decide) (Wp.reti (simN_W s z))
  · rw [if_neg (show ¬ tC T L k = 14 by omega), if_neg (show ¬ tC T L k = 15 by omega), if_pos e]
    refine w_ift (by decide) ?_
    exact c175_2 hv I3 ⟨q3, s3⟩ rfl hl hx39
  · rw [if_neg (show ¬ tC T L k = 14 by omega), if_neg (show ¬ tC T L k = 15 by omega), if_neg (show ¬ tC T L k = 16 by omega), if_pos e]
    refine w_ift (by decide) ?_
    rw [b_175_115]
    refine w_ift (by decide) ?_
    refine w_iff (by decide) ?_
    refine w_gS I3 s_301 ?_
    refine w_bI I3 (m_173 (d := d) hv I3 ⟨q3, s3⟩ rfl ok hl) (by decide) rfl fun x h4 I4 s => ?_
    by_cases z : (pSt (tC T L) (tV T L) (k + 1) S).1 = 0
    · obtain ⟨rfl, q4⟩ := s.2.1 z
      refine w_ift (by decide) ?_
      rw [eL_z z]
      exact c175_162 hv I4 q4 (gd_st (fun k => tV_le) ne ok hl z).2.2.2 (by decide)
    · obtain ⟨rfl, -⟩ := s.2.2 z
      exact w_iff (by decide) (Wp.reti (simN_W s z))
  · rw [if_neg (show ¬ tC T L k = 14 by omega), if_neg (show ¬ tC T L k = 15 by omega), if_neg (show ¬ tC T L k = 16 by omega), if_neg (show ¬ tC T L k = 17 by omega)]
    refine w_ift (by decide) ?_
    exact c175_4 hv I3 ⟨q3, s3⟩ rfl hl
theorem m_175 {k : Nat} {S : LSt} (hv : X.2.2 = .null ∨ X.2.2 = .ref 61) (I : Inv h) (q : MLw T L h0 h k S) (ok : okLS S) : Wp (K X (d + 40) 175 [.ref 301] h) (VI fun v h' => SimW T L h0 (pLn (tC T L) (tV T L) L k S) v h') := by
  have vv : vld (tC T L k) := tC_vld
  have rg := mt_rng _ (vld_lt vv) vv
  have ti : (¬ Int32.ofNat (mt (tC T L k)) < 20 ∧ ¬ (24 : Int32) < Int32.ofNat (mt (tC T L k))) ↔ (20 ≤ mt (tC T L k) ∧ mt (tC T L k) ≤ 24) := tok_in (lo := 20) (hi := 24) vv (by decide) (by decide)
  obtain ⟨dd, p⟩ := q.1
  have l2 := ok.2.1
  rw [k_175]
  refine w_gI I s_301 ?_
  rw [p.tok]
  refine w_eI m_142 ?_
  by_cases y : 14 ≤ tC T L k ∧ tC T L k ≤ 18
  · rw [decide_eq_true (ti.mpr (rg.2.2.1.mpr y))]
    refine w_ift (by decide) ?_
    refine w_gI I s_301 ?_
    refine w_gI I s_301 ?_
    rw [p.tok, q.2.1.1]
    have em : mt (tC T L k) = 6 + tC T L k := by unfold mt; rw [if_neg (by omega), if_neg (by omega), if_pos (by omega)]
    have e20 : Int32.ofNat (mt (tC T L k)) - 20 = Int32.ofNat (tC T L k - 14) := by
      rw [em]
      have := i_sub (m := 6 + tC T L k) (n := 20) (by omega)
      rw [show 6 + tC T L k - 20 = tC T L k - 14 by omega] at this
      exact this
    rw [e20]
    obtain ⟨-, -, -, -, -, -, r7, r8⟩ := q.2.1
    have goal : pLn (tC T L) (tV T L) L k S = if 20 ≤ S.1.length then (3, k, S) else if (tC T L k = 16 ∧ S.2.2.1.isSome = true) ∨ (tC T L k = 18 ∧ S.2.2.2.isSome = true) then (3, k, S) else eL (tC T L) (pBd (tC T L) (tV T L) L k S) := by
      unfold pLn
      rw [if_neg (show ¬ (tC T L k < 14 ∨ 18 < tC T L k) by omega)]
    rw [goal]
    refine w_if (fun c0 => ?_) (fun c0 => ?_)
    · have := (i_eq (n := 20) (by omega) (by omega)).mp c0
      rw [if_pos (by omega)]
      exact w_badW (n := 0) (w := 3) (d := d + 38) I q (by decide) rfl
    · have n20 : S.1.length ≠ 20 := fun z => c0 (by rw [z]; rfl)
      rw [if_neg (show ¬ 20 ≤ S.1.length by omega)]
      have main : ¬ ((tC T L k = 16 ∧ S.2.2.1.isSome = true) ∨ (tC T L k = 18 ∧ S.2.2.2.isSome = true)) → Wp (sem (X, K X (d + 39)) 175 73 [some (.ref 301), some (.int (Int32.ofNat (tC T L k - 14))), none] [] h) (VI fun v h' => SimW T L h0 (if (tC T L k = 16 ∧ S.2.2.1.isSome = true) ∨ (tC T L k = 18 ∧ S.2.2.2.isSome = true) then (3, k, S) else eL (tC T L) (pBd (tC T L) (tV T L) L k S)) v h') := fun nn => by
        rw [if_neg nn]
        exact c175_73 hv I q ok (by omega) (by omega) (by omega)
      have c52 : ¬ (tC T L k = 16 ∧ S.2.2.1.isSome = true) → Wp (sem (X, K X (d + 39)) 175 52 [some (.ref 301), some (.int (Int32.ofNat (tC T L k - 14))), none] [] h) (VI fun v h' => SimW T L h0 (if (tC T L k = 16 ∧ S.2.2.1.isSome = true) ∨ (tC T L k = 18 ∧ S.2.2.2.isSome = true) then (3, k, S) else eL (tC T L) (pBd (tC T L) (tV T L) L k S)) v h') := fun nf => by
        rw [b_175_52]
        refine w_if (fun c1 => main fun z => z.elim nf fun w => c1 (by rw [w.1]; rfl)) (fun c1 => ?_)
        have e4 : tC T L k - 14 = 4 := (i_eq (n := 4) (by omega) (by omega)).mp (Classical.byContradiction c1)
        refine w_gL I s_301 l_301_22 ?_
        refine w_aZn (m := 6) I s_324 (by decide) (by decide) ?_
        rw [r8]
        refine w_if (fun c2 => main fun z => z.elim nf fun w => by have := bi_0.mp c2; rw [w.2] at this; cases this) (fun c2 => ?_)
        have eb : S.2.2.2.isSome = true := by
          cases hb : S.2.2.2.isSome
          · exact absurd (by rw [hb]; rfl) c2
          · rfl
        rw [if_pos (Or.inr ⟨by omega, eb⟩)]
        exact w_badW (n := 0) (w := 3) (d := d + 38) I q (by decide) rfl
      refine w_if (fun c1 => c52 fun z => c1 (by rw [z.1]; rfl)) (fun c1 => ?_)
      have e2 : tC T L k - 14 = 2 := (i_eq (n := 2) (by omega) (by omega)).mp (Classical.byContradiction c1)
      refine w_gL I s_301 l_301_21 ?_
      refine w_aZn (m := 6) I s_323 (by decide) (by decide) ?_
      rw [r7]
      refine w_if (fun c2 => ?_) (fun c2 => ?_)
      · have eb : S.2.2.1.isSome = true := by
          cases hb : S.2.2.1.isSome
          · exact absurd (by rw [hb]; rfl) c2
          · rfl
        rw [if_pos (Or.inl ⟨by omega, eb⟩)]
        exact w_badW (n := 0) (w := 3) (d := d + 38) I q (by decide) rfl
      · have eb : S.2.2.1.isSome = false := bi_0.mp (Classical.byContradiction c2)
        exact c52 fun z => by rw [eb] at z; cases z.2
  · rw [decide_eq_false (fun z => y (rg.2.2.1.mp (ti.mp z)))]
    refine w_iff (by decide) ?_
    unfold pLn
    rw [if_pos (show tC T L k < 14 ∨ 18 < tC T L k by omega)]
    exact w_badW (n := 0) (w := 1) (d := d + 38) I q (by decide) rfl
/-- how the reading ended -/
def EndW (T : Nat → Nat) (L : Nat) (h0 : Hp) (r : LRes) (x : Int32) (h : Hp) : Prop := FrM h0 h ∧ hI h 301 45 = 0 ∧ (r.1 = 0 → x ≠ 0 ∧ MLw T L h0 h r.2.1 r.2.2) ∧ (r.1 ≠ 0 → x = 0 ∧ hI h 301 40 = Int32.ofNat r.1 ∧ hI h 301 41 = Int32.ofNat (tP T L r.2.1))
theorem c182_74 {v1 v2 : Option Value} (hv : X.2.2 = .null ∨ X.2.2 = .ref 61) : ∀ (f k : Nat) (S : LSt) (h : Hp) (x3 : Int32), f + S.1.length = 21 → okLS S → Inv h → MLw T L h0 h k S → x3 ≠ 0 → hI h0 301 45 = 0 →
    (∀ x h', Inv h' → EndW T L h0 (pLw (tC T L) (tV T L) L f k S) x h' → Wp (sem (X, K X (d + 40)) 182 107 [some (.ref 301), v1, v2, some (.int x)] [] h') Q) →
    Wp (sem (X, K X (d + 40)) 182 74 [some (.ref 301), v1, v2, some (.int x3)] [] h) Q
  | 0, k, S, h, x3, hf, ok, I, q, hx, h45, kk => absurd ok.2.1 (by omega)
  | f + 1, k, S, h, x3, hf, ok, I, q, hx, h45, kk => by
    obtain ⟨dd, p⟩ := q.1
    have t101 : Int32.ofNat (mt (tC T L k)) = 0 ↔ tC T L k = 101 := tok_is tC_vld (Or.inr (Or.inr ⟨by decide, by decide⟩)) rfl
    rw [b_182_74]
    refine w_iff hx ?_
    refine w_gI I s_301 ?_
    rw [p.tok]
    unfold pLw at kk
    by_cases y : tC T L k = 101
    · rw [if_pos y] at kk
      refine w_ift (t101.mpr y) ?_
      exact kk x3 h I ⟨q.2.2.1, q.2.2.2, fun _ => ⟨hx, q⟩, fun z => absurd rfl z⟩
    · rw [if_neg y] at kk
      refine w_iff (fun z => y (t101.mp z)) ?_
      refine w_gI I s_301 ?_
      rw [q.2.2.2]
      refine w_ift rfl ?_
      refine w_gS I s_301 ?_
      refine w_bI I (m_175 (d := d) hv I q ok) (by decide) rfl fun x h1 I1 s => ?_
      obtain ⟨s1, s2, s3⟩ := s
      by_cases z : (pLn (tC T L) (tV T L) L k S).1 = 0
      · rw [if_pos z] at kk
        obtain ⟨rfl, q1⟩ := s2 z
        obtain ⟨g1, g2, g3, g4⟩ := gd_ln (fun k => tV_le) p.2.2.1 ok z
        exact c182_74 hv f _ _ h1 1 (by omega) g3 I1 q1 (by decide) h45 kk
      · rw [if_neg z] at kk
        obtain ⟨rfl, t1, t2⟩ := s3 z
        rw [b_182_74]
        refine w_ift rfl ?_
        exact kk 0 h1 I1 ⟨s1, by rw [s1.2.1 45 (by omega)]; exact h45, fun y => absurd y z, fun _ => ⟨rfl, t1, t2⟩⟩
end MZ
