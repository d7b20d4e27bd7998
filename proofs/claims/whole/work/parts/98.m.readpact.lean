/-! TEXT: the class reads a PACT whole -/
def RPw (T : Nat → Nat) (L n Pt : Nat) (h0 : Hp) (r : QRes) (v : Int32) (h : Hp) : Prop := Eo (WPt Pt) h0 h ∧ (r.1 = 0 → v = Int32.ofNat r.2.2.1 ∧ CPt T L n Pt h0 h r.2.1 r.2.2) ∧ (r.1 ≠ 0 → v = -1 ∧ hI h 82 11 = Int32.ofNat r.1 ∧ hI h 82 12 = Int32.ofNat (tP T L r.2.1))
def WRp (Pt a : Nat) : Prop := a = 82 ∨ (84 ≤ a ∧ a ≤ 86) ∨ (Pt ≤ a ∧ a ≤ Pt + 2)
def RPact (T : Nat → Nat) (L Pt : Nat) (h0 : Hp) (r : QRes) (v : Int32) (h : Hp) : Prop := Eo (WRp Pt) h0 h ∧ (r.1 = 0 → v = Int32.ofNat r.2.2.1 ∧ cPact h Pt (pactOf r.2.2) ∧ hI h 82 11 = 0 ∧ hI h 82 12 = -1) ∧ (r.1 ≠ 0 → v = -1 ∧ hI h 82 11 = Int32.ofNat r.1 ∧ hI h 82 12 = Int32.ofNat (tP T L r.2.1))
def Q00 : PSt := (0, [], fun _ => false, fun _ => none, 0, false)
section CV
variable {X : Ctx} {d : Nat} {Q : Option Value → Hp → Prop} {T : Nat → Nat} {L n Pt : Nat} {h0 h : Hp}
theorem c48_t {k : Nat} {S : PSt} {v1 : Option Value} (I : Inv h) (q : CPt T L n Pt h0 h k S) (ok : okPS S) (hl : S.1 < 20) (y : tC T L k = 18 ∨ (25 ≤ tC T L k ∧ tC T L k ≤ 28)) :
    Wp (gI h 5 82 8 fun g1 => fI h 5 82 8 (g1 + 1) fun h1 => sem (X, K X (d + 5)) 48 (tsw 18 [155, 160, 160, 160, 160, 160, 160, 140, 145, 150] 160 (Int32.ofNat (tC T L k))) [some (.ref 82), v1, some (.int (Int32.ofNat (tC T L k)))] [] h1) (VI fun v h' => SimQ T L n Pt h0 (pQb (tC T L) (tV T L) k S) v h') := by
  refine w_atQ I q (by omega) fun h1 I1 q1 => ?_
  have : tC T L k = 25 ∨ tC T L k = 26 ∨ tC T L k = 27 ∨ tC T L k = 18 ∨ tC T L k = 28 := by omega
  unfold pQb
  rcases this with e | e | e | e | e
  · have t : tsw 18 [155, 160, 160, 160, 160, 160, 160, 140, 145, 150] 160 (Int32.ofNat (tC T L k)) = 140 := by rw [e]; decide
    rw [t, b_48_140, if_pos e]
    exact w_gS I1 s_82 (w_bI I1 (m_49 (d := d + 3) I1 q1 ok hl) (by decide) rfl fun x h2 I2 s => w_gd s.val (Wp.reti s))
  · have t : tsw 18 [155, 160, 160, 160, 160, 160, 160, 140, 145, 150] 160 (Int32.ofNat (tC T L k)) = 145 := by rw [e]; decide
    rw [t, b_48_145, if_neg (by omega), if_pos e]
    exact w_gS I1 s_82 (w_bI I1 (m_50 (d := d + 1) I1 q1) (by decide) rfl fun x h2 I2 s => w_gd s.val (Wp.reti s))
  · have t : tsw 18 [155, 160, 160, 160, 160, 160, 160, 140, 145, 150] 160 (Int32.ofNat (tC T L k)) = 150 := by rw [e]; decide
    rw [t, b_48_150, if_neg (by omega), if_neg (by omega), if_pos e]
    exact w_gS I1 s_82 (w_bI I1 (m_51 (d := d + 1) I1 q1) (by decide) rfl fun x h2 I2 s => w_gd s.val (Wp.reti s))
  · have t : tsw 18 [155, 160, 160, 160, 160, 160, 160, 140, 145, 150] 160 (Int32.ofNat (tC T L k)) = 155 := by rw [e]; decide
    rw [t, b_48_155, if_neg (by omega), if_neg (by omega), if_neg (by omega), if_pos e]
    exact w_gS I1 s_82 (w_bI I1 (m_52 (d := d + 3) I1 q1) (by decide) rfl fun x h2 I2 s => w_gd s.val (Wp.reti s))
  · have t : tsw 18 [155, 160, 160, 160, 160, 160, 160, 140, 145, 150] 160 (Int32.ofNat (tC T L k)) = 160 := by rw [e]; decide
    rw [t, b_48_160, if_neg (by omega), if_neg (by omega), if_neg (by omega), if_neg (by omega)]
    have hPt := q1.2.1.2
    have rg := hPt.rg
    obtain ⟨c1, c2, c3, c4, c5, c6⟩ := q1.2.2.1
    refine w_gR I1 s_82 q1.2.1.1 ?_
    refine w_fZ I1 hPt.s (by decide) fun I2 => ?_
    have gP : ∀ v j, j ≠ 6 → hI (sI h1 Pt 6 v) Pt j = hI h1 Pt j := fun v j hj => by rw [hI_sI_self, up1, if_neg hj]
    have q2 : CPt T L n Pt h0 (sI h1 Pt 6 1) (k + 1) (S.1 + 1, S.2.1, S.2.2.1, S.2.2.2.1, S.2.2.2.2.1, true) := q1.put (Eo.rf.kI ⟨by omega, by omega⟩) ⟨by rw [gP _ 2 (by decide)]; exact c1, cTests.eo (sI_other (by omega)) c2, by rw [gP _ 3 (by decide)]; exact c3, fun j hj => by rw [sI_other (by omega)]; exact c4 j hj, by rw [gP _ 5 (by decide)]; exact c5, by rw [hI_sI_self, up1, if_pos rfl]; rfl⟩ (fun j hj => by rw [gP _ 4 (by decide)]; exact q1.2.2.2.1 j hj)
    exact Wp.reti q2.sim
theorem c48_51 {k : Nat} {S : PSt} {v1 : Option Value} (I : Inv h) (q : CPt T L n Pt h0 h k S) (ok : okPS S) (hl : S.1 < 20) (y : tC T L k = 18 ∨ (25 ≤ tC T L k ∧ tC T L k ≤ 28)) (nr : ¬ (tC T L k = 18 ∧ S.2.2.2.2.1 ≠ 0)) :
    Wp (sem (X, K X (d + 5)) 48 51 [some (.ref 82), v1, some (.int (Int32.ofNat (tC T L k)))] [] h) (VI fun v h' => SimQ T L n Pt h0 (if (tC T L k = 18 ∧ S.2.2.2.2.1 ≠ 0) ∨ (tC T L k = 28 ∧ S.2.2.2.2.2 = true) then (3, k, S) else pQb (tC T L) (tV T L) k S) v h') := by
  have vk := vI (T := T) (L := L) k
  have hPt := q.2.1.2
  have c6 := q.2.2.1.2.2.2.2.2
  rw [b_48_51]
  refine w_if (fun c0 => ?_) (fun c0 => ?_)
  · rw [if_neg (show ¬ ((tC T L k = 18 ∧ S.2.2.2.2.1 ≠ 0) ∨ (tC T L k = 28 ∧ S.2.2.2.2.2 = true)) from fun z => z.elim nr fun w => c0 (by rw [w.1]; rfl))]
    exact c48_t I q ok hl y
  · have e28 : tC T L k = 28 := (c_is (m := 28) vk (by decide)).mp (Classical.byContradiction c0)
    refine w_gR I s_82 q.2.1.1 ?_
    refine w_gI I hPt.s ?_
    rw [c6]
    refine w_if (fun c1 => ?_) (fun c1 => ?_)
    · have e : S.2.2.2.2.2 = false := bi_0.mp c1
      rw [if_neg (show ¬ ((tC T L k = 18 ∧ S.2.2.2.2.1 ≠ 0) ∨ (tC T L k = 28 ∧ S.2.2.2.2.2 = true)) from fun z => z.elim nr fun w => by rw [e] at w; cases w.2)]
      exact c48_t I q ok hl y
    · have e : S.2.2.2.2.2 = true := by
        cases hb : S.2.2.2.2.2
        · exact absurd (show bi S.2.2.2.2.2 = 0 by rw [hb]; rfl) c1
        · rfl
      rw [if_pos (Or.inr ⟨e28, e⟩)]
      exact w_badQ (w := 3) (d := d + 4) I q (by decide) rfl
theorem m_48 {k i : Nat} {S : PSt} (I : Inv h) (q : CPt T L n Pt h0 h k S) (ok : okPS S) (hi : i = S.1) : Wp (K X (d + 6) 48 [.ref 82, .int (Int32.ofNat i)] h) (VI fun v h' => SimQ T L n Pt h0 (pQ0 (tC T L) (tV T L) k S) v h') := by
  subst hi
  have vk := vI (T := T) (L := L) k
  have l2 := ok.2.1
  have hPt := q.2.1.2
  have c5 : hI h Pt 5 = Int32.ofNat S.2.2.2.2.1 := q.2.2.1.2.2.2.2.1
  have body : (tC T L k = 18 ∨ (25 ≤ tC T L k ∧ tC T L k ≤ 28)) → ∀ v2 : Int32, v2 = Int32.ofNat (tC T L k) → Wp (sem (X, K X (d + 5)) 48 29 [some (.ref 82), some (.int (Int32.ofNat S.1)), some (.int v2)] [] h) (VI fun v h' => SimQ T L n Pt h0 (pQ0 (tC T L) (tV T L) k S) v h') := by
    rintro y v2 rfl
    unfold pQ0
    rw [if_pos y, b_48_29]
    refine w_if (fun c2 => ?_) (fun c2 => ?_)
    · rw [if_pos ((i_le (m := 20) (by omega) (by omega)).mp c2)]
      exact w_badQ (w := 3) (d := d + 4) I q (by decide) rfl
    · have y3 : ¬ 20 ≤ S.1 := fun z => c2 ((i_le (m := 20) (by omega) (by omega)).mpr z)
      rw [if_neg y3]
      refine w_if (fun c3 => ?_) (fun c3 => ?_)
      · exact c48_51 I q ok (by omega) y (fun z => c3 (by rw [z.1]; rfl))
      · have e18 : tC T L k = 18 := (c_is (m := 18) vk (by decide)).mp (Classical.byContradiction c3)
        refine w_gR I s_82 q.2.1.1 ?_
        refine w_gI I hPt.s ?_
        rw [c5]
        have l5 := ok.2.2.2.2
        refine w_if (fun c4 => ?_) (fun c4 => ?_)
        · have e : S.2.2.2.2.1 ≠ 0 := fun z => c4 (by rw [z]; rfl)
          rw [if_pos (Or.inl ⟨e18, e⟩)]
          exact w_badQ (w := 3) (d := d + 4) I q (by decide) rfl
        · have e : S.2.2.2.2.1 = 0 := (i_eq (n := 0) (by omega) (by omega)).mp (Classical.byContradiction c4)
          exact c48_51 I q ok (by omega) y (fun z => z.2 e)
  have no : ¬ (tC T L k = 18 ∨ (25 ≤ tC T L k ∧ tC T L k ≤ 28)) → Wp (gd (hS h 82 = (6, 0)) (bI (K X (d + 5) 69 [.ref 82, .int 1] h) fun r2 h2 => gd (okN .boolean r2) (some (some (.int r2), h2)))) (VI fun v h' => SimQ T L n Pt h0 (pQ0 (tC T L) (tV T L) k S) v h') := fun y => by
    unfold pQ0
    rw [if_neg y]
    exact w_badQ (w := 1) (d := d + 4) I q (by decide) rfl
  rw [k_48]
  refine w_sign (d := d + 4) I q.1 ?_
  refine w_if (fun c0 => body (Or.inl ((c_is (m := 18) vk (by decide)).mp c0)) _ rfl) (fun c0 => ?_)
  have n18 : tC T L k ≠ 18 := fun z => c0 (by rw [z]; rfl)
  refine w_if (fun c1 => no (by have := (i_lt (n := 25) (by omega) (by omega)).mp c1; omega)) (fun c1 => ?_)
  have y1 : ¬ tC T L k < 25 := fun z => c1 ((i_lt (n := 25) (by omega) (by omega)).mpr z)
  refine w_if (fun c2 => body (by have := (i_le (n := 28) (by omega) (by omega)).mp c2; omega) _ rfl) (fun c2 => no ?_)
  have y2 : ¬ tC T L k ≤ 28 := fun z => c2 ((i_le (n := 28) (by omega) (by omega)).mpr z)
  omega
theorem m_67q {k : Nat} {S : PSt} (I : Inv h) (q : CPt T L n Pt h0 h k S) : Wp (K X (d + 2) 67 [.ref 82, .int 59] h) (VI fun v h' => SimQ T L n Pt h0 (if tC T L k = 59 then (0, k + 1, S) else (1, k, S)) v h') := by
  have vk := vI (T := T) (L := L) k
  rw [k_67]
  refine w_sign I q.1 ?_
  refine w_if (fun c0 => ?_) (fun c0 => ?_)
  · have e := (c_is (m := 59) vk (by decide)).mp c0
    rw [if_pos e]
    refine w_atQ I q (by omega) fun h1 I1 q1 => Wp.reti q1.sim
  · rw [if_neg fun z => c0 (by rw [z]; rfl)]
    exact w_badQ (w := 1) I q (by decide) rfl
theorem c40_21 {v1 v2 v3 : Option Value} : ∀ (f k : Nat) (S : PSt) (h : Hp), f + S.1 = 21 → okPS S → Inv h → CPt T L n Pt h0 h k S →
    Wp (sem (X, K X (d + 6)) 40 21 [some (.ref 82), v1, v2, v3, some (.int (Int32.ofNat S.1))] [] h) (VI fun v h' => RPw T L n Pt h0 (pQw (tC T L) (tV T L) f k S) v h')
  | 0, k, S, h, hf, ok, I, q => absurd ok.2.1 (by omega)
  | f + 1, k, S, h, hf, ok, I, q => by
    have vk := vI (T := T) (L := L) k
    have l2 := ok.2.1
    rw [b_40_21]
    refine w_iff (fun z => absurd ((i_lt (m := 20) (by omega) (by omega)).mp z) (by omega)) ?_
    refine w_sign (d := d + 5) I q.1 ?_
    unfold pQw
    refine w_if (fun c0 => ?_) (fun c0 => ?_)
    · have n101 : tC T L k ≠ 101 := fun z => c0 (by rw [z]; rfl)
      rw [if_neg n101]
      have g := gd_q (c := tC T L) (v := tV T L) (k := k) ok
      refine w_gS I s_82 ?_
      refine w_bI I (m_48 (d := d) I q ok rfl) (by decide) rfl fun x h1 I1 s => ?_
      obtain ⟨s1, s2, s3⟩ := s
      generalize pQ0 (tC T L) (tV T L) k S = r at *
      unfold eQ at g ⊢
      by_cases z : r.1 = 0
      · obtain ⟨rfl, q1⟩ := s2 z
        rw [if_pos z] at g ⊢
        refine w_iff (by decide) ?_
        refine w_gS I1 s_82 ?_
        refine w_bI I1 (m_67q (d := d + 4) I1 q1) (by decide) rfl fun x h2 I2 t => ?_
        obtain ⟨t1, t2, t3⟩ := t
        by_cases w : tC T L r.2.1 = 59
        · rw [if_pos w] at t2 t3 g ⊢
          obtain ⟨rfl, q2⟩ := t2 rfl
          obtain ⟨g1, g2, g3⟩ := g rfl
          rw [if_pos rfl]
          refine w_ift (by decide) ?_
          have g3 : r.2.2.1 = S.1 + 1 := g3
          have := c40_21 (v1 := v1) (v2 := v2) (v3 := v3) f (r.2.1 + 1) r.2.2 h2 (by omega) g2 I2 q2
          rw [g3] at this
          rw [i32_ofNat_succ]
          exact this
        · rw [if_neg w] at t2 t3 ⊢
          obtain ⟨rfl, u1, u2⟩ := t3 (Nat.succ_ne_zero _)
          rw [if_neg (Nat.succ_ne_zero _)]
          exact w_iff (by decide) (Wp.reti ⟨t1, fun y => absurd y (Nat.succ_ne_zero _), fun _ => ⟨rfl, u1, u2⟩⟩)
      · obtain ⟨rfl, u1, u2⟩ := s3 z
        rw [if_neg z, if_neg z]
        exact w_ift rfl (Wp.reti ⟨s1, fun y => absurd y z, fun _ => ⟨rfl, u1, u2⟩⟩)
    · have e101 : tC T L k = 101 := (c_is (m := 101) vk (by decide)).mp (Classical.byContradiction c0)
      rw [if_pos e101]
      exact Wp.reti ⟨q.2.2.2.2, fun _ => ⟨rfl, q⟩, fun z => absurd rfl z⟩
theorem c30_27 (hPt : IsPact Pt) {h0 : Hp} : ∀ (c k : Nat) (h : Hp), k + c = 6 → Inv h → Eo (fun a => a = Pt + 2) h0 h → (∀ j, j < k → hI h (Pt + 2) j = 100) → Wp (sem (X, K X d) 30 27 [some (.ref Pt), some (.int (Int32.ofNat k))] [] h) (VV fun h' => Eo (fun a => a = Pt + 2) h0 h' ∧ ∀ j, j < 6 → hI h' (Pt + 2) j = 100)
  | 0, k, h, hk, I, E, f => by
    rw [b_30_27]
    refine w_ift ((i_le (m := 6) (by omega) (by omega)).mpr (by omega)) ?_
    exact Wp.retv ⟨E, fun j hj => f j (by omega)⟩
  | c + 1, k, h, hk, I, E, f => by
    rw [b_30_27]
    refine w_iff (fun z => absurd ((i_le (m := 6) (by omega) (by omega)).mp z) (by omega)) ?_
    refine w_gL I hPt.s hPt.l1 ?_
    refine w_wIn I hPt.s2 (by omega) (by decide) fun I1 => ?_
    rw [i32_ofNat_succ]
    refine c30_27 hPt c (k + 1) _ (by omega) I1 (E.kI rfl) fun j hj => ?_
    rw [hI_sI_self, up1]
    by_cases z : j = k
    · rw [if_pos z]
    · rw [if_neg z]; exact f j (by omega)
theorem m_30 (hPt : IsPact Pt) (I : Inv h) : Wp (K X (d + 1) 30 [.ref Pt] h) (VV fun h' => Eo (fun a => a = Pt ∨ a = Pt + 2) h h' ∧ (∀ j, j < 6 → hI h' (Pt + 2) j = 100) ∧ ∀ j, (2 ≤ j ∧ j ≤ 6) → hI h' Pt j = 0) := by
  have rg := hPt.rg
  rw [k_30]
  refine w_fI I hPt.s fun I1 => ?_
  refine w_fI I1 hPt.s fun I2 => ?_
  refine w_fI I2 hPt.s fun I3 => ?_
  refine w_fI I3 hPt.s fun I4 => ?_
  refine w_fZ I4 hPt.s (by decide) fun I5 => ?_
  refine (c30_27 hPt 6 0 _ rfl I5 Eo.rf (fun j hj => absurd hj (Nat.not_lt_zero j))).mono fun v h' hh => ?_
  obtain ⟨rfl, E, f⟩ := hh
  refine ⟨rfl, ?_, f, fun j hj => ?_⟩
  · have E0 : Eo (fun a => a = Pt ∨ a = Pt + 2) h (sI (sI (sI (sI (sI h Pt 2 0) Pt 3 0) Pt 4 0) Pt 5 0) Pt 6 0) := ((((Eo.rf.kI (Or.inl rfl)).kI (Or.inl rfl)).kI (Or.inl rfl)).kI (Or.inl rfl)).kI (Or.inl rfl)
    exact E0.tr (E.wk fun a z => Or.inr z)
  · rw [E.i (show ¬ Pt = Pt + 2 by omega), hI_sI_self, up1]
    by_cases z6 : j = 6
    · rw [if_pos z6]
    · rw [if_neg z6, hI_sI_self, up1]
      by_cases z5 : j = 5
      · rw [if_pos z5]
      · rw [if_neg z5, hI_sI_self, up1]
        by_cases z4 : j = 4
        · rw [if_pos z4]
        · rw [if_neg z4, hI_sI_self, up1]
          by_cases z3 : j = 3
          · rw [if_pos z3]
          · rw [if_neg z3, hI_sI_self, up1, if_pos (by omega)]
/-- readPact -/
theorem c_40 (hPt : IsPact Pt) (I : Inv h) (tc : Tc T L h) (hk : ∀ k, k < 29 → hJ h 83 k = keyN k) (e8 : hI h 82 8 = 0) (e11 : hI h 82 11 = 0) (e12 : hI h 82 12 = -1) : Wp (K X (d + 7) 40 [.ref 82, .ref 81, .int (Int32.ofNat L), .ref Pt] h) (VI fun v h' => RPact T L Pt h (pQw (tC T L) (tV T L) 21 0 Q00) v h') := by
  have rg := hPt.rg
  have fr : frt 5 6 = 4 := by decide
  rw [k_40]
  refine w_fR I s_82 (by rw [hPt.s, fr]) (by decide) (by decide) (by decide) fun I1 => ?_
  refine w_gR I1 s_82 (v := Pt) (by rw [hP_sP_at, if_pos ⟨rfl, rfl⟩]) ?_
  refine w_gS I1 hPt.s ?_
  refine w_bV I1 (m_30 (d := d + 5) hPt I1) (by decide) rfl fun h2 I2 p => ?_
  obtain ⟨pE, pT, pZ⟩ := p
  have o2 : ∀ a, a ≠ Pt → a ≠ Pt + 2 → hI h2 a = hI h a := fun a ha hb => by
    have := pE.i (show ¬ (a = Pt ∨ a = Pt + 2) by omega)
    rw [this]; rfl
  have J2 : hJ h2 83 = hJ h 83 := by rw [pE.j (show ¬ (83 = Pt ∨ 83 = Pt + 2) by omega)]; rfl
  have P2 : hP h2 82 6 = some Pt := by rw [pE.p (show ¬ (82 = Pt ∨ 82 = Pt + 2) by omega), hP_sP_at, if_pos ⟨rfl, rfl⟩]
  have E2 : Eo (WRp Pt) h h2 := (Eo.rf.kP (Or.inl rfl)).tr (pE.wk fun a z => by unfold WRp; omega)
  refine w_gS I2 s_82 ?_
  refine w_bV I2 (m_70 (d := d + 3) (T := T) (L := L) I2 ⟨fun k hk => by rw [o2 81 (by omega) (by omega)]; exact tc.1 k hk, tc.2⟩ (fun k hk' => by rw [J2]; exact hk k hk')) (by decide) rfl fun h3 I3 p3 => ?_
  obtain ⟨n, p1, p2, p3, p4, p5, p6, p7⟩ := p3
  have f82 : ∀ j, j ≠ 7 → hI h3 82 j = hI h 82 j := fun j hj => by rw [p2 j hj, o2 82 (by omega) (by omega)]
  have fP : hI h3 Pt = hI h2 Pt := p1.i (by unfold WTk; omega)
  have fT : hI h3 (Pt + 2) = hI h2 (Pt + 2) := p1.i (by unfold WTk; omega)
  have q : CPt T L n Pt h3 h3 0 Q00 := by
    refine ⟨⟨p4, p5, p7, p6, fun j hj => absurd hj (Nat.not_lt_zero j), by rw [f82 8 (by decide)]; exact e8, by rw [f82 11 (by decide)]; exact e11, by rw [f82 12 (by decide)]; exact e12, tc.2.1⟩, ⟨by rw [p3]; exact P2, hPt⟩, ⟨by rw [fP, pZ 2 (by omega)]; rfl, trivial, fun j hj => by rw [fP, pZ 3 (by omega), bt_zero]; rfl, fun j hj => by rw [fT, pT j hj]; rfl, by rw [fP, pZ 5 (by omega)]; rfl, by rw [fP, pZ 6 (by omega)]; rfl⟩, fun j hj => by rw [fP, pZ 4 (by omega), bt_zero]; rfl, Eo.rf⟩
  have ok0 : okPS Q00 := ⟨Nat.le_refl _, Nat.zero_le _, fun r hr => absurd hr (List.not_mem_nil), fun k => Nat.le_refl 100, Nat.zero_le _⟩
  refine (c40_21 (d := d) 21 0 Q00 h3 rfl ok0 I3 q).mono fun v h' hh => ?_
  obtain ⟨x, rfl, r1, r2, r3⟩ := hh
  have E3 : Eo (WRp Pt) h h' := (E2.tr (p1.wk fun a z => by unfold WTk at z; unfold WRp; omega)).tr (r1.wk fun a z => by unfold WPt at z; unfold WRp; omega)
  refine ⟨x, rfl, E3, fun z => ?_, r3⟩
  obtain ⟨a1, a2, a3, a4, a5⟩ := r2 z
  exact ⟨a1, a4, a2.2.2.2.2.2.2.1, a2.2.2.2.2.2.2.2.1⟩
end CV
