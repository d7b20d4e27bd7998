/-! TEXT: the class reads a LAW whole -/
def RLw (T : Nat → Nat) (L n Lw : Nat) (h0 : Hp) (r : LRes) (v : Int32) (h : Hp) : Prop := Eo (WLw Lw) h0 h ∧ (r.1 = 0 → v = Int32.ofNat r.2.2.1.length ∧ CLw T L n Lw h0 h r.2.1 r.2.2) ∧ (r.1 ≠ 0 → v = -1 ∧ hI h 82 11 = Int32.ofNat r.1 ∧ hI h 82 12 = Int32.ofNat (tP T L r.2.1))
def WRd (Lw a : Nat) : Prop := a = 82 ∨ (84 ≤ a ∧ a ≤ 87) ∨ (Lw ≤ a ∧ a ≤ Lw + 7)
/-- what it is to have read a LAW of text T -/
def RLaw (T : Nat → Nat) (L Lw : Nat) (h0 : Hp) (r : LRes) (v : Int32) (h : Hp) : Prop := Eo (WRd Lw) h0 h ∧ (r.1 = 0 → v = Int32.ofNat r.2.2.1.length ∧ cLaw h Lw (lawOf r.2.2) ∧ hI h 82 11 = 0 ∧ hI h 82 12 = -1) ∧ (r.1 ≠ 0 → v = -1 ∧ hI h 82 11 = Int32.ofNat r.1 ∧ hI h 82 12 = Int32.ofNat (tP T L r.2.1))
def S00 : LSt := ([], [], none, none)
section CR
variable {X : Ctx} {d : Nat} {Q : Option Value → Hp → Prop} {T : Nat → Nat} {L n Lw : Nat} {h0 h : Hp}
theorem c41_42 {k : Nat} {S : LSt} {v1 : Option Value} (I : Inv h) (q : CLw T L n Lw h0 h k S) (ok : okLS S) (hl : S.1.length < 20) (y1 : 14 ≤ tC T L k) (y2 : tC T L k ≤ 18) (nf : ¬ (tC T L k = 16 ∧ S.2.2.1.isSome = true)) :
    Wp (sem (X, K X (d + 5)) 41 42 [some (.ref 82), v1, some (.int (Int32.ofNat (tC T L k)))] [] h) (VI fun v h' => SimL T L n Lw h0 (if (tC T L k = 16 ∧ S.2.2.1.isSome = true) ∨ (tC T L k = 18 ∧ S.2.2.2.isSome = true) then (3, k, S) else pBd (tC T L) (tV T L) L k S) v h') := by
  have vk := vI (T := T) (L := L) k
  have l1 := ok.1
  have r8 := q.2.2.2.1.2.2.2.2.2.2.2
  rw [b_41_42]
  have body : ¬ (tC T L k = 18 ∧ S.2.2.2.isSome = true) → ∀ v2 : Int32, v2 = Int32.ofNat (tC T L k) → Wp (gI h 5 82 8 fun g1 => fI h 5 82 8 (g1 + 1) fun h1 => sem (X, K X (d + 5)) 41 (tsw 14 [104, 109, 114, 119] 124 v2) [some (.ref 82), v1, some (.int v2)] [] h1) (VI fun v h' => SimL T L n Lw h0 (if (tC T L k = 16 ∧ S.2.2.1.isSome = true) ∨ (tC T L k = 18 ∧ S.2.2.2.isSome = true) then (3, k, S) else pBd (tC T L) (tV T L) L k S) v h') := by
    rintro nr v2 rfl
    rw [if_neg (fun z => z.elim nf nr)]
    refine w_atL I q (by omega) fun h1 I1 q1 => ?_
    have : tC T L k = 14 ∨ tC T L k = 15 ∨ tC T L k = 16 ∨ tC T L k = 17 ∨ tC T L k = 18 := by omega
    unfold pBd
    rcases this with e | e | e | e | e
    · have t : tsw 14 [104, 109, 114, 119] 124 (Int32.ofNat (tC T L k)) = 104 := by rw [e]; decide
      rw [t, b_41_104, if_pos e]
      refine w_gS I1 s_82 (w_bI I1 (m_42 (d := d) I1 q1 (by omega)) (by decide) rfl fun x h2 I2 s => w_gd s.val (Wp.reti s))
    · have t : tsw 14 [104, 109, 114, 119] 124 (Int32.ofNat (tC T L k)) = 109 := by rw [e]; decide
      rw [t, b_41_109, if_neg (by omega), if_pos e]
      refine w_gS I1 s_82 (w_bI I1 (m_43 (d := d) I1 q1 (by omega)) (by decide) rfl fun x h2 I2 s => w_gd s.val (Wp.reti s))
    · have t : tsw 14 [104, 109, 114, 119] 124 (Int32.ofNat (tC T L k)) = 114 := by rw [e]; decide
      rw [t, b_41_114, if_neg (by omega), if_neg (by omega), if_pos e]
      refine w_gS I1 s_82 (w_bI I1 (m_44 (d := d + 3) I1 q1) (by decide) rfl fun x h2 I2 s => w_gd s.val (Wp.reti s))
    · have t : tsw 14 [104, 109, 114, 119] 124 (Int32.ofNat (tC T L k)) = 119 := by rw [e]; decide
      rw [t, b_41_119, if_neg (by omega), if_neg (by omega), if_neg (by omega), if_pos e]
      refine w_gS I1 s_82 (w_bI I1 (m_45 (d := d + 2) I1 q1 (by omega) ok.2.2.2.1) (by decide) rfl fun x h2 I2 s => w_gd s.val (Wp.reti s))
    · have t : tsw 14 [104, 109, 114, 119] 124 (Int32.ofNat (tC T L k)) = 124 := by rw [e]; decide
      rw [t, b_41_124, if_neg (by omega), if_neg (by omega), if_neg (by omega), if_neg (by omega)]
      refine w_gS I1 s_82 (w_bI I1 (m_46 (d := d + 3) I1 q1) (by decide) rfl fun x h2 I2 s => w_gd s.val (Wp.reti s))
  refine w_if (fun c0 => ?_) (fun c0 => ?_)
  · exact body (fun z => c0 (by rw [z.1]; rfl)) _ rfl
  · have e18 : tC T L k = 18 := (c_is (m := 18) vk (by decide)).mp (Classical.byContradiction c0)
    refine w_gI I s_82 ?_
    rw [r8]
    refine w_if (fun c1 => ?_) (fun c1 => ?_)
    · refine body (fun z => ?_) _ rfl
      have := bi_0.mp c1
      rw [z.2] at this; cases this
    · have e : S.2.2.2.isSome = true := by
        cases hb : S.2.2.2.isSome
        · exact absurd (by rw [hb]; rfl) c1
        · rfl
      rw [if_pos (Or.inr ⟨e18, e⟩)]
      exact w_badL (w := 3) (d := d + 4) I q (by decide) rfl
theorem m_41 {k i : Nat} {S : LSt} (I : Inv h) (q : CLw T L n Lw h0 h k S) (ok : okLS S) (hi : i = S.1.length) : Wp (K X (d + 6) 41 [.ref 82, .int (Int32.ofNat i)] h) (VI fun v h' => SimL T L n Lw h0 (pL0 (tC T L) (tV T L) L k S) v h') := by
  subst hi
  have vk := vI (T := T) (L := L) k
  have l2 := ok.2.1
  have r7 := q.2.2.2.1.2.2.2.2.2.2.1
  rw [k_41]
  refine w_sign (d := d + 4) I q.1 ?_
  unfold pL0
  refine w_if (fun c0 => ?_) (fun c0 => ?_)
  · have := (i_lt (n := 14) (by omega) (by omega)).mp c0
    rw [if_pos (Or.inl this)]
    exact w_badL (w := 1) (d := d + 4) I q (by decide) rfl
  · have y1 : ¬ tC T L k < 14 := fun z => c0 ((i_lt (n := 14) (by omega) (by omega)).mpr z)
    refine w_if (fun c1 => ?_) (fun c1 => ?_)
    · have y2 := (i_le (n := 18) (by omega) (by omega)).mp c1
      rw [if_neg (show ¬ (tC T L k < 14 ∨ 18 < tC T L k) by omega)]
      refine w_if (fun c2 => ?_) (fun c2 => ?_)
      · have := (i_le (m := 20) (by omega) (by omega)).mp c2
        rw [if_pos this]
        exact w_badL (w := 3) (d := d + 4) I q (by decide) rfl
      · have y3 : ¬ 20 ≤ S.1.length := fun z => c2 ((i_le (m := 20) (by omega) (by omega)).mpr z)
        rw [if_neg y3]
        refine w_if (fun c3 => ?_) (fun c3 => ?_)
        · exact c41_42 I q ok (by omega) (by omega) y2 (fun z => c3 (by rw [z.1]; rfl))
        · have e16 : tC T L k = 16 := (c_is (m := 16) vk (by decide)).mp (Classical.byContradiction c3)
          refine w_gI I s_82 ?_
          rw [r7]
          refine w_if (fun c4 => ?_) (fun c4 => ?_)
          · have e : S.2.2.1.isSome = true := by
              cases hb : S.2.2.1.isSome
              · exact absurd (by rw [hb]; rfl) c4
              · rfl
            rw [if_pos (Or.inl ⟨e16, e⟩)]
            exact w_badL (w := 3) (d := d + 4) I q (by decide) rfl
          · have e : S.2.2.1.isSome = false := bi_0.mp (Classical.byContradiction c4)
            exact c41_42 I q ok (by omega) (by omega) y2 (fun z => by rw [e] at z; cases z.2)
    · have y2 : ¬ tC T L k ≤ 18 := fun z => c1 ((i_le (n := 18) (by omega) (by omega)).mpr z)
      rw [if_pos (show tC T L k < 14 ∨ 18 < tC T L k by omega)]
      exact w_badL (w := 1) (d := d + 4) I q (by decide) rfl
theorem m_67 {k : Nat} {S : LSt} (I : Inv h) (q : CLw T L n Lw h0 h k S) : Wp (K X (d + 2) 67 [.ref 82, .int 59] h) (VI fun v h' => SimL T L n Lw h0 (if tC T L k = 59 then (0, k + 1, S) else (1, k, S)) v h') := by
  have vk := vI (T := T) (L := L) k
  rw [k_67]
  refine w_sign I q.1 ?_
  refine w_if (fun c0 => ?_) (fun c0 => ?_)
  · have e := (c_is (m := 59) vk (by decide)).mp c0
    rw [if_pos e]
    refine w_atL I q (by omega) fun h1 I1 q1 => Wp.reti q1.sim
  · rw [if_neg fun z => c0 (by rw [z]; rfl)]
    exact w_badL (w := 1) I q (by decide) rfl
theorem c39_21 {v1 v2 v3 : Option Value} : ∀ (f k : Nat) (S : LSt) (h : Hp), f + S.1.length = 21 → okLS S → Inv h → CLw T L n Lw h0 h k S →
    Wp (sem (X, K X (d + 6)) 39 21 [some (.ref 82), v1, v2, v3, some (.int (Int32.ofNat S.1.length))] [] h) (VI fun v h' => RLw T L n Lw h0 (pLw (tC T L) (tV T L) L f k S) v h')
  | 0, k, S, h, hf, ok, I, q => absurd ok.2.1 (by omega)
  | f + 1, k, S, h, hf, ok, I, q => by
    have vk := vI (T := T) (L := L) k
    have l2 := ok.2.1
    rw [b_39_21]
    refine w_iff (fun z => absurd ((i_lt (m := 20) (by omega) (by omega)).mp z) (by omega)) ?_
    refine w_sign (d := d + 5) I q.1 ?_
    unfold pLw
    refine w_if (fun c0 => ?_) (fun c0 => ?_)
    · have n101 : tC T L k ≠ 101 := fun z => c0 (by rw [z]; rfl)
      rw [if_neg n101, pLn_e]
      have g := gd_ln (c := tC T L) (v := tV T L) (N := L) (fun k => tV_le) (k := k) q.1.2.2.2.2.1 ok
      rw [pLn_e] at g
      refine w_gS I s_82 ?_
      refine w_bI I (m_41 (d := d) I q ok rfl) (by decide) rfl fun x h1 I1 s => ?_
      obtain ⟨s1, s2, s3⟩ := s
      generalize pL0 (tC T L) (tV T L) L k S = r at *
      unfold eL at g ⊢
      by_cases z : r.1 = 0
      · obtain ⟨rfl, q1⟩ := s2 z
        rw [if_pos z] at g ⊢
        refine w_iff (by decide) ?_
        refine w_gS I1 s_82 ?_
        refine w_bI I1 (m_67 (d := d + 4) I1 q1) (by decide) rfl fun x h2 I2 t => ?_
        obtain ⟨t1, t2, t3⟩ := t
        by_cases w : tC T L r.2.1 = 59
        · rw [if_pos w] at t2 t3 g ⊢
          obtain ⟨rfl, q2⟩ := t2 rfl
          obtain ⟨g1, g2, g3, g4⟩ := g rfl
          rw [if_pos rfl]
          refine w_ift (by decide) ?_
          have g4 : r.2.2.1.length = S.1.length + 1 := g4
          have := c39_21 (v1 := v1) (v2 := v2) (v3 := v3) f (r.2.1 + 1) r.2.2 h2 (by omega) g3 I2 q2
          rw [g4] at this
          rw [i32_ofNat_succ]
          exact this
        · rw [if_neg w] at t2 t3 ⊢
          obtain ⟨rfl, u1, u2⟩ := t3 (Nat.succ_ne_zero _)
          rw [if_neg (Nat.succ_ne_zero _)]
          exact w_iff (by decide) (Wp.reti ⟨t1, fun y => absurd y (Nat.succ_ne_zero _), fun _ => ⟨rfl, u1, u2⟩⟩)
      · obtain ⟨rfl, u1, u2⟩ := s3 z
        rw [if_neg z, if_neg z]
        exact w_ift rfl (Wp.reti ⟨s1, fun y => absurd y z, fun _ => ⟨rfl, u1, u2⟩⟩)
    · have e101 : tC T L k = 101 := (c_is (m := 101) vk (by decide)).mp (Classical.byContradiction c0)
      rw [if_pos e101]
      exact Wp.reti ⟨q.2.2.2.2, fun _ => ⟨rfl, q⟩, fun z => absurd rfl z⟩
/-- clear -/
theorem m_2 (hL : IsLaw Lw) (I : Inv h) : Wp (K X (d + 1) 2 [.ref Lw] h) (VV fun h' => h' = sI (sI (sI (sI (sI h Lw 7 0) Lw 8 0) Lw 9 0) Lw 10 0) Lw 11 0) := by
  rw [k_2]
  refine w_fI I hL.s fun I1 => ?_
  refine w_fI I1 hL.s fun I2 => ?_
  refine w_fI I2 hL.s fun I3 => ?_
  refine w_fI I3 hL.s fun I4 => ?_
  refine w_fI I4 hL.s fun I5 => ?_
  exact Wp.retv rfl
/-- readLaw -/
theorem c_39 (hL : IsLaw Lw) (I : Inv h) (tc : Tc T L h) (hk : ∀ k, k < 29 → hJ h 83 k = keyN k) (e8 : hI h 82 8 = 0) (e11 : hI h 82 11 = 0) (e12 : hI h 82 12 = -1) (e13 : hI h 82 13 = 0) (e14 : hI h 82 14 = 0) : Wp (K X (d + 7) 39 [.ref 82, .ref 81, .int (Int32.ofNat L), .ref Lw] h) (VI fun v h' => RLaw T L Lw h (pLw (tC T L) (tV T L) L 21 0 S00) v h') := by
  have rg := hL.rg
  have fr : frt 5 5 = 2 := by decide
  rw [k_39]
  refine w_fR I s_82 (by rw [hL.s, fr]) (by decide) (by decide) (by decide) fun I1 => ?_
  refine w_gR I1 s_82 (v := Lw) (by rw [hP_sP_at, if_pos ⟨rfl, rfl⟩]) ?_
  refine w_gS I1 hL.s ?_
  refine w_bV I1 (m_2 (d := d + 5) hL I1) (by decide) rfl fun h2 I2 p => ?_
  have o2 : ∀ a, a ≠ Lw → hI h2 a = hI h a := fun a ha => by
    rw [p, sI_other ha, sI_other ha, sI_other ha, sI_other ha, sI_other ha]; rfl
  have J2 : hJ h2 83 = hJ h 83 := by rw [p]; rfl
  have P2 : hP h2 82 5 = some Lw := by rw [p]; show hP (sP h 82 5 (some Lw)) 82 5 = _; rw [hP_sP_at, if_pos ⟨rfl, rfl⟩]
  have E2 : Eo (WRd Lw) h h2 := by
    have w : WRd Lw Lw := Or.inr (Or.inr ⟨Nat.le_refl _, by omega⟩)
    rw [p]
    exact (((((Eo.rf.kP (Or.inl rfl)).kI w).kI w).kI w).kI w).kI w
  refine w_gS I2 s_82 ?_
  refine w_bV I2 (m_70 (d := d + 3) (T := T) (L := L) I2 ⟨fun k hk => by rw [o2 81 (by omega)]; exact tc.1 k hk, tc.2⟩ (fun k hk' => by rw [J2]; exact hk k hk')) (by decide) rfl fun h3 I3 p3 => ?_
  obtain ⟨n, p1, p2, p3, p4, p5, p6, p7⟩ := p3
  have f82 : ∀ j, j ≠ 7 → hI h3 82 j = hI h 82 j := fun j hj => by rw [p2 j hj, o2 82 (by omega)]
  have fL : hI h3 Lw = hI h2 Lw := p1.i (by unfold WTk; omega)
  have q : CLw T L n Lw h3 h3 0 S00 := by
    refine ⟨⟨p4, p5, p7, p6, fun j hj => absurd hj (Nat.not_lt_zero j), by rw [f82 8 (by decide)]; exact e8, by rw [f82 11 (by decide)]; exact e11, by rw [f82 12 (by decide)]; exact e12, tc.2.1⟩, ⟨by rw [p3]; exact P2, hL, ?_, fun j hj => absurd hj (Nat.not_lt_zero j)⟩, Nat.le_refl _, ⟨?_, trivial, ?_, trivial, ?_, ?_, ?_, ?_⟩, Eo.rf⟩
    · rw [fL, p, hI_sI_self, up1, if_neg (by decide), hI_sI_self, up1, if_neg (by decide), hI_sI_self, up1, if_neg (by decide), hI_sI_self, up1, if_neg (by decide), hI_sI_self, up1, if_pos rfl]; rfl
    · rw [fL, p, hI_sI_self, up1, if_neg (by decide), hI_sI_self, up1, if_neg (by decide), hI_sI_self, up1, if_neg (by decide), hI_sI_self, up1, if_pos rfl]; rfl
    · rw [fL, p, hI_sI_self, up1, if_neg (by decide), hI_sI_self, up1, if_neg (by decide), hI_sI_self, up1, if_pos rfl]; rfl
    · rw [fL, p, hI_sI_self, up1, if_neg (by decide), hI_sI_self, up1, if_pos rfl]; rfl
    · rw [fL, p, hI_sI_self, up1, if_pos rfl]; rfl
    · rw [f82 13 (by decide), e13]; rfl
    · rw [f82 14 (by decide), e14]; rfl
  have ok0 : okLS S00 := ⟨Nat.le_refl _, Nat.zero_le _, fun r hr => absurd hr (List.not_mem_nil), fun r hr => absurd hr (List.not_mem_nil), Nat.zero_le _, Nat.zero_le _⟩
  refine (c39_21 (d := d) 21 0 S00 h3 rfl ok0 I3 q).mono fun v h' hh => ?_
  obtain ⟨x, rfl, r1, r2, r3⟩ := hh
  have E3 : Eo (WRd Lw) h h' := (E2.tr (p1.wk fun a z => by unfold WTk at z; unfold WRd; omega)).tr (r1.wk fun a z => by unfold WLw at z; unfold WRd; omega)
  refine ⟨x, rfl, E3, fun z => ?_, r3⟩
  obtain ⟨a1, a2, a3, a4, a5, a6⟩ := r2 z
  have b := a2.k
  exact ⟨a1, ⟨a5.1, a5.2.1.rules a3.2.2.2 (by omega), a5.2.2.1, a5.2.2.2.1, a5.2.2.2.2.1, a5.2.2.2.2.2.1⟩, a2.2.2.2.2.2.2.1, a2.2.2.2.2.2.2.2.1⟩
end CR
