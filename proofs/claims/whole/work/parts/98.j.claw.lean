/-! TEXT: the class reads a LAW -/
section PL0
variable (c v : Nat → Nat) (N : Nat)
def pL0 (k : Nat) (S : LSt) : LRes := if c k < 14 ∨ 18 < c k then (1, k, S) else if 20 ≤ S.1.length then (3, k, S) else if (c k = 16 ∧ S.2.2.1.isSome = true) ∨ (c k = 18 ∧ S.2.2.2.isSome = true) then (3, k, S) else pBd c v N k S
theorem pLn_e (k : Nat) (S : LSt) : pLn c v N k S = eL c (pL0 c v N k S) := by
  unfold pLn pL0
  split
  · rfl
  · split
    · rfl
    · split <;> rfl
end PL0
section CO
variable {X : Ctx} {d : Nat} {Q : Option Value → Hp → Prop} {T : Nat → Nat} {L n Lw : Nat} {h0 h : Hp}
theorem CLw.sim {k : Nat} {S : LSt} (q : CLw T L n Lw h0 h k S) : SimL T L n Lw h0 (0, k, S) 1 h := ⟨q.2.2.2.2, fun _ => ⟨rfl, q⟩, fun z => absurd rfl z⟩
/-- a fault below a line -/
theorem sim_bad {r : PRes} {S S' : LSt} {f : Nat → List Op → LRes} (hr : r.1 ≠ 0) (E : Eo (WLw Lw) h0 h) (b : BadC T L r 0 h) : SimL T L n Lw h0 (bL r S f) 0 h := by
  rw [bL_no hr]
  exact ⟨E, fun z => absurd z hr, fun _ => b⟩
theorem c_65 {k : Nat} (I : Inv h) (q : CB T L n h k) : K X (d + 2) 65 [.ref 82] h = some (some (.int (bi (decide (8 ≤ tC T L k ∧ tC T L k ≤ 13)))), h) := by
  have vk := vI (T := T) (L := L) k
  refine Wp.eqI ?_
  rw [k_65]
  refine w_sign I q ?_
  refine w_if (fun c0 => ?_) (fun c0 => ?_)
  · have := (i_lt (n := 8) (by omega) (by omega)).mp c0
    rw [decide_eq_false (by omega)]
    exact Wp.reti ⟨rfl, rfl⟩
  · have a : ¬ tC T L k < 8 := fun z => c0 ((i_lt (n := 8) (by omega) (by omega)).mpr z)
    refine w_sign I q ?_
    refine w_if (fun c1 => ?_) (fun c1 => ?_)
    · have := (i_lt (m := 13) (by omega) (by omega)).mp c1
      rw [decide_eq_false (by omega)]
      exact Wp.reti ⟨rfl, rfl⟩
    · have b : ¬ 13 < tC T L k := fun z => c1 ((i_lt (m := 13) (by omega) (by omega)).mpr z)
      rw [decide_eq_true (by omega)]
      exact Wp.reti ⟨rfl, rfl⟩
theorem w_65 {k : Nat} {f : Int32 → Hp → Option (Option Value × Hp)} (I : Inv h) (q : CB T L n h k) (kk : Wp (f (bi (decide (8 ≤ tC T L k ∧ tC T L k ≤ 13))) h) Q) : Wp (gd (hS h 82 = (6, 0)) (bI (K X (d + 2) 65 [.ref 82] h) f)) Q := w_gS I s_82 (w_eI (c_65 I q) kk)
/-- mine -/
theorem m_42 {k : Nat} {S : LSt} (I : Inv h) (q : CLw T L n Lw h0 h k S) (hl : (rulesOf S.1).length < 20) : Wp (K X (d + 5) 42 [.ref 82] h) (VI fun v h' => SimL T L n Lw h0 (pMin (tC T L) (tV T L) L k S) v h') := by
  obtain ⟨q1, q2, q3, q4, q5⟩ := q
  have hL := q2.2.1
  rw [k_42]
  refine w_gR I s_82 q2.1 ?_
  refine w_gI I hL.s ?_
  rw [q2.2.2.1]
  refine w_gS I s_82 ?_
  refine w_bI I (c_53 (d := d) (e := 0) (h0 := h) I q1 q2 CFc.rf q3) (by decide) rfl fun x h1 I1 s => ?_
  obtain ⟨s1, s2, s3⟩ := s
  unfold pMin
  by_cases z : (pAny (tC T L) (tV T L) L k).1 = 0
  · obtain ⟨rfl, u1, u2, u3⟩ := s2 z
    rw [bL_ok z]
    refine w_ift (by decide) ?_
    refine w_gR I1 s_82 u2.1 ?_
    have e0 : ∀ o, opsC (stOf (rulesOf S.1)) ++ opsC [] ++ opsC o = opsC (stOf (rulesOf S.1)) ++ opsC o := fun o => by show _ ++ [] ++ _ = _; rw [List.append_nil]
    exact w_rule (kd := 6) (o1 := []) (d := d + 3) I1 u1 (by rw [e0]; exact u2) (by rw [e0]; exact u3) (q4.c hL s1) (q5.tr s1.w) hl rfl rfl fun h2 I2 p2 => Wp.reti p2.sim
  · obtain ⟨rfl, u1, u2⟩ := s3 z
    exact w_iff (by decide) (Wp.reti (sim_bad (S' := S) z (q5.tr s1.w) ⟨rfl, u1, u2⟩))
/-- take -/
theorem m_43 {k : Nat} {S : LSt} (I : Inv h) (q : CLw T L n Lw h0 h k S) (hl : (rulesOf S.1).length < 20) : Wp (K X (d + 5) 43 [.ref 82] h) (VI fun v h' => SimL T L n Lw h0 (pTk (tC T L) (tV T L) L k S) v h') := by
  have vk := vI (T := T) (L := L) k
  rw [k_43]
  refine w_65 (d := d + 2) I q.1 ?_
  unfold pTk
  by_cases y : 8 ≤ tC T L k ∧ tC T L k ≤ 13
  · rw [if_pos y, decide_eq_true y]
    refine w_ift (by decide) ?_
    refine w_sign (d := d + 3) I q.1 ?_
    refine w_atL I q (by omega) fun h1 I1 q => ?_
    obtain ⟨q1, q2, q3, q4, q5⟩ := q
    have hL := q2.2.1
    refine w_gR I1 s_82 q2.1 ?_
    refine w_gI I1 hL.s ?_
    rw [q2.2.2.1]
    refine w_gS I1 s_82 ?_
    refine w_bI I1 (m_60 (d := d + 1) (e := 0) (h0 := h1) I1 q1 q2 CFe.rf q3) (by decide) rfl fun x h2 I2 s => ?_
    obtain ⟨s1, s2, s3⟩ := s
    have e8 : Int32.ofNat (tC T L k) - 8 = Int32.ofNat (tC T L k - 8) := i_sub (n := 8) (by omega)
    by_cases z : (pSum (tC T L) (tV T L) L (k + 1)).1 = 0
    · obtain ⟨rfl, u1, u2, u3⟩ := s2 z
      rw [bL_ok z]
      generalize (pSum (tC T L) (tV T L) L (k + 1)).2.1 = k1 at *
      generalize (pSum (tC T L) (tV T L) L (k + 1)).2.2 = o1 at *
      refine w_ift (by decide) ?_
      refine w_gR I2 s_82 u2.1 ?_
      refine w_gI I2 hL.s ?_
      rw [u2.2.2.1]
      refine w_sign (d := d + 3) I2 u1 ?_
      have vk1 := vI (T := T) (L := L) k1
      refine w_if (fun c0 => ?_) (fun c0 => ?_)
      · have n19 : tC T L k1 ≠ 19 := fun x => c0 (by rw [x]; rfl)
        rw [if_neg n19, e8]
        refine w_gR I2 s_82 u2.1 ?_
        have e0 : opsC (stOf (rulesOf S.1)) ++ opsC o1 ++ opsC [] = opsC (stOf (rulesOf S.1)) ++ opsC o1 := List.append_nil _
        exact w_rule (o2 := []) (d := d + 3) I2 u1 (by rw [e0]; exact u2) (by rw [e0]; exact u3) (q4.c hL s1.c) (q5.tr s1.w) hl rfl (by rw [List.length_append]) fun h3 I3 p3 => Wp.reti p3.sim
      · have e19 : tC T L k1 = 19 := (c_is (m := 19) vk1 (by decide)).mp (Classical.byContradiction c0)
        rw [if_pos e19]
        refine w_at I2 u1 (by omega) fun I3 u1' => ?_
        refine w_gS I3 s_82 ?_
        have F3 : CFc Lw h1 (sI h2 82 8 (Int32.ofNat (k1 + 1))) := s1.c.s82 hL (Or.inl rfl)
        refine w_bI I3 (c_53 (d := d) (e := 0) (h0 := h1) I3 u1' u2.s82 F3 (by omega)) (by decide) rfl fun x h4 I4 t => ?_
        obtain ⟨t1, t2, t3⟩ := t
        by_cases w : (pAny (tC T L) (tV T L) L (k1 + 1)).1 = 0
        · obtain ⟨rfl, w1, w2, w3⟩ := t2 w
          rw [bL_ok w, e8]
          refine w_ift (by decide) ?_
          refine w_gR I4 s_82 w2.1 ?_
          exact w_rule (d := d + 3) I4 w1 w2 w3 (q4.c hL t1) (q5.tr t1.w) hl rfl (by rw [List.length_append]) fun h5 I5 p5 => Wp.reti p5.sim
        · obtain ⟨rfl, w1, w2⟩ := t3 w
          exact w_iff (by decide) (Wp.reti (sim_bad (S' := S) w (q5.tr t1.w) ⟨rfl, w1, w2⟩))
    · obtain ⟨rfl, u1, u2⟩ := s3 z
      exact w_iff (by decide) (Wp.reti (sim_bad (S' := S) z (q5.tr s1.w) ⟨rfl, u1, u2⟩))
  · rw [if_neg y, decide_eq_false y]
    refine w_iff (by decide) ?_
    exact w_badL (w := 1) (d := d + 3) I q (by decide) rfl
/-- the number that a token says -/
theorem w_num {k : Nat} {f : Int32 → Option (Option Value × Hp)} (I : Inv h) (q : CB T L n h k) (e : tC T L k = 100) (kk : Wp (f (Int32.ofNat (tV T L k))) Q) : Wp (gR h 5 82 2 fun g3 => gI h 5 82 8 fun g4 => aI X h g3 g4 f) Q := by
  have b := q.k
  have kn := b.2.2.2 (by omega)
  refine w_gL I s_82 l_82_2 ?_
  refine w_gI I s_82 ?_
  rw [q.2.2.2.2.2.1]
  refine w_aIn I s_85 (by omega) (by decide) ?_
  rw [(q.1 k (by omega)).2.2 e]
  exact kk
/-- writes into the reader, or into the LAW -/
theorem CLw.put {k : Nat} {S S' : LSt} {h' : Hp} (q : CLw T L n Lw h0 h k S) (hr : rulesOf S'.1 = rulesOf S.1) (E : Eo (WLw Lw) h h') (e1 : ∀ a, (a = 84 ∨ a = 85 ∨ a = 86 ∨ (Lw + 1 ≤ a ∧ a ≤ Lw + 5)) → hI h' a = hI h a) (e2 : ∀ j, (j = 7 ∨ j = 8 ∨ j = 11 ∨ j = 12) → hI h' 82 j = hI h 82 j) (e3 : ∀ j, (j = 7 ∨ j = 8) → hI h' Lw j = hI h Lw j) (ep : hP h' 82 = hP h 82)
    (r3 : hI h' Lw 9 = Int32.ofNat S'.2.1.length) (r4 : cSteps h' Lw 0 S'.2.1) (r5 : hI h' Lw 10 = Int32.ofNat (S'.2.2.1.getD 0)) (r6 : hI h' Lw 11 = Int32.ofNat (S'.2.2.2.getD 0)) (r7 : hI h' 82 13 = bi S'.2.2.1.isSome) (r8 : hI h' 82 14 = bi S'.2.2.2.isSome) : CLw T L n Lw h0 h' k S' := by
  obtain ⟨q1, q2, q3, q4, q5⟩ := q
  have hL := q2.2.1
  have rg := hL.rg
  refine ⟨q1.to (e1 _ (by omega)) (e1 _ (by omega)) (e1 _ (by omega)) e2, ⟨by rw [ep]; exact q2.1, hL, by rw [e3 7 (Or.inl rfl), hr]; exact q2.2.2.1, by rw [hr]; exact q2.2.2.2.eo (e1 _ (by omega))⟩, by rw [hr]; exact q3, ⟨by rw [e3 8 (Or.inr rfl), hr]; exact q4.1, by rw [hr]; exact q4.2.1.eo fun k h1 h2 => e1 _ (by omega), r3, r4, r5, r6, r7, r8⟩, q5.tr E⟩
/-- free -/
theorem m_44 {k : Nat} {S : LSt} (I : Inv h) (q : CLw T L n Lw h0 h k S) : Wp (K X (d + 2) 44 [.ref 82] h) (VI fun v h' => SimL T L n Lw h0 (pFr (tC T L) (tV T L) k S) v h') := by
  have vk := vI (T := T) (L := L) k
  have hL := q.2.1.2.1
  have rg := hL.rg
  rw [k_44]
  refine w_sign I q.1 ?_
  unfold pFr
  by_cases y : tC T L k = 100
  · rw [if_pos y]
    refine w_ift (by rw [y]; rfl) ?_
    refine w_fZ I s_82 (by decide) fun I1 => ?_
    refine w_gR I1 s_82 (show hP h 82 5 = some Lw from q.2.1.1) ?_
    have b1 : CB T L n (sI h 82 13 1) k := q.1.to (sI_other (by decide)) (sI_other (by decide)) (sI_other (by decide)) (fun j hj => by rw [hI_sI_self, up1, if_neg (by omega)])
    refine w_num I1 b1 y ?_
    refine w_fI I1 hL.s fun I2 => ?_
    have q2 : CLw T L n Lw h0 (sI (sI h 82 13 1) Lw 10 (Int32.ofNat (tV T L k))) k (S.1 ++ [none], S.2.1, some (tV T L k), S.2.2.2) := by
      obtain ⟨r1, r2, r3, r4, r5, r6, r7, r8⟩ := q.2.2.2.1
      refine q.put (rules_no _) ((Eo.rf.kI (Or.inl rfl)).kI (Or.inr (Or.inr ⟨Nat.le_refl _, by omega⟩))) (fun a ha => by rw [sI_other (by omega), sI_other (by omega)]) (fun j hj => by rw [sI_other (by omega), hI_sI_self, up1, if_neg (by omega)]) (fun j hj => by rw [hI_sI_self, up1, if_neg (by omega), sI_other (by omega)]) rfl (by rw [hI_sI_self, up1, if_neg (by decide), sI_other (by omega)]; exact r3) (r4.sn0 (by rw [sI_other (by omega), sI_other (by omega)]) (by rw [sI_other (by omega), sI_other (by omega)])) (by rw [hI_sI_self, up1, if_pos rfl]; rfl) (by rw [hI_sI_self, up1, if_neg (by decide), sI_other (by omega)]; exact r6) (by rw [sI_other (by omega), hI_sI_self, up1, if_pos rfl]; rfl) (by rw [sI_other (by omega), hI_sI_self, up1, if_neg (by decide)]; exact r8)
    refine w_atL I2 q2 (by omega) fun h3 I3 q3 => Wp.reti q3.sim
  · rw [if_neg y]
    refine w_iff (fun z => y ((c_is (m := 100) vk (by decide)).mp z)) ?_
    exact w_badL (w := 1) I q (by decide) rfl
/-- a number up to 100 -/
theorem m_64 {k : Nat} {S : LSt} (I : Inv h) (q : CLw T L n Lw h0 h k S) (e : tC T L k ≠ 100 ∨ ¬ tV T L k ≤ 100) : Wp (K X (d + 2) 64 [.ref 82] h) (VI fun v h' => SimL T L n Lw h0 ((if tC T L k = 100 then 2 else 1), k, S) v h') := by
  have vk := vI (T := T) (L := L) k
  rw [k_64]
  refine w_sign I q.1 ?_
  by_cases y : tC T L k = 100
  · have e2 := e.resolve_left fun z => z y
    have tv := tV_le (T := T) (L := L) (k := k)
    rw [if_pos y]
    refine w_ift (by rw [y]; rfl) ?_
    refine w_num I q.1 y ?_
    refine w_iff (fun z => e2 ((i_le (n := 100) (by omega) (by omega)).mp z)) ?_
    refine w_gS I s_82 ?_
    refine w_bI I (m_69 (w := 2) (d := d) I q.1) (by decide) rfl ?_
    rintro x h2 I2 ⟨rfl, rfl⟩
    exact w_ift rfl (Wp.reti (q.bad (by decide)))
  · rw [if_neg y]
    refine w_iff (fun z => y ((c_is (m := 100) vk (by decide)).mp z)) ?_
    exact w_badL (w := 1) I q (by decide) rfl
theorem m_64y {k : Nat} (I : Inv h) (q : CB T L n h k) (e1 : tC T L k = 100) (e2 : tV T L k ≤ 100) : K X (d + 2) 64 [.ref 82] h = some (some (.int 1), h) := by
  refine Wp.eqI ?_
  rw [k_64]
  refine w_sign I q ?_
  refine w_ift (by rw [e1]; rfl) ?_
  refine w_num I q e1 ?_
  refine w_ift ((i_le (n := 100) (by omega) (by omega)).mpr e2) ?_
  exact Wp.reti ⟨rfl, rfl⟩
/-- step -/
theorem c45_62 {k : Nat} {S : LSt} (I : Inv h) (q : CLw T L n Lw h0 h k S) (hl : S.2.1.length < 20) (e1 : tC T L k = 100) : Wp (sem (X, K X (d + 2)) 45 62 [some (.ref 82), some (.int (Int32.ofNat (tV T L k)))] [] h) (VI fun v h' => SimL T L n Lw h0 (if tC T L (k + 1) = 100 then (if tV T L (k + 1) ≤ 100 then (0, k + 2, (S.1 ++ [none], S.2.1 ++ [(tV T L k, tV T L (k + 1))], S.2.2)) else (2, k + 1, S)) else (1, k + 1, S)) v h') := by
  have hL := q.2.1.2.1
  have rg := hL.rg
  rw [b_45_62]
  refine w_atL I q (by omega) fun h1 I1 q => ?_
  refine w_gS I1 s_82 ?_
  by_cases z : tC T L (k + 1) = 100 ∧ tV T L (k + 1) ≤ 100
  · rw [if_pos z.1, if_pos z.2]
    refine w_eI (m_64y I1 q.1 z.1 z.2) ?_
    refine w_ift (by decide) ?_
    refine w_gR I1 s_82 q.2.1.1 ?_
    refine w_num I1 q.1 z.1 ?_
    refine w_gS I1 hL.s ?_
    refine w_bV (P := fun h' => CLw T L n Lw h0 h' (k + 1) (S.1 ++ [none], S.2.1 ++ [(tV T L k, tV T L (k + 1))], S.2.2)) I1 ?_ (by decide) rfl fun h2 I2 q2 => ?_
    · rw [k_5]
      obtain ⟨r1, r2, r3, r4, r5, r6, r7, r8⟩ := q.2.2.2.1
      refine w_gI I1 hL.s ?_
      rw [r3]
      refine w_iff (fun x => absurd ((i_le (m := 20) (by omega) (by omega)).mp x) (by omega)) ?_
      refine w_gL I1 hL.s hL.l5 ?_
      refine w_gI I1 hL.s ?_
      rw [r3]
      refine w_wIn I1 hL.s6 hl (by decide) fun J1 => ?_
      refine w_gL J1 hL.s hL.l6 ?_
      refine w_gI J1 hL.s ?_
      rw [sI_other (show Lw ≠ Lw + 6 by omega), r3]
      refine w_wIn J1 hL.s7 hl (by decide) fun J2 => ?_
      refine w_gI J2 hL.s ?_
      rw [sI_other (show Lw ≠ Lw + 7 by omega), sI_other (show Lw ≠ Lw + 6 by omega), r3, i32_ofNat_succ]
      refine w_fI J2 hL.s fun J3 => ?_
      refine Wp.retv (q.put (rules_no _) (((Eo.rf.kI (Or.inr (Or.inr ⟨by omega, by omega⟩))).kI (Or.inr (Or.inr ⟨by omega, by omega⟩))).kI (Or.inr (Or.inr ⟨Nat.le_refl _, by omega⟩))) (fun a ha => by rw [sI_other (by omega), sI_other (by omega), sI_other (by omega)]) (fun j hj => by rw [sI_other (by omega), sI_other (by omega), sI_other (by omega)]) (fun j hj => by rw [hI_sI_self, up1, if_neg (by omega), sI_other (by omega), sI_other (by omega)]) rfl ?_ ?_ ?_ ?_ ?_ ?_)
      · rw [hI_sI_self, up1, if_pos rfl]
        show Int32.ofNat (S.2.1.length + 1) = Int32.ofNat (S.2.1 ++ [(tV T L k, tV T L (k + 1))]).length
        rw [List.length_append]; rfl
      · show cSteps _ Lw 0 (S.2.1 ++ [(tV T L k, tV T L (k + 1))])
        have g6 : hI (sI (sI (sI h1 (Lw + 6) S.2.1.length (Int32.ofNat (tV T L k))) (Lw + 7) S.2.1.length (Int32.ofNat (tV T L (k + 1)))) Lw 9 (Int32.ofNat (S.2.1.length + 1))) (Lw + 6) = up1 (hI h1 (Lw + 6)) S.2.1.length (Int32.ofNat (tV T L k)) := by rw [sI_other (by omega), sI_other (by omega), hI_sI_self]
        have g7 : hI (sI (sI (sI h1 (Lw + 6) S.2.1.length (Int32.ofNat (tV T L k))) (Lw + 7) S.2.1.length (Int32.ofNat (tV T L (k + 1)))) Lw 9 (Int32.ofNat (S.2.1.length + 1))) (Lw + 7) = up1 (hI h1 (Lw + 7)) S.2.1.length (Int32.ofNat (tV T L (k + 1))) := by rw [sI_other (by omega), hI_sI_self, sI_other (by omega)]
        refine r4.sn (fun i hi => ?_) ?_ ?_
        · rw [g6, g7, up1, up1, if_neg (by omega), if_neg (by omega)]; exact ⟨rfl, rfl⟩
        · rw [g6, Nat.zero_add, up1, if_pos rfl]
        · rw [g7, Nat.zero_add, up1, if_pos rfl]
      · rw [hI_sI_self, up1, if_neg (by decide), sI_other (by omega), sI_other (by omega)]; exact r5
      · rw [hI_sI_self, up1, if_neg (by decide), sI_other (by omega), sI_other (by omega)]; exact r6
      · rw [sI_other (by omega), sI_other (by omega), sI_other (by omega)]; exact r7
      · rw [sI_other (by omega), sI_other (by omega), sI_other (by omega)]; exact r8
    · refine w_atL I2 q2 (by have := z.1; omega) fun h3 I3 q3 => Wp.reti q3.sim
  · have ee : (if tC T L (k + 1) = 100 then (if tV T L (k + 1) ≤ 100 then (0, k + 2, (S.1 ++ [none], S.2.1 ++ [(tV T L k, tV T L (k + 1))], S.2.2)) else (2, k + 1, S)) else (1, k + 1, S)) = ((if tC T L (k + 1) = 100 then 2 else 1), k + 1, S) := by
      by_cases w : tC T L (k + 1) = 100
      · rw [if_pos w, if_pos w, if_neg fun u => z ⟨w, u⟩]
      · rw [if_neg w, if_neg w]
    rw [ee]
    refine w_bI I1 (m_64 I1 q (by by_cases w : tC T L (k + 1) = 100; exact Or.inr fun u => z ⟨w, u⟩; exact Or.inl w)) (by decide) rfl fun x h2 I2 s => ?_
    obtain ⟨s1, s2, s3⟩ := s
    have n0 : (if tC T L (k + 1) = 100 then 2 else 1) ≠ 0 := by split <;> decide
    obtain ⟨rfl, u1, u2⟩ := s3 n0
    exact w_iff (by decide) (Wp.reti ⟨s1, fun y => absurd y n0, fun _ => ⟨rfl, u1, u2⟩⟩)
theorem m_45 {k : Nat} {S : LSt} (I : Inv h) (q : CLw T L n Lw h0 h k S) (hl : S.2.1.length < 20) (ok : ∀ s, s ∈ S.2.1 → s.1 ≤ 999999 ∧ s.2 ≤ 100) : Wp (K X (d + 3) 45 [.ref 82] h) (VI fun v h' => SimL T L n Lw h0 (pSt (tC T L) (tV T L) k S) v h') := by
  have vk := vI (T := T) (L := L) k
  have hL := q.2.1.2.1
  have rg := hL.rg
  have tv := tV_le (T := T) (L := L) (k := k)
  have r3 := q.2.2.2.1.2.2.1
  have r4 := q.2.2.2.1.2.2.2.1
  rw [k_45]
  refine w_sign (d := d + 1) I q.1 ?_
  unfold pSt
  by_cases y : tC T L k = 100
  · rw [if_pos y]
    refine w_ift (by rw [y]; rfl) ?_
    refine w_num I q.1 y ?_
    refine w_gR I s_82 q.2.1.1 ?_
    refine w_gI I hL.s ?_
    rw [r3]
    refine w_if (fun c0 => ?_) (fun c0 => ?_)
    · have l0 := (i_le (n := 0) (by omega) (by omega)).mp c0
      have : stM S.2.1 = 0 := if_pos (by omega)
      rw [if_pos (by rw [this]; exact Nat.zero_le _)]
      exact c45_62 I q hl y
    · have l0 : ¬ S.2.1.length ≤ 0 := fun z => c0 ((i_le (n := 0) (by omega) (by omega)).mpr z)
      refine w_gR I s_82 q.2.1.1 ?_
      refine w_gL I hL.s hL.l5 ?_
      refine w_gR I s_82 q.2.1.1 ?_
      refine w_gI I hL.s ?_
      have e1 : Int32.ofNat S.2.1.length - 1 = Int32.ofNat (S.2.1.length - 1) := i_sub (n := 1) (by omega)
      rw [r3, e1]
      refine w_aIn I hL.s6 (by omega) (by decide) ?_
      have a := r4.at (i := S.2.1.length - 1) (by omega)
      rw [Nat.zero_add] at a
      rw [a]
      have eM : stM S.2.1 = (S.2.1.getD (S.2.1.length - 1) (0, 0)).1 + 1 := if_neg (by omega)
      by_cases w : stM S.2.1 ≤ tV T L k
      · rw [if_pos w]
        refine w_ift ((i_lt (by omega) (by omega)).mpr (by omega)) ?_
        exact c45_62 I q hl y
      · rw [if_neg w]
        have lb : (S.2.1.getD (S.2.1.length - 1) (0, 0)).1 < 2147483648 := by
          rw [List.getD_eq_getElem?_getD, List.getElem?_eq_getElem (by omega)]
          have := (ok _ (List.getElem_mem (show S.2.1.length - 1 < S.2.1.length by omega))).1
          show (S.2.1[S.2.1.length - 1]).1 < 2147483648
          omega
        refine w_iff (fun z => absurd ((i_lt lb (by omega)).mp z) (by omega)) ?_
        exact w_badL (w := 2) (d := d + 1) I q (by decide) rfl
  · rw [if_neg y]
    refine w_iff (fun z => y ((c_is (m := 100) vk (by decide)).mp z)) ?_
    exact w_badL (w := 1) (d := d + 1) I q (by decide) rfl
theorem m_47c {x : Nat} (hx : x < 103) {g : Hp} : K X (d + 1) 47 [.int (Int32.ofNat x)] g = some (some (.int (Int32.ofNat (rlV x))), g) := by
  rw [k_47]
  unfold rlV
  by_cases z : x = 21
  · rw [if_neg (fun y => y (by rw [z]; rfl)), if_pos z]; rfl
  · rw [if_pos (show ¬ Int32.ofNat x = 21 from fun y => z ((c_is (m := 21) hx (by decide)).mp y)), if_neg z]
    by_cases w : x = 16
    · rw [if_neg (fun y => y (by rw [w]; rfl)), if_pos w]; rfl
    · rw [if_pos (show ¬ Int32.ofNat x = 16 from fun y => w ((c_is (m := 16) hx (by decide)).mp y)), if_neg w]; rfl
/-- relief -/
theorem m_46 {k : Nat} {S : LSt} (I : Inv h) (q : CLw T L n Lw h0 h k S) : Wp (K X (d + 2) 46 [.ref 82] h) (VI fun v h' => SimL T L n Lw h0 (pRl (tC T L) k S) v h') := by
  have vk := vI (T := T) (L := L) k
  have hL := q.2.1.2.1
  have rg := hL.rg
  have body : ∀ v1, v1 = Int32.ofNat (tC T L k) → (tC T L k = 20 ∨ tC T L k = 21 ∨ tC T L k = 16) → Wp (sem (X, K X (d + 1)) 46 29 [some (.ref 82), some (.int v1)] [] h) (VI fun v h' => SimL T L n Lw h0 (pRl (tC T L) k S) v h') := by
    rintro v1 rfl y
    unfold pRl
    rw [if_pos y, b_46_29]
    refine w_fZ I s_82 (by decide) fun I1 => ?_
    refine w_gR I1 s_82 (show hP h 82 5 = some Lw from q.2.1.1) ?_
    refine w_eI (m_47c vk) ?_
    refine w_fI I1 hL.s fun I2 => ?_
    have q2 : CLw T L n Lw h0 (sI (sI h 82 14 1) Lw 11 (Int32.ofNat (rlV (tC T L k)))) k (S.1 ++ [none], S.2.1, S.2.2.1, some (rlV (tC T L k))) := by
      obtain ⟨r1, r2, r3, r4, r5, r6, r7, r8⟩ := q.2.2.2.1
      refine q.put (rules_no _) ((Eo.rf.kI (Or.inl rfl)).kI (Or.inr (Or.inr ⟨Nat.le_refl _, by omega⟩))) (fun a ha => by rw [sI_other (by omega), sI_other (by omega)]) (fun j hj => by rw [sI_other (by omega), hI_sI_self, up1, if_neg (by omega)]) (fun j hj => by rw [hI_sI_self, up1, if_neg (by omega), sI_other (by omega)]) rfl (by rw [hI_sI_self, up1, if_neg (by decide), sI_other (by omega)]; exact r3) (r4.sn0 (by rw [sI_other (by omega), sI_other (by omega)]) (by rw [sI_other (by omega), sI_other (by omega)])) (by rw [hI_sI_self, up1, if_neg (by decide), sI_other (by omega)]; exact r5) (by rw [hI_sI_self, up1, if_pos rfl]; rfl) (by rw [sI_other (by omega), hI_sI_self, up1, if_neg (by decide)]; exact r7) (by rw [sI_other (by omega), hI_sI_self, up1, if_pos rfl]; rfl)
    refine w_atL I2 q2 (by omega) fun h3 I3 q3 => Wp.reti q3.sim
  rw [k_46]
  refine w_sign I q.1 ?_
  refine w_if (fun c0 => body _ rfl (Or.inl ((c_is (m := 20) vk (by decide)).mp c0))) (fun c0 => ?_)
  refine w_if (fun c1 => body _ rfl (Or.inr (Or.inl ((c_is (m := 21) vk (by decide)).mp c1)))) (fun c1 => ?_)
  refine w_if (fun c2 => body _ rfl (Or.inr (Or.inr ((c_is (m := 16) vk (by decide)).mp c2)))) (fun c2 => ?_)
  unfold pRl
  rw [if_neg (fun y => by
    rcases y with y | y | y
    · exact c0 (by rw [y]; rfl)
    · exact c1 (by rw [y]; rfl)
    · exact c2 (by rw [y]; rfl))]
  exact w_badL (w := 1) I q (by decide) rfl
end CO
