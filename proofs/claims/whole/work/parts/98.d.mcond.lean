/-! TEXT: the model reads conditions -/
section MY
variable {X : Ctx} {d : Nat} {Q : Option Value → Hp → Prop} {T : Nat → Nat} {L : Nat} {h : Hp}
/-- what it is to read p by method y at depth D -/
def RdM (X : Ctx) (T : Nat → Nat) (L D y dd : Nat) (p : Nat → PRes) : Prop := ∀ (k e : Nat) (st : List Op) (h h0 : Hp), Inv h → MP T L h k st dd e → MFr h0 h → Wp (K X D y [.ref 301] h) (VI fun v h' => SimM T L dd e h0 st (p k) v h')
theorem c169_9 {dd e : Nat} {h0 : Hp} {st0 : List Op} {p : Nat → PRes} (hv : X.2.2 = .null ∨ X.2.2 = .ref 61) (hp : RdM X T L (d + 9) 170 dd p) (gp : ∀ k, NE (tC T L) k → (p k).1 = 0 → k < (p k).2.1) : ∀ (f k : Nat) (a : List Op) (h : Hp), L - k ≤ f → Inv h → MFr h0 h → MP T L h k (st0 ++ a) dd e →
    Wp (sem (X, K X (d + 9)) 169 9 [some (.ref 301)] [] h) (VI fun v h' => SimM T L dd e h0 st0 (pLL (tC T L) p 23 17 f k a) v h') := fun f => by
  have tt : ∀ k, Int32.ofNat (mt (tC T L k)) = 5 ↔ tC T L k = 23 := fun k => tok_is tC_vld (vkw (c := 23) (by decide)) rfl
  have done : ∀ (k : Nat) (a : List Op) (h : Hp), tC T L k ≠ 23 → Inv h → MFr h0 h → MP T L h k (st0 ++ a) dd e → Wp (sem (X, K X (d + 9)) 169 9 [some (.ref 301)] [] h) (VI fun v h' => SimM T L dd e h0 st0 (0, k, a) v h') := fun k a h n1 I M q => by
    rw [b_169_9]
    refine w_gI I s_301 ?_
    rw [q.tok]
    refine w_ift (fun z => n1 ((tt k).mp z)) ?_
    exact Wp.reti ⟨M, fun _ => ⟨rfl, q⟩, fun z => absurd rfl z⟩
  induction f with
  | zero =>
    intro k a h hf I M q
    have n : tC T L k = 101 := Classical.byContradiction fun z => by have := tC_lt z; omega
    exact done k a h (by omega) I M q
  | succ f ih =>
    intro k a h hf I M q
    show Wp _ (VI fun v h' => SimM T L dd e h0 st0 (if tC T L k = 23 then bindR (p (k + 1)) fun k' o => pLL (tC T L) p 23 17 f k' (a ++ o ++ [(17, 0)]) else (0, k, a)) v h')
    by_cases e1 : tC T L k = 23
    · rw [if_pos e1, b_169_9]
      have kl := tC_lt (T := T) (L := L) (k := k) (by omega)
      refine w_gI I s_301 ?_
      rw [q.tok]
      refine w_iff (fun z => z ((tt k).mpr e1)) ?_
      refine w_next (d := d + 1) hv I q M (by omega) fun h1 I1 q1 M1 _ => ?_
      refine w_sub (g := fun k' o => pLL (tC T L) p 23 17 f k' (a ++ o ++ [(17, 0)])) I1 (by decide) rfl (hp _ _ _ h1 h0 I1 q1 M1) (fun h2 I2 M2 z q2 => ?_) (fun h2 I2 M2 z t1 t2 => ?_)
      · refine w_ift (by decide) ?_
        refine w_lay (s := 17) (w := 0) (d := d + 8) I2 q2 M2 (by decide) (fun _ => rfl) fun h3 I3 q3 M3 => ?_
        have adv := gp _ q1.2.2.1 z
        refine ih _ (a ++ (p (k + 1)).2.2 ++ [(17, 0)]) h3 (by omega) I3 M3 ?_
        rw [List.append_assoc, List.append_assoc] at q3
        rw [List.append_assoc]; exact q3
      · exact w_iff (by decide) (sim_no M2 z t1 t2)
    · rw [if_neg e1]
      exact done k a h e1 I M q
theorem m_169 {dd : Nat} {p : Nat → PRes} (hv : X.2.2 = .null ∨ X.2.2 = .ref 61) (hp : RdM X T L (d + 9) 170 dd p) (gp : ∀ k, NE (tC T L) k → (p k).1 = 0 → k < (p k).2.1) : RdM X T L (d + 10) 169 dd (pEv (tC T L) L p) := fun k e st h h0 I q M => by
  rw [k_169]
  refine w_sub (g := fun k' o => pLL (tC T L) p 23 17 L k' o) I (by decide) rfl (hp k e st h h0 I q M) (fun h2 I2 M2 z q2 => ?_) (fun h2 I2 M2 z t1 t2 => ?_)
  · refine w_ift (by decide) ?_
    exact c169_9 (d := d) hv hp gp L _ _ h2 (by omega) I2 M2 q2
  · exact w_iff (by decide) (sim_no M2 z t1 t2)
theorem c168_9 {dd e : Nat} {h0 : Hp} {st0 : List Op} {p : Nat → PRes} (hv : X.2.2 = .null ∨ X.2.2 = .ref 61) (hp : RdM X T L (d + 9) 169 dd p) (gp : ∀ k, NE (tC T L) k → (p k).1 = 0 → k < (p k).2.1) : ∀ (f k : Nat) (a : List Op) (h : Hp), L - k ≤ f → Inv h → MFr h0 h → MP T L h k (st0 ++ a) dd e →
    Wp (sem (X, K X (d + 9)) 168 9 [some (.ref 301)] [] h) (VI fun v h' => SimM T L dd e h0 st0 (pLL (tC T L) p 22 18 f k a) v h') := fun f => by
  have tt : ∀ k, Int32.ofNat (mt (tC T L k)) = 4 ↔ tC T L k = 22 := fun k => tok_is tC_vld (vkw (c := 22) (by decide)) rfl
  have done : ∀ (k : Nat) (a : List Op) (h : Hp), tC T L k ≠ 22 → Inv h → MFr h0 h → MP T L h k (st0 ++ a) dd e → Wp (sem (X, K X (d + 9)) 168 9 [some (.ref 301)] [] h) (VI fun v h' => SimM T L dd e h0 st0 (0, k, a) v h') := fun k a h n1 I M q => by
    rw [b_168_9]
    refine w_gI I s_301 ?_
    rw [q.tok]
    refine w_ift (fun z => n1 ((tt k).mp z)) ?_
    exact Wp.reti ⟨M, fun _ => ⟨rfl, q⟩, fun z => absurd rfl z⟩
  induction f with
  | zero =>
    intro k a h hf I M q
    have n : tC T L k = 101 := Classical.byContradiction fun z => by have := tC_lt z; omega
    exact done k a h (by omega) I M q
  | succ f ih =>
    intro k a h hf I M q
    show Wp _ (VI fun v h' => SimM T L dd e h0 st0 (if tC T L k = 22 then bindR (p (k + 1)) fun k' o => pLL (tC T L) p 22 18 f k' (a ++ o ++ [(18, 0)]) else (0, k, a)) v h')
    by_cases e1 : tC T L k = 22
    · rw [if_pos e1, b_168_9]
      have kl := tC_lt (T := T) (L := L) (k := k) (by omega)
      refine w_gI I s_301 ?_
      rw [q.tok]
      refine w_iff (fun z => z ((tt k).mpr e1)) ?_
      refine w_next (d := d + 1) hv I q M (by omega) fun h1 I1 q1 M1 _ => ?_
      refine w_sub (g := fun k' o => pLL (tC T L) p 22 18 f k' (a ++ o ++ [(18, 0)])) I1 (by decide) rfl (hp _ _ _ h1 h0 I1 q1 M1) (fun h2 I2 M2 z q2 => ?_) (fun h2 I2 M2 z t1 t2 => ?_)
      · refine w_ift (by decide) ?_
        refine w_lay (s := 18) (w := 0) (d := d + 8) I2 q2 M2 (by decide) (fun _ => rfl) fun h3 I3 q3 M3 => ?_
        have adv := gp _ q1.2.2.1 z
        refine ih _ (a ++ (p (k + 1)).2.2 ++ [(18, 0)]) h3 (by omega) I3 M3 ?_
        rw [List.append_assoc, List.append_assoc] at q3
        rw [List.append_assoc]; exact q3
      · exact w_iff (by decide) (sim_no M2 z t1 t2)
    · rw [if_neg e1]
      exact done k a h e1 I M q
theorem m_168 {dd B : Nat} {p : Nat → PRes} (hv : X.2.2 = .null ∨ X.2.2 = .ref 61) (hp : RdM X T L (d + 9) 170 dd p) (gp : ∀ k, NE (tC T L) k → Gd (tC T L) B k (p k)) : RdM X T L (d + 11) 168 dd (pAn (tC T L) L p) := fun k e st h h0 I q M => by
  have h169 := m_169 (d := d) hv hp fun k n z => (gp k n z).1
  rw [k_168]
  refine w_sub (g := fun k' o => pLL (tC T L) (pEv (tC T L) L p) 22 18 L k' o) I (by decide) rfl (h169 k e st h h0 I q M) (fun h2 I2 M2 z q2 => ?_) (fun h2 I2 M2 z t1 t2 => ?_)
  · refine w_ift (by decide) ?_
    exact c168_9 (d := d + 1) hv h169 (fun k n z => (gd_ev (N := L) gp n z).1) L _ _ h2 (by omega) I2 M2 q2
  · exact w_iff (by decide) (sim_no M2 z t1 t2)
/-- opens -/
theorem w_opens {k dd e : Nat} {st : List Op} {h0 : Hp} {r : PRes} {st0 : List Op} {dd0 e0 : Nat} {B : Int32 → Hp → Option (Option Value × Hp)} (hv : X.2.2 = .null ∨ X.2.2 = .ref 61) (I : Inv h) (q : MP T L h k st dd e) (M : MFr h0 h) (n : tC T L k ≠ 101) (hd : dd ≤ 8)
    (ok : ∀ h', Inv h' → MFr h0 h' → dd < 8 → MP T L h' (k + 1) st (dd + 1) (e + 1) → Wp (B 1 h') (VI fun v h' => SimM T L dd0 e0 h0 st0 r v h'))
    (no : ∀ h', MFr h0 h' → dd = 8 → hI h' 301 40 = Int32.ofNat 3 → hI h' 301 41 = Int32.ofNat (tP T L k) → Wp (B 0 h') (VI fun v h' => SimM T L dd0 e0 h0 st0 r v h')) :
    Wp (gd (hS h 301 = (12, 0)) (bI (K X (d + 9) 164 [.ref 301] h) B)) (VI fun v h' => SimM T L dd0 e0 h0 st0 r v h') := by
  have q' := q
  obtain ⟨q1, q2, q3, q4, q5, q6, q7⟩ := q'
  refine w_gS I s_301 ?_
  by_cases z : dd = 8
  · refine w_bI (P := fun v h' => SimM T L dd e h0 st (3, k, []) v h') I ?_ (by decide) rfl fun x h1 I1 s => ?_
    · rw [k_164]
      refine w_gI I s_301 ?_
      rw [q7.1]
      refine w_iff (fun y => y (by rw [z]; rfl)) ?_
      exact w_bad (w := 3) (d := d + 7) I q M (by decide) rfl
    · obtain ⟨s1, s2, s3⟩ := s
      obtain ⟨rfl, t1, t2⟩ := s3 (Nat.succ_ne_zero _)
      exact no h1 s1 z t1 t2
  · refine w_bI (P := fun v h' => v = 1 ∧ MFr h0 h' ∧ MP T L h' (k + 1) st (dd + 1) (e + 1)) I ?_ (by decide) rfl fun x h1 I1 s => ?_
    · rw [k_164]
      refine w_gI I s_301 ?_
      rw [q7.1]
      refine w_ift (fun y => z ((i_eq (n := 8) (by omega) (by omega)).mp y)) ?_
      refine w_gI I s_301 ?_
      rw [q7.1, i32_ofNat_succ]
      refine w_fI I s_301 fun I2 => ?_
      have f : ∀ j, j ≠ 43 → hI (sI h 301 43 (Int32.ofNat (dd + 1))) 301 j = hI h 301 j := fun j hj => by rw [hI_sI_self, up1, if_neg hj]
      have qq : MP T L (sI h 301 43 (Int32.ofNat (dd + 1))) k st (dd + 1) e := ⟨⟨by rw [f 35 (by decide)]; exact q1.1, fun j hj => by rw [sI_other (by decide)]; exact q1.2.1 j hj, q1.2.2⟩, ⟨by rw [f 37 (by decide)]; exact q2.1, by rw [f 38 (by decide)]; exact q2.2.1, fun z => by rw [f 39 (by decide)]; exact q2.2.2.1 z, by rw [f 36 (by decide)]; exact q2.2.2.2⟩, q3, by rw [f 33 (by decide)]; exact q4, q5.eo (sI_other (by decide)), q6, by rw [hI_sI_self, up1, if_pos rfl], by rw [f 40 (by decide)]; exact q7.2⟩
      refine w_next (d := d) hv I2 qq (M.set (Or.inr (Or.inr rfl))) n fun h3 I3 q3 M3 _ => ?_
      exact Wp.reti ⟨rfl, M3, q3⟩
    · obtain ⟨rfl, s1, s2⟩ := s
      exact ok h1 I1 s1 (by omega) s2
theorem MP.shut {k dd e : Nat} {st : List Op} (q : MP T L h k st (dd + 1) e) : MP T L (sI h 301 43 (hI h 301 43 - 1)) k st dd e := by
  obtain ⟨q1, q2, q3, q4, q5, q6, q7⟩ := q
  have f : ∀ j, j ≠ 43 → hI (sI h 301 43 (hI h 301 43 - 1)) 301 j = hI h 301 j := fun j hj => by rw [hI_sI_self, up1, if_neg hj]
  refine ⟨⟨by rw [f 35 (by decide)]; exact q1.1, fun j hj => by rw [sI_other (by decide)]; exact q1.2.1 j hj, q1.2.2⟩, ⟨by rw [f 37 (by decide)]; exact q2.1, by rw [f 38 (by decide)]; exact q2.2.1, fun z => by rw [f 39 (by decide)]; exact q2.2.2.1 z, by rw [f 36 (by decide)]; exact q2.2.2.2⟩, q3, by rw [f 33 (by decide)]; exact q4, q5.eo (sI_other (by decide)), q6, ?_, by rw [f 40 (by decide)]; exact q7.2⟩
  rw [hI_sI_self, up1, if_pos rfl, q7.1]
  exact i_sub (m := dd + 1) (n := 1) (by omega)
/-- need -/
theorem m_161 {k t m dd e : Nat} {st : List Op} {h0 : Hp} (hv : X.2.2 = .null ∨ X.2.2 = .ref 61) (I : Inv h) (q : MP T L h k st dd e) (M : MFr h0 h) (ht : vld t) (hm : mt t = m) (n : t ≠ 101) : Wp (K X (d + 9) 161 [.ref 301, .int (Int32.ofNat m)] h) (VI fun v h' => SimM T L dd e h0 st (if tC T L k = t then (0, k + 1, []) else (1, k, [])) v h') := by
  rw [k_161]
  refine w_gI I s_301 ?_
  rw [q.tok]
  refine w_if (fun c => ?_) (fun c => ?_)
  · have e1 := (tok_is tC_vld ht hm).mp c
    rw [if_pos e1]
    refine w_next (d := d) hv I q M (by omega) fun h1 I1 q1 M1 _ => ?_
    exact Wp.reti ⟨M1, fun _ => ⟨rfl, by rw [List.append_nil]; exact q1.wk (by omega)⟩, fun z => absurd rfl z⟩
  · rw [if_neg fun z => c ((tok_is tC_vld ht hm).mpr z)]
    exact w_bad (w := 1) (d := d + 7) I q M (by decide) rfl
/-- a comparison -/
theorem c170_cmp {k dd e : Nat} {st : List Op} {h0 : Hp} {v1 : Option Value} (hv : X.2.2 = .null ∨ X.2.2 = .ref 61) (I : Inv h) (q : MP T L h k st dd e) (M : MFr h0 h) (hv1 : v1 = none) :
    Wp (gd (hS h 301 = (12, 0)) (bI (K X (d + 11) 165 [.ref 301] h) fun r3 h1 => if ¬ r3 = 0 then gI h1 11 301 37 fun g4 => if ¬ g4 = 160 then gI h1 11 301 37 fun g5 => if ¬ g5 = 161 then gI h1 11 301 37 fun g6 => if ¬ g6 = 162 then sem (X, K X (d + 11)) 170 147 [some (.ref 301), v1] [.int (-1)] h1 else sem (X, K X (d + 11)) 170 147 [some (.ref 301), v1] [.int 15] h1 else sem (X, K X (d + 11)) 170 147 [some (.ref 301), v1] [.int 14] h1 else sem (X, K X (d + 11)) 170 147 [some (.ref 301), v1] [.int 13] h1 else some (some (.int 0), h1))) (VI fun v h' => SimM T L dd e h0 st (pCmp (tC T L) (tV T L) L k) v h') := by
  subst hv1
  have vv : ∀ k, vld (tC T L k) := fun k => tC_vld
  refine w_sub (g := fun k1 o1 => if 60 ≤ tC T L k1 ∧ tC T L k1 ≤ 62 then bindR (pSum (tC T L) (tV T L) L (k1 + 1)) fun k2 o2 => (0, k2, o1 ++ o2 ++ [(tC T L k1 - 47, 0)]) else (1, k1, [])) I (by decide) rfl (m_165 (d := d) hv I q M) (fun h1 I1 M1 z q1 => ?_) (fun h1 I1 M1 z t1 t2 => ?_)
  · refine w_ift (by decide) ?_
    generalize (pSum (tC T L) (tV T L) L k).2.1 = k1 at q1 ⊢
    generalize (pSum (tC T L) (tV T L) L k).2.2 = o1 at q1 ⊢
    have tt : ∀ n, 40 ≤ n → n ≤ 62 → (Int32.ofNat (mt (tC T L k1)) = Int32.ofNat (100 + n) ↔ tC T L k1 = n) := fun n h1 h2 => tok_is (vv k1) (vsg ⟨h1, h2⟩) (by unfold mt; rw [if_neg (by omega), if_neg (by omega), if_neg (by omega), if_neg (by omega), if_neg (by omega), if_neg (by omega), if_neg (by omega)])
    have body : ∀ s, 13 ≤ s → s ≤ 15 → tC T L k1 = s + 47 → Wp (sem (X, K X (d + 11)) 170 147 [some (.ref 301), none] [.int (Int32.ofNat s)] h1) (VI fun v h' => SimM T L dd e h0 st (if 60 ≤ tC T L k1 ∧ tC T L k1 ≤ 62 then bindR (pSum (tC T L) (tV T L) L (k1 + 1)) fun k2 o2 => (0, k2, o1 ++ o2 ++ [(tC T L k1 - 47, 0)]) else (1, k1, [])) v h') := fun s hs1 hs2 es => by
      rw [if_pos ⟨by omega, by omega⟩, b_170_147]
      refine w_ift (i_nm1 (by omega)) ?_
      refine w_next (d := d + 3) hv I1 q1 M1 (by omega) fun h2 I2 q2 M2 _ => ?_
      refine w_sub (g := fun k2 o2 => (0, k2, o1 ++ o2 ++ [(tC T L k1 - 47, 0)])) I2 (by decide) rfl (m_165 (d := d) hv I2 q2 M2) (fun h3 I3 M3 z q3 => ?_) (fun h3 I3 M3 z t1 t2 => ?_)
      · refine w_ift (by decide) ?_
        refine w_lay (s := s) (w := 0) (d := d + 10) I3 q3 M3 (by omega) (fun _ => rfl) fun h4 I4 q4 M4 => ?_
        refine Wp.reti ⟨M4, fun _ => ⟨rfl, ?_⟩, fun z => absurd rfl z⟩
        rw [List.append_assoc, List.append_assoc] at q4
        have e47 : tC T L k1 - 47 = s := by omega
        rw [e47, List.append_assoc o1]
        exact q4
      · exact w_iff (by decide) (sim_no M3 z t1 t2)
    refine w_gI I1 s_301 ?_
    rw [q1.tok]
    refine w_if (fun c1 => ?_) (fun c1 => body 13 (by decide) (by decide) ((tt 60 (by decide) (by decide)).mp (Classical.byContradiction c1)))
    refine w_gI I1 s_301 ?_
    rw [q1.tok]
    refine w_if (fun c2 => ?_) (fun c2 => body 14 (by decide) (by decide) ((tt 61 (by decide) (by decide)).mp (Classical.byContradiction c2)))
    refine w_gI I1 s_301 ?_
    rw [q1.tok]
    refine w_if (fun c3 => ?_) (fun c3 => body 15 (by decide) (by decide) ((tt 62 (by decide) (by decide)).mp (Classical.byContradiction c3)))
    have n1 : tC T L k1 ≠ 60 := fun z => c1 ((tt 60 (by decide) (by decide)).mpr z)
    have n2 : tC T L k1 ≠ 61 := fun z => c2 ((tt 61 (by decide) (by decide)).mpr z)
    have n3 : tC T L k1 ≠ 62 := fun z => c3 ((tt 62 (by decide) (by decide)).mpr z)
    rw [if_neg (by omega), b_170_147]
    refine w_iff (by decide) ?_
    exact w_bad (w := 1) (d := d + 10) I1 q1 M1 (by decide) rfl
  · exact w_iff (by decide) (sim_no M1 z t1 t2)
theorem m_170 (hv : X.2.2 = .null ∨ X.2.2 = .ref 61) : ∀ (r dd d : Nat), dd + r = 8 → RdM X T L (d + 3 * r + 12) 170 dd (pOne (tC T L) (tV T L) L r)
  | 0, dd, d, ed => fun k e st h h0 I q M => by
    have vv : vld (tC T L k) := tC_vld
    have t24 : Int32.ofNat (mt (tC T L k)) = 6 ↔ tC T L k = 24 := tok_is vv (vkw (c := 24) (by decide)) rfl
    have t40 : Int32.ofNat (mt (tC T L k)) = 140 ↔ tC T L k = 40 := tok_is vv (vsg (c := 40) ⟨by decide, by decide⟩) rfl
    have p0 : pOne (tC T L) (tV T L) L 0 k = if tC T L k = 24 ∨ tC T L k = 40 then (3, k, []) else pCmp (tC T L) (tV T L) L k := rfl
    rw [p0]
    show Wp (K X (d + 12) 170 [.ref 301] h) _
    rw [k_170]
    refine w_gI I s_301 ?_
    rw [q.tok]
    refine w_if (fun c => ?_) (fun c => ?_)
    · have n24 : tC T L k ≠ 24 := fun z => c (t24.mpr z)
      refine w_gI I s_301 ?_
      rw [q.tok]
      refine w_if (fun c2 => ?_) (fun c2 => ?_)
      · have n40 : tC T L k ≠ 40 := fun z => c2 (t40.mpr z)
        rw [if_neg (by omega)]
        exact c170_cmp (d := d) hv I q M rfl
      · have e40 := t40.mp (Classical.byContradiction c2)
        rw [if_pos (Or.inr e40)]
        refine w_opens (d := d + 2) hv I q M (by omega) (by omega) (fun h' I' M' z q' => absurd z (by omega)) (fun h' M' z t1 t2 => ?_)
        exact w_ift rfl (sim_no M' (by decide) t1 t2)
    · have e24 := t24.mp (Classical.byContradiction c)
      rw [if_pos (Or.inl e24)]
      refine w_opens (d := d + 2) hv I q M (by omega) (by omega) (fun h' I' M' z q' => absurd z (by omega)) (fun h' M' z t1 t2 => ?_)
      exact w_ift rfl (sim_no M' (by decide) t1 t2)
  | r + 1, dd, d, ed => fun k e st h h0 I q M => by
    have ih := m_170 hv r (dd + 1) d (by omega)
    have vv : vld (tC T L k) := tC_vld
    have t24 : Int32.ofNat (mt (tC T L k)) = 6 ↔ tC T L k = 24 := tok_is vv (vkw (c := 24) (by decide)) rfl
    have t40 : Int32.ofNat (mt (tC T L k)) = 140 ↔ tC T L k = 40 := tok_is vv (vsg (c := 40) ⟨by decide, by decide⟩) rfl
    have p0 : pOne (tC T L) (tV T L) L (r + 1) k = if tC T L k = 24 then bindR (pOne (tC T L) (tV T L) L r (k + 1)) fun k' o => (0, k', o ++ [(16, 0)]) else if tC T L k = 40 then bindR (pAn (tC T L) L (pOne (tC T L) (tV T L) L r) (k + 1)) fun k' o => if tC T L k' = 41 then (0, k' + 1, o) else (1, k', []) else pCmp (tC T L) (tV T L) L k := rfl
    have eD : d + 3 * (r + 1) + 12 = (d + 3 * r + 3) + 11 + 1 := by omega
    have ih1 : RdM X T L (d + 3 * r + 3 + 9) 170 (dd + 1) (pOne (tC T L) (tV T L) L r) := ih
    have h168 := m_168 (d := d + 3 * r + 3) (B := 3 + 2 * r) hv ih1 fun k n => gd_one (v := tV T L) (fun k => tV_le) r k n
    rw [p0, eD, k_170]
    refine w_gI I s_301 ?_
    rw [q.tok]
    refine w_if (fun c => ?_) (fun c => ?_)
    · have n24 : tC T L k ≠ 24 := fun z => c (t24.mpr z)
      rw [if_neg n24]
      refine w_gI I s_301 ?_
      rw [q.tok]
      refine w_if (fun c2 => ?_) (fun c2 => ?_)
      · have n40 : tC T L k ≠ 40 := fun z => c2 (t40.mpr z)
        rw [if_neg n40]
        exact c170_cmp (d := d + 3 * r + 3) hv I q M rfl
      · have e40 := t40.mp (Classical.byContradiction c2)
        rw [if_pos e40]
        refine w_opens (d := d + 3 * r + 3 + 2) hv I q M (by omega) (by omega) (fun h1 I1 M1 z q1 => ?_) (fun h' M' z t1 t2 => absurd z (by omega))
        refine w_iff (by decide) ?_
        refine w_sub (g := fun k' o => if tC T L k' = 41 then (0, k' + 1, o) else (1, k', [])) I1 (by decide) rfl (h168 _ _ _ h1 h0 I1 q1 M1) (fun h2 I2 M2 z2 q2 => ?_) (fun h2 I2 M2 z2 t1 t2 => ?_)
        · refine w_iff (by decide) ?_
          generalize (pAn (tC T L) L (pOne (tC T L) (tV T L) L r) (k + 1)).2.1 = k1 at q2 ⊢
          generalize (pAn (tC T L) L (pOne (tC T L) (tV T L) L r) (k + 1)).2.2 = o1 at q2 ⊢
          refine w_gS I2 s_301 ?_
          refine w_bI I2 (m_161 (d := d + 3 * r + 3 + 2) (t := 41) (m := 141) (h0 := h0) hv I2 q2 M2 (vsg ⟨by decide, by decide⟩) rfl (by decide)) (by decide) rfl fun x h3 I3 s => ?_
          obtain ⟨s1, s2, s3⟩ := s
          by_cases e41 : tC T L k1 = 41
          · rw [if_pos e41] at s2 s3 ⊢
            obtain ⟨rfl, q3⟩ := s2 rfl
            rw [List.append_nil] at q3
            refine w_ift (by decide) ?_
            refine w_gI I3 s_301 ?_
            refine w_fI I3 s_301 fun I4 => ?_
            exact Wp.reti ⟨s1.set (Or.inr (Or.inr rfl)), fun _ => ⟨rfl, q3.shut.wk (by omega)⟩, fun z => absurd rfl z⟩
          · rw [if_neg e41] at s2 s3 ⊢
            obtain ⟨rfl, t1, t2⟩ := s3 (Nat.succ_ne_zero _)
            exact w_iff (by decide) (sim_no s1 (by decide) t1 t2)
        · exact w_ift rfl (sim_no M2 z2 t1 t2)
    · have e24 := t24.mp (Classical.byContradiction c)
      rw [if_pos e24]
      refine w_opens (d := d + 3 * r + 3 + 2) hv I q M (by omega) (by omega) (fun h1 I1 M1 z q1 => ?_) (fun h' M' z t1 t2 => absurd z (by omega))
      refine w_iff (by decide) ?_
      have ih2 : RdM X T L (d + 3 * r + 3 + 11) 170 (dd + 1) (pOne (tC T L) (tV T L) L r) := by
        have := m_170 hv r (dd + 1) (d + 2) (by omega)
        have e2 : d + 2 + 3 * r + 12 = d + 3 * r + 3 + 11 := by omega
        rw [e2] at this
        exact this
      refine w_sub (g := fun k' o => (0, k', o ++ [(16, 0)])) I1 (by decide) rfl (ih2 _ _ _ h1 h0 I1 q1 M1) (fun h2 I2 M2 z2 q2 => ?_) (fun h2 I2 M2 z2 t1 t2 => ?_)
      · refine w_ift (by decide) ?_
        refine w_gI I2 s_301 ?_
        refine w_fI I2 s_301 fun I3 => ?_
        refine w_lay (s := 16) (w := 0) (d := d + 3 * r + 3 + 10) I3 q2.shut (M2.set (Or.inr (Or.inr rfl))) (by decide) (fun _ => rfl) fun h4 I4 q4 M4 => ?_
        refine Wp.reti ⟨M4, fun _ => ⟨rfl, ?_⟩, fun z => absurd rfl z⟩
        rw [List.append_assoc] at q4
        exact q4
      · exact w_iff (by decide) (sim_no M2 z2 t1 t2)
/-- any -/
theorem m_any (hv : X.2.2 = .null ∨ X.2.2 = .ref 61) : RdM X T L (d + 38) 168 0 (pAny (tC T L) (tV T L) L) := by
  have h := m_170 (X := X) (T := T) (L := L) hv 8 0 d rfl
  have e : d + 3 * 8 + 12 = d + 27 + 9 := by omega
  rw [e] at h
  exact m_168 (d := d + 27) (B := 3 + 2 * 8) hv h fun k n => gd_one (v := tV T L) (fun k => tV_le) 8 k n
end MY
