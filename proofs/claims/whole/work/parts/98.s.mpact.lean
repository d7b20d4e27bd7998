/-! TEXT: the model reads lines of a PACT -/
def lowP (a j : Nat) : Prop := ((a = 326 ∨ a = 328 ∨ a = 330 ∨ a = 331) ∧ j < 36) ∨ (a = 327 ∧ j < 720) ∨ (a = 329 ∧ j < 216) ∨ (a = 317 ∧ j < 7320)
def FrP (h0 h : Hp) : Prop := Eo (fun a => a = 301 ∨ a = 317 ∨ (326 ≤ a ∧ a ≤ 331)) h0 h ∧ (∀ k, ¬ (k = 33 ∨ k = 34 ∨ (36 ≤ k ∧ k ≤ 41) ∨ k = 43) → hI h 301 k = hI h0 301 k) ∧ (∀ a j, lowP a j → hI h a j = hI h0 a j) ∧ (okN .boolean (hI h0 331 36) → okN .boolean (hI h 331 36))
theorem FrP.rf {h : Hp} : FrP h h := ⟨Eo.rf, fun _ _ => rfl, fun _ _ _ => rfl, id⟩
theorem FrP.mf {h0 h h' : Hp} (a : FrP h0 h) (b : MFr h h') : FrP h0 h' := ⟨a.1.tr (b.1.wk fun x z => by omega), fun k hk => (b.2.1 k (by omega)).trans (a.2.1 k hk), fun x j hj => by
  by_cases e : x = 317
  · rw [e] at hj ⊢
    rw [b.2.2 j (by unfold lowP at hj; omega)]; exact a.2.2.1 317 j hj
  · rw [b.1.i (show ¬ (x = 301 ∨ x = 317) by unfold lowP at hj; omega)]; exact a.2.2.1 x j hj, fun z => by rw [b.1.i (by decide)]; exact a.2.2.2 z⟩
theorem FrP.w {h0 h : Hp} {a j : Nat} {v : Int32} (f : FrP h0 h) (ha : 326 ≤ a ∧ a ≤ 331) (hj : ¬ lowP a j) (hb : a = 331 → okN .boolean v := by first | exact fun z => absurd z (by decide) | exact fun _ => by decide) : FrP h0 (sI h a j v) := ⟨f.1.kI (Or.inr (Or.inr ha)), fun k hk => by rw [sI_other (by omega)]; exact f.2.1 k hk, fun x i hi => by
  by_cases e : x = a
  · subst e
    rw [hI_sI_self, up1, if_neg (fun z : i = j => hj (z ▸ hi))]; exact f.2.2.1 x i hi
  · rw [sI_other e]; exact f.2.2.1 x i hi, fun z => by
  by_cases e : a = 331
  · subst e
    rw [hI_sI_self, up1]
    split
    · exact hb rfl
    · exact f.2.2.2 z
  · rw [sI_other (fun w => e w.symm)]; exact f.2.2.2 z⟩
theorem FrP.s {h0 h : Hp} {j : Nat} {v : Int32} (f : FrP h0 h) (hj : j = 33 ∨ j = 34 ∨ (36 ≤ j ∧ j ≤ 41) ∨ j = 43) : FrP h0 (sI h 301 j v) := ⟨f.1.kI (Or.inl rfl), fun k hk => by rw [hI_sI_self, up1, if_neg (by omega)]; exact f.2.1 k hk, fun x i hi => by rw [sI_other (by unfold lowP at hi; omega)]; exact f.2.2.1 x i hi, fun z => by rw [sI_other (by decide)]; exact f.2.2.2 z⟩
def topV : Option Nat → Int32
  | none => -1
  | some v => Int32.ofNat v
def MRowQ (h : Hp) (m : Nat) (S : PSt) : Prop := hI h 301 34 = Int32.ofNat m ∧ hI h 326 36 = Int32.ofNat S.2.1.length ∧ mTst h 36 0 S.2.1 ∧ (∀ k, k < 6 → bt (hI h 328 36) k = S.2.2.1 k) ∧ (∀ k, k < 6 → hI h 329 (216 + k) = topV (S.2.2.2.1 k)) ∧ hI h 330 36 = (if S.2.2.2.2.1 = 0 then -1 else Int32.ofNat S.2.2.2.2.1) ∧ hI h 331 36 = bi S.2.2.2.2.2
def MLq (T : Nat → Nat) (L : Nat) (h0 h : Hp) (k n : Nat) (S : PSt) : Prop := (∃ dd, MP T L h k [] dd 0) ∧ MRowQ h n S ∧ FrP h0 h ∧ hI h 301 45 = 1
def SimP (T : Nat → Nat) (L : Nat) (h0 : Hp) (n : Nat) (r : QRes) (v : Int32) (h : Hp) : Prop := FrP h0 h ∧ (r.1 = 0 → v = 1 ∧ MLq T L h0 h r.2.1 n r.2.2) ∧ (r.1 ≠ 0 → v = 0 ∧ hI h 301 40 = Int32.ofNat r.1 ∧ hI h 301 41 = Int32.ofNat (tP T L r.2.1))
theorem MRowQ.eo {h h' : Hp} {m : Nat} {S : PSt} (q : MRowQ h m S) (e : ∀ a, 326 ≤ a → a ≤ 331 → hI h' a = hI h a) (e1 : hI h' 301 34 = hI h 301 34) : MRowQ h' m S := by
  obtain ⟨q1, q2, q3, q4, q5, q6, q7⟩ := q
  exact ⟨by rw [e1]; exact q1, by rw [e 326 (by decide) (by decide)]; exact q2, q3.eo (e 327 (by decide) (by decide)), by rw [e 328 (by decide) (by decide)]; exact q4, by rw [e 329 (by decide) (by decide)]; exact q5, by rw [e 330 (by decide) (by decide)]; exact q6, by rw [e 331 (by decide) (by decide)]; exact q7⟩
theorem mTst.sn {h h' : Hp} {p t : Nat} : ∀ {ts : List Nat} {j : Nat}, mTst h p j ts → (∀ i, i < j + ts.length → hI h' 327 (20 * p + i) = hI h 327 (20 * p + i)) → hI h' 327 (20 * p + (j + ts.length)) = Int32.ofNat (t + 1) → mTst h' p j (ts ++ [t])
  | [], _, _, _, e1 => ⟨e1, trivial⟩
  | n :: r, j, q, e, e1 => by
    have l : j + (n :: r).length = j + 1 + r.length := by rw [List.length_cons]; omega
    rw [l] at e e1
    exact ⟨by rw [e j (by omega)]; exact q.1, mTst.sn q.2 e e1⟩
theorem mt_k0 : ∀ v, v < 300 → (decide (¬ Int32.ofNat v - 40 < 0 ∧ ¬ (5 : Int32) < Int32.ofNat v - 40) = decide (40 ≤ v ∧ v ≤ 45)) := by decide +kernel
section MQ
variable {X : Ctx} {d : Nat} {Q : Option Value → Hp → Prop} {T : Nat → Nat} {L : Nat} {h0 h : Hp}
theorem MLq.mf {k k' n dd e : Nat} {S : PSt} {h' : Hp} (q : MLq T L h0 h k n S) (f : MFr h h') (p : MP T L h' k' [] dd e) : MLq T L h0 h' k' n S := ⟨⟨dd, p.wk (Nat.zero_le _)⟩, q.2.1.eo (fun a h1 h2 => f.1.i (by omega)) (f.2.1 34 (by omega)), q.2.2.1.mf f, by rw [f.2.1 45 (by omega)]; exact q.2.2.2⟩
theorem w_nextQ {k n : Nat} {S : PSt} {f : Hp → Option (Option Value × Hp)} (hv : X.2.2 = .null ∨ X.2.2 = .ref 61) (I : Inv h) (q : MLq T L h0 h k n S) (nn : tC T L k ≠ 101) (kk : ∀ h', Inv h' → MLq T L h0 h' (k + 1) n S → Wp (f h') Q) : Wp (gd (hS h 301 = (12, 0)) (bV (K X (d + 8) 159 [.ref 301] h) f)) Q := by
  obtain ⟨dd, p⟩ := q.1
  exact w_next (h0 := h) hv I p MFr.rf nn fun h' I' p' M _ => kk h' I' (q.mf M p')
theorem w_badP {k w n : Nat} {S S' : PSt} {r : QRes} (I : Inv h) (q : MLq T L h0 h k n S) (hw : w ≠ 0) (hr : r = (w, k, S')) : Wp (gd (hS h 301 = (12, 0)) (bI (K X (d + 1) 160 [.ref 301, .int (Int32.ofNat w)] h) fun r2 h2 => gd (okN .boolean r2) (some (some (.int r2), h2)))) (VI fun v h' => SimP T L h0 n r v h') := by
  obtain ⟨dd, p⟩ := q.1
  subst hr
  refine w_gS I s_301 ?_
  refine w_bI I (m_bad (w := w) (d := d) (h0 := h) (st0 := []) I p MFr.rf hw) (by decide) rfl fun x h2 I2 s => ?_
  obtain ⟨rfl, t1, t2⟩ := s.2.2 hw
  exact w_gd (by decide) (Wp.reti ⟨q.2.2.1.mf s.1, fun z => absurd z hw, fun _ => ⟨rfl, t1, t2⟩⟩)
/-- the line ends -/
theorem w_tailQ {k n : Nat} {S : PSt} (hv : X.2.2 = .null ∨ X.2.2 = .ref 61) (I : Inv h) (q : MLq T L h0 h k n S) : Wp (gI h 11 301 34 fun g1 => fI h 11 301 34 (g1 + 1) fun h1 => gd (hS h1 301 = (12, 0)) (bI (K X (d + 9) 161 [.ref 301, .int 159] h1) fun r2 h2 => gd (okN .boolean r2) (some (some (.int r2), h2)))) (VI fun v h' => SimP T L h0 (n + 1) (eQ (tC T L) (0, k, S)) v h') := by
  obtain ⟨⟨dd, q1⟩, q2, q3, q4⟩ := q
  refine w_gI I s_301 ?_
  rw [q2.1, i32_ofNat_succ]
  refine w_fI I s_301 fun I1 => ?_
  have p1 := q1.s (j := 34) (v := Int32.ofNat (n + 1)) (by omega)
  have R1 : MRowQ (sI h 301 34 (Int32.ofNat (n + 1))) (n + 1) S := by
    obtain ⟨r1, r2, r3, r4, r5, r6, r7⟩ := q2
    have o : ∀ a, a ≠ 301 → hI (sI h 301 34 (Int32.ofNat (n + 1))) a = hI h a := fun a ha => sI_other ha
    exact ⟨by rw [hI_sI_self, up1, if_pos rfl], by rw [o 326 (by decide)]; exact r2, r3.eo (o _ (by decide)), by rw [o 328 (by decide)]; exact r4, by rw [o 329 (by decide)]; exact r5, by rw [o 330 (by decide)]; exact r6, by rw [o 331 (by decide)]; exact r7⟩
  refine w_gS I1 s_301 ?_
  refine w_bI I1 (m_161 (d := d) (t := 59) (m := 159) (h0 := sI h 301 34 (Int32.ofNat (n + 1))) hv I1 p1 MFr.rf (vsg ⟨by decide, by decide⟩) rfl (by decide)) (by decide) rfl fun x h2 I2 s => ?_
  have q5 : MLq T L h0 (sI h 301 34 (Int32.ofNat (n + 1))) k (n + 1) S := ⟨⟨dd, p1⟩, R1, q3.s (by omega), by rw [hI_sI_self, up1, if_neg (by decide)]; exact q4⟩
  obtain ⟨s1, s2, s3⟩ := s
  have e : eQ (tC T L) (0, k, S) = if tC T L k = 59 then (0, k + 1, S) else (1, k, S) := rfl
  rw [e]
  by_cases z : tC T L k = 59
  · rw [if_pos z] at s2 s3 ⊢
    obtain ⟨rfl, p2⟩ := s2 rfl
    have q6 := q5.mf s1 p2
    exact w_gd (by decide) (Wp.reti ⟨q6.2.2.1, fun _ => ⟨rfl, q6⟩, fun y => absurd rfl y⟩)
  · rw [if_neg z] at s2 s3 ⊢
    obtain ⟨rfl, t1, t2⟩ := s3 (Nat.succ_ne_zero _)
    exact w_gd (by decide) (Wp.reti ⟨q5.2.2.1.mf s1, fun y => absurd y (Nat.succ_ne_zero _), fun _ => ⟨rfl, t1, t2⟩⟩)
theorem eQ_z {c : Nat → Nat} {r : QRes} (h : r.1 = 0) : eQ c r = eQ c (0, r.2.1, r.2.2) := by
  obtain ⟨a, b⟩ := r
  have h : a = 0 := h
  subst h; rfl
theorem eQ_n {c : Nat → Nat} {r : QRes} (h : r.1 ≠ 0) : eQ c r = r := if_neg h
/-- only, top: which kind; token k is the kind -/
def pOnl (c : Nat → Nat) (k : Nat) (S : PSt) : QRes := if 8 ≤ c k ∧ c k ≤ 13 then (if S.2.2.1 (c k - 8) = true then (3, k, S) else (0, k + 1, (S.1 + 1, S.2.1, qO S (c k - 8), S.2.2.2))) else (1, k, S)
def pTop (c v : Nat → Nat) (k : Nat) (S : PSt) : QRes := if 8 ≤ c k ∧ c k ≤ 13 then (if (S.2.2.2.1 (c k - 8)).isSome = true then (3, k, S) else if c (k + 1) = 100 then (if v (k + 1) ≤ 100 then (0, k + 2, (S.1 + 1, S.2.1, S.2.2.1, qT S (c k - 8) (v (k + 1)), S.2.2.2.2)) else (2, k + 1, S)) else (1, k + 1, S)) else (1, k, S)
theorem kind_t {k : Nat} : decide (¬ Int32.ofNat (mt (tC T L k)) - 40 < 0 ∧ ¬ (5 : Int32) < Int32.ofNat (mt (tC T L k)) - 40) = decide (8 ≤ tC T L k ∧ tC T L k ≤ 13) := by
  have vv : vld (tC T L k) := tC_vld
  have rg := (mt_rng _ (vld_lt vv) vv).2.1
  rw [mt_k0 _ (mt_lt _ (vld_lt vv))]
  by_cases y : 8 ≤ tC T L k ∧ tC T L k ≤ 13
  · rw [decide_eq_true y, decide_eq_true (rg.mpr y)]
  · rw [decide_eq_false y, decide_eq_false fun z => y (rg.mp z)]
theorem m_176o {k n : Nat} {S : PSt} (hv : X.2.2 = .null ∨ X.2.2 = .ref 61) (I : Inv h) (q : MLq T L h0 h k n S) : Wp (K X (d + 10) 176 [.ref 301, .int 6] h) (VI fun v h' => SimP T L h0 n (pOnl (tC T L) k S) v h') := by
  obtain ⟨dd, p⟩ := q.1
  rw [k_176]
  refine w_gI I s_301 ?_
  rw [p.tok]
  refine w_eI m_142 ?_
  rw [kind_t]
  unfold pOnl
  by_cases y : 8 ≤ tC T L k ∧ tC T L k ≤ 13
  · rw [if_pos y, decide_eq_true y, tk_k y]
    refine w_iff (by decide) ?_
    refine w_iff (by decide) ?_
    refine w_gL I s_301 l_301_26 ?_
    refine w_aIn (m := 36) I s_328 (by decide) (by decide) ?_
    rw [shr_bt (by omega), q.2.1.2.2.2.1 _ (by omega)]
    by_cases z : S.2.2.1 (tC T L k - 8) = true
    · rw [if_pos z, z]
      refine w_iff (by decide) ?_
      rw [b_176_60]
      refine w_iff (by decide) ?_
      exact w_badP (w := 3) (d := d + 8) I q (by decide) rfl
    · have zf : S.2.2.1 (tC T L k - 8) = false := by cases hb : S.2.2.1 (tC T L k - 8); rfl; exact absurd hb z
      rw [if_neg z, zf]
      refine w_ift (by decide) ?_
      rw [b_176_60]
      refine w_ift rfl ?_
      refine w_gS I s_301 ?_
      refine w_bI I (m_171 (d := d) (h0 := h) hv I p MFr.rf) (by decide) rfl fun x h1 I1 s => ?_
      rw [if_pos y] at s
      obtain ⟨rfl, p1⟩ := s.2.1 rfl
      have q1 := q.mf s.1 p1
      refine w_ift (by decide) ?_
      refine w_iff (by decide) ?_
      refine w_gL I1 s_301 l_301_26 ?_
      refine w_aIn (m := 36) I1 s_328 (by decide) (by decide) ?_
      refine w_wIn (m := 36) I1 s_328 (by decide) (by decide) fun I2 => ?_
      obtain ⟨⟨d1, p1⟩, ⟨r1, r2, r3, r4, r5, r6, r7⟩, F1, f1⟩ := q1
      have o : ∀ a, a ≠ 328 → hI (sI h1 328 36 (hI h1 328 36 ||| 1 <<< (Int32.ofNat (tC T L k - 8) &&& 31))) a = hI h1 a := fun a ha => sI_other ha
      have F2 := F1.w (a := 328) (j := 36) (v := hI h1 328 36 ||| 1 <<< (Int32.ofNat (tC T L k - 8) &&& 31)) (by decide) (by unfold lowP; omega)
      refine Wp.reti ⟨F2, fun _ => ⟨rfl, ⟨d1, p1.w (by decide) (by decide) (by decide)⟩, ⟨by rw [o 301 (by decide)]; exact r1, by rw [o 326 (by decide)]; exact r2, r3.eo (o _ (by decide)), fun j hj => ?_, by rw [o 329 (by decide)]; exact r5, by rw [o 330 (by decide)]; exact r6, by rw [o 331 (by decide)]; exact r7⟩, F2, by rw [o 301 (by decide)]; exact f1⟩, fun w => absurd rfl w⟩
      rw [hI_sI_self, up1, if_pos rfl, bt_set (by omega) (by omega), r4 j hj]; rfl
  · rw [if_neg y, decide_eq_false y]
    refine w_ift rfl ?_
    rw [b_176_60]
    refine w_ift rfl ?_
    refine w_gS I s_301 ?_
    refine w_bI I (m_171 (d := d) (h0 := h) hv I p MFr.rf) (by decide) rfl fun x h1 I1 s => ?_
    rw [if_neg y] at s
    obtain ⟨rfl, t1, t2⟩ := s.2.2 (Nat.succ_ne_zero _)
    exact w_iff (by decide) (Wp.reti ⟨q.2.2.1.mf s.1, fun z => absurd z (Nat.succ_ne_zero _), fun _ => ⟨rfl, t1, t2⟩⟩)
theorem m_176t {k n : Nat} {S : PSt} (hv : X.2.2 = .null ∨ X.2.2 = .ref 61) (I : Inv h) (q : MLq T L h0 h k n S) (ok : okPS S) : Wp (K X (d + 10) 176 [.ref 301, .int 7] h) (VI fun v h' => SimP T L h0 n (pTop (tC T L) (tV T L) k S) v h') := by
  obtain ⟨dd, p⟩ := q.1
  rw [k_176]
  refine w_gI I s_301 ?_
  rw [p.tok]
  refine w_eI m_142 ?_
  rw [kind_t]
  unfold pTop
  by_cases y : 8 ≤ tC T L k ∧ tC T L k ≤ 13
  · rw [if_pos y, decide_eq_true y, tk_k y]
    refine w_iff (by decide) ?_
    refine w_ift (by decide) ?_
    refine w_gL I s_301 l_301_27 ?_
    have x216 : (216 : Int32) + Int32.ofNat (tC T L k - 8) = Int32.ofNat (216 + (tC T L k - 8)) := i_add 216 _
    rw [x216]
    refine w_aIn I s_329 (by omega) (by decide) ?_
    rw [q.2.1.2.2.2.2.1 _ (by omega)]
    have okt := ok.2.2.2.1 (tC T L k - 8)
    by_cases z : (S.2.2.2.1 (tC T L k - 8)).isSome = true
    · rw [if_pos z]
      cases hs : S.2.2.2.1 (tC T L k - 8) with
      | none => rw [hs] at z; cases z
      | some t =>
        rw [hs] at okt
        have okt : t ≤ 100 := okt
        refine w_iff (i_nm1 (show t < 2147483648 by omega)) ?_
        rw [b_176_60]
        refine w_iff (by decide) ?_
        exact w_badP (w := 3) (d := d + 8) I q (by decide) rfl
    · have zf : S.2.2.2.1 (tC T L k - 8) = none := by
        cases hs : S.2.2.2.1 (tC T L k - 8) with
        | none => rfl
        | some t => exact absurd (by rw [hs]; rfl) z
      rw [if_neg z, zf]
      refine w_ift rfl ?_
      rw [b_176_60]
      refine w_ift rfl ?_
      refine w_gS I s_301 ?_
      refine w_bI I (m_171 (d := d) (h0 := h) hv I p MFr.rf) (by decide) rfl fun x h1 I1 s => ?_
      rw [if_pos y] at s
      obtain ⟨rfl, p1⟩ := s.2.1 rfl
      have q1 := q.mf s.1 p1
      refine w_ift (by decide) ?_
      refine w_ift (by decide) ?_
      refine w_gL I1 s_301 l_301_27 ?_
      refine w_gI I1 s_301 ?_
      rw [x216]
      refine w_wIn I1 s_329 (by omega) (by decide) fun I2 => ?_
      obtain ⟨⟨d1, p1⟩, ⟨r1, r2, r3, r4, r5, r6, r7⟩, F1, f1⟩ := q1
      have v39 : tC T L (k + 1) = 100 → hI h1 301 39 = Int32.ofNat (tV T L (k + 1)) := fun z => p1.num z
      have p2 := p1.w (a := 329) (j := 216 + (tC T L k - 8)) (v := hI h1 301 39) (by decide) (by decide) (by decide)
      have F2 := F1.w (a := 329) (j := 216 + (tC T L k - 8)) (v := hI h1 301 39) (by decide) (by unfold lowP; omega)
      have o : ∀ a, a ≠ 329 → hI (sI h1 329 (216 + (tC T L k - 8)) (hI h1 301 39)) a = hI h1 a := fun a ha => sI_other ha
      have g329 : hI (sI h1 329 (216 + (tC T L k - 8)) (hI h1 301 39)) 329 = up1 (hI h1 329) (216 + (tC T L k - 8)) (hI h1 301 39) := hI_sI_self
      generalize sI h1 329 (216 + (tC T L k - 8)) (hI h1 301 39) = g at *
      refine w_gS I2 s_301 ?_
      refine w_bI I2 (m_162 (d := d) (lo := 0) (hi := 100) (h0 := g) hv I2 p2 MFr.rf (by decide) (by decide)) (by decide) rfl fun x h3 I3 t => ?_
      obtain ⟨t1, t2, t3⟩ := t
      unfold pNum at t2 t3
      by_cases w : tC T L (k + 1) = 100
      · rw [if_pos w] at t2 t3 ⊢
        by_cases w2 : tV T L (k + 1) ≤ 100
        · rw [if_pos (show 0 ≤ tV T L (k + 1) ∧ tV T L (k + 1) ≤ 100 from ⟨Nat.zero_le _, w2⟩)] at t2 t3
          rw [if_pos w2]
          obtain ⟨rfl, p3⟩ := t2 rfl
          have i3 : ∀ a, 326 ≤ a → a ≤ 331 → hI h3 a = hI g a := fun a h1 h2 => t1.1.i (by omega)
          refine w_gd (by decide) (Wp.reti ⟨F2.mf t1, fun _ => ⟨rfl, ⟨_, p3⟩, ⟨by rw [t1.2.1 34 (by omega), o 301 (by decide)]; exact r1, by rw [i3 326 (by decide) (by decide), o 326 (by decide)]; exact r2, r3.eo (by rw [i3 327 (by decide) (by decide), o 327 (by decide)]), by rw [i3 328 (by decide) (by decide), o 328 (by decide)]; exact r4, fun j hj => ?_, by rw [i3 330 (by decide) (by decide), o 330 (by decide)]; exact r6, by rw [i3 331 (by decide) (by decide), o 331 (by decide)]; exact r7⟩, F2.mf t1, by rw [t1.2.1 45 (by omega), o 301 (by decide)]; exact f1⟩, fun w => absurd rfl w⟩)
          rw [i3 329 (by decide) (by decide), g329, up1]
          show _ = topV (qT S (tC T L k - 8) (tV T L (k + 1)) j)
          unfold qT
          by_cases u : j = tC T L k - 8
          · rw [if_pos (by omega), if_pos u, v39 w]; rfl
          · rw [if_neg (by omega), if_neg u]; exact r5 j hj
        · rw [if_neg (show ¬ (0 ≤ tV T L (k + 1) ∧ tV T L (k + 1) ≤ 100) from fun u => w2 u.2)] at t2 t3
          rw [if_neg w2]
          obtain ⟨rfl, u1, u2⟩ := t3 (Nat.succ_ne_zero _)
          exact w_gd (by decide) (Wp.reti ⟨F2.mf t1, fun z => absurd z (Nat.succ_ne_zero _), fun _ => ⟨rfl, u1, u2⟩⟩)
      · rw [if_neg w] at t2 t3 ⊢
        obtain ⟨rfl, u1, u2⟩ := t3 (Nat.succ_ne_zero _)
        exact w_gd (by decide) (Wp.reti ⟨F2.mf t1, fun z => absurd z (Nat.succ_ne_zero _), fun _ => ⟨rfl, u1, u2⟩⟩)
  · rw [if_neg y, decide_eq_false y]
    refine w_ift rfl ?_
    rw [b_176_60]
    refine w_ift rfl ?_
    refine w_gS I s_301 ?_
    refine w_bI I (m_171 (d := d) (h0 := h) hv I p MFr.rf) (by decide) rfl fun x h1 I1 s => ?_
    rw [if_neg y] at s
    obtain ⟨rfl, t1, t2⟩ := s.2.2 (Nat.succ_ne_zero _)
    exact w_iff (by decide) (Wp.reti ⟨q.2.2.1.mf s.1, fun z => absurd z (Nat.succ_ne_zero _), fun _ => ⟨rfl, t1, t2⟩⟩)
end MQ
