/-! TEXT: lines of a PACT, purely -/
abbrev PSt : Type := Nat × List Nat × (Nat → Bool) × (Nat → Option Nat) × Nat × Bool
abbrev QRes : Type := Nat × Nat × PSt
def qO (S : PSt) (x : Nat) : Nat → Bool := fun k => S.2.2.1 k || decide (k = x)
def qT (S : PSt) (x v : Nat) : Nat → Option Nat := fun k => if k = x then some v else S.2.2.2.1 k
section PQ
variable (c v : Nat → Nat)
def pQb (k : Nat) (S : PSt) : QRes :=
  if c k = 25 then (if c (k + 1) ≤ 3 then (0, k + 2, (S.1 + 1, S.2.1 ++ [c (k + 1)], S.2.2)) else (1, k + 1, S))
  else if c k = 26 then (if 8 ≤ c (k + 1) ∧ c (k + 1) ≤ 13 then (if S.2.2.1 (c (k + 1) - 8) = true then (3, k + 1, S) else (0, k + 2, (S.1 + 1, S.2.1, qO S (c (k + 1) - 8), S.2.2.2))) else (1, k + 1, S))
  else if c k = 27 then (if 8 ≤ c (k + 1) ∧ c (k + 1) ≤ 13 then (if (S.2.2.2.1 (c (k + 1) - 8)).isSome = true then (3, k + 1, S) else if c (k + 2) = 100 then (if v (k + 2) ≤ 100 then (0, k + 3, (S.1 + 1, S.2.1, S.2.2.1, qT S (c (k + 1) - 8) (v (k + 2)), S.2.2.2.2)) else (2, k + 2, S)) else (1, k + 2, S)) else (1, k + 1, S))
  else if c k = 18 then (if c (k + 1) = 21 ∨ c (k + 1) = 16 then (0, k + 2, (S.1 + 1, S.2.1, S.2.2.1, S.2.2.2.1, rlV (c (k + 1)), S.2.2.2.2.2)) else (1, k + 1, S))
  else (0, k + 1, (S.1 + 1, S.2.1, S.2.2.1, S.2.2.2.1, S.2.2.2.2.1, true))
def pQ0 (k : Nat) (S : PSt) : QRes := if c k = 18 ∨ (25 ≤ c k ∧ c k ≤ 28) then (if 20 ≤ S.1 then (3, k, S) else if (c k = 18 ∧ S.2.2.2.2.1 ≠ 0) ∨ (c k = 28 ∧ S.2.2.2.2.2 = true) then (3, k, S) else pQb c v k S) else (1, k, S)
def eQ (r : QRes) : QRes := if r.1 = 0 then (if c r.2.1 = 59 then (0, r.2.1 + 1, r.2.2) else (1, r.2.1, r.2.2)) else r
def pQw : Nat → Nat → PSt → QRes
  | 0, k, S => (0, k, S)
  | f + 1, k, S => if c k = 101 then (0, k, S) else if (eQ c (pQ0 c v k S)).1 = 0 then pQw f (eQ c (pQ0 c v k S)).2.1 (eQ c (pQ0 c v k S)).2.2 else eQ c (pQ0 c v k S)
end PQ
def pactOf (S : PSt) : APact := (S.2.1, S.2.2.1, fun k => (S.2.2.2.1 k).getD 100, S.2.2.2.2.1, S.2.2.2.2.2)
def okPS (S : PSt) : Prop := S.2.1.length ≤ S.1 ∧ S.1 ≤ 20 ∧ (∀ t, t ∈ S.2.1 → t ≤ 3) ∧ (∀ k, (S.2.2.2.1 k).getD 100 ≤ 100) ∧ S.2.2.2.2.1 ≤ 2
theorem okPS.okP {S : PSt} (q : okPS S) : okP (pactOf S) := ⟨⟨by have := q.1; have := q.2.1; show S.2.1.length ≤ 20; omega, q.2.2.1⟩, q.2.2.2.1, q.2.2.2.2⟩
def GdQ (k : Nat) (S : PSt) (r : QRes) : Prop := r.1 = 0 → k < r.2.1 ∧ okPS r.2.2 ∧ r.2.2.1 = S.1 + 1
section PQF
variable {c v : Nat → Nat}
theorem gd_qb {k : Nat} {S : PSt} (q : okPS S) (hl : S.1 < 20) : GdQ k S (pQb c v k S) := fun h => by
  obtain ⟨q1, q2, q3, q4, q5⟩ := q
  unfold pQb at h ⊢
  by_cases a1 : c k = 25
  · rw [if_pos a1] at h ⊢
    by_cases b1 : c (k + 1) ≤ 3
    · rw [if_pos b1]
      refine ⟨by show k < k + 2; omega, ⟨?_, by show S.1 + 1 ≤ 20; omega, fun t ht => ?_, q4, q5⟩, rfl⟩
      · show (S.2.1 ++ [c (k + 1)]).length ≤ S.1 + 1
        rw [List.length_append]; show S.2.1.length + 1 ≤ S.1 + 1; omega
      · have ht : t ∈ S.2.1 ++ [c (k + 1)] := ht
        rcases List.mem_append.mp ht with z | z
        · exact q3 t z
        · rw [List.mem_singleton.mp z]; exact b1
    · rw [if_neg b1] at h; cases h
  · rw [if_neg a1] at h ⊢
    by_cases a2 : c k = 26
    · rw [if_pos a2] at h ⊢
      by_cases b1 : 8 ≤ c (k + 1) ∧ c (k + 1) ≤ 13
      · rw [if_pos b1] at h ⊢
        by_cases b2 : S.2.2.1 (c (k + 1) - 8) = true
        · rw [if_pos b2] at h; cases h
        · rw [if_neg b2]
          exact ⟨by show k < k + 2; omega, ⟨by show S.2.1.length ≤ S.1 + 1; omega, by show S.1 + 1 ≤ 20; omega, q3, q4, q5⟩, rfl⟩
      · rw [if_neg b1] at h; cases h
    · rw [if_neg a2] at h ⊢
      by_cases a3 : c k = 27
      · rw [if_pos a3] at h ⊢
        by_cases b1 : 8 ≤ c (k + 1) ∧ c (k + 1) ≤ 13
        · rw [if_pos b1] at h ⊢
          by_cases b2 : (S.2.2.2.1 (c (k + 1) - 8)).isSome = true
          · rw [if_pos b2] at h; cases h
          · rw [if_neg b2] at h ⊢
            by_cases b3 : c (k + 2) = 100
            · rw [if_pos b3] at h ⊢
              by_cases b4 : v (k + 2) ≤ 100
              · rw [if_pos b4]
                refine ⟨by show k < k + 3; omega, ⟨by show S.2.1.length ≤ S.1 + 1; omega, by show S.1 + 1 ≤ 20; omega, q3, fun j => ?_, q5⟩, rfl⟩
                show (qT S (c (k + 1) - 8) (v (k + 2)) j).getD 100 ≤ 100
                unfold qT
                split
                · exact b4
                · exact q4 j
              · rw [if_neg b4] at h; cases h
            · rw [if_neg b3] at h; cases h
        · rw [if_neg b1] at h; cases h
      · rw [if_neg a3] at h ⊢
        by_cases a4 : c k = 18
        · rw [if_pos a4] at h ⊢
          by_cases b1 : c (k + 1) = 21 ∨ c (k + 1) = 16
          · rw [if_pos b1]
            exact ⟨by show k < k + 2; omega, ⟨by show S.2.1.length ≤ S.1 + 1; omega, by show S.1 + 1 ≤ 20; omega, q3, q4, rlV_le _⟩, rfl⟩
          · rw [if_neg b1] at h; cases h
        · rw [if_neg a4]
          exact ⟨by show k < k + 1; omega, ⟨by show S.2.1.length ≤ S.1 + 1; omega, by show S.1 + 1 ≤ 20; omega, q3, q4, q5⟩, rfl⟩
theorem gd_q0 {k : Nat} {S : PSt} (q : okPS S) : GdQ k S (pQ0 c v k S) := fun h => by
  unfold pQ0 at h ⊢
  by_cases a1 : c k = 18 ∨ (25 ≤ c k ∧ c k ≤ 28)
  · rw [if_pos a1] at h ⊢
    by_cases a2 : 20 ≤ S.1
    · rw [if_pos a2] at h; cases h
    · rw [if_neg a2] at h ⊢
      by_cases a3 : (c k = 18 ∧ S.2.2.2.2.1 ≠ 0) ∨ (c k = 28 ∧ S.2.2.2.2.2 = true)
      · rw [if_pos a3] at h; cases h
      · rw [if_neg a3] at h ⊢
        exact gd_qb q (by omega) h
  · rw [if_neg a1] at h; cases h
theorem gd_q {k : Nat} {S : PSt} (q : okPS S) : GdQ k S (eQ c (pQ0 c v k S)) := fun h => by
  have g := gd_q0 (c := c) (v := v) (k := k) q
  unfold eQ at h ⊢
  by_cases z : (pQ0 c v k S).1 = 0
  · rw [if_pos z] at h ⊢
    obtain ⟨g1, g2, g3⟩ := g z
    by_cases w : c (pQ0 c v k S).2.1 = 59
    · rw [if_pos w]
      exact ⟨by show k < (pQ0 c v k S).2.1 + 1; omega, g2, g3⟩
    · rw [if_neg w] at h; cases h
  · rw [if_neg z] at h; exact absurd h z
theorem ok_qw : ∀ (f k : Nat) (S : PSt), okPS S → (pQw c v f k S).1 = 0 → okPS (pQw c v f k S).2.2
  | 0, _, _, q, _ => q
  | f + 1, k, S, q, h => by
    unfold pQw at h ⊢
    by_cases y : c k = 101
    · rw [if_pos y]; exact q
    · rw [if_neg y] at h ⊢
      by_cases z : (eQ c (pQ0 c v k S)).1 = 0
      · rw [if_pos z] at h ⊢
        exact ok_qw f _ _ (gd_q q z).2.1 h
      · rw [if_neg z] at h; exact absurd h z
end PQF
/-! TEXT: the class reads a PACT -/
def WPt (Pt a : Nat) : Prop := a = 82 ∨ (Pt ≤ a ∧ a ≤ Pt + 2)
def CPt (T : Nat → Nat) (L n Pt : Nat) (h0 h : Hp) (k : Nat) (S : PSt) : Prop := CB T L n h k ∧ (hP h 82 6 = some Pt ∧ IsPact Pt) ∧ cPact h Pt (pactOf S) ∧ (∀ j, j < 6 → bt (hI h Pt 4) j = (S.2.2.2.1 j).isSome) ∧ Eo (WPt Pt) h0 h
def SimQ (T : Nat → Nat) (L n Pt : Nat) (h0 : Hp) (r : QRes) (v : Int32) (h : Hp) : Prop := Eo (WPt Pt) h0 h ∧ (r.1 = 0 → v = 1 ∧ CPt T L n Pt h0 h r.2.1 r.2.2) ∧ (r.1 ≠ 0 → v = 0 ∧ hI h 82 11 = Int32.ofNat r.1 ∧ hI h 82 12 = Int32.ofNat (tP T L r.2.1))
theorem SimQ.val {T : Nat → Nat} {L n Pt : Nat} {h0 h' : Hp} {r : QRes} {v : Int32} (s : SimQ T L n Pt h0 r v h') : okN .boolean v := by
  by_cases z : r.1 = 0
  · rw [(s.2.1 z).1]; decide
  · rw [(s.2.2 z).1]; decide
theorem cTests.sn {h h' : Hp} {P : Nat} {t : Nat} : ∀ {ts : List Nat} {j : Nat}, cTests h P j ts → (∀ i, i < j + ts.length → hI h' (P + 1) i = hI h (P + 1) i) → hI h' (P + 1) (j + ts.length) = Int32.ofNat t → cTests h' P j (ts ++ [t])
  | [], _, _, _, e1 => ⟨e1, trivial⟩
  | n :: r, j, q, e, e1 => by
    have l : j + (n :: r).length = j + 1 + r.length := by rw [List.length_cons]; omega
    rw [l] at e e1
    exact ⟨by rw [e j (by omega)]; exact q.1, cTests.sn q.2 e e1⟩
section CQ
variable {X : Ctx} {d : Nat} {Q : Option Value → Hp → Prop} {T : Nat → Nat} {L n Pt : Nat} {h0 h : Hp}
theorem CPt.bad {k w : Nat} {S S' : PSt} (q : CPt T L n Pt h0 h k S) (hw : w ≠ 0) : SimQ T L n Pt h0 (w, k, S') 0 (sI (sI h 82 11 (Int32.ofNat w)) 82 12 (Int32.ofNat (tP T L k))) := ⟨(q.2.2.2.2.kI (Or.inl rfl)).kI (Or.inl rfl), fun z => absurd z hw, fun _ => ⟨rfl, by rw [hI_sI_self, up1, if_neg (by decide), hI_sI_self, up1, if_pos rfl], by rw [hI_sI_self, up1, if_pos rfl]⟩⟩
theorem w_badQ {k w : Nat} {S S' : PSt} {r : QRes} (I : Inv h) (q : CPt T L n Pt h0 h k S) (hw : w ≠ 0) (hr : r = (w, k, S')) : Wp (gd (hS h 82 = (6, 0)) (bI (K X (d + 1) 69 [.ref 82, .int (Int32.ofNat w)] h) fun r2 h2 => gd (okN .boolean r2) (some (some (.int r2), h2)))) (VI fun v h' => SimQ T L n Pt h0 r v h') := by
  subst hr
  refine w_gS I s_82 ?_
  refine w_bI I (m_69 (w := w) (d := d) I q.1) (by decide) rfl ?_
  rintro x h2 I2 ⟨rfl, rfl⟩
  exact w_gd (by decide) (Wp.reti (q.bad hw))
theorem CPt.sim {k : Nat} {S : PSt} (q : CPt T L n Pt h0 h k S) : SimQ T L n Pt h0 (0, k, S) 1 h := ⟨q.2.2.2.2, fun _ => ⟨rfl, q⟩, fun z => absurd rfl z⟩
theorem CPt.put {k : Nat} {S S' : PSt} {h' : Hp} (q : CPt T L n Pt h0 h k S) (E : Eo (fun a => Pt ≤ a ∧ a ≤ Pt + 2) h h') (c : cPact h' Pt (pactOf S')) (t : ∀ j, j < 6 → bt (hI h' Pt 4) j = (S'.2.2.2.1 j).isSome) : CPt T L n Pt h0 h' k S' := by
  obtain ⟨q1, q2, q3, q4, q5⟩ := q
  have rg := q2.2.rg
  exact ⟨q1.to (E.i (by omega)) (E.i (by omega)) (E.i (by omega)) (fun j _ => by rw [E.i (show ¬ (Pt ≤ 82 ∧ 82 ≤ Pt + 2) by omega)]), ⟨by rw [E.p (show ¬ (Pt ≤ 82 ∧ 82 ≤ Pt + 2) by omega)]; exact q2.1, q2.2⟩, c, t, q5.tr (E.wk fun a z => Or.inr z)⟩
theorem w_atQ {k : Nat} {S : PSt} {f : Hp → Option (Option Value × Hp)} (I : Inv h) (q : CPt T L n Pt h0 h k S) (nn : tC T L k ≠ 101) (kk : ∀ h', Inv h' → CPt T L n Pt h0 h' (k + 1) S → Wp (f h') Q) : Wp (gI h 5 82 8 fun g1 => fI h 5 82 8 (g1 + 1) f) Q := by
  obtain ⟨q1, q2, q3, q4, q5⟩ := q
  have rg := q2.2.rg
  refine w_at I q1 nn fun I1 p1 => kk _ I1 ⟨p1, q2, q3.eo (sI_other (by omega)) (sI_other (by omega)) (sI_other (by omega)), by rw [sI_other (show Pt ≠ 82 by omega)]; exact q4, q5.kI (Or.inl rfl)⟩
/-- test -/
theorem m_49 {k : Nat} {S : PSt} (I : Inv h) (q : CPt T L n Pt h0 h k S) (ok : okPS S) (hl : S.1 < 20) : Wp (K X (d + 2) 49 [.ref 82] h) (VI fun v h' => SimQ T L n Pt h0 (if tC T L k ≤ 3 then (0, k + 1, (S.1 + 1, S.2.1 ++ [tC T L k], S.2.2)) else (1, k, S)) v h') := by
  have vk := vI (T := T) (L := L) k
  have hPt := q.2.1.2
  have rg := hPt.rg
  have l1 := ok.1
  rw [k_49]
  refine w_sign I q.1 ?_
  refine w_iff (i_lt0 (by omega)) ?_
  refine w_sign I q.1 ?_
  refine w_if (fun c0 => ?_) (fun c0 => ?_)
  · have y := (i_le (n := 3) (by omega) (by omega)).mp c0
    rw [if_pos y]
    refine w_gR I s_82 q.2.1.1 ?_
    refine w_sign I q.1 ?_
    refine w_gS I hPt.s ?_
    refine w_bV (P := fun h' => CPt T L n Pt h0 h' k (S.1 + 1, S.2.1 ++ [tC T L k], S.2.2)) I ?_ (by decide) rfl fun h1 I1 q1 => ?_
    · obtain ⟨c1, c2, c3⟩ := q.2.2.1
      have c1 : hI h Pt 2 = Int32.ofNat S.2.1.length := c1
      rw [k_32]
      refine w_gI I hPt.s ?_
      rw [c1]
      refine w_iff (fun z => absurd ((i_le (m := 20) (by omega) (by omega)).mp z) (by omega)) ?_
      refine w_gL I hPt.s hPt.l0 ?_
      refine w_gI I hPt.s ?_
      rw [c1]
      refine w_wIn I hPt.s1 (by omega) (by decide) fun I1 => ?_
      refine w_gI I1 hPt.s ?_
      rw [sI_other (show Pt ≠ Pt + 1 by omega), c1, i32_ofNat_succ]
      refine w_fI I1 hPt.s fun I2 => ?_
      have gP : ∀ j, j ≠ 2 → hI (sI (sI h (Pt + 1) S.2.1.length (Int32.ofNat (tC T L k))) Pt 2 (Int32.ofNat (S.2.1.length + 1))) Pt j = hI h Pt j := fun j hj => by rw [hI_sI_self, up1, if_neg hj, sI_other (by omega)]
      have g1 : hI (sI (sI h (Pt + 1) S.2.1.length (Int32.ofNat (tC T L k))) Pt 2 (Int32.ofNat (S.2.1.length + 1))) (Pt + 1) = up1 (hI h (Pt + 1)) S.2.1.length (Int32.ofNat (tC T L k)) := by rw [sI_other (by omega), hI_sI_self]
      refine Wp.retv (q.put ((Eo.rf.kI ⟨by omega, by omega⟩).kI ⟨by omega, by omega⟩) ⟨?_, ?_, ?_⟩ (fun j hj => by rw [gP 4 (by decide)]; exact q.2.2.2.1 j hj))
      · rw [hI_sI_self, up1, if_pos rfl]
        show _ = Int32.ofNat (S.2.1 ++ [tC T L k]).length
        rw [List.length_append]; rfl
      · show cTests _ Pt 0 (S.2.1 ++ [tC T L k])
        refine cTests.sn (show cTests h Pt 0 S.2.1 from c2) (fun i hi => ?_) ?_
        · rw [g1, up1, if_neg (by omega)]
        · rw [g1, Nat.zero_add, up1, if_pos rfl]
      · unfold cTerms at c3 ⊢
        rw [gP 3 (by decide), gP 5 (by decide), gP 6 (by decide), sI_other (show Pt + 2 ≠ Pt by omega), sI_other (show Pt + 2 ≠ Pt + 1 by omega)]
        exact c3
    · refine w_atQ I1 q1 (by omega) fun h2 I2 q2 => Wp.reti q2.sim
  · rw [if_neg (fun y => c0 ((i_le (n := 3) (by omega) (by omega)).mpr y))]
    exact w_badQ (w := 1) I q (by decide) rfl
/-- a kind that was not yet named -/
theorem m_66 {k : Nat} {S : PSt} {m : Int32} {p : Nat → Bool} (I : Inv h) (q : CPt T L n Pt h0 h k S) (hm : ∀ j, j < 6 → bt m j = p j) : Wp (K X (d + 3) 66 [.ref 82, .int m] h) (VI fun v h' => (8 ≤ tC T L k ∧ tC T L k ≤ 13 ∧ p (tC T L k - 8) = false ∧ v = 1 ∧ h' = h) ∨ ((¬ (8 ≤ tC T L k ∧ tC T L k ≤ 13) ∨ p (tC T L k - 8) = true) ∧ v = 0 ∧ SimQ T L n Pt h0 (if 8 ≤ tC T L k ∧ tC T L k ≤ 13 then 3 else 1, k, S) 0 h')) := by
  have vk := vI (T := T) (L := L) k
  rw [k_66]
  refine w_65 (d := d) I q.1 ?_
  by_cases y : 8 ≤ tC T L k ∧ tC T L k ≤ 13
  · rw [decide_eq_true y, if_pos y]
    refine w_ift (by decide) ?_
    refine w_sign (d := d + 1) I q.1 ?_
    have e8 : Int32.ofNat (tC T L k) - 8 = Int32.ofNat (tC T L k - 8) := i_sub (n := 8) (by omega)
    rw [e8]
    refine w_eI (m_140 (d := d + 1) (by omega)) ?_
    rw [btL_ext (by omega), hm _ (by omega)]
    cases hb : p (tC T L k - 8)
    · refine w_ift (by decide) ?_
      exact Wp.reti (Or.inl ⟨y.1, y.2, rfl, rfl, rfl⟩)
    · refine w_iff (by decide) ?_
      refine w_gS I s_82 ?_
      refine w_bI I (m_69 (w := 3) (d := d + 1) I q.1) (by decide) rfl ?_
      rintro x h2 I2 ⟨rfl, rfl⟩
      exact w_ift rfl (Wp.reti (Or.inr ⟨Or.inr rfl, rfl, q.bad (by decide)⟩))
  · rw [decide_eq_false y, if_neg y]
    refine w_iff (by decide) ?_
    refine w_gS I s_82 ?_
    refine w_bI I (m_69 (w := 1) (d := d + 1) I q.1) (by decide) rfl ?_
    rintro x h2 I2 ⟨rfl, rfl⟩
    exact w_gd (by decide) (Wp.reti (Or.inr ⟨Or.inl y, rfl, q.bad (by decide)⟩))
/-- only -/
theorem m_50 {k : Nat} {S : PSt} (I : Inv h) (q : CPt T L n Pt h0 h k S) : Wp (K X (d + 4) 50 [.ref 82] h) (VI fun v h' => SimQ T L n Pt h0 (if 8 ≤ tC T L k ∧ tC T L k ≤ 13 then (if S.2.2.1 (tC T L k - 8) = true then (3, k, S) else (0, k + 1, (S.1 + 1, S.2.1, qO S (tC T L k - 8), S.2.2.2))) else (1, k, S)) v h') := by
  have vk := vI (T := T) (L := L) k
  have hPt := q.2.1.2
  have rg := hPt.rg
  obtain ⟨c1, c2, c3, c4, c5, c6⟩ := q.2.2.1
  rw [k_50]
  refine w_gR I s_82 q.2.1.1 ?_
  refine w_gI I hPt.s ?_
  refine w_gS I s_82 ?_
  refine w_bI I (m_66 (d := d) (p := S.2.2.1) I q c3) (by decide) rfl fun x h1 I1 p => ?_
  rcases p with ⟨y1, y2, y3, rfl, rfl⟩ | ⟨y, rfl, s⟩
  · rw [if_pos (show 8 ≤ tC T L k ∧ tC T L k ≤ 13 from ⟨y1, y2⟩), if_neg (show ¬ S.2.2.1 (tC T L k - 8) = true by rw [y3]; decide)]
    refine w_ift (by decide) ?_
    refine w_gR I1 s_82 q.2.1.1 ?_
    refine w_gI I1 hPt.s ?_
    refine w_sign (d := d + 2) I1 q.1 ?_
    have e8 : Int32.ofNat (tC T L k) - 8 = Int32.ofNat (tC T L k - 8) := i_sub (n := 8) (by omega)
    rw [e8]
    refine w_fI I1 hPt.s fun I2 => ?_
    have gP : ∀ v j, j ≠ 3 → hI (sI h1 Pt 3 v) Pt j = hI h1 Pt j := fun v j hj => by rw [hI_sI_self, up1, if_neg hj]
    refine w_atQ (S := (S.1 + 1, S.2.1, qO S (tC T L k - 8), S.2.2.2)) I2 (q.put (Eo.rf.kI ⟨by omega, by omega⟩) ⟨by rw [gP _ 2 (by decide)]; exact c1, cTests.eo (sI_other (by omega)) c2, fun j hj => ?_, fun j hj => by rw [sI_other (by omega)]; exact c4 j hj, by rw [gP _ 5 (by decide)]; exact c5, by rw [gP _ 6 (by decide)]; exact c6⟩ (fun j hj => by rw [gP _ 4 (by decide)]; exact q.2.2.2.1 j hj)) (by omega) fun h3 I3 q3 => Wp.reti q3.sim
    rw [hI_sI_self, up1, if_pos rfl, bt_set (by omega) (by omega), c3 j hj]; rfl
  · refine w_iff (by decide) (Wp.reti ?_)
    have e : (if 8 ≤ tC T L k ∧ tC T L k ≤ 13 then (if S.2.2.1 (tC T L k - 8) = true then (3, k, S) else (0, k + 1, (S.1 + 1, S.2.1, qO S (tC T L k - 8), S.2.2.2))) else (1, k, S)) = (if 8 ≤ tC T L k ∧ tC T L k ≤ 13 then 3 else 1, k, S) := by
      by_cases z : 8 ≤ tC T L k ∧ tC T L k ≤ 13
      · rw [if_pos z, if_pos z, if_pos (y.resolve_left fun w => w z)]
      · rw [if_neg z, if_neg z]
    rw [e]; exact s
/-- top -/
theorem m_51 {k : Nat} {S : PSt} (I : Inv h) (q : CPt T L n Pt h0 h k S) : Wp (K X (d + 4) 51 [.ref 82] h) (VI fun v h' => SimQ T L n Pt h0 (if 8 ≤ tC T L k ∧ tC T L k ≤ 13 then (if (S.2.2.2.1 (tC T L k - 8)).isSome = true then (3, k, S) else if tC T L (k + 1) = 100 then (if tV T L (k + 1) ≤ 100 then (0, k + 2, (S.1 + 1, S.2.1, S.2.2.1, qT S (tC T L k - 8) (tV T L (k + 1)), S.2.2.2.2)) else (2, k + 1, S)) else (1, k + 1, S)) else (1, k, S)) v h') := by
  have vk := vI (T := T) (L := L) k
  have hPt := q.2.1.2
  have rg := hPt.rg
  rw [k_51]
  refine w_gR I s_82 q.2.1.1 ?_
  refine w_gI I hPt.s ?_
  refine w_gS I s_82 ?_
  refine w_bI I (m_66 (d := d) (p := fun j => (S.2.2.2.1 j).isSome) I q q.2.2.2.1) (by decide) rfl fun x h1 I1 p => ?_
  rcases p with ⟨y1, y2, y3, rfl, rfl⟩ | ⟨y, rfl, s⟩
  · rw [if_pos (show 8 ≤ tC T L k ∧ tC T L k ≤ 13 from ⟨y1, y2⟩), if_neg (show ¬ (S.2.2.2.1 (tC T L k - 8)).isSome = true by rw [y3]; decide)]
    refine w_ift (by decide) ?_
    refine w_sign (d := d + 2) I1 q.1 ?_
    have e8 : Int32.ofNat (tC T L k) - 8 = Int32.ofNat (tC T L k - 8) := i_sub (n := 8) (by omega)
    rw [e8]
    refine w_gR I1 s_82 q.2.1.1 ?_
    refine w_gI I1 hPt.s ?_
    refine w_fI I1 hPt.s fun I2 => ?_
    obtain ⟨b1, b2, c0, t0, E0⟩ := q
    generalize hg : sI h1 Pt 4 (hI h1 Pt 4 ||| 1 <<< (Int32.ofNat (tC T L k - 8) &&& 31)) = g at I2
    have gP : ∀ j, j ≠ 4 → hI g Pt j = hI h1 Pt j := fun j hj => by rw [← hg, hI_sI_self, up1, if_neg hj]
    have go : ∀ a, a ≠ Pt → hI g a = hI h1 a := fun a ha => by rw [← hg, sI_other ha]
    have b1g : CB T L n g k := b1.to (go _ (by omega)) (go _ (by omega)) (go _ (by omega)) (fun j _ => by rw [go 82 (by omega)])
    have gp : hP g = hP h1 := by rw [← hg]; rfl
    have g4 : ∀ j, j < 6 → bt (hI g Pt 4) j = ((S.2.2.2.1 j).isSome || decide (j = tC T L k - 8)) := fun j hj => by
      rw [← hg, hI_sI_self, up1, if_pos rfl, bt_set (by omega) (by omega), t0 j hj]
    have Eg : Eo (WPt Pt) h0 g := by rw [← hg]; exact E0.kI (Or.inr ⟨Nat.le_refl _, by omega⟩)
    have c0g : cPact g Pt (pactOf S) := by
      obtain ⟨c1, c2, c3, c4, c5, c6⟩ := c0
      exact ⟨by rw [gP 2 (by decide)]; exact c1, c2.eo (go _ (by omega)), by rw [gP 3 (by decide)]; exact c3, fun j hj => by rw [go _ (by omega)]; exact c4 j hj, by rw [gP 5 (by decide)]; exact c5, by rw [gP 6 (by decide)]; exact c6⟩
    refine w_at I2 b1g (by omega) fun I3 b3 => ?_
    refine w_gS I3 s_82 ?_
    by_cases z : tC T L (k + 1) = 100 ∧ tV T L (k + 1) ≤ 100
    · rw [if_pos z.1, if_pos z.2]
      refine w_eI (m_64y (d := d + 1) I3 b3 z.1 z.2) ?_
      refine w_ift (by decide) ?_
      refine w_gR I3 s_82 (show hP (sI g 82 8 (Int32.ofNat (k + 1))) 82 6 = some Pt by show hP g 82 6 = _; rw [gp]; exact b2.1) ?_
      refine w_gL I3 hPt.s hPt.l1 ?_
      refine w_num I3 b3 z.1 ?_
      refine w_wIn I3 hPt.s2 (by omega) (by decide) fun I4 => ?_
      have q4 : CPt T L n Pt h0 (sI (sI g 82 8 (Int32.ofNat (k + 1))) (Pt + 2) (tC T L k - 8) (Int32.ofNat (tV T L (k + 1)))) (k + 1) (S.1 + 1, S.2.1, S.2.2.1, qT S (tC T L k - 8) (tV T L (k + 1)), S.2.2.2.2) := by
        obtain ⟨c1, c2, c3, c4, c5, c6⟩ := c0g
        refine ⟨b3.to (sI_other (by omega)) (sI_other (by omega)) (sI_other (by omega)) (fun j _ => by rw [sI_other (by omega)]), ⟨by show hP g 82 6 = _; rw [gp]; exact b2.1, hPt⟩, ⟨by rw [sI_other (by omega), sI_other (by omega)]; exact c1, c2.eo (by rw [sI_other (by omega), sI_other (by omega)]), by rw [sI_other (by omega), sI_other (by omega)]; exact c3, fun j hj => ?_, by rw [sI_other (by omega), sI_other (by omega)]; exact c5, by rw [sI_other (by omega), sI_other (by omega)]; exact c6⟩, fun j hj => ?_, (Eg.kI (Or.inl rfl)).kI (Or.inr ⟨by omega, by omega⟩)⟩
        · rw [hI_sI_self, up1]
          show _ = Int32.ofNat ((qT S (tC T L k - 8) (tV T L (k + 1)) j).getD 100)
          unfold qT
          by_cases w : j = tC T L k - 8
          · rw [if_pos w, if_pos w]; rfl
          · rw [if_neg w, if_neg w, sI_other (by omega)]; exact c4 j hj
        · rw [sI_other (by omega), sI_other (by omega), g4 j hj]
          show _ = (qT S (tC T L k - 8) (tV T L (k + 1)) j).isSome
          unfold qT
          by_cases w : j = tC T L k - 8
          · rw [if_pos w, decide_eq_true w, Bool.or_true]; rfl
          · rw [if_neg w, decide_eq_false w, Bool.or_false]
      refine w_atQ I4 q4 (by have := z.1; omega) fun h5 I5 q5 => Wp.reti q5.sim
    · have tv := tV_le (T := T) (L := L) (k := k + 1)
      have ee : (if tC T L (k + 1) = 100 then (if tV T L (k + 1) ≤ 100 then (0, k + 2, (S.1 + 1, S.2.1, S.2.2.1, qT S (tC T L k - 8) (tV T L (k + 1)), S.2.2.2.2)) else (2, k + 1, S)) else (1, k + 1, S)) = ((if tC T L (k + 1) = 100 then 2 else 1), k + 1, S) := by
        by_cases w : tC T L (k + 1) = 100
        · rw [if_pos w, if_pos w, if_neg fun u => z ⟨w, u⟩]
        · rw [if_neg w, if_neg w]
      rw [ee]
      have E3 : Eo (WPt Pt) h0 (sI g 82 8 (Int32.ofNat (k + 1))) := Eg.kI (Or.inl rfl)
      have bad : ∀ w, SimQ T L n Pt h0 (w, k + 1, S) 0 (sI (sI (sI g 82 8 (Int32.ofNat (k + 1))) 82 11 (Int32.ofNat w)) 82 12 (Int32.ofNat (tP T L (k + 1)))) ∨ w = 0 := fun w => by
        by_cases w0 : w = 0
        · exact Or.inr w0
        · exact Or.inl ⟨(E3.kI (Or.inl rfl)).kI (Or.inl rfl), fun z => absurd z w0, fun _ => ⟨rfl, by rw [hI_sI_self, up1, if_neg (by decide), hI_sI_self, up1, if_pos rfl], by rw [hI_sI_self, up1, if_pos rfl]⟩⟩
      refine w_bI (P := fun v h' => v = 0 ∧ SimQ T L n Pt h0 ((if tC T L (k + 1) = 100 then 2 else 1), k + 1, S) 0 h') I3 ?_ (by decide) rfl ?_
      · have vk1 := vI (T := T) (L := L) (k + 1)
        rw [k_64]
        refine w_sign (d := d + 1) I3 b3 ?_
        by_cases y : tC T L (k + 1) = 100
        · have e2 : ¬ tV T L (k + 1) ≤ 100 := fun u => z ⟨y, u⟩
          rw [if_pos y]
          refine w_ift (by rw [y]; rfl) ?_
          refine w_num I3 b3 y ?_
          refine w_iff (fun z => e2 ((i_le (n := 100) (by omega) (by omega)).mp z)) ?_
          refine w_gS I3 s_82 ?_
          refine w_bI I3 (m_69 (w := 2) (d := d + 1) I3 b3) (by decide) rfl ?_
          rintro x h2 I2 ⟨rfl, rfl⟩
          exact w_ift rfl (Wp.reti ⟨rfl, (bad 2).resolve_right (by decide)⟩)
        · rw [if_neg y]
          refine w_iff (fun z => y ((c_is (m := 100) vk1 (by decide)).mp z)) ?_
          refine w_gS I3 s_82 ?_
          refine w_bI I3 (m_69 (w := 1) (d := d + 1) I3 b3) (by decide) rfl ?_
          rintro x h2 I2 ⟨rfl, rfl⟩
          exact w_gd (by decide) (Wp.reti ⟨rfl, (bad 1).resolve_right (by decide)⟩)
      · rintro x h4 I4 ⟨rfl, s⟩
        exact w_iff (by decide) (Wp.reti s)
  · refine w_iff (by decide) (Wp.reti ?_)
    by_cases z : 8 ≤ tC T L k ∧ tC T L k ≤ 13
    · rw [if_pos z, if_pos (y.resolve_left fun w => w z)]
      rw [if_pos z] at s; exact s
    · rw [if_neg z]
      rw [if_neg z] at s; exact s
/-- relief -/
theorem m_52 {k : Nat} {S : PSt} (I : Inv h) (q : CPt T L n Pt h0 h k S) : Wp (K X (d + 2) 52 [.ref 82] h) (VI fun v h' => SimQ T L n Pt h0 (if tC T L k = 21 ∨ tC T L k = 16 then (0, k + 1, (S.1 + 1, S.2.1, S.2.2.1, S.2.2.2.1, rlV (tC T L k), S.2.2.2.2.2)) else (1, k, S)) v h') := by
  have vk := vI (T := T) (L := L) k
  have hPt := q.2.1.2
  have rg := hPt.rg
  have body : (tC T L k = 21 ∨ tC T L k = 16) → Wp (sem (X, K X (d + 1)) 52 24 [some (.ref 82)] [] h) (VI fun v h' => SimQ T L n Pt h0 (if tC T L k = 21 ∨ tC T L k = 16 then (0, k + 1, (S.1 + 1, S.2.1, S.2.2.1, S.2.2.2.1, rlV (tC T L k), S.2.2.2.2.2)) else (1, k, S)) v h') := fun y => by
    obtain ⟨c1, c2, c3, c4, c5, c6⟩ := q.2.2.1
    rw [if_pos y, b_52_24]
    refine w_gR I s_82 q.2.1.1 ?_
    refine w_sign I q.1 ?_
    refine w_eI (m_47c vk) ?_
    refine w_fI I hPt.s fun I2 => ?_
    have gP : ∀ v j, j ≠ 5 → hI (sI h Pt 5 v) Pt j = hI h Pt j := fun v j hj => by rw [hI_sI_self, up1, if_neg hj]
    refine w_atQ (S := (S.1 + 1, S.2.1, S.2.2.1, S.2.2.2.1, rlV (tC T L k), S.2.2.2.2.2)) I2 (q.put (Eo.rf.kI ⟨by omega, by omega⟩) ⟨by rw [gP _ 2 (by decide)]; exact c1, cTests.eo (sI_other (by omega)) c2, by rw [gP _ 3 (by decide)]; exact c3, fun j hj => by rw [sI_other (by omega)]; exact c4 j hj, by rw [hI_sI_self, up1, if_pos rfl]; rfl, by rw [gP _ 6 (by decide)]; exact c6⟩ (fun j hj => by rw [gP _ 4 (by decide)]; exact q.2.2.2.1 j hj)) (by omega) fun h3 I3 q3 => Wp.reti q3.sim
  rw [k_52]
  refine w_sign I q.1 ?_
  refine w_if (fun c0 => body (Or.inl ((c_is (m := 21) vk (by decide)).mp c0))) (fun c0 => ?_)
  refine w_sign I q.1 ?_
  refine w_if (fun c1 => body (Or.inr ((c_is (m := 16) vk (by decide)).mp c1))) (fun c1 => ?_)
  rw [if_neg (fun y => y.elim (fun z => c0 (by rw [z]; rfl)) (fun z => c1 (by rw [z]; rfl)))]
  exact w_badQ (w := 1) I q (by decide) rfl
end CQ
