/-! THE CLASS: what a LAND takes ahead -/
section CA
variable {X : Ctx} {d : Nat} {Q : Option Value → Hp → Prop} {V : Sv} {AL : Nat → ALaw} {PA : Nat → APact} {B : Int} {T : SumT}
theorem m_18 {u l : Nat} {h : Hp} (I : Inv h) (hu : SH u = (9, 0)) (hl : l < 6) (q : LvC h V AL PA B) (hT : cSum h u T) : K X (d + 2) 18 [.ref 274, .ref u, .int (Int32.ofNat l)] h = some (some (.int (Int32.ofNat (lkP PA (hisP V AL PA) T l))), h) := by
  refine Wp.eqI ?_
  rw [k_18]
  refine w_gI I s_274 ?_
  refine w_eI (m_has (by omega)) ?_
  rw [q.2.2.2.2.1 l (by omega), decide_eq_true hl, Bool.true_and]
  unfold lkP
  refine w_if (fun c => ?_) (fun c => ?_)
  · refine w_gI I hu (Wp.reti ⟨?_, rfl⟩)
    rw [bi_0.mp c]; exact hT.1
  · refine w_gI I hu (Wp.reti ⟨?_, rfl⟩)
    have : seeP PA (hisP V AL PA) l = true := by cases z : seeP PA (hisP V AL PA) l; rw [z] at c; exact absurd rfl c; rfl
    rw [this]; exact hT.2.1
theorem m_19 {u l : Nat} {h : Hp} (I : Inv h) (hu : SH u = (9, 0)) (hl : l < 6) (q : LvC h V AL PA B) (hT : cSum h u T) (o : okSm T) : K X (d + 2) 19 [.ref 274, .ref u, .int (Int32.ofNat l)] h = some (some (.int (bi (frT V AL PA T l))), h) := by
  have hs : T.2.2.2.1 < 6 := o.2.2.2.2.2.1
  refine Wp.eqI ?_
  rw [k_19]
  refine w_gL I s_274 l_274_6 ?_
  refine w_aIn I s_286 hl (by decide) ?_
  refine w_gI I hu ?_
  rw [hT.2.2.2.1]
  refine w_eI (m_has (by omega)) ?_
  rw [q.2.2.2.2.2.2.1 l hl _ (by omega)]
  refine w_gd (bi_z _) (Wp.reti ⟨?_, rfl⟩)
  unfold frT
  have : decide (T.2.2.2.1 < 6 ∧ T.2.2.2.1 ≠ l) = decide (T.2.2.2.1 ≠ l) := by simp [hs]
  rw [this]
theorem m_22 {u l : Nat} {h : Hp} (I : Inv h) (hu : SH u = (9, 0)) (hl : l < 6) (q : LvC h V AL PA B) (hT : cSum h u T) (o : okSm T) (oL : okL (AL l)) (hB : 0 < B ∧ B ≤ 99999999) (hh : hisP V AL PA l = true) : K X (d + 3) 22 [.ref 274, .ref u, .int (Int32.ofNat l)] h = some (some (.long (Int64.ofInt (if frT V AL PA T l then 0 else ownP AL B T l))), h) := by
  have jB : jr B := by unfold jr; omega
  have tb := tx_20 oL hB.1
  have ha : (T.2.2.1 : Int) ≤ 999999 := by have := o.2.2.2.2.1; omega
  refine Wp.eqJ ?_
  rw [k_22]
  refine w_gJ I s_274 ?_
  rw [q.2.2.1]
  refine w_iff (fun z => ?_) ?_
  · have := (j_le (b := 0) jB (by unfold jr; omega)).mp ((lg_cmp_le _ _).mp z)
    omega
  refine w_gS I s_274 ?_
  refine w_eI (m_19 I hu hl q hT o) ?_
  refine w_if (fun c => ?_) (fun c => ?_)
  · rw [bi_0.mp c]
    refine w_gL I s_274 l_274_7 ?_
    refine w_aJn I s_287 hl (by decide) ?_
    refine w_gI I hu ?_
    refine w_gJ I s_274 ?_
    rw [q.2.2.1]
    refine w_gd (fun z => ?_) ?_
    · have := (j_eq (b := 0) jB (by unfold jr; omega)).mp z
      omega
    have hw : hJ h 287 l = Int64.ofInt (tx (B - (AL l).2.2.1) (AL l).2.1) := by
      rw [q.2.2.2.1 l hl]
      exact if_pos hh
    rw [hw, hT.2.2.1, nat_j (by have := o.2.2.2.2.1; omega), ← Int64.ofInt_mul, j_div ?_ jB]
    · exact Wp.retj ⟨rfl, rfl⟩
    · have h0 : 0 ≤ tx (B - (AL l).2.2.1) (AL l).2.1 * T.2.2.1 := Int.mul_nonneg tb.1 (by omega)
      have h1 : tx (B - (AL l).2.2.1) (AL l).2.1 * T.2.2.1 ≤ (2000 * B) * T.2.2.1 := Int.mul_le_mul_of_nonneg_right tb.2 (by omega)
      have h2 : (2000 * B) * T.2.2.1 ≤ (2000 * B) * 999999 := Int.mul_le_mul_of_nonneg_left ha (by omega)
      unfold jr; omega
  · have : frT V AL PA T l = true := by cases z : frT V AL PA T l; rw [z] at c; exact absurd rfl c; rfl
    rw [this]
    exact Wp.retj ⟨rfl, rfl⟩
theorem m_34 {P k : Nat} {A : APact} {h : Hp} (I : Inv h) (hP : IsPact P) (hk : k < 6) (q : cTerms h P A) : K X (d + 2) 34 [.ref P, .int (Int32.ofNat k)] h = some (some (.int (Int32.ofNat (if A.2.1 k then 0 else A.2.2.1 k))), h) := by
  refine Wp.eqI ?_
  rw [k_34]
  refine w_gI I hP.s ?_
  refine w_eI (m_has (by omega)) ?_
  rw [q.1 k hk]
  refine w_if (fun c => ?_) (fun c => ?_)
  · rw [bi_0.mp c]
    refine w_gL I hP.s hP.l1 ?_
    refine w_aIn I hP.s2 hk (by decide) (Wp.reti ⟨?_, rfl⟩)
    exact q.2.1 k hk
  · have : A.2.1 k = true := by cases z : A.2.1 k; rw [z] at c; exact absurd rfl c; rfl
    rw [this]
    exact Wp.reti ⟨rfl, rfl⟩
theorem c23_80 {h : Hp} {l k : Nat} (I : Inv h) (q : LvC h V AL PA B) (hl : l < 6) (hk : k < 6) {v1 v4 : Option Value} : ∀ (c m r : Nat), m + c = 6 → r ≤ 100 →
    Wp (sem (X, K X (d + 2)) 23 80 [some (.ref 274), v1, some (.int (Int32.ofNat l)), some (.int (Int32.ofNat k)), v4, some (.int (Int32.ofNat r)), some (.int (Int32.ofNat m))] [] h) (VI fun x h' => x = Int32.ofNat (lmN PA (hisP V AL PA) l k c m r) ∧ h' = h)
  | 0, m, r, em, hr => by
    rw [b_23_80]
    exact w_ift ((i_le (m := 6) (by omega) (by omega)).mpr (by omega)) (Wp.reti ⟨rfl, rfl⟩)
  | c + 1, m, r, em, hr => by
    have hm : m < 6 := by omega
    have st : ∀ r, lmN PA (hisP V AL PA) l k (c + 1) m r = lmN PA (hisP V AL PA) l k c (m + 1) (if hisP V AL PA m && decide (m ≠ l) then min (limP PA (pr m l) k) r else r) := fun r => rfl
    rw [b_23_80, st]
    refine w_iff (fun z => absurd ((i_le (m := 6) (by omega) (by omega)).mp z) (by omega)) ?_
    refine w_gI I s_274 ?_
    refine w_eI (m_has (by omega)) ?_
    rw [q.2.1, bt_msk (by decide) (by omega), decide_eq_true hm, Bool.true_and, i32_ofNat_succ]
    refine w_if (fun c0 => ?_) (fun c0 => ?_)
    · rw [bi_0.mp c0, Bool.false_and, if_neg (by decide)]
      exact c23_80 I q hl hk c (m + 1) r (by omega) hr
    · have hq : hisP V AL PA m = true := by cases z : hisP V AL PA m; rw [z] at c0; exact absurd rfl c0; rfl
      rw [hq, Bool.true_and]
      refine w_if (fun c1 => ?_) (fun c1 => ?_)
      · have e : m = l := (i_eq (by omega) (by omega)).mp c1
        rw [decide_eq_false (fun z => z e), if_neg (by decide)]
        exact c23_80 I q hl hk c (m + 1) r (by omega) hr
      · have e : m ≠ l := fun z => c1 (by rw [z])
        have lp := pr_lt m hm l hl e
        obtain ⟨po, ppo, r2, r3⟩ := q.2.2.2.2.2.2.2.1
        obtain ⟨P, p1, p2, p3, p4⟩ := r3 (pr m l) lp
        have spo : SH po = (63, 15) := by
          rcases ppo with rfl | rfl
          · exact s_65
          · exact s_66
        rw [decide_eq_true e, if_pos rfl]
        refine w_gR I s_274 r2 ?_
        refine w_eI (m_141 hm hl e) ?_
        refine w_aRn I spo (by decide) (by decide) lp (by decide) p1 ?_
        refine w_gS I p2.s ?_
        refine w_eI (m_34 I p2 hk p3) ?_
        have lb : limP PA (pr m l) k ≤ 100 := by
          unfold limP; split
          · decide
          · exact p4.2.1 k
        have em : (if Int32.ofNat (limP PA (pr m l) k) < Int32.ofNat r then Int32.ofNat (limP PA (pr m l) k) else Int32.ofNat r) = Int32.ofNat (min (limP PA (pr m l) k) r) := by
          by_cases z : limP PA (pr m l) k < r
          · rw [if_pos ((i_lt (by omega) (by omega)).mpr z), Nat.min_eq_left (by omega)]
          · rw [if_neg (fun w => z ((i_lt (by omega) (by omega)).mp w)), Nat.min_eq_right (by omega)]
        have := c23_80 I q hl hk (v1 := v1) (v4 := v4) c (m + 1) (min (limP PA (pr m l) k) r) (by omega) (by omega)
        rw [← em] at this
        exact this
end CA
