/-! PACTS: what of a heap tells them; which test decides; who gives way -/
abbrev APact : Type := List Nat × (Nat → Bool) × (Nat → Nat) × Nat × Bool
def cTests (h : Hp) (P : Nat) : Nat → List Nat → Prop
  | _, [] => True
  | j, t :: ts => hI h (P + 1) j = Int32.ofNat t ∧ cTests h P (j + 1) ts
def cTerms (h : Hp) (P : Nat) (A : APact) : Prop := (∀ k, k < 6 → bt (hI h P 3) k = A.2.1 k) ∧ (∀ k, k < 6 → hI h (P + 2) k = Int32.ofNat (A.2.2.1 k)) ∧ hI h P 5 = Int32.ofNat A.2.2.2.1 ∧ hI h P 6 = bi A.2.2.2.2
def cPact (h : Hp) (P : Nat) (A : APact) : Prop := hI h P 2 = Int32.ofNat A.1.length ∧ cTests h P 0 A.1 ∧ cTerms h P A
def okT (ts : List Nat) : Prop := ts.length ≤ 20 ∧ ∀ t, t ∈ ts → t ≤ 3
def okP (A : APact) : Prop := okT A.1 ∧ (∀ k, A.2.2.1 k ≤ 100) ∧ A.2.2.2.1 ≤ 2
theorem cTests.eo {h h' : Hp} {P : Nat} (e : hI h' (P + 1) = hI h (P + 1)) : ∀ {ts : List Nat} {j : Nat}, cTests h P j ts → cTests h' P j ts
  | [], _, _ => trivial
  | _ :: _, _, q => ⟨by rw [e]; exact q.1, cTests.eo e q.2⟩
theorem cTerms.eo {h h' : Hp} {P : Nat} {A : APact} (q : cTerms h P A) (e0 : hI h' P = hI h P) (e2 : hI h' (P + 2) = hI h (P + 2)) : cTerms h' P A := by
  unfold cTerms; rw [e0, e2]; exact q
theorem cPact.eo {h h' : Hp} {P : Nat} {A : APact} (q : cPact h P A) (e0 : hI h' P = hI h P) (e1 : hI h' (P + 1) = hI h (P + 1)) (e2 : hI h' (P + 2) = hI h (P + 2)) : cPact h' P A :=
  ⟨by rw [e0]; exact q.1, q.2.1.eo e1, q.2.2.eo e0 e2⟩
theorem cTests.at {h : Hp} {P : Nat} : ∀ {ts : List Nat} {j i : Nat}, cTests h P j ts → i < ts.length → hI h (P + 1) (j + i) = Int32.ofNat (ts.getD i 0)
  | [], _, _, _, hi => absurd hi (Nat.not_lt_zero _)
  | t :: ts, j, 0, q, _ => q.1
  | t :: ts, j, i + 1, q, hi => by
    have := cTests.at (i := i) q.2 (by simpa using hi)
    rw [List.getD_cons_succ, ← this]
    congr 1
    omega
def decF (fa fb : Nat → Int32) : List Nat → Option Nat
  | [] => none
  | t :: ts => if fa t = fb t then (decF fa fb ts).map (· + 1) else some 0
def decI : Option Nat → Int32
  | none => -1
  | some i => Int32.ofNat i
def gwL (fa fb : Nat → Int32) : List Nat → Bool
  | [] => false
  | t :: ts => if fa t = fb t then gwL fa fb ts else decide (fa t < fb t)
theorem decF_none {fa fb : Nat → Int32} : ∀ {ts : List Nat}, decF fa fb ts = none → gwL fa fb ts = false ∧ gwL fb fa ts = false
  | [], _ => ⟨rfl, rfl⟩
  | t :: ts, h => by
    unfold decF at h
    unfold gwL
    by_cases q : fa t = fb t
    · rw [if_pos q] at h
      rw [if_pos q, if_pos q.symm]
      exact decF_none (by simpa using h)
    · rw [if_neg q] at h; cases h
theorem decF_some {fa fb : Nat → Int32} : ∀ {ts : List Nat} {i : Nat}, decF fa fb ts = some i → i < ts.length ∧ gwL fa fb ts = decide (fa (ts.getD i 0) < fb (ts.getD i 0)) ∧ gwL fb fa ts = decide (fb (ts.getD i 0) < fa (ts.getD i 0)) ∧ fa (ts.getD i 0) ≠ fb (ts.getD i 0)
  | [], _, h => by cases h
  | t :: ts, i, h => by
    unfold decF at h
    unfold gwL
    by_cases q : fa t = fb t
    · rw [if_pos q] at h
      rw [if_pos q, if_pos q.symm]
      obtain ⟨j, hj, e⟩ := Option.map_eq_some_iff.mp h
      subst e
      obtain ⟨p1, p2, p3, p4⟩ := decF_some hj
      rw [List.getD_cons_succ, List.length_cons]
      exact ⟨by omega, p2, p3, p4⟩
    · rw [if_neg q] at h
      cases h
      rw [if_neg q, if_neg (fun z => q z.symm)]
      exact ⟨by simp, rfl, rfl, q⟩
theorem decF_comm {fa fb : Nat → Int32} : ∀ (ts : List Nat), decF fa fb ts = decF fb fa ts
  | [] => rfl
  | t :: ts => by
    unfold decF
    by_cases q : fa t = fb t
    · rw [if_pos q, if_pos q.symm, decF_comm ts]
    · rw [if_neg q, if_neg (fun z => q z.symm)]
section PA
variable {X : Ctx} {d : Nat} {P a b : Nat}
theorem dec_loop {fa fb : Nat → Int32} {h : Hp} (I : Inv h) (hP : IsPact P) (ha : a < 6) (hb : b < 6) (qa : fRow h (276 + a) fa) (qb : fRow h (276 + b) fb) : ∀ (ts : List Nat) (j : Nat) (v5 : Option Value), cTests h P j ts → (∀ t, t ∈ ts → t ≤ 3) → hI h P 2 = Int32.ofNat (j + ts.length) → j + ts.length ≤ 20 →
    sem (X, K X d) 15 3 [some (.ref 274), some (.ref P), some (.int (Int32.ofNat a)), some (.int (Int32.ofNat b)), some (.int (Int32.ofNat j)), v5] [] h = some (some (.int (decI ((decF fa fb ts).map (· + j)))), h)
  | [], j, v5, _, _, hn, hm => by
    refine Wp.eqI ?_
    rw [b_15_3]
    refine w_gI I hP.s ?_
    rw [hn]
    refine w_ift ((i_le (by omega) (by omega)).mpr (by simp)) ?_
    exact Wp.reti ⟨rfl, rfl⟩
  | t :: ts, j, v5, hc, ht, hn, hm => by
    have hm2 : j + 1 + ts.length ≤ 20 := by simp at hm; omega
    have hn2 : hI h P 2 = Int32.ofNat (j + 1 + ts.length) := by rw [hn, List.length_cons]; congr 1; omega
    have t3 := ht t (by simp)
    have ih := fun v5 => dec_loop I hP ha hb qa qb ts (j + 1) v5 hc.2 (fun t' h' => ht t' (by simp [h'])) hn2 hm2
    refine Wp.eqI ?_
    rw [b_15_3]
    refine w_gI I hP.s ?_
    rw [hn2]
    refine w_iff (fun z => absurd ((i_le (by omega) (by omega)).mp z) (by omega)) ?_
    refine w_gL I hP.s hP.l0 ?_
    refine w_aIn I hP.s1 (by omega) (by decide) ?_
    rw [hc.1, i32_ofNat_succ]
    refine w_gL I s_274 l_274_1 ?_
    refine w_aLn I s_275 (by decide) (by decide) ha (by decide) (lk_facts a ha) ?_
    refine w_aIn I (IsFact.s (is_fact a ha)) (by omega) (by decide) ?_
    refine w_gL I s_274 l_274_1 ?_
    refine w_aLn I s_275 (by decide) (by decide) hb (by decide) (lk_facts b hb) ?_
    refine w_aIn I (IsFact.s (is_fact b hb)) (by omega) (by decide) ?_
    rw [qa t (by omega), qb t (by omega)]
    refine w_if (fun c => ?_) (fun c => ?_)
    · rw [ih]
      refine Wp.reti ⟨?_, rfl⟩
      simp only [decF, c, if_true, Option.map_map]
      congr 2
      funext x
      show x + (j + 1) = x + 1 + j
      omega
    · refine Wp.reti ⟨?_, rfl⟩
      simp [decF, c, decI]
theorem m_15 {fa fb : Nat → Int32} {h : Hp} {ts : List Nat} (I : Inv h) (hP : IsPact P) (ha : a < 6) (hb : b < 6) (qa : fRow h (276 + a) fa) (qb : fRow h (276 + b) fb) (q1 : hI h P 2 = Int32.ofNat ts.length) (q2 : cTests h P 0 ts) (o : okT ts) :
    K X (d + 1) 15 [.ref 274, .ref P, .int (Int32.ofNat a), .int (Int32.ofNat b)] h = some (some (.int (decI (decF fa fb ts))), h) := by
  rw [k_15]
  have := dec_loop (X := X) (d := d) I hP ha hb qa qb ts 0 none q2 o.2 (by rw [q1]; congr 1; omega) (by have := o.1; omega)
  simp only [Nat.add_zero, Option.map_id'] at this
  exact this
def gwS (sy : Nat → Bool) (fa fb : Nat → Int32) (ts : List Nat) (a b : Nat) : Bool := sy a && sy b && gwL fa fb ts
/-- giveWay: one of both, above it the other one -/
theorem m_14 {fa fb : Nat → Int32} {h : Hp} {ts : List Nat} {sy : Nat → Bool} (I : Inv h) (hP : IsPact P) (ha : a < 6) (hb : b < 6) (hab : a ≠ b) (hs : ∀ k, k < 6 → bt (hI h 274 14) k = sy k) (qa : fRow h (276 + a) fa) (qb : fRow h (276 + b) fb) (q1 : hI h P 2 = Int32.ofNat ts.length) (q2 : cTests h P 0 ts) (o : okT ts) :
    Wp (K X (d + 2) 14 [.ref 274, .ref P, .int (Int32.ofNat a), .int (Int32.ofNat b)] h) (VV fun h' => Eo (fun x => x = 284) h h' ∧ (∀ x, x < 6 → x ≠ a → x ≠ b → hI h' 284 x = hI h 284 x) ∧
      (∀ k, k < 32 → bt (hI h' 284 a) k = (bt (hI h 284 a) k || (decide (k = b) && gwS sy fa fb ts a b))) ∧ (∀ k, k < 32 → bt (hI h' 284 b) k = (bt (hI h 284 b) k || (decide (k = a) && gwS sy fb fa ts b a)))) := by
  have stay : (sy a && sy b) = false ∨ (gwL fa fb ts = false ∧ gwL fb fa ts = false) → Wp (some (none, h)) (VV fun h' => Eo (fun x => x = 284) h h' ∧ (∀ x, x < 6 → x ≠ a → x ≠ b → hI h' 284 x = hI h 284 x) ∧
      (∀ k, k < 32 → bt (hI h' 284 a) k = (bt (hI h 284 a) k || (decide (k = b) && gwS sy fa fb ts a b))) ∧ (∀ k, k < 32 → bt (hI h' 284 b) k = (bt (hI h 284 b) k || (decide (k = a) && gwS sy fb fa ts b a)))) := by
    intro z
    have z1 : gwS sy fa fb ts a b = false := by
      unfold gwS
      rcases z with z | z
      · rw [z]; rfl
      · rw [z.1, Bool.and_false]
    have z2 : gwS sy fb fa ts b a = false := by
      unfold gwS
      rcases z with z | z
      · rw [Bool.and_comm (sy b), z]; rfl
      · rw [z.2, Bool.and_false]
    refine Wp.retv ⟨Eo.rf, fun _ _ _ _ => rfl, fun k _ => ?_, fun k _ => ?_⟩
    · rw [z1, Bool.and_false, Bool.or_false]
    · rw [z2, Bool.and_false, Bool.or_false]
  rw [k_14]
  refine w_gI I s_274 ?_
  refine w_eI (m_has (by omega)) ?_
  rw [hs a ha]
  refine w_if (fun c => stay (Or.inl (by rw [bi_0.mp c]; rfl))) (fun c => ?_)
  have sa : sy a = true := by cases z : sy a; rw [z] at c; exact absurd rfl c; rfl
  refine w_gI I s_274 ?_
  refine w_eI (m_has (by omega)) ?_
  rw [hs b hb]
  refine w_if (fun c => ?_) (fun c => stay (Or.inl (by rw [bi_0.mp (Classical.byContradiction c), Bool.and_false])))
  have sb : sy b = true := by cases z : sy b; rw [z] at c; exact absurd rfl c; rfl
  refine w_gS I s_274 ?_
  refine w_eI (m_15 I hP ha hb qa qb q1 q2 o) ?_
  cases hd : decF fa fb ts with
  | none => exact w_ift rfl (stay (Or.inr (decF_none hd)))
  | some i =>
    obtain ⟨p1, p2, p3, p4⟩ := decF_some hd
    have o1 := o.1
    have hi3 : ts.getD i 0 ≤ 3 := o.2 _ (by rw [List.getD_eq_getElem?_getD, List.getElem?_eq_getElem p1]; exact List.getElem_mem p1)
    have ht : hI h (P + 1) i = Int32.ofNat (ts.getD i 0) := by have := q2.at p1; rw [Nat.zero_add] at this; exact this
    refine w_iff (i_nm1 (by omega)) ?_
    refine w_gL I hP.s hP.l0 ?_
    refine w_aIn I hP.s1 (by omega) (by decide) ?_
    rw [ht]
    refine w_gL I s_274 l_274_1 ?_
    refine w_aLn I s_275 (by decide) (by decide) ha (by decide) (lk_facts a ha) ?_
    refine w_aIn I (IsFact.s (is_fact a ha)) (by omega) (by decide) ?_
    refine w_gL I s_274 l_274_1 ?_
    refine w_aLn I s_275 (by decide) (by decide) hb (by decide) (lk_facts b hb) ?_
    refine w_aIn I (IsFact.s (is_fact b hb)) (by omega) (by decide) ?_
    rw [qa _ (by omega), qb _ (by omega)]
    have za : gwS sy fa fb ts a b = decide (fa (ts.getD i 0) < fb (ts.getD i 0)) := by unfold gwS; rw [sa, sb, p2]; rfl
    have zb : gwS sy fb fa ts b a = decide (fb (ts.getD i 0) < fa (ts.getD i 0)) := by unfold gwS; rw [sa, sb, p3]; rfl
    rw [za, zb]
    refine w_if (fun c => ?_) (fun c => ?_)
    · have c1 : ¬ fb (ts.getD i 0) < fa (ts.getD i 0) := Int32.not_lt.mpr c
      have c2 : fa (ts.getD i 0) < fb (ts.getD i 0) := Int32.lt_of_le_of_ne c p4
      rw [decide_eq_true c2, decide_eq_false c1]
      refine w_gL I s_274 l_274_4 ?_
      refine w_ift rfl ?_
      rw [b_14_91]
      refine w_aIn I s_284 ha (by decide) ?_
      refine w_ift rfl ?_
      refine w_wIn I s_284 ha (by decide) fun I => ?_
      refine Wp.retv ⟨Eo.rf.kI rfl, fun x _ x1 _ => ?_, fun k hk => ?_, fun k hk => ?_⟩
      · rw [hI_sI_self, up1, if_neg x1]
      · rw [hI_sI_self, up1, if_pos rfl, bt_set (by omega) hk, Bool.and_true]
      · rw [hI_sI_self, up1, if_neg (fun z => hab z.symm), Bool.and_false, Bool.or_false]
    · have c1 : fb (ts.getD i 0) < fa (ts.getD i 0) := Int32.not_le.mp c
      have c2 : ¬ fa (ts.getD i 0) < fb (ts.getD i 0) := Int32.not_lt.mpr (Int32.le_of_lt c1)
      rw [decide_eq_false c2, decide_eq_true c1]
      refine w_gL I s_274 l_274_4 ?_
      refine w_iff (by decide) ?_
      rw [b_14_91]
      refine w_aIn I s_284 hb (by decide) ?_
      refine w_iff (by decide) ?_
      refine w_wIn I s_284 hb (by decide) fun I => ?_
      refine Wp.retv ⟨Eo.rf.kI rfl, fun x _ _ x2 => ?_, fun k hk => ?_, fun k hk => ?_⟩
      · rw [hI_sI_self, up1, if_neg x2]
      · rw [hI_sI_self, up1, if_neg hab, Bool.and_false, Bool.or_false]
      · rw [hI_sI_self, up1, if_pos rfl, bt_set (by omega) hk, Bool.and_true]
/-! the model -/
def mTst (h : Hp) (p : Nat) : Nat → List Nat → Prop
  | _, [] => True
  | j, t :: ts => hI h 327 (20 * p + j) = Int32.ofNat (t + 1) ∧ mTst h p (j + 1) ts
def mTests (h : Hp) (p : Nat) (ts : List Nat) : Prop := hI h 326 p = Int32.ofNat ts.length ∧ mTst h p 0 ts
theorem mTst.eo {h h' : Hp} {p : Nat} (e : hI h' 327 = hI h 327) : ∀ {ts : List Nat} {j : Nat}, mTst h p j ts → mTst h' p j ts
  | [], _, _ => trivial
  | _ :: _, _, q => ⟨by rw [e]; exact q.1, mTst.eo e q.2⟩
theorem mTests.eo {h h' : Hp} {p : Nat} {ts : List Nat} (q : mTests h p ts) (e1 : hI h' 326 = hI h 326) (e2 : hI h' 327 = hI h 327) : mTests h' p ts := ⟨by rw [e1]; exact q.1, q.2.eo e2⟩
theorem mTst.at {h : Hp} {p : Nat} : ∀ {ts : List Nat} {j i : Nat}, mTst h p j ts → i < ts.length → hI h 327 (20 * p + (j + i)) = Int32.ofNat (ts.getD i 0 + 1)
  | [], _, _, _, hi => absurd hi (Nat.not_lt_zero _)
  | t :: ts, j, 0, q, _ => q.1
  | t :: ts, j, i + 1, q, hi => by
    have := mTst.at (i := i) q.2 (by simpa using hi)
    rw [List.getD_cons_succ, ← this]
    congr 1
    omega
theorem m_193 {V : Sv} {h : Hp} {l t : Nat} (I : Inv h) (hl : l < 6) (ht : t ≤ 3) (hV : mSv h V) : K X (d + 1) 193 [.ref 301, .int (Int32.ofNat l), .int (Int32.ofNat (t + 1))] h = some (some (.int (pF V l t)), h) := by
  obtain ⟨v1, v2, v3, v4⟩ := hV
  refine Wp.eqI ?_
  rw [k_193]
  have : t = 0 ∨ t = 1 ∨ t = 2 ∨ t = 3 := by omega
  rcases this with rfl | rfl | rfl | rfl
  · refine w_iff (fun z => z rfl) ?_
    refine w_gL I s_301 l_301_46 ?_
    refine w_aIn I s_335 hl (by decide) ?_
    rw [v1 l hl]
    exact Wp.reti ⟨rfl, rfl⟩
  · refine w_ift (by decide) ?_
    refine w_iff (fun z => z rfl) ?_
    refine w_gI I s_301 ?_
    rw [v2, shr_bt (by omega)]
    exact Wp.reti ⟨rfl, rfl⟩
  · refine w_ift (by decide) ?_
    refine w_ift (by decide) ?_
    refine w_iff (fun z => z rfl) ?_
    refine w_gI I s_301 ?_
    rw [v3]
    refine w_if (fun c => ?_) (fun c => ?_)
    · exact Wp.reti ⟨by simp [pF, bi, c], rfl⟩
    · exact Wp.reti ⟨by simp [pF, bi, Classical.byContradiction c], rfl⟩
  · refine w_ift (by decide) ?_
    refine w_ift (by decide) ?_
    refine w_ift (by decide) ?_
    refine w_gI I s_301 ?_
    rw [v4]
    refine w_if (fun c => ?_) (fun c => ?_)
    · exact Wp.reti ⟨by simp [pF, bi, c], rfl⟩
    · exact Wp.reti ⟨by simp [pF, bi, Classical.byContradiction c], rfl⟩
theorem mdec_loop {V : Sv} {h : Hp} {p : Nat} (I : Inv h) (hp : p < 36) (ha : a < 6) (hb : b < 6) (hV : mSv h V) : ∀ (ts : List Nat) (j : Nat), mTst h p j ts → (∀ t, t ∈ ts → t ≤ 3) → hI h 326 p = Int32.ofNat (j + ts.length) → j + ts.length ≤ 20 →
    sem (X, K X (d + 1)) 194 9 [some (.ref 301), some (.int (Int32.ofNat a)), some (.int (Int32.ofNat b)), some (.int (Int32.ofNat p)), some (.int (Int32.ofNat j))] [] h = some (some (.int (decI ((decF (pF V a) (pF V b) ts).map (· + j)))), h)
  | [], j, _, _, hn, hm => by
    refine Wp.eqI ?_
    rw [b_194_9]
    refine w_gL I s_301 l_301_24 ?_
    refine w_aIn I s_326 (by omega) (by decide) ?_
    rw [hn]
    refine w_ift ((i_le (by omega) (by omega)).mpr (by simp)) ?_
    exact Wp.reti ⟨rfl, rfl⟩
  | t :: ts, j, hc, ht, hn, hm => by
    have hm2 : j + 1 + ts.length ≤ 20 := by simp at hm; omega
    have hn2 : hI h 326 p = Int32.ofNat (j + 1 + ts.length) := by rw [hn, List.length_cons]; congr 1; omega
    have t3 := ht t (by simp)
    have x1 : (20 : Int32) * Int32.ofNat p + Int32.ofNat j = Int32.ofNat (20 * p + j) := i_lin1 20 p j
    refine Wp.eqI ?_
    rw [b_194_9]
    refine w_gL I s_301 l_301_24 ?_
    refine w_aIn I s_326 (by omega) (by decide) ?_
    rw [hn2]
    refine w_iff (fun z => absurd ((i_le (by omega) (by omega)).mp z) (by omega)) ?_
    refine w_gL I s_301 l_301_25 ?_
    rw [x1, i32_ofNat_succ]
    refine w_aIn I s_327 (by omega) (by decide) ?_
    refine w_gS I s_301 ?_
    rw [hc.1]
    refine w_eI (m_193 I ha t3 hV) ?_
    refine w_gL I s_301 l_301_25 ?_
    refine w_aIn I s_327 (by omega) (by decide) ?_
    refine w_gS I s_301 ?_
    rw [hc.1]
    refine w_eI (m_193 I hb t3 hV) ?_
    refine w_if (fun c => ?_) (fun c => ?_)
    · rw [mdec_loop I hp ha hb hV ts (j + 1) hc.2 (fun t' h' => ht t' (by simp [h'])) hn2 hm2]
      refine Wp.reti ⟨?_, rfl⟩
      simp only [decF, c, if_true, Option.map_map]
      congr 2
      funext x
      show x + (j + 1) = x + 1 + j
      omega
    · refine Wp.reti ⟨?_, rfl⟩
      simp [decF, c, decI]
theorem m_194 {V : Sv} {h : Hp} {ts : List Nat} (I : Inv h) (ha : a < 6) (hb : b < 6) (hV : mSv h V) (q : mTests h (pm a b) ts) (o : okT ts) :
    K X (d + 2) 194 [.ref 301, .int (Int32.ofNat a), .int (Int32.ofNat b)] h = some (some (.int (decI (decF (pF V a) (pF V b) ts))), h) := by
  refine Wp.eqI ?_
  rw [k_194]
  refine w_eI (m_186 ha hb) ?_
  have e := mdec_loop (X := X) (d := d) I (pm_lt a ha b hb) ha hb hV ts 0 q.2 o.2 (by rw [q.1]; congr 1; omega) (by have := o.1; omega)
  simp only [Nat.add_zero, Option.map_id'] at e
  exact Wp.eq e ⟨_, rfl, rfl, rfl⟩
theorem i_and_bi (x y : Bool) : (bi x &&& bi y) = bi (x && y) := by cases x <;> cases y <;> decide
theorem and_sh {s : Int32} {a b : Nat} (ha : a < 32) (hb : b < 32) : ((s >>> (Int32.ofNat a &&& 31)) &&& (s >>> (Int32.ofNat b &&& 31))) &&& 1 = bi (bt s a && bt s b) := by
  have e : ((s >>> (Int32.ofNat a &&& 31)) &&& (s >>> (Int32.ofNat b &&& 31))) &&& 1 = ((s >>> (Int32.ofNat a &&& 31)) &&& 1) &&& ((s >>> (Int32.ofNat b &&& 31)) &&& 1) := by
    apply Int32.toBitVec_inj.1
    simp only [Int32.toBitVec_and]
    rw [BitVec.and_assoc, BitVec.and_assoc]
    congr 1
    rw [BitVec.and_comm, ← BitVec.and_assoc, BitVec.and_comm _ (1 : Int32).toBitVec]
    simp only [← BitVec.and_assoc, BitVec.and_self]
  rw [e, shr_bt ha, shr_bt hb, i_and_bi]
theorem m_195 {V : Sv} {h : Hp} {ts : List Nat} {sy : Nat → Bool} (I : Inv h) (ha : a < 6) (hb : b < 6) (hV : mSv h V) (hs : ∀ k, k < 6 → bt (hI h 301 62) k = sy k) (q : mTests h (pm a b) ts) (o : okT ts) :
    K X (d + 3) 195 [.ref 301, .int (Int32.ofNat a), .int (Int32.ofNat b)] h = some (some (.int (bi (gwS sy (pF V a) (pF V b) ts a b))), h) := by
  refine Wp.eqI ?_
  rw [k_195]
  refine w_gI I s_301 ?_
  refine w_gI I s_301 ?_
  rw [and_sh (by omega) (by omega), hs a ha, hs b hb]
  refine w_if (fun c => ?_) (fun c => ?_)
  · have c : (sy a && sy b) = true := by cases z : (sy a && sy b); rw [z] at c; exact absurd rfl c; rfl
    have g0 : gwS sy (pF V a) (pF V b) ts a b = gwL (pF V a) (pF V b) ts := by unfold gwS; rw [c]; rfl
    rw [g0]
    refine w_gS I s_301 ?_
    refine w_eI (m_194 I ha hb hV q o) ?_
    cases hd : decF (pF V a) (pF V b) ts with
    | none => exact w_ift rfl (Wp.reti ⟨by rw [(decF_none hd).1]; rfl, rfl⟩)
    | some i =>
      obtain ⟨p1, p2, p3, p4⟩ := decF_some hd
      have o1 := o.1
      have hi3 : ts.getD i 0 ≤ 3 := o.2 _ (by rw [List.getD_eq_getElem?_getD, List.getElem?_eq_getElem p1]; exact List.getElem_mem p1)
      have hp := pm_lt a ha b hb
      have ht : hI h 327 (20 * pm a b + i) = Int32.ofNat (ts.getD i 0 + 1) := by have := q.2.at p1; rw [Nat.zero_add] at this; exact this
      have x1 : (20 : Int32) * Int32.ofNat (pm a b) + Int32.ofNat i = Int32.ofNat (20 * pm a b + i) := i_lin1 20 _ i
      refine w_iff (i_nm1 (by omega)) ?_
      refine w_gL I s_301 l_301_25 ?_
      refine w_eI (m_186 ha hb) ?_
      show Wp (aI X h 327 (20 * Int32.ofNat (pm a b) + Int32.ofNat i) _) _
      rw [x1]
      refine w_aIn I s_327 (by omega) (by decide) ?_
      refine w_gS I s_301 ?_
      rw [ht]
      refine w_eI (m_193 I ha hi3 hV) ?_
      refine w_gL I s_301 l_301_25 ?_
      refine w_eI (m_186 ha hb) ?_
      show Wp (aI X h 327 (20 * Int32.ofNat (pm a b) + Int32.ofNat i) _) _
      rw [x1]
      refine w_aIn I s_327 (by omega) (by decide) ?_
      refine w_gS I s_301 ?_
      rw [ht]
      refine w_eI (m_193 I hb hi3 hV) ?_
      rw [p2]
      refine w_if (fun c => ?_) (fun c => ?_)
      · rw [decide_eq_false (Int32.not_lt.mpr c)]; exact Wp.reti ⟨rfl, rfl⟩
      · rw [decide_eq_true (Int32.not_le.mp c)]; exact Wp.reti ⟨rfl, rfl⟩
  · have c : (sy a && sy b) = false := by cases z : (sy a && sy b); rfl; rw [z] at c; exact absurd (by decide) c
    have g0 : gwS sy (pF V a) (pF V b) ts a b = false := by unfold gwS; rw [c]; rfl
    rw [g0]
    exact Wp.reti ⟨rfl, rfl⟩
end PA
