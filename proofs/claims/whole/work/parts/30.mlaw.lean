/-! LAWS: the model's side -/
def mLine (h : Hp) (l j : Nat) : Option Rule → Prop
  | none => ∃ s, 2 ≤ s ∧ s ≤ 4 ∧ hI h 312 (20 * l + j) = Int32.ofNat s
  | some r => (r.1 = 6 ∧ hI h 312 (20 * l + j) = 0 ∧ ∃ a b, hI h 315 (20 * l + j) = Int32.ofNat a ∧ hI h 316 (20 * l + j) = Int32.ofNat b ∧ stepsAt h l a r.2.2 ∧ a + r.2.2.length = b ∧ b ≤ 610) ∨
      (r.1 ≠ 6 ∧ hI h 312 (20 * l + j) = 1 ∧ hI h 313 (20 * l + j) = Int32.ofNat r.1 ∧ ∃ z a b, hI h 314 (20 * l + j) = Int32.ofNat z ∧ hI h 315 (20 * l + j) = Int32.ofNat a ∧ hI h 316 (20 * l + j) = Int32.ofNat b ∧ stepsAt h l z r.2.1 ∧ z + r.2.1.length = a ∧ stepsAt h l a r.2.2 ∧ a + r.2.2.length = b ∧ b ≤ 610)
def mLines (h : Hp) (l : Nat) : Nat → List (Option Rule) → Prop
  | _, [] => True
  | j, o :: os => mLine h l j o ∧ mLines h l (j + 1) os
def rulesOf (os : List (Option Rule)) : List Rule := os.filterMap id
def mLaw (h : Hp) (l : Nat) (A : ALaw) : Prop := ∃ os, rulesOf os = A.1 ∧ os.length ≤ 20 ∧ hI h 311 l = Int32.ofNat os.length ∧ mLines h l 0 os ∧ hI h 319 l = Int32.ofNat A.2.1.length ∧ mSteps h l 0 A.2.1 ∧ hI h 318 l = Int32.ofNat A.2.2.1 ∧ hI h 322 l = Int32.ofNat A.2.2.2
/-- where the model keeps its LAWS -/
def inML (a : Nat) : Prop := 311 ≤ a ∧ a ≤ 322
def mlEq (h h' : Hp) : Prop := ∀ a, inML a → hI h' a = hI h a
theorem mLine.eo {h h' : Hp} {l j : Nat} (e : mlEq h h') : ∀ {o : Option Rule}, mLine h l j o → mLine h' l j o
  | none, q => by
    obtain ⟨s, q1, q2, q3⟩ := q
    exact ⟨s, q1, q2, by rw [e 312 (by unfold inML; omega)]; exact q3⟩
  | some r, q => by
    have e17 := e 317 (by unfold inML; omega)
    rcases q with ⟨q1, q2, a, b, q3, q4, q5, q6, q7⟩ | ⟨q1, q2, q3, z, a, b, q4, q5, q6, q7, q8, q9, q10, q11⟩
    · exact Or.inl ⟨q1, by rw [e 312 (by unfold inML; omega)]; exact q2, a, b, by rw [e 315 (by unfold inML; omega)]; exact q3, by rw [e 316 (by unfold inML; omega)]; exact q4, q5.eo e17, q6, q7⟩
    · exact Or.inr ⟨q1, by rw [e 312 (by unfold inML; omega)]; exact q2, by rw [e 313 (by unfold inML; omega)]; exact q3, z, a, b, by rw [e 314 (by unfold inML; omega)]; exact q4, by rw [e 315 (by unfold inML; omega)]; exact q5, by rw [e 316 (by unfold inML; omega)]; exact q6, q7.eo e17, q8, q9.eo e17, q10, q11⟩
theorem mLines.eo {h h' : Hp} {l : Nat} (e : mlEq h h') : ∀ {os : List (Option Rule)} {j : Nat}, mLines h l j os → mLines h' l j os
  | [], _, _ => trivial
  | _ :: _, _, q => ⟨q.1.eo e, mLines.eo e q.2⟩
theorem mSteps.eo {h h' : Hp} {l : Nat} (e : mlEq h h') : ∀ {ss : List (Nat × Nat)} {j : Nat}, mSteps h l j ss → mSteps h' l j ss
  | [], _, _ => trivial
  | _ :: _, _, q => ⟨⟨by rw [e 320 (by unfold inML; omega)]; exact q.1.1, by rw [e 321 (by unfold inML; omega)]; exact q.1.2⟩, mSteps.eo e q.2⟩
theorem mLaw.eo {h h' : Hp} {l : Nat} {A : ALaw} (q : mLaw h l A) (e : mlEq h h') : mLaw h' l A := by
  obtain ⟨os, q1, q2, q3, q4, q5, q6, q7, q8⟩ := q
  exact ⟨os, q1, q2, by rw [e 311 (by unfold inML; omega)]; exact q3, q4.eo e, by rw [e 319 (by unfold inML; omega)]; exact q5, q6.eo e, by rw [e 318 (by unfold inML; omega)]; exact q7, by rw [e 322 (by unfold inML; omega)]; exact q8⟩
theorem Eo.ml {W : Nat → Prop} {h h' : Hp} (e : Eo W h h') (w : ∀ a, inML a → ¬ W a) : mlEq h h' := fun a ha => e.i (w a ha)
/-- the model's facts: of each, one place on -/
def gRow (h : Hp) (f : Nat → Int32) : Prop := ∀ k, k < 8 → hI h 334 (k + 1) = f k
theorem gRow.eo {h h' : Hp} {f : Nat → Int32} (q : gRow h f) (e : hI h' 334 = hI h 334) : gRow h' f := fun k hk => by rw [e]; exact q k hk
theorem p333_ml : ∀ a, inML a → ¬ (fun a => a = 333) a := fun a ha z => by unfold inML at ha; have z : a = 333 := z; omega
section ML
variable {X : Ctx} {d : Nat} {l : Nat}
theorem msays_loop (hl : l < 7) {f : Nat → Int32} : ∀ (os : List (Option Rule)) (j : Nat) (h : Hp) (v3 : Option Value), Inv h → mLines h l j os → (∀ r, r ∈ rulesOf os → okR r) → hI h 311 l = Int32.ofNat (j + os.length) → j + os.length ≤ 20 → gRow h f →
    Wp (sem (X, K X (d + 2)) 192 7 [some (.ref 301), some (.int (Int32.ofNat l)), some (.int (Int32.ofNat j)), v3] [] h) (VI fun x h' => x = bi (says f (rulesOf os)) ∧ Eo (fun a => a = 333) h h')
  | [], j, h, v3, I, _, _, hn, hm, _ => by
    rw [b_192_7]
    refine w_gL I s_301 l_301_9 ?_
    refine w_aIn I s_311 hl (by decide) ?_
    rw [hn]
    refine w_ift ((i_le (by omega) (by omega)).mpr (by simp)) ?_
    exact Wp.reti ⟨rfl, Eo.rf⟩
  | o :: os, j, h, v3, I, hc, hr, hn, hm, hf => by
    have hm2 : j + 1 + os.length ≤ 20 := by simp at hm; omega
    have hn2 : hI h 311 l = Int32.ofNat (j + 1 + os.length) := by rw [hn, List.length_cons]; congr 1; omega
    have x1 : (20 : Int32) * Int32.ofNat l + Int32.ofNat j = Int32.ofNat (20 * l + j) := i_lin1 20 l j
    have hr2 : ∀ r, r ∈ rulesOf os → okR r := fun r h' => hr r (by cases o <;> simp [rulesOf] at h' ⊢ <;> first | exact h' | exact Or.inr h')
    rw [b_192_7]
    refine w_gL I s_301 l_301_9 ?_
    refine w_aIn I s_311 hl (by decide) ?_
    rw [hn2]
    refine w_iff (fun z => absurd ((i_le (by omega) (by omega)).mp z) (by omega)) ?_
    refine w_gL I s_301 l_301_10 ?_
    rw [x1, i32_ofNat_succ]
    refine w_aIn I s_312 (by omega) (by decide) ?_
    cases o with
    | none =>
      obtain ⟨s, s1, s2, s3⟩ := hc.1
      rw [s3]
      refine w_ift (fun z => absurd ((i_eq (n := 0) (by omega) (by omega)).mp z) (by omega)) ?_
      exact msays_loop hl os (j + 1) h _ I hc.2 hr2 hn2 hm2 hf
    | some r =>
      have er : rulesOf (some r :: os) = r :: rulesOf os := rfl
      rw [er]
      rcases hc.1 with ⟨q1, q2, a, b, q3, q4, q5, q6, q7⟩ | ⟨q1, q2, -⟩
      · rw [q2]
        refine w_iff (fun z => z rfl) ?_
        refine w_gL I s_301 l_301_13 ?_
        refine w_aIn I s_315 (by omega) (by decide) ?_
        refine w_gL I s_301 l_301_14 ?_
        refine w_aIn I s_316 (by omega) (by decide) ?_
        refine w_gS I s_301 ?_
        rw [q3, q4]
        have k := (hr r (by rw [er]; simp)).2.1 q1
        refine w_bI I (m_185 I hl q7 k.2 q5 q6 hf) (by decide) rfl fun x h1 I1 p => ?_
        obtain ⟨rfl, E⟩ := p
        refine w_if (fun hx => ?_) (fun hx => ?_)
        · have es : says f (r :: rulesOf os) = says f (rulesOf os) := by simp [says, hx]
          rw [es]
          refine (msays_loop hl os (j + 1) h1 _ I1 (hc.2.eo (E.ml p333_ml)) hr2 (by rw [E.i (by decide)]; exact hn2) hm2 (hf.eo (E.i (by decide)))).mono ?_
          rintro v h' ⟨x, rfl, rfl, E'⟩
          exact ⟨_, rfl, rfl, E.tr E'⟩
        · have hx : evv f r.2.2 = 1 := Classical.byContradiction hx
          have es : says f (r :: rulesOf os) = true := by simp [says, q1, hx]
          rw [es]
          exact Wp.reti ⟨rfl, E⟩
      · rw [q2]
        refine w_ift (by decide) ?_
        have es : says f (r :: rulesOf os) = says f (rulesOf os) := by simp [says, q1]
        rw [es]
        exact msays_loop hl os (j + 1) h _ I hc.2 hr2 hn2 hm2 hf
theorem clamp_m {v : Int32} {h : Hp} {Q : Option Value → Hp → Prop} (q : Q (some (.int (clamp v))) h) : Wp (if 0 ≤ v then if v ≤ 100 then some (some (.int v), h) else some (some (.int 100), h) else some (some (.int 0), h)) Q := by
  unfold clamp at q
  refine w_if (fun c => ?_) (fun c => ?_)
  · rw [if_neg (Int32.not_lt.mpr c)] at q
    refine w_if (fun c2 => ?_) (fun c2 => ?_)
    · rw [if_neg (Int32.not_lt.mpr c2)] at q; exact Wp.ret q
    · rw [if_pos (Int32.not_le.mp c2)] at q; exact Wp.ret q
  · rw [if_pos (Int32.not_le.mp c)] at q; exact Wp.ret q
theorem rate_end {h : Hp} {f : Nat → Int32} {r : Rule} {j z m : Nat} {v2 v3 v5 : Option Value} (I : Inv h) (hl : l < 7) (hj : j < 20) (q2 : hI h 314 (20 * l + j) = Int32.ofNat z) (q3 : hI h 315 (20 * l + j) = Int32.ofNat m) (hm : m ≤ 610) (q5 : stepsAt h l z r.2.1) (q6 : z + r.2.1.length = m) (k : okS r.2.1 0) (hf : gRow h f) :
    Wp (sem (X, K X (d + 2)) 205 88 [some (.ref 301), some (.int (Int32.ofNat l)), v2, v3, some (.int (Int32.ofNat (20 * l + j))), v5] [] h) (VI fun x h' => x = clamp (evv f r.2.1) ∧ Eo (fun a => a = 333) h h') := by
  rw [b_205_88]
  refine w_gL I s_301 l_301_12 ?_
  refine w_aIn I s_314 (by omega) (by decide) ?_
  refine w_gL I s_301 l_301_13 ?_
  refine w_aIn I s_315 (by omega) (by decide) ?_
  refine w_gS I s_301 ?_
  rw [q2, q3]
  refine w_bI I (m_185 I hl hm k q5 q6 hf) (by decide) rfl fun x h1 I1 p => ?_
  obtain ⟨rfl, E⟩ := p
  exact clamp_m ⟨_, rfl, rfl, E⟩
theorem rate_loop (hl : l < 7) {f : Nat → Int32} {k : Nat} (hk : k < 6) : ∀ (os : List (Option Rule)) (j : Nat) (h : Hp) (v4 v5 : Option Value), Inv h → mLines h l j os → (∀ r, r ∈ rulesOf os → okR r) → hI h 311 l = Int32.ofNat (j + os.length) → j + os.length ≤ 20 → gRow h f →
    Wp (sem (X, K X (d + 2)) 205 2 [some (.ref 301), some (.int (Int32.ofNat l)), some (.int (Int32.ofNat k)), some (.int (Int32.ofNat j)), v4, v5] [] h) (VI fun x h' => x = rateP f k (rulesOf os) ∧ Eo (fun a => a = 333) h h')
  | [], j, h, v4, v5, I, _, _, hn, hm, _ => by
    rw [b_205_2]
    refine w_gL I s_301 l_301_9 ?_
    refine w_aIn I s_311 hl (by decide) ?_
    rw [hn]
    refine w_ift ((i_le (by omega) (by omega)).mpr (by simp)) ?_
    exact Wp.reti ⟨rfl, Eo.rf⟩
  | o :: os, j, h, v4, v5, I, hc, hr, hn, hm, hf => by
    have hm2 : j + 1 + os.length ≤ 20 := by simp at hm; omega
    have hn2 : hI h 311 l = Int32.ofNat (j + 1 + os.length) := by rw [hn, List.length_cons]; congr 1; omega
    have x1 : (20 : Int32) * Int32.ofNat l + Int32.ofNat j = Int32.ofNat (20 * l + j) := i_lin1 20 l j
    have hr2 : ∀ r, r ∈ rulesOf os → okR r := fun r h' => hr r (by cases o <;> simp [rulesOf] at h' ⊢ <;> first | exact h' | exact Or.inr h')
    rw [b_205_2]
    refine w_gL I s_301 l_301_9 ?_
    refine w_aIn I s_311 hl (by decide) ?_
    rw [hn2]
    refine w_iff (fun z => absurd ((i_le (by omega) (by omega)).mp z) (by omega)) ?_
    refine w_gL I s_301 l_301_10 ?_
    rw [x1, i32_ofNat_succ]
    refine w_aIn I s_312 (by omega) (by decide) ?_
    cases o with
    | none =>
      obtain ⟨s, s1, s2, s3⟩ := hc.1
      rw [s3]
      refine w_ift (fun z => absurd ((i_eq (n := 1) (by omega) (by omega)).mp z) (by omega)) ?_
      exact rate_loop hl hk os (j + 1) h _ _ I hc.2 hr2 hn2 hm2 hf
    | some r =>
      have er : rulesOf (some r :: os) = r :: rulesOf os := rfl
      have kr := hr r (by rw [er]; simp)
      rw [er]
      rcases hc.1 with ⟨q1, q2, -⟩ | ⟨q1, q2, q3, z, a, b, q4, q5, q6, q7, q8, q9, q10, q11⟩
      · rw [q2]
        refine w_ift (by decide) ?_
        have es : rateP f k (r :: rulesOf os) = rateP f k (rulesOf os) := by simp [rateP, q1]; intro z; omega
        rw [es]
        exact rate_loop hl hk os (j + 1) h _ _ I hc.2 hr2 hn2 hm2 hf
      · rw [q2]
        refine w_iff (fun z => z rfl) ?_
        refine w_gL I s_301 l_301_11 ?_
        refine w_aIn I s_313 (by omega) (by decide) ?_
        rw [q3]
        have hr6 := kr.1
        obtain ⟨k4, k5⟩ := kr.2.2 (by omega)
        refine w_if (fun hx => ?_) (fun hx => ?_)
        · have hx : r.1 = k := (i_eq (by omega) (by omega)).mp hx
          refine w_gL I s_301 l_301_14 ?_
          refine w_aIn I s_316 (by omega) (by decide) ?_
          refine w_gL I s_301 l_301_13 ?_
          refine w_aIn I s_315 (by omega) (by decide) ?_
          rw [q5, q6]
          refine w_if (fun hy => ?_) (fun hy => ?_)
          · have hy : b ≤ a := (i_le (by omega) (by omega)).mp hy
            have e7 : r.2.2 = [] := List.length_eq_zero_iff.mp (by omega)
            have es : rateP f k (r :: rulesOf os) = clamp (evv f r.2.1) := by simp [rateP, hx, e7]
            rw [es]
            exact rate_end I hl (by omega) q4 q5 (by omega) q7 q8 k4 hf
          · have e7 : r.2.2 ≠ [] := fun z => hy ((i_le (by omega) (by omega)).mpr (by rw [z] at q10; simp at q10; omega))
            refine w_gL I s_301 l_301_13 ?_
            refine w_aIn I s_315 (by omega) (by decide) ?_
            refine w_gL I s_301 l_301_14 ?_
            refine w_aIn I s_316 (by omega) (by decide) ?_
            refine w_gS I s_301 ?_
            rw [q5, q6]
            refine w_bI I (m_185 I hl q11 (k5.resolve_left e7) q9 q10 hf) (by decide) rfl fun x h1 I1 p => ?_
            obtain ⟨rfl, E⟩ := p
            have e17 := E.i (a := 317) (by decide)
            refine w_if (fun hw => ?_) (fun hw => ?_)
            · have es : rateP f k (r :: rulesOf os) = clamp (evv f r.2.1) := by simp [rateP, hx, hw]
              rw [es]
              refine (rate_end I1 hl (by omega) (by rw [E.i (by decide)]; exact q4) (by rw [E.i (by decide)]; exact q5) (by omega) (q7.eo e17) q8 k4 (hf.eo (E.i (by decide)))).mono ?_
              rintro v h' ⟨x, rfl, rfl, E'⟩
              exact ⟨_, rfl, rfl, E.tr E'⟩
            · have es : rateP f k (r :: rulesOf os) = rateP f k (rulesOf os) := by simp [rateP, e7, hw]
              rw [es]
              refine (rate_loop hl hk os (j + 1) h1 _ _ I1 (hc.2.eo (E.ml p333_ml)) hr2 (by rw [E.i (by decide)]; exact hn2) hm2 (hf.eo (E.i (by decide)))).mono ?_
              rintro v h' ⟨x, rfl, rfl, E'⟩
              exact ⟨_, rfl, rfl, E.tr E'⟩
        · have hx : r.1 ≠ k := fun z => hx (by rw [z])
          have es : rateP f k (r :: rulesOf os) = rateP f k (rulesOf os) := by simp [rateP, hx]
          rw [es]
          exact rate_loop hl hk os (j + 1) h _ _ I hc.2 hr2 hn2 hm2 hf
theorem m_205 {h : Hp} {f : Nat → Int32} {A : ALaw} {k : Nat} (I : Inv h) (hl : l < 7) (hk : k < 6) (hc : mLaw h l A) (o : okL A) (hf : gRow h f) :
    Wp (K X (d + 3) 205 [.ref 301, .int (Int32.ofNat l), .int (Int32.ofNat k)] h) (VI fun x h' => x = rateP f k A.1 ∧ Eo (fun a => a = 333) h h') := by
  obtain ⟨os, q1, q2, q3, q4, -⟩ := hc
  rw [k_205, ← q1]
  exact rate_loop hl hk os 0 h _ _ I q4 (by rw [q1]; exact o.2.1) (by rw [q3]; congr 1; omega) (by omega) hf
end ML
