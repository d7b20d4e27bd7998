/-! TEXT: the model keeps a LAW that it read -/
theorem stepsAt.split {h : Hp} {l : Nat} {a b : List Op} {p : Nat} (q : stepsAt h l p (a ++ b)) : stepsAt h l p a ∧ stepsAt h l (p + a.length) b := by
  refine ⟨fun j hj => ?_, fun j hj => ?_⟩
  · have := q j (by rw [List.length_append]; omega)
    rw [List.getD_eq_getElem?_getD, List.getElem?_append_left hj, ← List.getD_eq_getElem?_getD] at this
    exact this
  · have := q (a.length + j) (by rw [List.length_append]; omega)
    rw [List.getD_eq_getElem?_getD, List.getElem?_append_right (by omega), Nat.add_sub_cancel_left, ← List.getD_eq_getElem?_getD, show p + (a.length + j) = p + a.length + j by omega] at this
    exact this
def RowC (a : Nat) : Prop := (312 ≤ a ∧ a ≤ 316) ∨ a = 320 ∨ a = 321
theorem mRowsP.lines {h h' : Hp} {l : Nat} : ∀ {os : List (Option Rule)} {j p : Nat}, mRowsP h j p os → j + os.length ≤ 20 → (∀ a i, RowC a → i < 20 → hI h' a (20 * l + i) = hI h a (120 + i)) → stepsAt h' l p (stOf (rulesOf os)) → p + (stOf (rulesOf os)).length ≤ 610 → mLines h' l j os
  | [], _, _, _, _, _, _, _ => trivial
  | none :: os, j, p, q, hj, e, st, hp => by
    have hj : j + (os.length + 1) ≤ 20 := hj
    obtain ⟨s, s1, s2, s3⟩ := q.1
    exact ⟨⟨s, s1, s2, by rw [e 312 j (Or.inl ⟨by decide, by decide⟩) (by omega)]; exact s3⟩, mRowsP.lines q.2 (by omega) e st hp⟩
  | some r :: os, j, p, q, hj, e, st, hp => by
    have hj : j + (os.length + 1) ≤ 20 := hj
    have es : stOf (rulesOf (some r :: os)) = r.2.1 ++ (r.2.2 ++ stOf (rulesOf os)) := by show (r.2.1 ++ r.2.2) ++ stOf (rulesOf os) = _; rw [List.append_assoc]
    rw [es, List.length_append, List.length_append] at hp
    rw [es] at st
    obtain ⟨t1, t2⟩ := st.split
    obtain ⟨t3, t4⟩ := t2.split
    obtain ⟨q1, q2, q3, q4, q5, q6⟩ := q.1
    have el : p + lenO (some r) = p + r.2.1.length + r.2.2.length := by show p + (r.2.1.length + r.2.2.length) = _; omega
    have tail := q.2
    rw [el] at tail
    refine ⟨?_, mRowsP.lines tail (by omega) e t4 (by omega)⟩
    have g : ∀ a, 312 ≤ a → a ≤ 316 → hI h' a (20 * l + j) = hI h a (120 + j) := fun a h1 h2 => e a j (Or.inl ⟨h1, h2⟩) (by omega)
    by_cases z : r.1 = 6
    · have r0 := q3 z
      rw [r0] at t3 q5 q6
      exact Or.inl ⟨z, by rw [g 312 (by decide) (by decide), q1, if_pos z], p, _, by rw [g 315 (by decide) (by decide), q5]; rfl, by rw [g 316 (by decide) (by decide), q6]; rfl, t3, rfl, by show p + 0 + r.2.2.length ≤ 610; omega⟩
    · exact Or.inr ⟨z, by rw [g 312 (by decide) (by decide), q1, if_neg z], by rw [g 313 (by decide) (by decide)]; exact q2 z, p, _, _, by rw [g 314 (by decide) (by decide)]; exact q4, by rw [g 315 (by decide) (by decide)]; exact q5, by rw [g 316 (by decide) (by decide)]; exact q6, t1, rfl, t3, rfl, by omega⟩
theorem mSteps.cp {h h' : Hp} {l : Nat} : ∀ {ss : List (Nat × Nat)} {j : Nat}, mSteps h 6 j ss → j + ss.length ≤ 20 → (∀ a i, RowC a → i < 20 → hI h' a (20 * l + i) = hI h a (120 + i)) → mSteps h' l j ss
  | [], _, _, _, _ => trivial
  | s :: ss, j, q, hj, e => by
    have hj : j + (ss.length + 1) ≤ 20 := hj
    exact ⟨by rw [e 320 j (Or.inr (Or.inl rfl)) (by omega), e 321 j (Or.inr (Or.inr rfl)) (by omega)]; exact q.1, mSteps.cp q.2 (by omega) e⟩
/-- what keepsLaw writes -/
def Kept (h h' : Hp) (l m : Nat) : Prop := Eo (fun a => 311 ≤ a ∧ a ≤ 322) h h' ∧ (∀ a i, RowC a → i < 20 → hI h' a (20 * l + i) = hI h a (120 + i)) ∧ (∀ a j, RowC a → (j < 20 * l ∨ 20 * l + 20 ≤ j) → hI h' a j = hI h a j) ∧ (∀ i, i < m → hI h' 317 (1220 * l + i) = hI h 317 (7320 + i)) ∧ (∀ j, (j < 1220 * l ∨ 1220 * l + m ≤ j) → hI h' 317 j = hI h 317 j) ∧ (∀ a, (a = 318 ∨ a = 319 ∨ a = 322) → hI h' a l = hI h a 6) ∧ (∀ a j, (a = 311 ∨ a = 318 ∨ a = 319 ∨ a = 322) → j ≠ l → hI h' a j = hI h a j)
section KL
variable {X : Ctx} {d : Nat} {Q : Option Value → Hp → Prop} {l m : Nat} {h0 h : Hp}
theorem c180_169 {v3 v4 : Option Value} (hl : l < 6) (hm : m ≤ 1220) (I0 : hI h0 301 33 = Int32.ofNat (m / 2)) (ev : 2 * (m / 2) = m) : ∀ (c i : Nat) (h : Hp), i + c = m → Inv h → Eo (fun a => a = 317) h0 h → (∀ j, hI h 317 j = if 1220 * l ≤ j ∧ j < 1220 * l + i then hI h0 317 (j - 1220 * l + 7320) else hI h0 317 j) →
    Wp (sem (X, K X d) 180 169 [some (.ref 301), some (.int (Int32.ofNat l)), some (.int (Int32.ofNat i)), v3, v4] [] h) (VV fun h' => Eo (fun a => a = 317) h0 h' ∧ ∀ j, hI h' 317 j = if 1220 * l ≤ j ∧ j < 1220 * l + m then hI h0 317 (j - 1220 * l + 7320) else hI h0 317 j)
  | 0, i, h, hi, I, E, f => by
    have e : (2 : Int32) * Int32.ofNat (m / 2) = Int32.ofNat m := by rw [show (2 : Int32) = Int32.ofNat 2 from rfl, i_mul, ev]
    rw [b_180_169]
    refine w_gI I s_301 ?_
    rw [E.i (by decide), I0, e]
    refine w_ift ((i_le (by omega) (by omega)).mpr (by omega)) ?_
    have : i = m := by omega
    subst this
    exact Wp.retv ⟨E, f⟩
  | c + 1, i, h, hi, I, E, f => by
    have e : (2 : Int32) * Int32.ofNat (m / 2) = Int32.ofNat m := by rw [show (2 : Int32) = Int32.ofNat 2 from rfl, i_mul, ev]
    rw [b_180_169]
    refine w_gI I s_301 ?_
    rw [E.i (by decide), I0, e]
    refine w_iff (fun z => absurd ((i_le (by omega) (by omega)).mp z) (by omega)) ?_
    refine w_gL I s_301 l_301_15 ?_
    refine w_gL I s_301 l_301_15 ?_
    have x1 : (7320 : Int32) + Int32.ofNat i = Int32.ofNat (7320 + i) := i_add 7320 i
    have x2 : (1220 : Int32) * Int32.ofNat l + Int32.ofNat i = Int32.ofNat (1220 * l + i) := i_lin1 1220 l i
    rw [x1, x2]
    refine w_aIn I s_317 (by omega) (by decide) ?_
    refine w_wIn I s_317 (by omega) (by decide) fun I1 => ?_
    rw [i32_ofNat_succ]
    refine c180_169 hl hm I0 ev c (i + 1) _ (by omega) I1 (E.kI rfl) fun j => ?_
    rw [hI_sI_self, up1]
    by_cases z : j = 1220 * l + i
    · rw [if_pos z, if_pos (by omega), f, if_neg (by omega)]; congr 1; omega
    · rw [if_neg z, f]
      by_cases w : 1220 * l ≤ j ∧ j < 1220 * l + i
      · rw [if_pos w, if_pos (by omega)]
      · rw [if_neg w, if_neg (by omega)]
def Wr (l i : Nat) (h0 h : Hp) : Prop := Eo RowC h0 h ∧ ∀ a, RowC a → ∀ j, hI h a j = if 20 * l ≤ j ∧ j < 20 * l + i then hI h0 a (j - 20 * l + 120) else hI h0 a j
theorem Wr.step {i : Nat} {h' : Hp} (hl : l < 6) (hi : i < 20) (w : Wr l i h0 h) (E : Eo RowC h h') (s : ∀ a, RowC a → hI h' a = up1 (hI h a) (20 * l + i) (hI h a (120 + i))) : Wr l (i + 1) h0 h' := by
  refine ⟨w.1.tr E, fun a ha j => ?_⟩
  rw [s a ha, up1]
  by_cases z : j = 20 * l + i
  · rw [if_pos z, if_pos (by omega), w.2 a ha, if_neg (by omega)]; congr 1; omega
  · rw [if_neg z, w.2 a ha]
    by_cases y : 20 * l ≤ j ∧ j < 20 * l + i
    · rw [if_pos y, if_pos (by omega)]
    · rw [if_neg y, if_neg (by omega)]
theorem c180_51 (hl : l < 6) : ∀ (c i : Nat) (h : Hp) (v3 v4 : Option Value), i + c = 20 → Inv h → Wr l i h0 h → (∀ h' v3 v4, Inv h' → Wr l 20 h0 h' → Wp (sem (X, K X d) 180 169 [some (.ref 301), some (.int (Int32.ofNat l)), some (.int 0), v3, v4] [] h') Q) →
    Wp (sem (X, K X d) 180 51 [some (.ref 301), some (.int (Int32.ofNat l)), some (.int (Int32.ofNat i)), v3, v4] [] h) Q
  | 0, i, h, v3, v4, hi, I, w, kk => by
    have : i = 20 := by omega
    subst this
    rw [b_180_51]
    refine w_ift ((i_le (m := 20) (by omega) (by omega)).mpr (by omega)) ?_
    exact kk h _ _ I w
  | c + 1, i, h, v3, v4, hi, I, w, kk => by
    have x1 : (20 : Int32) * Int32.ofNat l + Int32.ofNat i = Int32.ofNat (20 * l + i) := i_lin1 20 l i
    have x2 : (120 : Int32) + Int32.ofNat i = Int32.ofNat (120 + i) := i_add 120 i
    have b1 : 20 * l + i < 140 := by omega
    have b2 : 120 + i < 140 := by omega
    rw [b_180_51]
    refine w_iff (fun z => absurd ((i_le (m := 20) (by omega) (by omega)).mp z) (by omega)) ?_
    rw [x1, x2, i32_ofNat_succ]
    refine w_gL I s_301 l_301_10 (w_gL I s_301 l_301_10 (w_aIn I s_312 b2 (by decide) (w_wIn I s_312 b1 (by decide) fun I1 => ?_)))
    refine w_gL I1 s_301 l_301_11 (w_gL I1 s_301 l_301_11 (w_aIn I1 s_313 b2 (by decide) (w_wIn I1 s_313 b1 (by decide) fun I2 => ?_)))
    refine w_gL I2 s_301 l_301_12 (w_gL I2 s_301 l_301_12 (w_aIn I2 s_314 b2 (by decide) (w_wIn I2 s_314 b1 (by decide) fun I3 => ?_)))
    refine w_gL I3 s_301 l_301_13 (w_gL I3 s_301 l_301_13 (w_aIn I3 s_315 b2 (by decide) (w_wIn I3 s_315 b1 (by decide) fun I4 => ?_)))
    refine w_gL I4 s_301 l_301_14 (w_gL I4 s_301 l_301_14 (w_aIn I4 s_316 b2 (by decide) (w_wIn I4 s_316 b1 (by decide) fun I5 => ?_)))
    refine w_gL I5 s_301 l_301_18 (w_gL I5 s_301 l_301_18 (w_aIn I5 s_320 b2 (by decide) (w_wIn I5 s_320 b1 (by decide) fun I6 => ?_)))
    refine w_gL I6 s_301 l_301_19 (w_gL I6 s_301 l_301_19 (w_aIn I6 s_321 b2 (by decide) (w_wIn I6 s_321 b1 (by decide) fun I7 => ?_)))
    have r2 : RowC 312 := Or.inl ⟨by decide, by decide⟩
    have r3 : RowC 313 := Or.inl ⟨by decide, by decide⟩
    have r4 : RowC 314 := Or.inl ⟨by decide, by decide⟩
    have r5 : RowC 315 := Or.inl ⟨by decide, by decide⟩
    have r6 : RowC 316 := Or.inl ⟨by decide, by decide⟩
    have r7 : RowC 320 := Or.inr (Or.inl rfl)
    have r8 : RowC 321 := Or.inr (Or.inr rfl)
    refine c180_51 hl c (i + 1) _ _ _ (by omega) I7 (w.step hl (by omega) (((((((Eo.rf.kI r2).kI r3).kI r4).kI r5).kI r6).kI r7).kI r8) fun a ha => ?_) kk
    have : a = 312 ∨ a = 313 ∨ a = 314 ∨ a = 315 ∨ a = 316 ∨ a = 320 ∨ a = 321 := by unfold RowC at ha; omega
    rcases this with rfl | rfl | rfl | rfl | rfl | rfl | rfl
    · rw [sI_other (by decide), sI_other (by decide), sI_other (by decide), sI_other (by decide), sI_other (by decide), sI_other (by decide), hI_sI_self]
    · rw [sI_other (by decide), sI_other (by decide), sI_other (by decide), sI_other (by decide), sI_other (by decide), hI_sI_self, sI_other (by decide)]
    · rw [sI_other (by decide), sI_other (by decide), sI_other (by decide), sI_other (by decide), hI_sI_self, sI_other (by decide), sI_other (by decide)]
    · rw [sI_other (by decide), sI_other (by decide), sI_other (by decide), hI_sI_self, sI_other (by decide), sI_other (by decide), sI_other (by decide)]
    · rw [sI_other (by decide), sI_other (by decide), hI_sI_self, sI_other (by decide), sI_other (by decide), sI_other (by decide), sI_other (by decide)]
    · rw [sI_other (by decide), hI_sI_self, sI_other (by decide), sI_other (by decide), sI_other (by decide), sI_other (by decide), sI_other (by decide)]
    · rw [hI_sI_self, sI_other (by decide), sI_other (by decide), sI_other (by decide), sI_other (by decide), sI_other (by decide), sI_other (by decide)]
theorem m_180 (hl : l < 6) (I : Inv h) (hm : m ≤ 1220) (h33 : hI h 301 33 = Int32.ofNat (m / 2)) (ev : 2 * (m / 2) = m) : Wp (K X (d + 1) 180 [.ref 301, .int (Int32.ofNat l)] h) (VV fun h' => Kept h h' l m ∧ hI h' 311 l = hI h 301 34) := by
  rw [k_180]
  refine w_gL I s_301 l_301_9 ?_
  refine w_gI I s_301 ?_
  refine w_wIn I s_311 (by omega) (by decide) fun I1 => ?_
  refine w_gL I1 s_301 l_301_17 (w_gL I1 s_301 l_301_17 (w_aIn (m := 6) I1 s_319 (by decide) (by decide) (w_wIn I1 s_319 (by omega) (by decide) fun I2 => ?_)))
  refine w_gL I2 s_301 l_301_16 (w_gL I2 s_301 l_301_16 (w_aIn (m := 6) I2 s_318 (by decide) (by decide) (w_wIn I2 s_318 (by omega) (by decide) fun I3 => ?_)))
  refine w_gL I3 s_301 l_301_20 (w_gL I3 s_301 l_301_20 (w_aIn (m := 6) I3 s_322 (by decide) (by decide) (w_wIn I3 s_322 (by omega) (by decide) fun I4 => ?_)))
  have v1 : hI (sI h 311 l (hI h 301 34)) 319 6 = hI h 319 6 := by rw [sI_other (by decide)]
  rw [v1] at I2 I3 I4 ⊢
  have v2 : hI (sI (sI h 311 l (hI h 301 34)) 319 l (hI h 319 6)) 318 6 = hI h 318 6 := by rw [sI_other (by decide), sI_other (by decide)]
  rw [v2] at I3 I4 ⊢
  have v3 : hI (sI (sI (sI h 311 l (hI h 301 34)) 319 l (hI h 319 6)) 318 l (hI h 318 6)) 322 6 = hI h 322 6 := by rw [sI_other (by decide), sI_other (by decide), sI_other (by decide)]
  rw [v3] at I4 ⊢
  generalize hg : sI (sI (sI (sI h 311 l (hI h 301 34)) 319 l (hI h 319 6)) 318 l (hI h 318 6)) 322 l (hI h 322 6) = g at I4 ⊢
  have g1 : hI g 311 = up1 (hI h 311) l (hI h 301 34) := by rw [← hg, sI_other (by decide), sI_other (by decide), sI_other (by decide), hI_sI_self]
  have g2 : hI g 319 = up1 (hI h 319) l (hI h 319 6) := by rw [← hg, sI_other (by decide), sI_other (by decide), hI_sI_self, sI_other (by decide)]
  have g3 : hI g 318 = up1 (hI h 318) l (hI h 318 6) := by rw [← hg, sI_other (by decide), hI_sI_self, sI_other (by decide), sI_other (by decide)]
  have g4 : hI g 322 = up1 (hI h 322) l (hI h 322 6) := by rw [← hg, hI_sI_self, sI_other (by decide), sI_other (by decide), sI_other (by decide)]
  have go : ∀ a, a ≠ 311 → a ≠ 319 → a ≠ 318 → a ≠ 322 → hI g a = hI h a := fun a h1 h2 h3 h4 => by rw [← hg, sI_other h4, sI_other h3, sI_other h2, sI_other h1]
  have gE : Eo (fun a => 311 ≤ a ∧ a ≤ 322) h g := by rw [← hg]; exact (((Eo.rf.kI ⟨by decide, by decide⟩).kI ⟨by decide, by decide⟩).kI ⟨by decide, by decide⟩).kI ⟨by decide, by decide⟩
  refine c180_51 (h0 := g) hl 20 0 g _ _ rfl I4 ⟨Eo.rf, fun a ha j => by rw [if_neg (by omega)]⟩ fun h5 w3 w4 I5 w => ?_
  refine (c180_169 (h0 := h5) (m := m) hl hm (by rw [w.1.i (by unfold RowC; omega), go 301 (by decide) (by decide) (by decide) (by decide)]; exact h33) ev m 0 h5 (Nat.zero_add m) I5 Eo.rf fun j => by rw [if_neg (by omega)]).mono fun v h' hh => ?_
  obtain ⟨rfl, E, f⟩ := hh
  have gR : ∀ a, RowC a → hI g a = hI h a := fun a ha => by unfold RowC at ha; exact go a (by omega) (by omega) (by omega) (by omega)
  have o5 : ∀ a, (a = 311 ∨ a = 318 ∨ a = 319 ∨ a = 322) → hI h' a = hI g a := fun a ha => by rw [E.i (by omega), w.1.i (by unfold RowC; omega)]
  have f0 : ∀ j, hI h5 317 j = hI h 317 j := fun j => by rw [w.1.i (by unfold RowC; omega), go 317 (by decide) (by decide) (by decide) (by decide)]
  refine ⟨rfl, ⟨(gE.tr (w.1.wk fun a z => by unfold RowC at z; omega)).tr (E.wk fun a z => by omega), fun a i ha hi => ?_, fun a j ha hj => ?_, fun i hi => ?_, fun j hj => ?_, fun a ha => ?_, fun a j ha hj => ?_⟩, ?_⟩
  · rw [E.i (by unfold RowC at ha; omega), w.2 a ha, if_pos (by omega), gR a ha]; congr 1; omega
  · rw [E.i (by unfold RowC at ha; omega), w.2 a ha, if_neg (by omega), gR a ha]
  · rw [f, if_pos (by omega), f0]; congr 1; omega
  · rw [f, if_neg (by omega), f0]
  · rw [o5 a (by omega)]
    rcases ha with rfl | rfl | rfl
    · rw [g3, up1, if_pos rfl]
    · rw [g2, up1, if_pos rfl]
    · rw [g4, up1, if_pos rfl]
  · rw [o5 a ha]
    rcases ha with rfl | rfl | rfl | rfl
    · rw [g1, up1, if_neg hj]
    · rw [g3, up1, if_neg hj]
    · rw [g2, up1, if_neg hj]
    · rw [g4, up1, if_neg hj]
  · rw [o5 311 (Or.inl rfl), g1, up1, if_pos rfl]
/-- what was read becomes LAW l -/
theorem Kept.law {S : LSt} {h1 h' : Hp} (hl : l < 6) (st : stepsAt h1 6 0 (stOf (rulesOf S.1))) (b : (stOf (rulesOf S.1)).length ≤ 600) (R : MRow h1 S.1.length S) (ok : okLS S) (K : Kept h1 h' l (2 * (stOf (rulesOf S.1)).length)) (e : hI h' 311 l = hI h1 301 34) : mLaw h' l (lawOf S) := by
  obtain ⟨r1, r2, r3, r4, r5, r6, r7, r8⟩ := R
  obtain ⟨K1, K2, K3, K4, K5, K6, K7⟩ := K
  have l1 := ok.1
  have l2 := ok.2.1
  refine ⟨S.1, rfl, l2, by rw [e]; exact r1, r2.lines (by omega) K2 ?_ (by omega), by rw [K6 319 (Or.inr (Or.inl rfl))]; exact r3, r4.cp (by omega) K2, by rw [K6 318 (Or.inl rfl)]; exact r5, by rw [K6 322 (Or.inr (Or.inr rfl))]; exact r6⟩
  intro j hj
  have s := st j hj
  have a := K4 (2 * (0 + j)) (by omega)
  have c := K4 (2 * (0 + j) + 1) (by omega)
  rw [← Nat.add_assoc, ← Nat.add_assoc] at c
  rw [a, c]
  exact s
theorem Kept.other {h1 h' : Hp} {l' m : Nat} {A : ALaw} (hl : l < 6) (hl' : l' < 6) (hn : l' ≠ l) (hm : m ≤ 1220) (K : Kept h1 h' l m) (o : okL A) (q : mLaw h1 l' A) : mLaw h' l' A := by
  obtain ⟨K1, K2, K3, K4, K5, K6, K7⟩ := K
  obtain ⟨os, q1, q2, q3, q4, q5, q6, q7, q8⟩ := q
  have st : ∀ {i : Nat} {ops : List Op}, stepsAt h1 l' i ops → i + ops.length ≤ 610 → stepsAt h' l' i ops := fun s hi j hj => by
    have := s j hj
    rw [K5 _ (by omega), K5 _ (by omega)]; exact this
  have rw1 : ∀ a i, RowC a → i < 20 → hI h' a (20 * l' + i) = hI h1 a (20 * l' + i) := fun a i ha hi => K3 a _ ha (by omega)
  have lines : ∀ (os : List (Option Rule)) (j : Nat), j + os.length ≤ 20 → mLines h1 l' j os → mLines h' l' j os := fun os => by
    induction os with
    | nil => intro _ _ _; trivial
    | cons o os ih =>
      intro j hj q
      have hj : j + (os.length + 1) ≤ 20 := hj
      have g : ∀ a, 312 ≤ a → a ≤ 316 → hI h' a (20 * l' + j) = hI h1 a (20 * l' + j) := fun a h1 h2 => rw1 a j (Or.inl ⟨h1, h2⟩) (by omega)
      refine ⟨?_, ih (j + 1) (by omega) q.2⟩
      have q := q.1
      cases o with
      | none =>
        obtain ⟨s, s1, s2, s3⟩ := q
        exact ⟨s, s1, s2, by rw [g 312 (by decide) (by decide)]; exact s3⟩
      | some r =>
        rcases q with ⟨q1, q2, a, b, q3, q4, q5, q6, q7⟩ | ⟨q1, q2, q3, z, a, b, q4, q5, q6, q7, q8, q9, q10, q11⟩
        · exact Or.inl ⟨q1, by rw [g 312 (by decide) (by decide)]; exact q2, a, b, by rw [g 315 (by decide) (by decide)]; exact q3, by rw [g 316 (by decide) (by decide)]; exact q4, st q5 (by omega), q6, q7⟩
        · exact Or.inr ⟨q1, by rw [g 312 (by decide) (by decide)]; exact q2, by rw [g 313 (by decide) (by decide)]; exact q3, z, a, b, by rw [g 314 (by decide) (by decide)]; exact q4, by rw [g 315 (by decide) (by decide)]; exact q5, by rw [g 316 (by decide) (by decide)]; exact q6, st q7 (by omega), q8, st q9 (by omega), q10, q11⟩
  have steps : ∀ (ss : List (Nat × Nat)) (j : Nat), j + ss.length ≤ 20 → mSteps h1 l' j ss → mSteps h' l' j ss := fun ss => by
    induction ss with
    | nil => intro _ _ _; trivial
    | cons s ss ih =>
      intro j hj q
      have hj : j + (ss.length + 1) ≤ 20 := hj
      exact ⟨by rw [rw1 320 j (Or.inr (Or.inl rfl)) (by omega), rw1 321 j (Or.inr (Or.inr rfl)) (by omega)]; exact q.1, ih (j + 1) (by omega) q.2⟩
  have := o.2.2.1
  exact ⟨os, q1, q2, by rw [K7 311 _ (Or.inl rfl) hn]; exact q3, lines os 0 (by omega) q4, by rw [K7 319 _ (Or.inr (Or.inr (Or.inl rfl))) hn]; exact q5, steps A.2.1 0 (by omega) q6, by rw [K7 318 _ (Or.inr (Or.inl rfl)) hn]; exact q7, by rw [K7 322 _ (Or.inr (Or.inr (Or.inr rfl))) hn]; exact q8⟩
end KL
