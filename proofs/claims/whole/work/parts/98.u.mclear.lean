/-! TEXT: the model clears, and keeps a PACT -/
theorem hI_sI_at {h : Hp} {a b j i : Nat} {v : Int32} : hI (sI h a j v) b i = if b = a ∧ i = j then v else hI h b i := by
  by_cases e : b = a
  · rw [e, hI_sI_self, up1]
    by_cases z : i = j
    · rw [if_pos z, if_pos ⟨rfl, z⟩]
    · rw [if_neg z, if_neg fun w => z w.2]
  · rw [sI_other e, if_neg fun w => e w.1]
def WC (a : Nat) : Prop := (318 ≤ a ∧ a ≤ 324) ∨ (326 ≤ a ∧ a ≤ 331)
def Clr (h h' : Hp) : Prop := Eo (fun a => a = 301 ∨ WC a) h h' ∧ (∀ k, k ≠ 33 → k ≠ 34 → hI h' 301 k = hI h 301 k) ∧ (∀ a j, lowM a j ∨ lowP a j → hI h' a j = hI h a j) ∧ (hI h' 301 33 = 0 ∧ hI h' 301 34 = 0) ∧ (hI h' 319 6 = 0 ∧ hI h' 323 6 = 0 ∧ hI h' 324 6 = 0 ∧ hI h' 318 6 = 0 ∧ hI h' 322 6 = 0) ∧ (hI h' 326 36 = 0 ∧ hI h' 328 36 = 0 ∧ hI h' 330 36 = -1 ∧ hI h' 331 36 = 0) ∧ ∀ k, k < 6 → hI h' 329 (216 + k) = -1
section MCl
variable {X : Ctx} {d : Nat} {Q : Option Value → Hp → Prop} {p : Nat} {h0 h : Hp}
theorem c179_30 : ∀ (c k : Nat) (h : Hp), k + c = 6 → Inv h → Eo (fun a => a = 329) h0 h → (∀ j, j < 216 → hI h 329 j = hI h0 329 j) → (∀ j, j < k → hI h 329 (216 + j) = -1) → Wp (sem (X, K X d) 179 30 [some (.ref 301), some (.int 36), some (.int (Int32.ofNat k))] [] h) (VV fun h' => Eo (fun a => a = 329) h0 h' ∧ (∀ j, j < 216 → hI h' 329 j = hI h0 329 j) ∧ ∀ j, j < 6 → hI h' 329 (216 + j) = -1)
  | 0, k, h, hk, I, E, e, f => by
    rw [b_179_30]
    refine w_ift ((i_le (m := 6) (by omega) (by omega)).mpr (by omega)) ?_
    exact Wp.retv ⟨E, e, fun j hj => f j (by omega)⟩
  | c + 1, k, h, hk, I, E, e, f => by
    rw [b_179_30]
    refine w_iff (fun z => absurd ((i_le (m := 6) (by omega) (by omega)).mp z) (by omega)) ?_
    refine w_gL I s_301 l_301_27 ?_
    have x1 : (6 : Int32) * 36 + Int32.ofNat k = Int32.ofNat (216 + k) := i_lin1 6 36 k
    rw [x1, i32_ofNat_succ]
    refine w_wIn I s_329 (by omega) (by decide) fun I1 => ?_
    refine c179_30 c (k + 1) _ (by omega) I1 (E.kI rfl) (fun j hj => by rw [hI_sI_self, up1, if_neg (by omega)]; exact e j hj) fun j hj => ?_
    rw [hI_sI_self, up1]
    by_cases z : j = k
    · rw [if_pos (by omega)]
    · rw [if_neg (by omega)]; exact f j (by omega)
theorem m_178 (I : Inv h) : Wp (K X (d + 2) 178 [.ref 301] h) (VV fun h' => Clr h h') := by
  rw [k_178]
  refine w_fI I s_301 fun I1 => ?_
  refine w_fI I1 s_301 fun I2 => ?_
  refine w_gL I2 s_301 l_301_17 (w_wIn (m := 6) I2 s_319 (by decide) (by decide) fun I3 => ?_)
  refine w_gL I3 s_301 l_301_21 (w_wZn (m := 6) I3 s_323 (by decide) (by decide) (by decide) fun I4 => ?_)
  refine w_gL I4 s_301 l_301_22 (w_wZn (m := 6) I4 s_324 (by decide) (by decide) (by decide) fun I5 => ?_)
  refine w_gL I5 s_301 l_301_16 (w_wIn (m := 6) I5 s_318 (by decide) (by decide) fun I6 => ?_)
  refine w_gL I6 s_301 l_301_20 (w_wIn (m := 6) I6 s_322 (by decide) (by decide) fun I7 => ?_)
  generalize hg : sI (sI (sI (sI (sI (sI (sI h 301 33 0) 301 34 0) 319 6 0) 323 6 0) 324 6 0) 318 6 0) 322 6 0 = g at I7 ⊢
  refine w_gS I7 s_301 ?_
  refine w_bV (P := fun h' => Clr h h') I7 ?_ (by decide) rfl fun h1 I1 p => Wp.retv p
  rw [k_179]
  refine w_gL I7 s_301 l_301_24 (w_wIn (m := 36) I7 s_326 (by decide) (by decide) fun I8 => ?_)
  refine w_gL I8 s_301 l_301_26 (w_wIn (m := 36) I8 s_328 (by decide) (by decide) fun I9 => ?_)
  refine w_gL I9 s_301 l_301_28 (w_wIn (m := 36) I9 s_330 (by decide) (by decide) fun I10 => ?_)
  refine w_gL I10 s_301 l_301_29 (w_wZn (m := 36) I10 s_331 (by decide) (by decide) (by decide) fun I11 => ?_)
  generalize hf : sI (sI (sI (sI g 326 36 0) 328 36 0) 330 36 (-1)) 331 36 0 = f at I11 ⊢
  refine (c179_30 (h0 := f) 6 0 f rfl I11 Eo.rf (fun _ _ => rfl) (fun j hj => absurd hj (Nat.not_lt_zero j))).mono fun v h' hh => ?_
  obtain ⟨rfl, E, e, e6⟩ := hh
  have rd : ∀ b i, hI f b i = if b = 331 ∧ i = 36 then 0 else if b = 330 ∧ i = 36 then -1 else if b = 328 ∧ i = 36 then 0 else if b = 326 ∧ i = 36 then 0 else if b = 322 ∧ i = 6 then 0 else if b = 318 ∧ i = 6 then 0 else if b = 324 ∧ i = 6 then 0 else if b = 323 ∧ i = 6 then 0 else if b = 319 ∧ i = 6 then 0 else if b = 301 ∧ i = 34 then 0 else if b = 301 ∧ i = 33 then 0 else hI h b i := fun b i => by
    rw [← hf, ← hg, hI_sI_at, hI_sI_at, hI_sI_at, hI_sI_at, hI_sI_at, hI_sI_at, hI_sI_at, hI_sI_at, hI_sI_at, hI_sI_at, hI_sI_at]
  have o : ∀ a, a ≠ 329 → hI h' a = hI f a := fun a ha => E.i ha
  have EF : Eo (fun a => a = 301 ∨ WC a) h f := by
    have w1 : ∀ a, (318 ≤ a ∧ a ≤ 324) ∨ (326 ≤ a ∧ a ≤ 331) → (a = 301 ∨ WC a) := fun a z => Or.inr z
    rw [← hf, ← hg]
    exact ((((((((((Eo.rf.kI (Or.inl rfl)).kI (Or.inl rfl)).kI (w1 _ (by omega))).kI (w1 _ (by omega))).kI (w1 _ (by omega))).kI (w1 _ (by omega))).kI (w1 _ (by omega))).kI (w1 _ (by omega))).kI (w1 _ (by omega))).kI (w1 _ (by omega))).kI (w1 _ (by omega))
  refine ⟨rfl, EF.tr (E.wk fun a z => Or.inr (Or.inr (by omega))), fun k h1 h2 => ?_, fun a j hj => ?_, ⟨?_, ?_⟩, ⟨?_, ?_, ?_, ?_, ?_⟩, ⟨?_, ?_, ?_, ?_⟩, e6⟩
  · rw [o 301 (by decide), rd, if_neg (by omega), if_neg (by omega), if_neg (by omega), if_neg (by omega), if_neg (by omega), if_neg (by omega), if_neg (by omega), if_neg (by omega), if_neg (by omega), if_neg (by omega), if_neg (by omega)]
  · have nn : hI f a j = hI h a j := by
      unfold lowM lowP at hj
      rw [rd, if_neg (by omega), if_neg (by omega), if_neg (by omega), if_neg (by omega), if_neg (by omega), if_neg (by omega), if_neg (by omega), if_neg (by omega), if_neg (by omega), if_neg (by omega), if_neg (by omega)]
    by_cases z : a = 329
    · subst z
      rw [e j (by unfold lowM lowP at hj; omega)]; exact nn
    · rw [o a z]; exact nn
  · rw [o 301 (by decide), rd]; rfl
  · rw [o 301 (by decide), rd]; rfl
  · rw [o 319 (by decide), rd]; rfl
  · rw [o 323 (by decide), rd]; rfl
  · rw [o 324 (by decide), rd]; rfl
  · rw [o 318 (by decide), rd]; rfl
  · rw [o 322 (by decide), rd]; rfl
  · rw [o 326 (by decide), rd]; rfl
  · rw [o 328 (by decide), rd]; rfl
  · rw [o 330 (by decide), rd]; rfl
  · rw [o 331 (by decide), rd]; rfl
/-- keepsPact -/
def KeptP (h h' : Hp) (p : Nat) : Prop := Eo (fun a => 326 ≤ a ∧ a ≤ 331) h h' ∧ (∀ a, (a = 326 ∨ a = 328 ∨ a = 330 ∨ a = 331) → ∀ j, hI h' a j = if j = p then hI h a 36 else hI h a j) ∧ (∀ j, hI h' 329 j = if 6 * p ≤ j ∧ j < 6 * p + 6 then hI h 329 (j - 6 * p + 216) else hI h 329 j) ∧ ∀ j, hI h' 327 j = if 20 * p ≤ j ∧ j < 20 * p + 20 then hI h 327 (j - 20 * p + 720) else hI h 327 j
theorem c181_89 (hp : p < 36) : ∀ (c i : Nat) (h : Hp), i + c = 20 → Inv h → Eo (fun a => a = 327) h0 h → (∀ j, hI h 327 j = if 20 * p ≤ j ∧ j < 20 * p + i then hI h0 327 (j - 20 * p + 720) else hI h0 327 j) →
    Wp (sem (X, K X d) 181 89 [some (.ref 301), some (.int (Int32.ofNat p)), some (.int (Int32.ofNat i))] [] h) (VV fun h' => Eo (fun a => a = 327) h0 h' ∧ ∀ j, hI h' 327 j = if 20 * p ≤ j ∧ j < 20 * p + 20 then hI h0 327 (j - 20 * p + 720) else hI h0 327 j)
  | 0, i, h, hi, I, E, f => by
    have : i = 20 := by omega
    subst this
    rw [b_181_89]
    refine w_ift ((i_le (m := 20) (by omega) (by omega)).mpr (by omega)) ?_
    exact Wp.retv ⟨E, f⟩
  | c + 1, i, h, hi, I, E, f => by
    have x1 : (720 : Int32) + Int32.ofNat i = Int32.ofNat (720 + i) := i_add 720 i
    have x2 : (20 : Int32) * Int32.ofNat p + Int32.ofNat i = Int32.ofNat (20 * p + i) := i_lin1 20 p i
    rw [b_181_89]
    refine w_iff (fun z => absurd ((i_le (m := 20) (by omega) (by omega)).mp z) (by omega)) ?_
    rw [x1, x2, i32_ofNat_succ]
    refine w_gL I s_301 l_301_25 (w_gL I s_301 l_301_25 (w_aIn I s_327 (by omega) (by decide) (w_wIn I s_327 (by omega) (by decide) fun I1 => ?_)))
    refine c181_89 hp c (i + 1) _ (by omega) I1 (E.kI rfl) fun j => ?_
    rw [hI_sI_self, up1]
    by_cases z : j = 20 * p + i
    · rw [if_pos z, if_pos (by omega), f, if_neg (by omega)]; congr 1; omega
    · rw [if_neg z, f]
      by_cases w : 20 * p ≤ j ∧ j < 20 * p + i
      · rw [if_pos w, if_pos (by omega)]
      · rw [if_neg w, if_neg (by omega)]
theorem c181_54 (hp : p < 36) : ∀ (c i : Nat) (h : Hp), i + c = 6 → Inv h → Eo (fun a => a = 329) h0 h → (∀ j, hI h 329 j = if 6 * p ≤ j ∧ j < 6 * p + i then hI h0 329 (j - 6 * p + 216) else hI h0 329 j) →
    (∀ h', Inv h' → Eo (fun a => a = 329) h0 h' → (∀ j, hI h' 329 j = if 6 * p ≤ j ∧ j < 6 * p + 6 then hI h0 329 (j - 6 * p + 216) else hI h0 329 j) → Wp (sem (X, K X d) 181 89 [some (.ref 301), some (.int (Int32.ofNat p)), some (.int 0)] [] h') Q) →
    Wp (sem (X, K X d) 181 54 [some (.ref 301), some (.int (Int32.ofNat p)), some (.int (Int32.ofNat i))] [] h) Q
  | 0, i, h, hi, I, E, f, kk => by
    have : i = 6 := by omega
    subst this
    rw [b_181_54]
    refine w_ift ((i_le (m := 6) (by omega) (by omega)).mpr (by omega)) ?_
    exact kk h I E f
  | c + 1, i, h, hi, I, E, f, kk => by
    have x1 : (216 : Int32) + Int32.ofNat i = Int32.ofNat (216 + i) := i_add 216 i
    have x2 : (6 : Int32) * Int32.ofNat p + Int32.ofNat i = Int32.ofNat (6 * p + i) := i_lin1 6 p i
    rw [b_181_54]
    refine w_iff (fun z => absurd ((i_le (m := 6) (by omega) (by omega)).mp z) (by omega)) ?_
    rw [x1, x2, i32_ofNat_succ]
    refine w_gL I s_301 l_301_27 (w_gL I s_301 l_301_27 (w_aIn I s_329 (by omega) (by decide) (w_wIn I s_329 (by omega) (by decide) fun I1 => ?_)))
    refine c181_54 hp c (i + 1) _ (by omega) I1 (E.kI rfl) (fun j => ?_) kk
    rw [hI_sI_self, up1]
    by_cases z : j = 6 * p + i
    · rw [if_pos z, if_pos (by omega), f, if_neg (by omega)]; congr 1; omega
    · rw [if_neg z, f]
      by_cases w : 6 * p ≤ j ∧ j < 6 * p + i
      · rw [if_pos w, if_pos (by omega)]
      · rw [if_neg w, if_neg (by omega)]
theorem m_181 (hp : p < 36) (I : Inv h) (hb : okN .boolean (hI h 331 36)) : Wp (K X (d + 1) 181 [.ref 301, .int (Int32.ofNat p)] h) (VV fun h' => KeptP h h' p) := by
  rw [k_181]
  refine w_gL I s_301 l_301_24 (w_gL I s_301 l_301_24 (w_aIn (m := 36) I s_326 (by decide) (by decide) (w_wIn I s_326 (by omega) (by decide) fun I1 => ?_)))
  refine w_gL I1 s_301 l_301_26 (w_gL I1 s_301 l_301_26 (w_aIn (m := 36) I1 s_328 (by decide) (by decide) (w_wIn I1 s_328 (by omega) (by decide) fun I2 => ?_)))
  refine w_gL I2 s_301 l_301_28 (w_gL I2 s_301 l_301_28 (w_aIn (m := 36) I2 s_330 (by decide) (by decide) (w_wIn I2 s_330 (by omega) (by decide) fun I3 => ?_)))
  refine w_gL I3 s_301 l_301_29 (w_gL I3 s_301 l_301_29 (w_aZn (m := 36) I3 s_331 (by decide) (by decide) (w_wZn I3 s_331 (by omega) (by decide) ?_ fun I4 => ?_)))
  · rw [sI_other (by decide), sI_other (by decide), sI_other (by decide)]; exact hb
  have v1 : hI (sI h 326 p (hI h 326 36)) 328 36 = hI h 328 36 := by rw [sI_other (by decide)]
  rw [v1] at I2 I3 I4 ⊢
  have v2 : hI (sI (sI h 326 p (hI h 326 36)) 328 p (hI h 328 36)) 330 36 = hI h 330 36 := by rw [sI_other (by decide), sI_other (by decide)]
  rw [v2] at I3 I4 ⊢
  have v3 : hI (sI (sI (sI h 326 p (hI h 326 36)) 328 p (hI h 328 36)) 330 p (hI h 330 36)) 331 36 = hI h 331 36 := by rw [sI_other (by decide), sI_other (by decide), sI_other (by decide)]
  rw [v3] at I4 ⊢
  generalize hg : sI (sI (sI (sI h 326 p (hI h 326 36)) 328 p (hI h 328 36)) 330 p (hI h 330 36)) 331 p (hI h 331 36) = g at I4 ⊢
  have g1 : hI g 326 = up1 (hI h 326) p (hI h 326 36) := by rw [← hg, sI_other (by decide), sI_other (by decide), sI_other (by decide), hI_sI_self]
  have g2 : hI g 328 = up1 (hI h 328) p (hI h 328 36) := by rw [← hg, sI_other (by decide), sI_other (by decide), hI_sI_self, sI_other (by decide)]
  have g3 : hI g 330 = up1 (hI h 330) p (hI h 330 36) := by rw [← hg, sI_other (by decide), hI_sI_self, sI_other (by decide), sI_other (by decide)]
  have g4 : hI g 331 = up1 (hI h 331) p (hI h 331 36) := by rw [← hg, hI_sI_self, sI_other (by decide), sI_other (by decide), sI_other (by decide)]
  have go : ∀ a, a ≠ 326 → a ≠ 328 → a ≠ 330 → a ≠ 331 → hI g a = hI h a := fun a h1 h2 h3 h4 => by rw [← hg, sI_other h4, sI_other h3, sI_other h2, sI_other h1]
  have gE : Eo (fun a => 326 ≤ a ∧ a ≤ 331) h g := by rw [← hg]; exact (((Eo.rf.kI ⟨by decide, by decide⟩).kI ⟨by decide, by decide⟩).kI ⟨by decide, by decide⟩).kI ⟨by decide, by decide⟩
  refine c181_54 (h0 := g) hp 6 0 g rfl I4 Eo.rf (fun j => by rw [if_neg (by omega)]) fun h5 I5 E5 f5 => ?_
  refine (c181_89 (h0 := h5) hp 20 0 h5 rfl I5 Eo.rf fun j => by rw [if_neg (by omega)]).mono fun v h' hh => ?_
  obtain ⟨rfl, E, f⟩ := hh
  have og : ∀ a, a ≠ 327 → a ≠ 329 → hI h' a = hI g a := fun a h1 h2 => by rw [E.i h1, E5.i h2]
  refine ⟨rfl, (gE.tr (E5.wk fun a z => by omega)).tr (E.wk fun a z => by omega), fun a ha j => ?_, fun j => ?_, fun j => ?_⟩
  · rw [og a (by omega) (by omega)]
    rcases ha with rfl | rfl | rfl | rfl
    · rw [g1]; rfl
    · rw [g2]; rfl
    · rw [g3]; rfl
    · rw [g4]; rfl
  · rw [E.i (by decide), f5, go 329 (by decide) (by decide) (by decide) (by decide)]
  · rw [f, E5.i (by decide), go 327 (by decide) (by decide) (by decide) (by decide)]
end MCl
