/-! THE RING OF THE CLASS: fill -/
theorem msl_pre {p : Nat → Bool} {m r : Nat} : ∀ {l : Nat}, m ≤ l → r < (msl p m).length → (msl p l).getD r 0 = (msl p m).getD r 0
  | 0, h, _ => by have : m = 0 := by omega
                  subst this; rfl
  | l + 1, h, hr => by
    by_cases e : m = l + 1
    · rw [e]
    · have ih := msl_pre (l := l) (by omega) hr
      have hl : (msl p m).length ≤ (msl p l).length := by
        clear ih hr
        have : ∀ k, (msl p m).length ≤ (msl p (m + k)).length := fun k => by
          induction k with
          | zero => exact Nat.le_refl _
          | succ k ih =>
            show _ ≤ (if p (m + k) then msl p (m + k) ++ [m + k] else msl p (m + k)).length
            split
            · simp; omega
            · exact ih
        have := this (l - m)
        rw [show m + (l - m) = l by omega] at this
        exact this
      show (if p l then msl p l ++ [l] else msl p l).getD r 0 = _
      split
      · rw [List.getD_eq_getElem?_getD, List.getElem?_append_left (by omega), ← List.getD_eq_getElem?_getD]; exact ih
      · exact ih
theorem msl_idx {p : Nat → Bool} {l n : Nat} (hl : l < n) (hp : p l = true) : (msl p l).length < (msl p n).length ∧ (msl p n).getD (msl p l).length 0 = l := by
  have e : msl p (l + 1) = msl p l ++ [l] := if_pos hp
  have h1 : (msl p l).length < (msl p (l + 1)).length := by rw [e]; simp
  have h2 : (msl p (l + 1)).getD (msl p l).length 0 = l := by rw [e, List.getD_eq_getElem?_getD, List.getElem?_append_right (Nat.le_refl _)]; simp
  have h3 := msl_pre (p := p) (m := l + 1) (l := n) hl h1
  refine ⟨?_, h3.trans h2⟩
  have : ∀ k, (msl p (l + 1)).length ≤ (msl p (l + 1 + k)).length := fun k => by
    induction k with
    | zero => exact Nat.le_refl _
    | succ k ih =>
      show _ ≤ (if p (l + 1 + k) then msl p (l + 1 + k) ++ [l + 1 + k] else msl p (l + 1 + k)).length
      split
      · simp; omega
      · exact ih
  have := this (n - (l + 1))
  rw [show l + 1 + (n - (l + 1)) = n by omega] at this
  omega
theorem bi_j (b : Bool) : (bi b).toInt64 = Int64.ofInt (if b then 1 else 0) := by cases b <;> rfl
section R4
variable {X : Ctx} {d : Nat} {Q : Option Value → Hp → Prop} {p : Nat → Bool} {du : Nat → Int} {off : Nat → Nat → Bool}
/-- the rows of bits of who takes off of whom -/
def offR (h : Hp) (off : Nat → Nat → Bool) : Prop := ∀ x, x < 6 → ∀ k, k < 32 → bt (hI h 285 x) k = (decide (k < 6 ∧ k ≠ x) && off x k)
def memR (h : Hp) (p : Nat → Bool) (l : Nat) : Prop := ∀ r, r < (msl p l).length → hI h 299 r = Int32.ofNat ((msl p l).getD r 0)
def duR (h : Hp) (du : Nat → Int) : Prop := ∀ l, l < 6 → hJ h 290 l = Int64.ofInt (du l)
def W93 (a : Nat) : Prop := 293 ≤ a ∧ a ≤ 299
theorem fill54 {ro : Nat → Nat} {v1 : Option Value} {h0 : Hp} (ho : offR h0 off) (hd : duR h0 du) {i : Nat} (hi : i < (msl p 6).length) : ∀ (c j : Nat) (h : Hp), j + c = (msl p 6).length → Inv h → Rg h ro → Eo W93 h0 h → hP h = hP h0 → memR h p 6 → (∀ r, r < i → ∀ c, c ≤ (msl p 6).length → hJ h (293 + ro r) c = Int64.ofInt (mA du off p r c)) → (∀ c, c < j → hJ h (293 + ro i) c = Int64.ofInt (mA du off p i c)) →
    (∀ h' w, Inv h' → Rg h' ro → Eo W93 h0 h' → hP h' = hP h0 → memR h' p 6 → (∀ r, r < i + 1 → ∀ c, c ≤ (msl p 6).length → hJ h' (293 + ro r) c = Int64.ofInt (mA du off p r c)) → Wp (sem (X, K X d) 79 44 [some (.ref 291), v1, some (.ref 285), some (.ref 290), some (.int (Int32.ofNat (msl p 6).length)), some (.int (Int32.ofNat (i + 1))), w] [] h') Q) →
    Wp (sem (X, K X d) 79 54 [some (.ref 291), v1, some (.ref 285), some (.ref 290), some (.int (Int32.ofNat (msl p 6).length)), some (.int (Int32.ofNat i)), some (.int (Int32.ofNat j))] [] h) Q
  | 0, j, h, e, I, g, E, P, mm, q1, q2, q => by
    have n6 := msl_len p 6
    have gi := g.1 i (by omega)
    have at_i := msl_at hi
    have ej : j = (msl p 6).length := by omega
    rw [b_79_54]
    refine w_ift ((i_le (by omega) (by omega)).mpr (by omega)) ?_
    refine w_gL I s_291 l_291_0 ?_
    refine w_aRn I s_292 (by decide) (by decide) (by omega) (by decide) gi.1 ?_
    refine w_gL I s_291 l_291_1 ?_
    refine w_aIn I s_299 (by omega) (by decide) ?_
    rw [mm i hi]
    refine w_aJn I s_290 at_i.1 (by decide) ?_
    rw [E.j (show ¬ W93 290 by unfold W93; omega), hd _ at_i.1, i32_ofNat_succ]
    refine w_wJn I (row_s _ gi.2) (by omega) (by decide) fun I => ?_
    have hrow : mA du off p i (msl p 6).length = du ((msl p 6).getD i 0) := if_neg (Nat.lt_irrefl _)
    refine q _ _ I g (E.kJ (by unfold W93; omega)) P mm fun r hr c hc => ?_
    by_cases z : r = i
    · rw [z, hJ_sJ_self, up1]
      by_cases z2 : c = (msl p 6).length
      · rw [if_pos z2, z2, hrow]
      · rw [if_neg z2]; exact q2 c (by omega)
    · rw [hJ_sJ_ne (fun w => z (g.2 r (by omega) i (by omega) (by omega)))]; exact q1 r (by omega) c hc
  | c + 1, j, h, e, I, g, E, P, mm, q1, q2, q => by
    have n6 := msl_len p 6
    have gi := g.1 i (by omega)
    have at_i := msl_at hi
    have hj : j < (msl p 6).length := by omega
    have at_j := msl_at hj
    rw [b_79_54]
    refine w_iff (fun z => absurd ((i_le (by omega) (by omega)).mp z) (by omega)) ?_
    refine w_gL I s_291 l_291_0 ?_
    refine w_aRn I s_292 (by decide) (by decide) (by omega) (by decide) gi.1 ?_
    rw [i32_ofNat_succ]
    have go : ∀ v, v = Int64.ofInt (mA du off p i j) → Inv (sJ h (293 + ro i) j v) → Wp (sem (X, K X d) 79 54 [some (.ref 291), v1, some (.ref 285), some (.ref 290), some (.int (Int32.ofNat (msl p 6).length)), some (.int (Int32.ofNat i)), some (.int (Int32.ofNat (j + 1)))] [] (sJ h (293 + ro i) j v)) Q := fun v hv I => by
      refine fill54 ho hd hi c (j + 1) _ (by omega) I g (E.kJ (by unfold W93; omega)) P mm (fun r hr c hc => ?_) (fun c hc => ?_) q
      · rw [hJ_sJ_ne (fun w => absurd (g.2 r (by omega) i (by omega) (by omega)) (by omega))]; exact q1 r hr c hc
      · rw [hJ_sJ_self, up1]
        by_cases z : c = j
        · rw [if_pos z, z]; exact hv
        · rw [if_neg z]; exact q2 c (by omega)
    have em : mA du off p i j = (if i = j then 1 else if off ((msl p 6).getD i 0) ((msl p 6).getD j 0) then 1 else 0) := if_pos hj
    refine w_if (fun c0 => ?_) (fun c0 => ?_)
    · have hij : i ≠ j := fun z => c0 (by rw [z])
      refine w_gL I s_291 l_291_1 ?_
      refine w_aIn I s_299 (by omega) (by decide) ?_
      rw [mm i hi]
      refine w_aIn I s_285 at_i.1 (by decide) ?_
      refine w_gL I s_291 l_291_1 ?_
      refine w_aIn I s_299 (by omega) (by decide) ?_
      rw [mm j hj, shr_bt (by omega), E.i (show ¬ W93 285 by unfold W93; omega), ho _ at_i.1 _ (by omega), decide_eq_true ⟨at_j.1, fun z => hij (msl_inj hi hj z.symm)⟩, Bool.true_and, bi_j]
      refine w_wJn I (row_s _ gi.2) (by omega) (by decide) fun I => go _ ?_ I
      rw [em, if_neg hij]
    · have hij : i = j := (i_eq (by omega) (by omega)).mp (Classical.byContradiction c0)
      refine w_wJn I (row_s _ gi.2) (by omega) (by decide) fun I => go _ ?_ I
      rw [em, if_pos hij]; rfl
theorem fill44 {ro : Nat → Nat} {v1 : Option Value} {h0 : Hp} (ho : offR h0 off) (hd : duR h0 du) : ∀ (c i : Nat) (h : Hp) (v6 : Option Value), i + c = (msl p 6).length → Inv h → Rg h ro → Eo W93 h0 h → hP h = hP h0 → memR h p 6 → (∀ r, r < i → ∀ c, c ≤ (msl p 6).length → hJ h (293 + ro r) c = Int64.ofInt (mA du off p r c)) →
    (∀ h', Inv h' → Rg h' ro → Eo W93 h0 h' → hP h' = hP h0 → memR h' p 6 → rowsC h' ro (msl p 6).length (mA du off p) → Q (some (.int (Int32.ofNat (msl p 6).length))) h') →
    Wp (sem (X, K X d) 79 44 [some (.ref 291), v1, some (.ref 285), some (.ref 290), some (.int (Int32.ofNat (msl p 6).length)), some (.int (Int32.ofNat i)), v6] [] h) Q
  | 0, i, h, v6, e, I, g, E, P, mm, q1, q => by
    have n6 := msl_len p 6
    rw [b_79_44]
    exact w_ift ((i_le (by omega) (by omega)).mpr (by omega)) (Wp.ret (q h I g E P mm (fun r hr => q1 r (by omega))))
  | c + 1, i, h, v6, e, I, g, E, P, mm, q1, q => by
    have n6 := msl_len p 6
    rw [b_79_44]
    refine w_iff (fun z => absurd ((i_le (by omega) (by omega)).mp z) (by omega)) ?_
    exact fill54 ho hd (by omega) (msl p 6).length 0 h (by omega) I g E P mm q1 (fun c hc => absurd hc (by omega)) fun h' w I' g' E' P' mm' q1' => fill44 ho hd c (i + 1) h' w (by omega) I' g' E' P' mm' q1' q
theorem fill6 {ro : Nat → Nat} {set : Int32} {h0 : Hp} (ho : offR h0 off) (hd : duR h0 du) (hp : ∀ l, l < 6 → bt set l = p l) : ∀ (c l : Nat) (h : Hp) (v6 : Option Value), l + c = 6 → Inv h → Rg h ro → Eo W93 h0 h → hP h = hP h0 → memR h p l →
    (∀ h', Inv h' → Rg h' ro → Eo W93 h0 h' → hP h' = hP h0 → memR h' p 6 → rowsC h' ro (msl p 6).length (mA du off p) → Q (some (.int (Int32.ofNat (msl p 6).length))) h') →
    Wp (sem (X, K X (d + 1)) 79 6 [some (.ref 291), some (.int set), some (.ref 285), some (.ref 290), some (.int (Int32.ofNat (msl p l).length)), some (.int (Int32.ofNat l)), v6] [] h) Q
  | 0, l, h, v6, e, I, g, E, P, mm, q => by
    have e : l = 6 := by omega
    subst e
    rw [b_79_6]
    refine w_ift ((i_le (m := 6) (by omega) (by omega)).mpr (by omega)) ?_
    exact fill44 ho hd (msl p 6).length 0 h v6 (by omega) I g E P mm (fun r hr => absurd hr (by omega)) q
  | c + 1, l, h, v6, e, I, g, E, P, mm, q => by
    have hl : l < 6 := by omega
    have nl := msl_len p l
    rw [b_79_6]
    refine w_iff (fun z => absurd ((i_le (m := 6) (by omega) (by omega)).mp z) (by omega)) ?_
    refine w_eI (m_has (by omega)) ?_
    rw [hp l hl, i32_ofNat_succ, i32_ofNat_succ]
    cases hpl : p l
    · refine w_ift rfl ?_
      have e1 : msl p (l + 1) = msl p l := if_neg (by rw [hpl]; decide)
      have := fill6 ho hd hp c (l + 1) h v6 (by omega) I g E P (by unfold memR; rw [e1]; exact mm) q
      rw [e1] at this
      exact this
    · refine w_iff (by decide) ?_
      have e1 : msl p (l + 1) = msl p l ++ [l] := if_pos hpl
      have e2 : (msl p (l + 1)).length = (msl p l).length + 1 := by rw [e1]; simp
      refine w_gL I s_291 l_291_1 ?_
      refine w_wIn I s_299 (by omega) (by decide) fun I => ?_
      have := fill6 ho hd hp c (l + 1) (sI h 299 (msl p l).length (Int32.ofNat l)) v6 (by omega) I g (E.kI (by unfold W93; omega)) P (fun r hr => by
        rw [hI_sI_self, up1]
        by_cases z : r = (msl p l).length
        · rw [if_pos z, e1, z, List.getD_eq_getElem?_getD, List.getElem?_append_right (Nat.le_refl _)]; simp
        · rw [if_neg z, mm r (by omega), e1, List.getD_eq_getElem?_getD, List.getD_eq_getElem?_getD, List.getElem?_append_left (by omega)]) q
      rw [e2] at this
      exact this
/-- fill -/
theorem m_79 {ro : Nat → Nat} {set : Int32} {h0 : Hp} (I : Inv h0) (ho : offR h0 off) (hd : duR h0 du) (hp : ∀ l, l < 6 → bt set l = p l) (g : Rg h0 ro) :
    Wp (K X (d + 2) 79 [.ref 291, .int set, .ref 285, .ref 290] h0) (VI fun x h' => x = Int32.ofNat (msl p 6).length ∧ Eo W93 h0 h' ∧ Rg h' ro ∧ memR h' p 6 ∧ rowsC h' ro (msl p 6).length (mA du off p)) := by
  rw [k_79]
  exact fill6 (p := p) ho hd hp 6 0 h0 none (by omega) I g Eo.rf rfl (fun r hr => absurd hr (Nat.not_lt_zero _)) fun h' I' g' E' P' mm' rc' => ⟨_, rfl, rfl, E', g', mm', rc'⟩
end R4
