/-! THE RING OF THE CLASS: an answer -/
/-- what a land takes, over the divisor -/
def XL (p : Nat → Bool) (M : Nat → Ve) (l : Nat) : Int := M (msl p l).length (msl p 6).length
/-- what a set's lands of which l takes off take, land by land -/
def sumL (off : Nat → Nat → Bool) (p : Nat → Bool) (M : Nat → Ve) (l : Nat) : Nat → Int
  | 0 => 0
  | m + 1 => sumL off p M l m + (if p m && off l m then XL p M m else 0)
theorem sumL_O {off : Nat → Nat → Bool} {p : Nat → Bool} {M : Nat → Ve} {l : Nat} : ∀ {m : Nat}, m ≤ 6 → sumL off p M l m = sumO off p M l (msl p m).length
  | 0, _ => rfl
  | m + 1, hm => by
    have ih := sumL_O (off := off) (p := p) (M := M) (l := l) (m := m) (by omega)
    show sumL off p M l m + _ = _
    cases hp : p m
    · have e : msl p (m + 1) = msl p m := if_neg (by rw [hp]; decide)
      rw [e, ih]; simp
    · have e : msl p (m + 1) = msl p m ++ [m] := if_pos hp
      have e2 : (msl p (m + 1)).length = (msl p m).length + 1 := by rw [e]; simp
      rw [e2, ih]
      show _ = sumO off p M l (msl p m).length + _
      rw [(msl_idx (show m < 6 by omega) hp).2, Bool.true_and]
      rfl
theorem jr_mul {a b : Int} {x y : Nat} (ha : a.natAbs ≤ x) (hb : b.natAbs ≤ y) (hxy : x * y ≤ 4611686018427387904) : jr (a * b) := by
  have : (a * b).natAbs ≤ x * y := by rw [Int.natAbs_mul]; exact Nat.mul_le_mul ha hb
  unfold jr; omega
section R5
variable {X : Ctx} {d : Nat} {Q : Option Value → Hp → Prop} {p op : Nat → Bool} {du : Nat → Int} {off : Nat → Nat → Bool} {M : Nat → Ve} {e : Int}
/-- bounds of what is solved -/
def Bd (p : Nat → Bool) (M : Nat → Ve) (e : Int) : Prop := (∀ l, l < 6 → p l = true → (XL p M l).natAbs ≤ 12369505812480) ∧ e.natAbs ≤ 720
theorem sg_abs (e x : Int) : (sg e * x).natAbs = x.natAbs := by
  unfold sg; split <;> simp
theorem sumL_bd (b : Bd p M e) {l : Nat} : ∀ {m : Nat}, m ≤ 6 → (sumL off p M l m).natAbs ≤ m * 12369505812480
  | 0, _ => by simp [sumL]
  | m + 1, hm => by
    have ih := sumL_bd (l := l) b (m := m) (by omega)
    show (sumL off p M l m + (if p m && off l m then XL p M m else 0)).natAbs ≤ _
    by_cases q : (p m && off l m) = true
    · rw [if_pos q]
      have := b.1 m (by omega) (by rw [Bool.and_eq_true] at q; exact q.1)
      omega
    · rw [if_neg q]; omega
theorem c82_39 {set : Int32} {h : Hp} {l : Nat} (hl : l < 6) (I : Inv h) (ho : offR h off) (hp : ∀ l, l < 6 → bt set l = p l) (b : Bd p M e) (hd : (du l).natAbs ≤ 17179869184) (hpl : p l = false) (hX : ∀ m, m < 6 → p m = true → hJ h 300 m = Int64.ofInt (sg e * XL p M m)) {v2 v4 : Option Value} : ∀ (c m : Nat), m + c = 6 →
    (sg e * (du l * e - sumL off p M l 6) ≤ 0 → ∀ w6 w8, Wp (sem (X, K X (d + 1)) 82 3 [some (.ref 291), some (.int set), v2, some (.ref 285), v4, some (.int (Int32.ofNat (l + 1))), some (.long w6), none, some (.int w8)] [] h) Q) → (¬ sg e * (du l * e - sumL off p M l 6) ≤ 0 → Q (some (.int 0)) h) →
    Wp (sem (X, K X (d + 1)) 82 39 [some (.ref 291), some (.int set), v2, some (.ref 285), v4, some (.int (Int32.ofNat l)), some (.long (Int64.ofInt (sg e * (du l * e - sumL off p M l m)))), none, some (.int (Int32.ofNat m))] [] h) Q
  | 0, m, em, k1, k2 => by
    have em : m = 6 := by omega
    subst em
    have bb : (du l * e - sumL off p M l 6).natAbs ≤ 17179869184 * 720 + 6 * 12369505812480 := by
      have h1 : (du l * e).natAbs ≤ 17179869184 * 720 := by rw [Int.natAbs_mul]; exact Nat.mul_le_mul hd b.2
      have h2 := sumL_bd (off := off) (l := l) b (m := 6) (by omega)
      omega
    have jb : jr (sg e * (du l * e - sumL off p M l 6)) := by
      have := sg_abs e (du l * e - sumL off p M l 6)
      unfold jr; omega
    rw [b_82_39]
    refine w_ift ((i_le (m := 6) (by omega) (by omega)).mpr (by omega)) ?_
    rw [i32_ofNat_succ]
    refine w_if (fun c => ?_) (fun c => ?_)
    · exact k1 ((j_le (b := 0) jb (by unfold jr; omega)).mp ((lg_cmp_le _ _).mp c)) _ _
    · exact Wp.ret (k2 fun z => c ((lg_cmp_le _ _).mpr ((j_le (b := 0) jb (by unfold jr; omega)).mpr z)))
  | c + 1, m, em, k1, k2 => by
    have hm : m < 6 := by omega
    rw [b_82_39]
    refine w_iff (fun z => absurd ((i_le (m := 6) (by omega) (by omega)).mp z) (by omega)) ?_
    refine w_aIn I s_285 hl (by decide) ?_
    refine w_eI (m_has (by omega)) ?_
    rw [bt_and, hp m hm, ho l hl m (by omega), i32_ofNat_succ]
    have es : (p m && (decide (m < 6 ∧ m ≠ l) && off l m)) = (p m && off l m) := by
      by_cases z : m = l
      · rw [z, hpl]; rfl
      · rw [decide_eq_true ⟨hm, z⟩, Bool.true_and]
    rw [es]
    have st : sumL off p M l (m + 1) = sumL off p M l m + (if p m && off l m then XL p M m else 0) := rfl
    refine w_if (fun c0 => ?_) (fun c0 => ?_)
    · have e1 : sumL off p M l (m + 1) = sumL off p M l m := by rw [st, bi_0.mp c0]; simp
      have ih := c82_39 hl I ho hp b hd hpl hX c (m + 1) (by omega) k1 k2
      rw [e1] at ih
      have z0 : Int64.ofInt (sg e * (du l * e - sumL off p M l m)) - 0 = Int64.ofInt (sg e * (du l * e - sumL off p M l m)) := Int64.sub_zero _
      rw [z0]
      exact ih
    · have c1 : (p m && off l m) = true := by cases z : (p m && off l m); rw [z] at c0; exact absurd rfl c0; rfl
      have e1 : sumL off p M l (m + 1) = sumL off p M l m + XL p M m := by rw [st, c1]; simp
      refine w_gL I s_291 l_291_2 ?_
      refine w_aJn I s_300 hm (by decide) ?_
      rw [hX m hm (by rw [Bool.and_eq_true] at c1; exact c1.1), ← Int64.ofInt_sub]
      have ih := c82_39 hl I ho hp b hd hpl hX c (m + 1) (by omega) k1 k2
      have e2 : sg e * (du l * e - sumL off p M l m) - sg e * XL p M m = sg e * (du l * e - sumL off p M l (m + 1)) := by rw [e1]; grind
      rw [e2]
      exact ih
/-- no other open one would take more than 0 -/
def nonL (du : Nat → Int) (off : Nat → Nat → Bool) (op p : Nat → Bool) (M : Nat → Ve) (e : Int) : Nat → Nat → Bool
  | 0, _ => true
  | c + 1, l => (!(op l && !p l) || decide (sg e * (du l * e - sumL off p M l 6) ≤ 0)) && nonL du off op p M e c (l + 1)
theorem nonL_B : nonL du off op p M e 6 0 = noneB du off op p M e := by
  unfold noneB
  simp only [nonL, sumL_O (Nat.le_refl 6)]
  simp [List.range_succ, List.all_append, Bool.and_assoc]
theorem c82_3 {set opn : Int32} {h : Hp} (I : Inv h) (ho : offR h off) (hdu : duR h du) (hp : ∀ l, l < 6 → bt set l = p l) (hop : ∀ l, l < 6 → bt opn l = op l) (b : Bd p M e) (hd : ∀ l, l < 6 → (du l).natAbs ≤ 17179869184) (hX : ∀ m, m < 6 → p m = true → hJ h 300 m = Int64.ofInt (sg e * XL p M m)) (he : hJ h 291 3 = Int64.ofInt (sg e * e)) : ∀ (c l : Nat) (v6 v7 v8 : Option Value), l + c = 6 →
    Wp (sem (X, K X (d + 1)) 82 3 [some (.ref 291), some (.int set), some (.int opn), some (.ref 285), some (.ref 290), some (.int (Int32.ofNat l)), v6, v7, v8] [] h) (VI fun x h' => x = bi (nonL du off op p M e c l) ∧ h' = h)
  | 0, l, v6, v7, v8, el => by
    rw [b_82_3]
    exact w_ift ((i_le (m := 6) (by omega) (by omega)).mpr (by omega)) (Wp.reti ⟨rfl, rfl⟩)
  | c + 1, l, v6, v7, v8, el => by
    have hl : l < 6 := by omega
    rw [b_82_3]
    refine w_iff (fun z => absurd ((i_le (m := 6) (by omega) (by omega)).mp z) (by omega)) ?_
    refine w_eI (m_has (by omega)) ?_
    rw [bt_and, bt_not _ (by omega), hp l hl, hop l hl, i32_ofNat_succ]
    have ih := fun v6 v7 v8 => c82_3 I ho hdu hp hop b hd hX he c (l + 1) v6 v7 v8 (by omega)
    refine w_if (fun c0 => ?_) (fun c0 => ?_)
    · have en : nonL du off op p M e (c + 1) l = nonL du off op p M e c (l + 1) := by
        show ((!(op l && !p l) || _) && _) = _
        rw [bi_0.mp c0]; rfl
      rw [en]
      exact ih v6 v7 v8
    · have c1 : (op l && !p l) = true := by cases z : (op l && !p l); rw [z] at c0; exact absurd rfl c0; rfl
      have hpl : p l = false := by cases z : p l; rfl; rw [z, Bool.not_true, Bool.and_false] at c1; cases c1
      refine w_aJn I s_290 hl (by decide) ?_
      refine w_gJ I s_291 ?_
      rw [hdu l hl, he, ← Int64.ofInt_mul]
      have ez : du l * (sg e * e) = sg e * (du l * e - sumL off p M l 0) := by
        show _ = sg e * (du l * e - 0)
        grind
      rw [ez]
      refine c82_39 hl I ho hp b (hd l hl) hpl hX 6 0 (by omega) (fun z w6 w8 => ?_) (fun z => ?_)
      · have en : nonL du off op p M e (c + 1) l = nonL du off op p M e c (l + 1) := by
          show ((!(op l && !p l) || _) && _) = _
          rw [decide_eq_true z, Bool.or_true, Bool.true_and]
        rw [en]
        exact ih _ _ _
      · have en : nonL du off op p M e (c + 1) l = false := by
          show ((!(op l && !p l) || _) && _) = _
          rw [c1, decide_eq_false z]; rfl
        rw [en]
        exact ⟨_, rfl, rfl, rfl⟩
end R5
