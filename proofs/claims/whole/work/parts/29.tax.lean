/-! NUMBERS AS INTS AND LONGS; TAX BY STEPS -/
def jr (a : Int) : Prop := -4611686018427387904 ≤ a ∧ a ≤ 4611686018427387904
def ir (a : Int) : Prop := -2147483648 ≤ a ∧ a ≤ 2147483647
theorem j_val {a : Int} (h : jr a) : (Int64.ofInt a).toInt = a := Int64.toInt_ofInt_of_le (by unfold jr at h; omega) (by unfold jr at h; omega)
theorem j_lt {a b : Int} (ha : jr a) (hb : jr b) : Int64.ofInt a < Int64.ofInt b ↔ a < b := by rw [Int64.lt_iff_toInt_lt, j_val ha, j_val hb]
theorem j_le {a b : Int} (ha : jr a) (hb : jr b) : Int64.ofInt a ≤ Int64.ofInt b ↔ a ≤ b := by rw [Int64.le_iff_toInt_le, j_val ha, j_val hb]
theorem j_eq {a b : Int} (ha : jr a) (hb : jr b) : Int64.ofInt a = Int64.ofInt b ↔ a = b := ⟨fun e => by have := congrArg Int64.toInt e; rw [j_val ha, j_val hb] at this; exact this, fun e => by rw [e]⟩
theorem j_div {a b : Int} (ha : jr a) (hb : jr b) : Int64.ofInt a / Int64.ofInt b = Int64.ofInt (a.tdiv b) := by
  unfold jr at ha hb
  have e1 : Int64.minValue.toInt = -9223372036854775808 := by decide
  have e2 : Int64.maxValue.toInt = 9223372036854775807 := by decide
  exact (Int64.ofInt_tdiv (by rw [e1]; omega) (by rw [e2]; omega) (by rw [e1]; omega) (by rw [e2]; omega)).symm
theorem n_val {a : Int} (h : ir a) : (Int32.ofInt a).toInt = a := Int32.toInt_ofInt_of_le (by unfold ir at h; omega) (by unfold ir at h; omega)
theorem n_lt {a b : Int} (ha : ir a) (hb : ir b) : Int32.ofInt a < Int32.ofInt b ↔ a < b := by rw [Int32.lt_iff_toInt_lt, n_val ha, n_val hb]
theorem n_le {a b : Int} (ha : ir a) (hb : ir b) : Int32.ofInt a ≤ Int32.ofInt b ↔ a ≤ b := by rw [Int32.le_iff_toInt_le, n_val ha, n_val hb]
theorem n_j {a : Int} (h : ir a) : (Int32.ofInt a).toInt64 = Int64.ofInt a := by
  apply Int64.toInt_inj.mp
  rw [Int32.toInt_toInt64, n_val h, j_val (by unfold ir at h; unfold jr; omega)]
theorem n_nat (n : Nat) : Int32.ofNat n = Int32.ofInt n := (Int32.ofInt_eq_ofNat).symm
theorem nat_j {n : Nat} (h : n < 2147483648) : (Int32.ofNat n).toInt64 = Int64.ofInt n := by rw [n_nat, n_j (by unfold ir; omega)]
/-- TAX by steps, of what is above the free part -/
def txe (x : Int) : List (Nat × Nat) → Int
  | [] => x
  | t :: _ => if (t.1 : Int) < x then (t.1 : Int) else x
theorem txe_cons (x : Int) (t : Nat × Nat) (r : List (Nat × Nat)) : txe x (t :: r) = if (t.1 : Int) < x then (t.1 : Int) else x := rfl
def tx (x : Int) : List (Nat × Nat) → Int
  | [] => 0
  | s :: ss => (if (s.1 : Int) < txe x ss then (txe x ss - s.1) * s.2 else 0) + tx x ss
theorem tx_cons (x : Int) (s : Nat × Nat) (ss : List (Nat × Nat)) : tx x (s :: ss) = (if (s.1 : Int) < txe x ss then (txe x ss - s.1) * s.2 else 0) + tx x ss := rfl
theorem txe_le (x : Int) (ss : List (Nat × Nat)) : txe x ss ≤ x := by
  cases ss with
  | nil => exact Int.le_refl _
  | cons t r => rw [txe_cons]; split <;> omega
theorem tx_neg {x : Int} (h : x ≤ 0) : ∀ ss, tx x ss = 0
  | [] => rfl
  | s :: ss => by
    rw [tx_cons, tx_neg h ss, if_neg (by have := txe_le x ss; omega)]
    rfl
theorem tx_max (x : Int) (ss : List (Nat × Nat)) : tx (if x < 0 then 0 else x) ss = tx x ss := by
  by_cases h : x < 0
  · rw [if_pos h, tx_neg (Int.le_refl _), tx_neg (by omega)]
  · rw [if_neg h]
/-- TAX is at most the whole of it -/
theorem tx_bd {x : Int} : ∀ (ss : List (Nat × Nat)), (∀ s, s ∈ ss → s.2 ≤ 100) → 0 ≤ tx x ss ∧ tx x ss ≤ ss.length * (100 * (if x < 0 then 0 else x))
  | [], _ => by simp [tx]
  | s :: ss, h => by
    have ih := tx_bd (x := x) ss (fun t ht => h t (by simp [ht]))
    rw [tx_cons, List.length_cons]
    have hs := h s (by simp)
    have he := txe_le x ss
    have k : 0 ≤ (if (s.1 : Int) < txe x ss then (txe x ss - s.1) * s.2 else 0) ∧ (if (s.1 : Int) < txe x ss then (txe x ss - s.1) * s.2 else 0) ≤ 100 * (if x < 0 then 0 else x) := by
      by_cases q : (s.1 : Int) < txe x ss
      · rw [if_pos q, if_neg (by omega)]
        constructor
        · exact Int.mul_nonneg (by omega) (by omega)
        · have h1 : (txe x ss - s.1) * (s.2 : Int) ≤ (txe x ss - s.1) * 100 := Int.mul_le_mul_of_nonneg_left (by omega) (by omega)
          omega
      · rw [if_neg q]
        split <;> omega
    have e : ((ss.length + 1 : Nat) : Int) * (100 * (if x < 0 then 0 else x)) = ss.length * (100 * (if x < 0 then 0 else x)) + 100 * (if x < 0 then 0 else x) := by
      rw [Int.natCast_add, Int.add_mul]; simp
    rw [e]
    omega
section TX
variable {X : Ctx} {d : Nat} {L l : Nat}
theorem tax_loop {x : Int} {h : Hp} {v1 v2 : Option Value} (I : Inv h) (hL : IsLaw L) (hx : 0 ≤ x ∧ x ≤ 100000000) : ∀ (ss : List (Nat × Nat)) (j : Nat) (acc : Int) (v8 v9 : Option Value), cSteps h L j ss → (∀ s, s ∈ ss → s.1 ≤ 999999 ∧ s.2 ≤ 100) → hI h L 9 = Int32.ofNat (j + ss.length) → j + ss.length ≤ 20 →
    Wp (sem (X, K X d) 8 18 [some (.ref L), v1, v2, some (.long (Int64.ofInt x)), none, some (.long (Int64.ofInt acc)), none, some (.int (Int32.ofNat j)), v8, v9] [] h) (VJ fun y g => y = Int64.ofInt (acc + tx x ss) ∧ g = h)
  | [], j, acc, v8, v9, _, _, hn, hm => by
    rw [b_8_18]
    refine w_gI I hL.s ?_
    rw [hn]
    refine w_ift ((i_le (by omega) (by omega)).mpr (by simp)) ?_
    exact Wp.retj ⟨by simp [tx], rfl⟩
  | s :: ss, j, acc, v8, v9, hc, hs, hn, hm => by
    have hm2 : j + 1 + ss.length ≤ 20 := by simp at hm; omega
    have hn2 : hI h L 9 = Int32.ofNat (j + 1 + ss.length) := by rw [hn, List.length_cons]; congr 1; omega
    have ih := fun (acc : Int) (v8 v9 : Option Value) => tax_loop (v1 := v1) (v2 := v2) I hL hx ss (j + 1) acc v8 v9 hc.2 (fun t ht => hs t (by simp [ht])) hn2 hm2
    have h1 := hs s (by simp)
    have e0 := txe_le x ss
    have em : 0 ≤ txe x ss := by cases ss with
      | nil => exact hx.1
      | cons t r => rw [txe_cons]; split <;> omega
    have key : Wp (sem (X, K X d) 8 56 [some (.ref L), v1, v2, some (.long (Int64.ofInt x)), none, some (.long (Int64.ofInt acc)), none, some (.int (Int32.ofNat j)), v8, v9] [.long (Int64.ofInt (txe x ss))] h) (VJ fun y g => y = Int64.ofInt (acc + tx x (s :: ss)) ∧ g = h) := by
      rw [b_8_56]
      refine w_gL I hL.s hL.l5 ?_
      refine w_aIn I hL.s6 (by omega) (by decide) ?_
      rw [hc.1.1, nat_j (by omega), i32_ofNat_succ]
      refine w_if (fun c => ?_) (fun c => ?_)
      · have c := (j_le (by unfold jr; omega) (by unfold jr; omega)).mp ((lg_cmp_le _ _).mp c)
        have := ih acc (some (.long (Int64.ofInt (txe x ss)))) none
        rw [tx_cons, if_neg (by omega), Int.zero_add]
        exact this
      · have c : ¬ txe x ss ≤ (s.1 : Int) := fun z => c ((lg_cmp_le _ _).mpr ((j_le (by unfold jr; omega) (by unfold jr; omega)).mpr z))
        refine w_gL I hL.s hL.l5 ?_
        refine w_aIn I hL.s6 (by omega) (by decide) ?_
        refine w_gL I hL.s hL.l6 ?_
        refine w_aIn I hL.s7 (by omega) (by decide) ?_
        rw [hc.1.1, nat_j (by omega), hc.1.2, nat_j (by omega), ← Int64.ofInt_sub, ← Int64.ofInt_mul, ← Int64.ofInt_add]
        have := ih (acc + (txe x ss - s.1) * s.2) (some (.long (Int64.ofInt (txe x ss)))) none
        rw [tx_cons, if_pos (by omega), ← Int.add_assoc]
        exact this
    rw [b_8_18]
    refine w_gI I hL.s ?_
    rw [hn2]
    refine w_iff (fun z => absurd ((i_le (by omega) (by omega)).mp z) (by omega)) ?_
    refine w_gI I hL.s ?_
    rw [hn2, i32_ofNat_succ]
    cases ss with
    | nil =>
      refine w_ift ((i_le (by omega) (by omega)).mpr (by simp)) ?_
      exact key
    | cons t r =>
      have h2 := hs t (by simp)
      refine w_iff (fun z => absurd ((i_le (by omega) (by omega)).mp z) (by simp)) ?_
      refine w_gL I hL.s hL.l5 ?_
      refine w_aIn I hL.s6 (by simp at hm2; omega) (by decide) ?_
      rw [hc.2.1.1, nat_j (by omega)]
      have e : (if Int64.ofInt (t.1 : Int) < Int64.ofInt x then Int64.ofInt (t.1 : Int) else Int64.ofInt x) = Int64.ofInt (txe x (t :: r)) := by
        rw [txe_cons]
        by_cases q : (t.1 : Int) < x
        · rw [if_pos q, if_pos ((j_lt (by unfold jr; omega) (by unfold jr; omega)).mpr q)]
        · rw [if_neg q, if_neg (fun z => q ((j_lt (by unfold jr; omega) (by unfold jr; omega)).mp z))]
      rw [e]
      exact key
theorem m_8 {h : Hp} {A : ALaw} {b : Int} (I : Inv h) (hL : IsLaw L) (hc : cLaw h L A) (o : okL A) (hb : 0 ≤ b ∧ b ≤ 99999999) :
    K X (d + 1) 8 [.ref L, .long (Int64.ofInt b)] h = some (some (.long (Int64.ofInt (tx (b - A.2.2.1) A.2.1))), h) := by
  obtain ⟨-, -, o3, o4, o5, -⟩ := o
  obtain ⟨-, -, q3, q4, q5, -⟩ := hc
  refine Wp.eqJ ?_
  rw [k_8]
  refine w_gI I hL.s ?_
  rw [q5, nat_j (by omega), ← Int64.ofInt_sub]
  have e : (if Int64.ofInt (b - A.2.2.1) < 0 then 0 else Int64.ofInt (b - A.2.2.1)) = Int64.ofInt (if b - A.2.2.1 < 0 then 0 else b - A.2.2.1) := by
    have z : (0 : Int64) = Int64.ofInt 0 := rfl
    by_cases q : b - (A.2.2.1 : Int) < 0
    · rw [if_pos q, z, if_pos ((j_lt (by unfold jr; omega) (by unfold jr; omega)).mpr q)]
    · rw [if_neg q, z, if_neg (fun y => q ((j_lt (by unfold jr; omega) (by unfold jr; omega)).mp y))]
  rw [e]
  have := tax_loop (X := X) (d := d) (v1 := some (.long (Int64.ofInt b))) (v2 := none) I hL (x := if b - A.2.2.1 < 0 then 0 else b - A.2.2.1) (by split <;> omega) A.2.1 0 0 none none q4 o4 (by rw [q3]; congr 1; omega) (by omega)
  rw [tx_max, Int.zero_add] at this
  exact this
def mSteps (h : Hp) (l : Nat) : Nat → List (Nat × Nat) → Prop
  | _, [] => True
  | j, s :: ss => (hI h 320 (20 * l + j) = Int32.ofNat s.1 ∧ hI h 321 (20 * l + j) = Int32.ofNat s.2) ∧ mSteps h l (j + 1) ss
theorem mtax_loop {x : Int} {h : Hp} {v2 : Option Value} (I : Inv h) (hl : l < 7) (hx : -1000000 ≤ x ∧ x ≤ 100000000) : ∀ (ss : List (Nat × Nat)) (j : Nat) (acc : Int) (v7 v8 : Option Value), mSteps h l j ss → (∀ s, s ∈ ss → s.1 ≤ 999999 ∧ s.2 ≤ 100) → hI h 319 l = Int32.ofNat (j + ss.length) → j + ss.length ≤ 20 →
    Wp (sem (X, K X d) 200 15 [some (.ref 301), some (.int (Int32.ofNat l)), v2, some (.int (Int32.ofInt x)), some (.long (Int64.ofInt acc)), none, some (.int (Int32.ofNat j)), v7, v8] [] h) (VJ fun y g => y = Int64.ofInt (acc + tx x ss) ∧ g = h)
  | [], j, acc, v7, v8, _, _, hn, hm => by
    rw [b_200_15]
    refine w_gL I s_301 l_301_17 ?_
    refine w_aIn I s_319 hl (by decide) ?_
    rw [hn]
    refine w_ift ((i_le (by omega) (by omega)).mpr (by simp)) ?_
    exact Wp.retj ⟨by simp [tx], rfl⟩
  | s :: ss, j, acc, v7, v8, hc, hs, hn, hm => by
    have hm2 : j + 1 + ss.length ≤ 20 := by simp at hm; omega
    have hn2 : hI h 319 l = Int32.ofNat (j + 1 + ss.length) := by rw [hn, List.length_cons]; congr 1; omega
    have ih := fun (acc : Int) (v7 v8 : Option Value) => mtax_loop (v2 := v2) I hl hx ss (j + 1) acc v7 v8 hc.2 (fun t ht => hs t (by simp [ht])) hn2 hm2
    have h1 := hs s (by simp)
    have e0 := txe_le x ss
    have em : -1000000 ≤ txe x ss := by cases ss with
      | nil => exact hx.1
      | cons t r => rw [txe_cons]; split <;> omega
    have x1 : (20 : Int32) * Int32.ofNat l + Int32.ofNat j = Int32.ofNat (20 * l + j) := i_lin1 20 l j
    have key : Wp (sem (X, K X d) 200 74 [some (.ref 301), some (.int (Int32.ofNat l)), v2, some (.int (Int32.ofInt x)), some (.long (Int64.ofInt acc)), none, some (.int (Int32.ofNat j)), some (.int (Int32.ofNat (20 * l + j))), v8] [.int (Int32.ofInt (txe x ss))] h) (VJ fun y g => y = Int64.ofInt (acc + tx x (s :: ss)) ∧ g = h) := by
      rw [b_200_74]
      refine w_gL I s_301 l_301_18 ?_
      refine w_aIn I s_320 (by omega) (by decide) ?_
      rw [hc.1.1, n_nat s.1, i32_ofNat_succ]
      refine w_if (fun c => ?_) (fun c => ?_)
      · have c := (n_le (by unfold ir; omega) (by unfold ir; omega)).mp c
        have := ih acc (some (.int (Int32.ofNat (20 * l + j)))) (some (.int (Int32.ofInt (txe x ss))))
        rw [tx_cons, if_neg (by omega), Int.zero_add]
        exact this
      · have c : ¬ txe x ss ≤ (s.1 : Int) := fun z => c ((n_le (by unfold ir; omega) (by unfold ir; omega)).mpr z)
        refine w_gL I s_301 l_301_18 ?_
        refine w_aIn I s_320 (by omega) (by decide) ?_
        refine w_gL I s_301 l_301_19 ?_
        refine w_aIn I s_321 (by omega) (by decide) ?_
        rw [hc.1.1, n_nat s.1, hc.1.2, nat_j (by omega), ← Int32.ofInt_sub, n_j (by unfold ir; omega), ← Int64.ofInt_mul, ← Int64.ofInt_add]
        have := ih (acc + (txe x ss - s.1) * s.2) (some (.int (Int32.ofNat (20 * l + j)))) (some (.int (Int32.ofInt (txe x ss))))
        rw [tx_cons, if_pos (by omega), ← Int.add_assoc]
        exact this
    rw [b_200_15]
    refine w_gL I s_301 l_301_17 ?_
    refine w_aIn I s_319 hl (by decide) ?_
    rw [hn2]
    refine w_iff (fun z => absurd ((i_le (by omega) (by omega)).mp z) (by omega)) ?_
    refine w_gL I s_301 l_301_17 ?_
    refine w_aIn I s_319 hl (by decide) ?_
    rw [hn2, i32_ofNat_succ, x1]
    cases ss with
    | nil =>
      refine w_ift ((i_le (by omega) (by omega)).mpr (by simp)) ?_
      exact key
    | cons t r =>
      have h2 := hs t (by simp)
      refine w_iff (fun z => absurd ((i_le (by omega) (by omega)).mp z) (by simp)) ?_
      refine w_gL I s_301 l_301_18 ?_
      rw [i32_ofNat_succ]
      refine w_aIn I s_320 (by simp at hm2; omega) (by decide) ?_
      have c1 := hc.2.1.1
      have c2 : hI h 320 (20 * l + j + 1) = Int32.ofInt t.1 := by rw [← n_nat]; exact c1
      rw [c2]
      refine w_if (fun c => ?_) (fun c => ?_)
      · have c := (n_le (by unfold ir; omega) (by unfold ir; omega)).mp c
        have e : txe x (t :: r) = x := by rw [txe_cons, if_neg (by omega)]
        rw [e] at key
        exact key
      · have c : ¬ x ≤ (t.1 : Int) := fun z => c ((n_le (by unfold ir; omega) (by unfold ir; omega)).mpr z)
        refine w_gL I s_301 l_301_18 ?_
        refine w_aIn I s_320 (by simp at hm2; omega) (by decide) ?_
        rw [c2]
        have e : txe x (t :: r) = t.1 := by rw [txe_cons, if_pos (by omega)]
        rw [e] at key
        exact key
theorem m_200 {h : Hp} {A : ALaw} {n : Nat} (I : Inv h) (hl : l < 7) (q1 : hI h 319 l = Int32.ofNat A.2.1.length) (q2 : mSteps h l 0 A.2.1) (q3 : hI h 318 l = Int32.ofNat A.2.2.1) (o : okL A) (hn : n ≤ 99999999) :
    K X (d + 1) 200 [.ref 301, .int (Int32.ofNat l), .int (Int32.ofNat n)] h = some (some (.long (Int64.ofInt (tx ((n : Int) - A.2.2.1) A.2.1))), h) := by
  obtain ⟨-, -, o3, o4, o5, -⟩ := o
  refine Wp.eqJ ?_
  rw [k_200]
  refine w_gL I s_301 l_301_16 ?_
  refine w_aIn I s_318 hl (by decide) ?_
  rw [q3, n_nat n, n_nat A.2.2.1, ← Int32.ofInt_sub]
  have := mtax_loop (X := X) (d := d) (v2 := some (.int (Int32.ofInt n))) I hl (x := (n : Int) - A.2.2.1) (by omega) A.2.1 0 0 none none q2 o4 (by rw [q1]; congr 1; omega) (by omega)
  rw [Int.zero_add] at this
  exact this
end TX
