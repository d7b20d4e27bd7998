/-! THE MODEL SOLVES -/
section M2
variable {X : Ctx} {d : Nat} {Q : Option Value → Hp → Prop} {n : Nat}
def W49 (a : Nat) : Prop := a = 349
/-- one row of a step -/
theorem c211_106 {A M : Nat → Ve} {k : Nat} {e : Int} {u : Nat → Nat} (st : St A n k M e) (hn : n ≤ 6) (hk : k < n) (hp : M k k ≠ 0) (hA : ∀ r, r < n → ∀ x, (A r x).natAbs ≤ u x) (hu : ∀ x, x < n → u x = 1) (hb : ∀ x, u x ≤ 17179869184) {i : Nat} (hi : i < n) (hik : i ≠ k) {v5 : Option Value} : ∀ (m c : Nat) (h : Hp), c + m = n + 1 → Inv h →
    (∀ r, r < n → ∀ c', c' ≤ n → hJ h 349 (7 * r + c') = Int64.ofInt (if r < i ∨ (r = i ∧ c' < c) then nxM M k e r c' else M r c')) →
    (∀ h' w, Inv h' → Eo W49 h h' → (∀ r, r < n → ∀ c', c' ≤ n → hJ h' 349 (7 * r + c') = Int64.ofInt (if r < i + 1 then nxM M k e r c' else M r c')) → Wp (sem (X, K X d) 211 72 [some (.ref 301), some (.int (Int32.ofNat n)), some (.long (Int64.ofInt e)), none, some (.int (Int32.ofNat k)), v5, some (.int (Int32.ofNat (i + 1))), some (.long (Int64.ofInt (M i k))), none, some (.int w)] [] h') Q) →
    Wp (sem (X, K X d) 211 106 [some (.ref 301), some (.int (Int32.ofNat n)), some (.long (Int64.ofInt e)), none, some (.int (Int32.ofNat k)), v5, some (.int (Int32.ofNat i)), some (.long (Int64.ofInt (M i k))), none, some (.int (Int32.ofNat c))] [] h) Q
  | 0, c, h, e1, I, q1, q => by
    rw [b_211_106]
    refine w_ift ((i_lt (by omega) (by omega)).mpr (by omega)) ?_
    rw [i32_ofNat_succ]
    refine q h _ I Eo.rf fun r hr c' hc' => ?_
    rw [q1 r hr c' hc']
    by_cases z : r < i
    · rw [if_pos (Or.inl z), if_pos (show r < i + 1 by omega)]
    · by_cases z2 : r = i
      · rw [if_pos (Or.inr ⟨z2, by omega⟩), if_pos (show r < i + 1 by omega)]
      · rw [if_neg (fun w => w.elim z fun w => z2 w.1), if_neg (show ¬ r < i + 1 by omega)]
  | m + 1, c, h, e1, I, q1, q => by
    have ez : Int64.ofInt e ≠ 0 := by
      have b2 := (st.bd hn (Nat.le_of_lt hk) hA hu).2
      intro z
      have : (0 : Int64) = Int64.ofInt 0 := rfl
      rw [this] at z
      exact st.2.1 ((j_eq (by unfold jr; omega) (by unfold jr; omega)).mp z)
    rw [b_211_106]
    refine w_iff (fun z => absurd ((i_lt (by omega) (by omega)).mp z) (by omega)) ?_
    rw [ix7 i (by omega) c (by omega), ix7 k (by omega) k (by omega), ix7 k (by omega) c (by omega)]
    refine w_gL I s_301 l_301_68 ?_
    refine w_gL I s_301 l_301_68 ?_
    refine w_aJn I s_349 (by omega) (by decide) ?_
    refine w_gL I s_301 l_301_68 ?_
    refine w_aJn I s_349 (by omega) (by decide) ?_
    refine w_gL I s_301 l_301_68 ?_
    refine w_aJn I s_349 (by omega) (by decide) ?_
    refine w_gd ez ?_
    -- the row of the pivot is not touched: nxM of it is it
    have pk : ∀ c', nxM M k e k c' = M k c' := fun c' => congrFun (if_pos rfl) c'
    have g1 : hJ h 349 (7 * i + c) = Int64.ofInt (M i c) := by
      rw [q1 i hi c (by omega), if_neg (fun w => w.elim (Nat.lt_irrefl _) fun w => Nat.lt_irrefl _ w.2)]
    have g2 : ∀ c', c' ≤ n → hJ h 349 (7 * k + c') = Int64.ofInt (M k c') := fun c' hc' => by
      rw [q1 k hk c' hc']
      split
      · rw [pk]
      · rfl
    rw [g1, g2 k (by omega), g2 c (by omega), ring_div st hn hk hp hA hu hb hi hik c, i32_ofNat_succ]
    refine w_wJn I s_349 (by omega) (by decide) fun I => ?_
    refine c211_106 st hn hk hp hA hu hb hi hik m (c + 1) _ (by omega) I (fun r hr c' hc' => ?_) fun h' w I' E' r' => q h' w I' ((Eo.kJ (W := W49) Eo.rf rfl).tr E') r'
    rw [hJ_sJ_self, up1]
    by_cases z : 7 * r + c' = 7 * i + c
    · have hr1 : r = i := by omega
      have hc1 : c' = c := by omega
      rw [if_pos z, hr1, hc1, if_pos (Or.inr ⟨rfl, by omega⟩)]
    · rw [if_neg z, q1 r hr c' hc']
      by_cases z1 : r < i ∨ (r = i ∧ c' < c)
      · rw [if_pos z1, if_pos (z1.elim Or.inl fun w => Or.inr ⟨w.1, by omega⟩)]
      · rw [if_neg z1, if_neg (fun w => z1 (w.elim Or.inl fun w => Or.inr ⟨w.1, Classical.byContradiction fun y => z (by omega)⟩))]
/-- all rows of a step -/
theorem c211_72 {A M : Nat → Ve} {k : Nat} {e : Int} {u : Nat → Nat} (st : St A n k M e) (hn : n ≤ 6) (hk : k < n) (hp : M k k ≠ 0) (hA : ∀ r, r < n → ∀ x, (A r x).natAbs ≤ u x) (hu : ∀ x, x < n → u x = 1) (hb : ∀ x, u x ≤ 17179869184) {v5 : Option Value} : ∀ (m i : Nat) (h : Hp) (v7 v8 v9 : Option Value), i + m = n → Inv h →
    (∀ r, r < n → ∀ c', c' ≤ n → hJ h 349 (7 * r + c') = Int64.ofInt (if r < i then nxM M k e r c' else M r c')) →
    (∀ h' v6 v7 v8 v9, Inv h' → Eo W49 h h' → rowsM h' n (nxM M k e) → Wp (sem (X, K X d) 211 5 [some (.ref 301), some (.int (Int32.ofNat n)), some (.long (Int64.ofInt (M k k))), none, some (.int (Int32.ofNat (k + 1))), v5, v6, v7, v8, v9] [] h') Q) →
    Wp (sem (X, K X d) 211 72 [some (.ref 301), some (.int (Int32.ofNat n)), some (.long (Int64.ofInt e)), none, some (.int (Int32.ofNat k)), v5, some (.int (Int32.ofNat i)), v7, v8, v9] [] h) Q
  | 0, i, h, v7, v8, v9, e1, I, q1, q => by
    rw [b_211_72]
    refine w_ift ((i_le (by omega) (by omega)).mpr (by omega)) ?_
    refine w_gL I s_301 l_301_68 ?_
    rw [ix7 k (by omega) k (by omega)]
    refine w_aJn I s_349 (by omega) (by decide) ?_
    have pk : ∀ c', nxM M k e k c' = M k c' := fun c' => congrFun (if_pos rfl) c'
    have g2 : hJ h 349 (7 * k + k) = Int64.ofInt (M k k) := by
      rw [q1 k hk k (by omega), if_pos (by omega), pk]
    rw [g2, i32_ofNat_succ]
    refine q h _ _ _ _ I Eo.rf fun r hr c' hc' => ?_
    rw [q1 r hr c' hc', if_pos (by omega)]
  | m + 1, i, h, v7, v8, v9, e1, I, q1, q => by
    have hi : i < n := by omega
    rw [b_211_72]
    refine w_iff (fun z => absurd ((i_le (by omega) (by omega)).mp z) (by omega)) ?_
    refine w_if (fun c0 => ?_) (fun c0 => ?_)
    · have hik : i ≠ k := fun z => c0 (by rw [z])
      refine w_gL I s_301 l_301_68 ?_
      rw [ix7 i (by omega) k (by omega)]
      refine w_aJn I s_349 (by omega) (by decide) ?_
      have g1 : hJ h 349 (7 * i + k) = Int64.ofInt (M i k) := by
        rw [q1 i hi k (by omega), if_neg (Nat.lt_irrefl _)]
      rw [g1]
      refine c211_106 st hn hk hp hA hu hb hi hik (n + 1) 0 h (by omega) I (fun r hr c' hc' => ?_) fun h' w I' E' r' => c211_72 st hn hk hp hA hu hb m (i + 1) h' _ _ _ (by omega) I' r' fun h'' a b c d' I'' E'' r'' => q h'' a b c d' I'' (E'.tr E'') r''
      rw [q1 r hr c' hc']
      by_cases z : r < i
      · rw [if_pos z, if_pos (Or.inl z)]
      · rw [if_neg z, if_neg (fun w => w.elim z fun w => Nat.not_lt_zero _ w.2)]
    · have hik : i = k := (i_eq (by omega) (by omega)).mp (Classical.byContradiction c0)
      rw [i32_ofNat_succ]
      refine c211_72 st hn hk hp hA hu hb m (i + 1) h _ _ _ (by omega) I (fun r hr c' hc' => ?_) q
      have pk : ∀ c', nxM M k e k c' = M k c' := fun c' => congrFun (if_pos rfl) c'
      rw [q1 r hr c' hc']
      by_cases z : r < i
      · rw [if_pos z, if_pos (show r < i + 1 by omega)]
      · rw [if_neg z]
        by_cases z2 : r < i + 1
        · have hr1 : r = k := by omega
          rw [if_pos z2, hr1, pk]
        · rw [if_neg z2]
end M2
