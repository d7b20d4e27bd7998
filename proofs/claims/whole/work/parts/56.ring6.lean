/-! THE RING OF THE CLASS: answers, told -/
section R6
variable {X : Ctx} {d : Nat} {Q : Option Value → Hp → Prop} {p op : Nat → Bool} {du : Nat → Int} {off : Nat → Nat → Bool} {M : Nat → Ve} {e : Int}
def uB (n x : Nat) : Nat := if x < n then 1 else 17179869184
theorem mA_bd (hd : ∀ l, l < 6 → (du l).natAbs ≤ 17179869184) {r : Nat} (hr : r < (msl p 6).length) (x : Nat) : (mA du off p r x).natAbs ≤ uB (msl p 6).length x := by
  unfold mA uB
  split
  · split
    · decide
    · split <;> decide
  · exact hd _ (msl_at hr).1
theorem mA_sol (hd : ∀ l, l < 6 → (du l).natAbs ≤ 17179869184) (h : solP du off p = some (M, e)) : ∃ B, St B (msl p 6).length (msl p 6).length M e ∧ (∀ r, r < (msl p 6).length → ∀ x, (B r x).natAbs ≤ uB (msl p 6).length x) ∧ Bd p M e := by
  have n6 := msl_len p 6
  -- through the elimination with its order of rows
  have key : ∀ (c k : Nat) (M : Nat → Ve) (e : Int) (A : Nat → Ve) (M' : Nat → Ve) (e' : Int), k + c = (msl p 6).length → St A (msl p 6).length k M e → (∀ r, r < (msl p 6).length → ∀ x, (A r x).natAbs ≤ uB (msl p 6).length x) → elim (msl p 6).length c k M e = some (M', e') → ∃ B, St B (msl p 6).length (msl p 6).length M' e' ∧ ∀ r, r < (msl p 6).length → ∀ x, (B r x).natAbs ≤ uB (msl p 6).length x := by
    intro c
    induction c with
    | zero =>
      intro k M e A M' e' hk st hA h
      have hk : k = (msl p 6).length := by omega
      subst hk
      cases h
      exact ⟨A, st, hA⟩
    | succ c ih =>
      intro k M e A M' e' hk st hA h
      unfold elim at h
      cases hp : fpiv M k ((msl p 6).length - k) k with
      | none => rw [hp] at h; cases h
      | some pv =>
        rw [hp] at h
        obtain ⟨p1, p2, p3⟩ := fpiv_some hp
        have s2 := st.swap p1 (by omega)
        have hne : swp M k pv k k ≠ 0 := by
          have : swp M k pv k = M pv := if_pos rfl
          rw [this]; exact p3
        refine ih (k + 1) _ _ _ M' e' (by omega) (s2.step (by omega) hne).2 (fun r hr x => ?_) h
        unfold swp
        split
        · exact hA pv (by omega) x
        · split
          · exact hA k (by omega) x
          · exact hA r hr x
  obtain ⟨B, st, hB⟩ := key _ 0 _ _ (mA du off p) M e (by omega) (St.zero _ _) (fun r hr x => mA_bd hd hr x) h
  refine ⟨B, st, hB, fun l hl hp => ?_, ?_⟩
  · have := (st.bd n6 (Nat.le_refl _) hB (fun x hx => if_pos hx)).1 _ (msl_idx hl hp).1 (msl p 6).length
    unfold uB at this
    rw [if_neg (Nat.lt_irrefl _)] at this
    unfold XL
    omega
  · exact (st.bd n6 (Nat.le_refl _) hB (fun x hx => if_pos hx)).2
end R6
