/-! THE RING OF THE CLASS: pivots, the whole elimination -/
theorem swp_inj {ro : Nat → Nat} {k p : Nat} (hk : k < 6) (hp : p < 6) (g : ∀ i, i < 6 → ∀ j, j < 6 → ro i = ro j → i = j) : ∀ i, i < 6 → ∀ j, j < 6 → swp ro k p i = swp ro k p j → i = j := by
  have key : ∀ i, i < 6 → ∃ i', i' < 6 ∧ swp ro k p i = ro i' ∧ ((i = k ∧ i' = p) ∨ (i ≠ k ∧ i = p ∧ i' = k) ∨ (i ≠ k ∧ i ≠ p ∧ i' = i)) := fun i hi => by
    unfold swp
    by_cases z1 : i = k
    · exact ⟨p, hp, if_pos z1, Or.inl ⟨z1, rfl⟩⟩
    · by_cases z2 : i = p
      · exact ⟨k, hk, by rw [if_neg z1, if_pos z2], Or.inr (Or.inl ⟨z1, z2, rfl⟩)⟩
      · exact ⟨i, hi, by rw [if_neg z1, if_neg z2], Or.inr (Or.inr ⟨z1, z2, rfl⟩)⟩
  intro i hi j hj e
  obtain ⟨i', i1, i2, i3⟩ := key i hi
  obtain ⟨j', j1, j2, j3⟩ := key j hj
  have := g i' i1 j' j1 (by rw [← i2, ← j2]; exact e)
  omega
section R3
variable {X : Ctx} {d : Nat} {Q : Option Value → Hp → Prop} {n : Nat}
theorem c81 {M : Nat → Ve} {k : Nat} {ro : Nat → Nat} (hn : n ≤ 6) (hk : k < n) (hj : ∀ r, r < n → jr (M r k)) {h : Hp} (g : Rg h ro) (rc : rowsC h ro n M) (I : Inv h) : ∀ (c i : Nat) (v4 : Option Value), i + c = n → k ≤ i →
    Wp (sem (X, K X d) 81 2 [some (.ref 291), some (.int (Int32.ofNat k)), some (.int (Int32.ofNat n)), some (.int (Int32.ofNat i)), v4] [] h) (VI fun x h' => (fpiv M k c i = none → x = 0 ∧ h' = h) ∧ ∀ p, fpiv M k c i = some p → x = 1 ∧ Rg h' (swp ro k p) ∧ rowsC h' (swp ro k p) n (swp M k p) ∧ Eo (fun a => a = 292) h h' ∧ hJ h' = hJ h)
  | 0, i, v4, e, _ => by
    rw [b_81_2]
    refine w_ift ((i_le (by omega) (by omega)).mpr (by omega)) ?_
    exact Wp.reti ⟨fun _ => ⟨rfl, rfl⟩, fun p hp => by cases hp⟩
  | c + 1, i, v4, e, hki => by
    have gi := g.1 i (by omega)
    have gk := g.1 k (by omega)
    rw [b_81_2]
    refine w_iff (fun z => absurd ((i_le (by omega) (by omega)).mp z) (by omega)) ?_
    refine w_gL I s_291 l_291_0 ?_
    refine w_aRn I s_292 (by decide) (by decide) (by omega) (by decide) gi.1 ?_
    refine w_aJn I (row_s _ gi.2) (by omega) (by decide) ?_
    rw [rc i (by omega) k (by omega), i32_ofNat_succ]
    have z0 : lg_cmp (Int64.ofInt (M i k)) 0 = 0 ↔ M i k = 0 := by
      rw [lg_cmp_eq]
      exact j_eq (b := 0) (hj i (by omega)) (by unfold jr; omega)
    refine w_if (fun c0 => ?_) (fun c0 => ?_)
    · have e1 : fpiv M k (c + 1) i = fpiv M k c (i + 1) := if_pos (z0.mp c0)
      rw [e1]
      exact c81 hn hk hj g rc I c (i + 1) v4 (by omega) (by omega)
    · have e1 : fpiv M k (c + 1) i = some i := if_neg (fun z => c0 (z0.mpr z))
      rw [e1]
      refine w_gL I s_291 l_291_0 ?_
      refine w_aRn I s_292 (by decide) (by decide) (by omega) (by decide) gi.1 ?_
      refine w_gL I s_291 l_291_0 ?_
      refine w_gL I s_291 l_291_0 ?_
      refine w_aRn I s_292 (by decide) (by decide) (by omega) (by decide) gk.1 ?_
      refine w_wRn I (Or.inr (Or.inr rfl)) s_292 (by omega) (by decide) (Or.inr ⟨rfl, row_s _ gk.2⟩) fun I => ?_
      refine w_gL I s_291 l_291_0 ?_
      refine w_wRn I (Or.inr (Or.inr rfl)) s_292 (by omega) (by decide) (Or.inr ⟨rfl, row_s _ gi.2⟩) fun I => ?_
      refine Wp.reti ⟨fun z => (by cases z), fun p hp => ?_⟩
      cases hp
      refine ⟨rfl, ⟨fun j hj => ?_, swp_inj (by omega) (by omega) g.2⟩, fun r hr c' hc => ?_, Eo.kP (W := fun a => a = 292) (Eo.kP (W := fun a => a = 292) Eo.rf rfl) rfl, rfl⟩
      · rw [hP_sP_self, up1, hP_sP_self]
        unfold swp
        by_cases z1 : j = k
        · rw [if_pos z1, if_pos z1]; exact ⟨rfl, gi.2⟩
        · rw [if_neg z1, if_neg z1, up1]
          by_cases z2 : j = i
          · rw [if_pos z2, if_pos z2]; exact ⟨rfl, gk.2⟩
          · rw [if_neg z2, if_neg z2]; exact g.1 j hj
      · show hJ h (293 + swp ro k i r) c' = _
        unfold swp
        by_cases z1 : r = k
        · rw [if_pos z1, if_pos z1]; exact rc i (by omega) c' hc
        · rw [if_neg z1, if_neg z1]
          by_cases z2 : r = i
          · rw [if_pos z2, if_pos z2]; exact rc k (by omega) c' hc
          · rw [if_neg z2, if_neg z2]; exact rc r hr c' hc
theorem st_jr {A M : Nat → Ve} {n k : Nat} {e : Int} {u : Nat → Nat} (st : St A n k M e) (hn : n ≤ 6) (hk : k ≤ n) (hA : ∀ r, r < n → ∀ x, (A r x).natAbs ≤ u x) (hu : ∀ x, x < n → u x = 1) (hb : ∀ x, u x ≤ 17179869184) : (∀ r, r < n → ∀ c, jr (M r c)) ∧ jr e := by
  obtain ⟨b1, b2⟩ := st.bd hn hk hA hu
  refine ⟨fun r hr c => ?_, by unfold jr; omega⟩
  have := b1 r hr c
  have := hb c
  unfold jr
  omega
def W92 (a : Nat) : Prop := 292 ≤ a ∧ a ≤ 298
theorem c80_5 {u : Nat → Nat} (hn : n ≤ 6) (hu : ∀ x, x < n → u x = 1) (hb : ∀ x, u x ≤ 17179869184) : ∀ (c k : Nat) (M : Nat → Ve) (e : Int) (A : Nat → Ve) (ro : Nat → Nat) (h : Hp) (v5 v6 v7 v8 v9 v10 v11 v12 : Option Value), k + c = n → Inv h → St A n k M e → (∀ r, r < n → ∀ x, (A r x).natAbs ≤ u x) → Rg h ro → rowsC h ro n M →
    Wp (sem (X, K X (d + 1)) 80 5 [some (.ref 291), some (.int (Int32.ofNat n)), some (.long (Int64.ofInt e)), none, some (.int (Int32.ofNat k)), v5, v6, v7, v8, v9, v10, v11, v12] [] h) (VI fun x h' => (elim n c k M e = none → x = 0) ∧ (∀ M' e', elim n c k M e = some (M', e') → x = 1 ∧ ∃ ro', Rg h' ro' ∧ rowsC h' ro' n M') ∧ Eo W92 h h' ∧ ∃ ro', Rg h' ro')
  | 0, k, M, e, A, ro, h, v5, v6, v7, v8, v9, v10, v11, v12, hk, I, st, hA, g, rc => by
    rw [b_80_5]
    refine w_ift ((i_le (by omega) (by omega)).mpr (by omega)) ?_
    refine Wp.reti ⟨fun z => (by cases z), fun M' e' z => ?_, Eo.rf, ro, g⟩
    cases z
    exact ⟨rfl, ro, g, rc⟩
  | c + 1, k, M, e, A, ro, h, v5, v6, v7, v8, v9, v10, v11, v12, hk, I, st, hA, g, rc => by
    have js := st_jr st hn (by omega) hA hu hb
    rw [b_80_5]
    refine w_iff (fun z => absurd ((i_le (by omega) (by omega)).mp z) (by omega)) ?_
    refine w_gS I s_291 ?_
    have w81 : Wp (K X (d + 1) 81 [.ref 291, .int (Int32.ofNat k), .int (Int32.ofNat n)] h) (VI fun x h' => (fpiv M k (n - k) k = none → x = 0 ∧ h' = h) ∧ ∀ p, fpiv M k (n - k) k = some p → x = 1 ∧ Rg h' (swp ro k p) ∧ rowsC h' (swp ro k p) n (swp M k p) ∧ Eo (fun a => a = 292) h h' ∧ hJ h' = hJ h) := by
      rw [k_81]
      exact c81 hn (by omega) (fun r hr => js.1 r hr k) g rc I (n - k) k none (by omega) (Nat.le_refl _)
    refine w_bI I w81 (by decide) rfl fun x h1 I1 p => ?_
    obtain ⟨p1, p2⟩ := p
    cases hp : fpiv M k (n - k) k with
    | none =>
      obtain ⟨rfl, rfl⟩ := p1 hp
      have el : elim n (c + 1) k M e = none := by unfold elim; rw [hp]
      rw [el]
      exact w_ift rfl (Wp.reti ⟨fun _ => rfl, fun M' e' z => (by cases z), Eo.rf, ro, g⟩)
    | some pv =>
      obtain ⟨rfl, g1, rc1, E1, J1⟩ := p2 pv hp
      obtain ⟨f1, f2, f3⟩ := fpiv_some hp
      have el : elim n (c + 1) k M e = elim n c (k + 1) (nxM (swp M k pv) k e) (swp M k pv k k) := by
        show (match fpiv M k (n - k) k with | none => none | some p => elim n c (k + 1) (nxM (swp M k p) k e) (swp M k p k k)) = _
        rw [hp]
      rw [el]
      have s2 := st.swap f1 (by omega)
      have hne : swp M k pv k k ≠ 0 := by
        have : swp M k pv k = M pv := if_pos rfl
        rw [this]; exact f3
      have hA2 : ∀ r, r < n → ∀ x, (swp A k pv r x).natAbs ≤ u x := fun r hr x => by
        unfold swp
        split
        · exact hA pv (by omega) x
        · split
          · exact hA k (by omega) x
          · exact hA r hr x
      have s3 := (s2.step (by omega) hne).2
      refine w_iff (by decide) ?_
      have e0 : ¬ lg_cmp (Int64.ofInt e) 0 = 0 := fun z => st.2.1 ((j_eq (b := 0) js.2 (by unfold jr; omega)).mp ((lg_cmp_eq _ _).mp z))
      refine w_ift e0 ?_
      have gk := g1.1 k (by omega)
      refine w_gL I1 s_291 l_291_0 ?_
      refine w_aRn I1 s_292 (by decide) (by decide) (by omega) (by decide) gk.1 ?_
      refine w_aJn I1 (row_s _ gk.2) (by omega) (by decide) ?_
      rw [rc1 k (by omega) k (by omega)]
      refine c80_48 s2 hn (by omega) hne hA2 hu hb n 0 h1 _ _ _ _ (by omega) I1 g1 (fun r hr => absurd hr (by omega)) (fun r _ hr c' hc => rc1 r hr c' hc) (fun c' hc => rc1 k (by omega) c' hc) fun h2 w5 w8 w9 w10 w11 w12 I2 E2 P2 rc2 => ?_
      have g2 : Rg h2 (swp ro k pv) := by unfold Rg; rw [P2]; exact g1
      refine (c80_5 hn hu hb c (k + 1) _ _ _ (swp ro k pv) h2 _ _ _ _ _ _ _ _ (by omega) I2 s3 hA2 g2 rc2).mono ?_
      rintro v h' ⟨x, rfl, a1, a2, a3, a4⟩
      exact ⟨x, rfl, a1, a2, ((E1.wk fun a z => by unfold W92; omega).tr (E2.wk fun a z => by unfold W92; omega)).tr a3, a4⟩
/-- eliminate: the rows solved, or no solution -/
theorem m_80 {u : Nat → Nat} (hn : n ≤ 6) (hu : ∀ x, x < n → u x = 1) (hb : ∀ x, u x ≤ 17179869184) {A : Nat → Ve} {ro : Nat → Nat} {h : Hp} (I : Inv h) (hA : ∀ r, r < n → ∀ x, (A r x).natAbs ≤ u x) (g : Rg h ro) (rc : rowsC h ro n A) :
    Wp (K X (d + 2) 80 [.ref 291, .int (Int32.ofNat n)] h) (VI fun x h' => (elim n n 0 A 1 = none → x = 0) ∧ (∀ M' e', elim n n 0 A 1 = some (M', e') → x = 1 ∧ ∃ ro', Rg h' ro' ∧ rowsC h' ro' n M') ∧ Eo W92 h h' ∧ ∃ ro', Rg h' ro') := by
  rw [k_80]
  exact c80_5 hn hu hb n 0 A 1 A ro h _ _ _ _ _ _ _ _ (by omega) I (St.zero A n) hA g rc
end R3
