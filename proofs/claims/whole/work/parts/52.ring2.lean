/-! THE RING OF THE CLASS: elimination -/
theorem ring_div {A M : Nat → Ve} {n k : Nat} {e : Int} {u : Nat → Nat} (st : St A n k M e) (hn : n ≤ 6) (hk : k < n) (hp : M k k ≠ 0) (hA : ∀ r, r < n → ∀ x, (A r x).natAbs ≤ u x) (hu : ∀ x, x < n → u x = 1) (hb : ∀ x, u x ≤ 17179869184) {r : Nat} (hr : r < n) (hrk : r ≠ k) (c : Nat) :
    (Int64.ofInt (M r c) * Int64.ofInt (M k k) - Int64.ofInt (M r k) * Int64.ofInt (M k c)) / Int64.ofInt e = Int64.ofInt (nxM M k e r c) := by
  obtain ⟨b1, b2⟩ := st.bd hn (Nat.le_of_lt hk) hA hu
  have c1 := b1 r hr c
  have c2 := b1 k hk k
  have c3 := b1 r hr k
  have c4 := b1 k hk c
  have h1 := hb c
  rw [hu k hk] at c2 c3
  have m1 : (M r c * M k k).natAbs ≤ 720 * 17179869184 * 720 := by
    rw [Int.natAbs_mul]; exact Nat.mul_le_mul (Nat.le_trans c1 (Nat.mul_le_mul_left _ h1)) c2
  have m2 : (M r k * M k c).natAbs ≤ 720 * (720 * 17179869184) := by
    rw [Int.natAbs_mul]; exact Nat.mul_le_mul c3 (Nat.le_trans c4 (Nat.mul_le_mul_left _ h1))
  have hd := (st.step hk hp).1 r hr hrk c
  rw [← Int64.ofInt_mul, ← Int64.ofInt_mul, ← Int64.ofInt_sub, j_div (by unfold jr; omega) (by unfold jr; omega), nxM_ne hrk]
  congr 1
  obtain ⟨z, hz⟩ := hd
  show _ = (M r c * M k k - M r k * M k c) / e
  rw [hz, Int.mul_tdiv_cancel_left _ st.2.1, Int.mul_ediv_cancel_left _ st.2.1]
/-- where the ring's rows stand -/
def Rg (h : Hp) (ro : Nat → Nat) : Prop := (∀ i, i < 6 → hP h 292 i = some (293 + ro i) ∧ ro i < 6) ∧ ∀ i, i < 6 → ∀ j, j < 6 → ro i = ro j → i = j
def rowsC (h : Hp) (ro : Nat → Nat) (n : Nat) (M : Nat → Ve) : Prop := ∀ r, r < n → ∀ c, c ≤ n → hJ h (293 + ro r) c = Int64.ofInt (M r c)
theorem row_s : ∀ i, i < 6 → SH (293 + i) = (51, 7) := by decide +kernel
section RC
variable {X : Ctx} {d : Nat} {Q : Option Value → Hp → Prop} {n : Nat}
/-- one row: row i of the ring, columns from c on -/
theorem c80_73 {A M : Nat → Ve} {k : Nat} {e : Int} {u : Nat → Nat} {ro : Nat → Nat} (st : St A n k M e) (hn : n ≤ 6) (hk : k < n) (hp : M k k ≠ 0) (hA : ∀ r, r < n → ∀ x, (A r x).natAbs ≤ u x) (hu : ∀ x, x < n → u x = 1) (hb : ∀ x, u x ≤ 17179869184) {i : Nat} (hi : i < n) (hik : i ≠ k) {v0 : Option Value} : ∀ (m c : Nat) (h : Hp), c + m = n + 1 → Inv h → Rg h ro →
    (∀ c', c' < c → hJ h (293 + ro i) c' = Int64.ofInt (nxM M k e i c')) → (∀ c', c ≤ c' → c' ≤ n → hJ h (293 + ro i) c' = Int64.ofInt (M i c')) → (∀ c', c' ≤ n → hJ h (293 + ro k) c' = Int64.ofInt (M k c')) →
    (∀ h' w, Inv h' → Eo (fun a => a = 293 + ro i) h h' → hP h' = hP h → (∀ c', c' ≤ n → hJ h' (293 + ro i) c' = Int64.ofInt (nxM M k e i c')) → Wp (sem (X, K X d) 80 48 [v0, some (.int (Int32.ofNat n)), some (.long (Int64.ofInt e)), none, some (.int (Int32.ofNat k)), some (.ref (293 + ro k)), some (.long (Int64.ofInt (M k k))), none, some (.int (Int32.ofNat (i + 1))), some (.ref (293 + ro i)), some (.long (Int64.ofInt (M i k))), none, some (.int w)] [] h') Q) →
    Wp (sem (X, K X d) 80 73 [v0, some (.int (Int32.ofNat n)), some (.long (Int64.ofInt e)), none, some (.int (Int32.ofNat k)), some (.ref (293 + ro k)), some (.long (Int64.ofInt (M k k))), none, some (.int (Int32.ofNat i)), some (.ref (293 + ro i)), some (.long (Int64.ofInt (M i k))), none, some (.int (Int32.ofNat c))] [] h) Q
  | 0, c, h, e1, I, g, q1, q2, q3, q => by
    rw [b_80_73]
    refine w_ift ((i_lt (by omega) (by omega)).mpr (by omega)) ?_
    rw [i32_ofNat_succ]
    exact q h _ I Eo.rf rfl (fun c' hc => q1 c' (by omega))
  | m + 1, c, h, e1, I, g, q1, q2, q3, q => by
    have gi := (g.1 i (by omega)).2
    have gk := (g.1 k (by omega)).2
    have rne : 293 + ro k ≠ 293 + ro i := fun z => hik (g.2 i (by omega) k (by omega) (by omega))
    rw [b_80_73]
    refine w_iff (fun z => absurd ((i_lt (by omega) (by omega)).mp z) (by omega)) ?_
    refine w_iff (fun z => hik ((i_eq (by omega) (by omega)).mp z)) ?_
    refine w_aJn I (row_s _ gi) (by omega) (by decide) ?_
    refine w_aJn I (row_s _ gk) (by omega) (by decide) ?_
    have ez : Int64.ofInt e ≠ 0 := by
      have b2 := (st.bd hn (Nat.le_of_lt hk) hA hu).2
      intro z
      have : (0 : Int64) = Int64.ofInt 0 := rfl
      rw [this] at z
      exact st.2.1 ((j_eq (by unfold jr; omega) (by unfold jr; omega)).mp z)
    refine w_gd ez ?_
    rw [q2 c (Nat.le_refl _) (by omega), q3 c (by omega), ring_div st hn hk hp hA hu hb hi hik c, i32_ofNat_succ]
    refine w_wJn I (row_s _ gi) (by omega) (by decide) fun I => ?_
    have E : Eo (fun a => a = 293 + ro i) h (sJ h (293 + ro i) c (Int64.ofInt (nxM M k e i c))) := Eo.rf.kJ rfl
    refine c80_73 st hn hk hp hA hu hb hi hik m (c + 1) _ (by omega) I g (fun c' hc => ?_) (fun c' h1 h2 => ?_) (fun c' hc => ?_) fun h' w I' E' p' r' => q h' w I' (E.tr E') (p'.trans rfl) r'
    · rw [hJ_sJ_self, up1]
      by_cases z : c' = c
      · rw [if_pos z, z]
      · rw [if_neg z]; exact q1 c' (by omega)
    · rw [hJ_sJ_self, up1, if_neg (by omega)]; exact q2 c' (by omega) h2
    · rw [hJ_sJ_ne rne]; exact q3 c' hc
theorem c80_48 {A M : Nat → Ve} {k : Nat} {e : Int} {u : Nat → Nat} {ro : Nat → Nat} (st : St A n k M e) (hn : n ≤ 6) (hk : k < n) (hp : M k k ≠ 0) (hA : ∀ r, r < n → ∀ x, (A r x).natAbs ≤ u x) (hu : ∀ x, x < n → u x = 1) (hb : ∀ x, u x ≤ 17179869184) : ∀ (m i : Nat) (h : Hp) (v9 v10 v11 v12 : Option Value), i + m = n → Inv h → Rg h ro →
    (∀ r, r < i → ∀ c, c ≤ n → hJ h (293 + ro r) c = Int64.ofInt (nxM M k e r c)) → (∀ r, i ≤ r → r < n → ∀ c, c ≤ n → hJ h (293 + ro r) c = Int64.ofInt (M r c)) → (∀ c, c ≤ n → hJ h (293 + ro k) c = Int64.ofInt (M k c)) →
    (∀ h' v5 v8 v9 v10 v11 v12, Inv h' → Eo (fun a => 293 ≤ a ∧ a ≤ 298) h h' → hP h' = hP h → rowsC h' ro n (nxM M k e) → Wp (sem (X, K X d) 80 5 [some (.ref 291), some (.int (Int32.ofNat n)), some (.long (Int64.ofInt (M k k))), none, some (.int (Int32.ofNat (k + 1))), v5, some (.long (Int64.ofInt (M k k))), none, v8, v9, v10, v11, v12] [] h') Q) →
    Wp (sem (X, K X d) 80 48 [some (.ref 291), some (.int (Int32.ofNat n)), some (.long (Int64.ofInt e)), none, some (.int (Int32.ofNat k)), some (.ref (293 + ro k)), some (.long (Int64.ofInt (M k k))), none, some (.int (Int32.ofNat i)), v9, v10, v11, v12] [] h) Q
  | 0, i, h, v9, v10, v11, v12, e1, I, g, q1, q2, q3, q => by
    rw [b_80_48]
    refine w_ift ((i_le (by omega) (by omega)).mpr (by omega)) ?_
    rw [i32_ofNat_succ]
    exact q h _ _ _ _ _ _ I Eo.rf rfl (fun r hr => q1 r (by omega))
  | m + 1, i, h, v9, v10, v11, v12, e1, I, g, q1, q2, q3, q => by
    have gi := g.1 i (by omega)
    rw [b_80_48]
    refine w_iff (fun z => absurd ((i_le (by omega) (by omega)).mp z) (by omega)) ?_
    refine w_gL I s_291 l_291_0 ?_
    refine w_aRn I s_292 (by decide) (by decide) (by omega) (by decide) gi.1 ?_
    refine w_aJn I (row_s _ gi.2) (by omega) (by decide) ?_
    rw [q2 i (Nat.le_refl _) (by omega) k (by omega)]
    by_cases hik : i = k
    · rw [b_80_73]
      refine w_iff (i_lt0 (by omega)) ?_
      refine w_ift (by rw [hik]) ?_
      rw [i32_ofNat_succ]
      refine c80_48 st hn hk hp hA hu hb m (i + 1) h _ _ _ _ (by omega) I g (fun r hr c hc => ?_) (fun r h1 h2 => q2 r (by omega) h2) q3 q
      by_cases z : r = i
      · rw [z, nxM_eq hik, hik]; exact q3 c hc
      · exact q1 r (by omega) c hc
    · refine c80_73 st hn hk hp hA hu hb (by omega) hik (n + 1) 0 h (by omega) I g (fun c' hc => absurd hc (by omega)) (fun c' _ hc => q2 i (Nat.le_refl _) (by omega) c' hc) q3 fun h' w I' E' p' r' => ?_
      have g' : Rg h' ro := by unfold Rg; rw [p']; exact g
      have ne : ∀ r, r < 6 → r ≠ i → 293 + ro r ≠ 293 + ro i := fun r hr z1 z2 => z1 (g.2 r hr i (by omega) (by omega))
      refine c80_48 st hn hk hp hA hu hb m (i + 1) h' _ _ _ _ (by omega) I' g' (fun r hr c hc => ?_) (fun r h1 h2 c hc => ?_) (fun c hc => ?_) fun h'' v5 v8 v9 v10 v11 v12 I'' E'' p'' r'' => q h'' v5 v8 v9 v10 v11 v12 I'' ((E'.wk fun a z => by omega).tr E'') (p''.trans p') r''
      · by_cases z : r = i
        · rw [z]; exact r' c hc
        · rw [E'.j (ne r (by omega) z)]; exact q1 r (by omega) c hc
      · rw [E'.j (ne r (by omega) (by omega))]; exact q2 r (by omega) h2 c hc
      · rw [E'.j (ne k (by omega) (fun z => hik z.symm))]; exact q3 c hc
end RC
