/-! THE MODEL SOLVES: all of it -/
section M3
variable {X : Ctx} {d : Nat} {Q : Option Value → Hp → Prop} {n : Nat}
theorem c211_15 {M : Nat → Ve} {k : Nat} {h : Hp} (hn : n ≤ 6) (hk : k < n) (hj : ∀ r, r < n → jr (M r k)) (I : Inv h) (rc : rowsM h n M) {v2 v3 v6 v7 v8 v9 : Option Value} : ∀ (c i : Nat), i + c = n → k ≤ i →
    (∀ p, fpiv M k c i = some p → Wp (sem (X, K X d) 211 45 [some (.ref 301), some (.int (Int32.ofNat n)), v2, v3, some (.int (Int32.ofNat k)), some (.int (Int32.ofNat p)), v6, v7, v8, v9] [] h) Q) → (fpiv M k c i = none → Wp (sem (X, K X d) 211 45 [some (.ref 301), some (.int (Int32.ofNat n)), v2, v3, some (.int (Int32.ofNat k)), some (.int (Int32.ofNat n)), v6, v7, v8, v9] [] h) Q) →
    Wp (sem (X, K X d) 211 15 [some (.ref 301), some (.int (Int32.ofNat n)), v2, v3, some (.int (Int32.ofNat k)), some (.int (Int32.ofNat i)), v6, v7, v8, v9] [] h) Q
  | 0, i, e, hki, q1, q2 => by
    have : i = n := by omega
    subst this
    rw [b_211_15]
    exact w_ift ((i_le (by omega) (by omega)).mpr (by omega)) (q2 rfl)
  | c + 1, i, e, hki, q1, q2 => by
    have hi : i < n := by omega
    rw [b_211_15]
    refine w_iff (fun z => absurd ((i_le (by omega) (by omega)).mp z) (by omega)) ?_
    refine w_gL I s_301 l_301_68 ?_
    rw [ix7 i (by omega) k (by omega)]
    refine w_aJn I s_349 (by omega) (by decide) ?_
    rw [rc i hi k (by omega), i32_ofNat_succ]
    refine w_if (fun c0 => ?_) (fun c0 => ?_)
    · have ne : M i k ≠ 0 := fun z => c0 ((lg_cmp_eq _ _).mpr (by rw [z]; rfl))
      exact q1 i (if_neg ne)
    · have ze : M i k = 0 := (j_eq (b := 0) (hj i hi) (by unfold jr; omega)).mp ((lg_cmp_eq _ _).mp (Classical.byContradiction c0))
      have st : fpiv M k (c + 1) i = fpiv M k c (i + 1) := if_pos ze
      exact c211_15 hn hk hj I rc c (i + 1) (by omega) (by omega) (fun p hp => q1 p (st.trans hp)) (fun hp => q2 (st.trans hp))
def W11 (a : Nat) : Prop := a = 301 ∨ a = 348 ∨ a = 349
theorem c211_5 {u : Nat → Nat} {M0 : Nat → Ve} (hn : n ≤ 6) (hu : ∀ x, x < n → u x = 1) (hb : ∀ x, u x ≤ 17179869184) : ∀ (c k : Nat) (M : Nat → Ve) (e : Int) (A : Nat → Ve) (h : Hp) (v5 v6 v7 v8 v9 : Option Value), k + c = n → Inv h → St A n k M e → (∀ r, r < n → ∀ x, (A r x).natAbs ≤ u x) → rowsM h n M → elim n n 0 M0 1 = elim n c k M e →
    (elim n n 0 M0 1 = none → ∀ h', Inv h' → Eo W49 h h' → Q (some (.int 0)) h') →
    (∀ M' e' B, elim n n 0 M0 1 = some (M', e') → St B n n M' e' → e'.natAbs ≤ 720 → ∀ h' v4 v5 v6 v7 v8 v9, Inv h' → Eo W49 h h' → rowsM h' n M' → Wp (fJ h' 11 301 70 (Int64.ofInt e') fun h1 => sem (X, K X (d + 1)) 211 211 [some (.ref 301), some (.int (Int32.ofNat n)), v4, none, some (.int 0), v5, v6, v7, v8, v9] [] h1) Q) →
    Wp (sem (X, K X (d + 1)) 211 5 [some (.ref 301), some (.int (Int32.ofNat n)), some (.long (Int64.ofInt e)), none, some (.int (Int32.ofNat k)), v5, v6, v7, v8, v9] [] h) Q
  | 0, k, M, e, A, h, v5, v6, v7, v8, v9, hk, I, st, hA, rc, ee, q1, q2 => by
    have : k = n := by omega
    subst this
    rw [b_211_5]
    refine w_ift ((i_le (by omega) (by omega)).mpr (by omega)) ?_
    exact q2 M e A ee st (st.bd hn (Nat.le_refl _) hA hu).2 h _ _ _ _ _ _ I Eo.rf rc
  | c + 1, k, M, e, A, h, v5, v6, v7, v8, v9, hk, I, st, hA, rc, ee, q1, q2 => by
    have js := st_jr st hn (by omega) hA hu hb
    have sf : elim n (c + 1) k M e = match fpiv M k (n - k) k with | none => none | some p => elim n c (k + 1) (nxM (swp M k p) k e) (swp M k p k k) := rfl
    have ec : n - k = c + 1 := by omega
    rw [ec] at sf
    rw [b_211_5]
    refine w_iff (fun z => absurd ((i_le (by omega) (by omega)).mp z) (by omega)) ?_
    refine c211_15 hn (by omega) (fun r hr => js.1 r hr k) I rc (c + 1) k (by omega) (Nat.le_refl _) (fun p hp => ?_) (fun hp => ?_)
    · rw [hp] at sf
      have sf : elim n (c + 1) k M e = elim n c (k + 1) (nxM (swp M k p) k e) (swp M k p k k) := sf
      obtain ⟨p1, p2, p3⟩ := fpiv_some hp
      have hne : swp M k p k k ≠ 0 := by
        have : swp M k p k = M p := if_pos rfl
        rw [this]; exact p3
      have s2 := st.swap p1 (show p < n by omega)
      have hA2 : ∀ r, r < n → ∀ x, (swp A k p r x).natAbs ≤ u x := fun r hr x => by
        unfold swp
        split
        · exact hA p (by omega) x
        · split
          · exact hA k (by omega) x
          · exact hA r hr x
      have s3 := (s2.step (by omega) hne).2
      have go : ∀ h', Inv h' → Eo W49 h h' → rowsM h' n (swp M k p) → Wp (sem (X, K X (d + 1)) 211 72 [some (.ref 301), some (.int (Int32.ofNat n)), some (.long (Int64.ofInt e)), none, some (.int (Int32.ofNat k)), some (.int (Int32.ofNat p)), some (.int 0), v7, v8, v9] [] h') Q := fun h' I' E' rc' =>
        c211_72 s2 hn (by omega) hne hA2 hu hb n 0 h' _ _ _ (by omega) I' (fun r hr c' hc' => by rw [if_neg (Nat.not_lt_zero _)]; exact rc' r hr c' hc') fun h'' w6 w7 w8 w9 I'' E'' rc'' =>
          c211_5 hn hu hb c (k + 1) _ _ _ h'' _ _ _ _ _ (by omega) I'' s3 hA2 rc'' (ee.trans sf) (fun z h3 I3 E3 => q1 z h3 I3 ((E'.tr E'').tr E3)) fun M' e' B z s b h3 a1 a2 a3 a4 a5 a6 I3 E3 => q2 M' e' B z s b h3 a1 a2 a3 a4 a5 a6 I3 ((E'.tr E'').tr E3)
      rw [b_211_45]
      refine w_ift (fun z => absurd ((i_eq (by omega) (by omega)).mp z) (by omega)) ?_
      refine w_if (fun c0 => ?_) (fun c0 => ?_)
      · have epk : p = k := (i_eq (by omega) (by omega)).mp c0
        refine go h I Eo.rf fun r hr c' hc' => ?_
        rw [rc r hr c' hc']
        unfold swp
        by_cases z : r = k
        · rw [if_pos z, z, epk]
        · rw [if_neg z, if_neg (by rw [epk]; exact z)]
      · have hkp : p ≠ k := fun z => c0 (by rw [z])
        refine w_gS I s_301 ?_
        refine w_bV I (m_210 I hn (by omega) (by omega) hkp rc) (by decide) rfl ?_
        rintro h1 I1 ⟨E1, rc1⟩
        exact go h1 I1 E1 rc1
    · rw [hp] at sf
      rw [b_211_45]
      refine w_iff (fun z => z rfl) ?_
      exact Wp.ret (q1 (ee.trans sf) h I Eo.rf)
/-- tells what each takes -/
theorem c211_211 {p : Nat → Bool} {M B : Nat → Ve} {e : Int} {h0 : Hp} (st : St B (msl p 6).length (msl p 6).length M e) (be : e.natAbs ≤ 720) {v2 v3 v5 v6 v7 v8 v9 : Option Value} : ∀ (c i : Nat) (h : Hp), i + c = (msl p 6).length → Inv h → Eo (fun a => a = 348) h0 h → hJ h0 301 70 = Int64.ofInt e → rowsM h0 (msl p 6).length M → (∀ r, r < (msl p 6).length → hI h0 350 r = Int32.ofNat ((msl p 6).getD r 0)) →
    (∀ r, r < i → hJ h 348 ((msl p 6).getD r 0) = Int64.ofInt (M r (msl p 6).length)) → (∀ l, (∀ r, r < i → (msl p 6).getD r 0 ≠ l) → hJ h 348 l = hJ h0 348 l) →
    Wp (sem (X, K X d) 211 211 [some (.ref 301), some (.int (Int32.ofNat (msl p 6).length)), v2, v3, some (.int (Int32.ofNat i)), v5, v6, v7, v8, v9] [] h) (VI fun x h' => x = 1 ∧ Eo (fun a => a = 348) h0 h' ∧ ∀ l, l < 6 → hJ h' 348 l = if p l then Int64.ofInt (XL p M l) else hJ h0 348 l)
  | 0, i, h, ei, I, E, q1, q2, q3, q4, q5 => by
    have n6 := msl_len p 6
    rw [b_211_211]
    refine w_ift ((i_le (by omega) (by omega)).mpr (by omega)) (Wp.reti ⟨rfl, E, fun l hl => ?_⟩)
    cases hp : p l
    · rw [q5 l fun r hr z => ?_]
      · rfl
      · have := (msl_at (p := p) (l := 6) (r := r) (by omega)).2
        rw [z, hp] at this
        cases this
    · have z := msl_idx hl hp
      have := q4 (msl p l).length (by omega)
      rw [z.2] at this
      exact this
  | c + 1, i, h, ei, I, E, q1, q2, q3, q4, q5 => by
    have n6 := msl_len p 6
    have hi : i < (msl p 6).length := by omega
    have ai := msl_at hi
    have e0 : e ≠ 0 := st.2.1
    have je : jr e := by unfold jr; omega
    rw [b_211_211]
    refine w_iff (fun z => absurd ((i_le (by omega) (by omega)).mp z) (by omega)) ?_
    refine w_gL I s_301 l_301_67 ?_
    refine w_gL I s_301 l_301_69 ?_
    refine w_aIn I s_350 (by omega) (by decide) ?_
    refine w_gL I s_301 l_301_68 ?_
    rw [ix7 i (by omega) _ (by omega), ix7 i (by omega) i (by omega)]
    refine w_aJn I s_349 (by omega) (by decide) ?_
    refine w_gJ I s_301 ?_
    refine w_gL I s_301 l_301_68 ?_
    refine w_aJn I s_349 (by omega) (by decide) ?_
    rw [E.i (show ¬ (350 = 348) by decide), q3 i hi, E.j (show ¬ (349 = 348) by decide), E.j (show ¬ (301 = 348) by decide), q1, q2 i hi _ (Nat.le_refl _), q2 i hi i (by omega), sol_diag st hi]
    refine w_gd (fun z => e0 ((j_eq (b := 0) je (by unfold jr; omega)).mp z)) ?_
    rw [j_div je je, Int.tdiv_self e0, ← Int64.ofInt_mul, Int.mul_one, i32_ofNat_succ]
    refine w_wJn I s_348 ai.1 (by decide) fun I => ?_
    refine c211_211 st be c (i + 1) _ (by omega) I (E.kJ rfl) q1 q2 q3 (fun r hr => ?_) (fun l hl => ?_)
    · rw [hJ_sJ_self, up1]
      by_cases z : r = i
      · rw [if_pos (by rw [z]), z]
      · rw [if_neg (fun w => z (msl_inj (by omega) hi w))]; exact q4 r (by omega)
    · rw [hJ_sJ_self, up1, if_neg (fun w => hl i (by omega) w.symm)]
      exact q5 l fun r hr => hl r (by omega)
end M3
