/-! THE MODEL FINDS WHAT IS TAKEN: all of it -/
section MG
variable {X : Ctx} {d : Nat} {Q : Option Value → Hp → Prop} {V : Sv} {AL : Nat → ALaw} {PA : Nat → APact} {Bn : Nat} {T : SumT} {r : List SumT}
theorem Fr2.mv {h h' : Hp} (a : Fr2 h h') : MvE h h' := ⟨a.1.wk fun x z => by unfold W13 at z; unfold WMod; omega, a.2⟩
def Found (h0 h : Hp) (V : Sv) (AL : Nat → ALaw) (PA : Nat → APact) (Bn : Nat) (T : SumT) : Prop := MvE h0 h ∧ (∀ l, l < 6 → hJ h 345 l = Int64.ofInt (ahP V AL PA Bn T l)) ∧ ∀ l, l < 6 → hJ h 346 l = Int64.ofInt (takP V AL PA Bn T l)
theorem c213_2 {i : Nat} {h0 : Hp} (q0 : LvM h0 V AL PA Bn r) (hT : isT h0 i T) (o : okSm T) (hB : 0 < Bn ∧ Bn ≤ 99999999) : ∀ (c l : Nat) (h : Hp) (v3 v4 : Option Value), l + c = 6 → Inv h → MvE h0 h → (∀ m, m < l → hJ h 345 m = Int64.ofInt (ahP V AL PA Bn T m) ∧ hJ h 347 m = Int64.ofInt (ahP V AL PA Bn T m)) →
    Wp (sem (X, K X (d + 5)) 213 2 [some (.ref 301), some (.int (Int32.ofNat i)), some (.int (Int32.ofNat l)), v3, v4] [] h) (VI fun x h' => x = Int32.ofNat (numP V AL PA Bn T) ∧ Found h0 h' V AL PA Bn T)
  | 0, l, h, v3, v4, el, I, E, q1 => by
    have el : l = 6 := by omega
    subst el
    have q := q0.eo E
    have hA : ∀ m, m < 6 → 0 ≤ ahP V AL PA Bn T m ∧ ahP V AL PA Bn T m ≤ 1999998000 := fun m hm => ah_bd (q.2.2.2.2.2.1 m hm).2 o (by omega)
    rw [b_213_2]
    refine w_ift (by decide) ?_
    refine (c213_42 (v1 := some (.int (Int32.ofNat i))) q.1 q.2.1 (fun m hm => (q1 m hm).1) (du_bd hA) 64 0 h v4 rfl I ⟨Eo.rf, rfl⟩ (fun l hl => (q1 l hl).2)).mono ?_
    rintro _ h' ⟨x, rfl, rfl, F, q2⟩
    exact ⟨_, rfl, rfl, E.tr F.mv, fun l hl => by rw [F.1.j (show ¬ W13 345 by unfold W13; omega)]; exact (q1 l hl).1, q2⟩
  | c + 1, l, h, v3, v4, el, I, E, q1 => by
    have hl : l < 6 := by omega
    rw [b_213_2]
    refine w_iff (fun z => absurd ((i_le (m := 6) (by omega) (by omega)).mp z) (by omega)) ?_
    refine w_gL I s_301 l_301_64 ?_
    refine w_gS I s_301 ?_
    refine w_bJ I (m_207 (d := d + 1) I (q0.eo E) (hT.eo E) o hl hB) (by decide) rfl ?_
    rintro x h1 I1 ⟨rfl, E1⟩
    refine w_wJn I1 s_345 hl (by decide) fun I2 => ?_
    refine w_gL I2 s_301 l_301_66 ?_
    refine w_gL I2 s_301 l_301_64 ?_
    refine w_aJn I2 s_345 hl (by decide) ?_
    have e2 : hJ (sJ h1 345 l (Int64.ofInt (ahP V AL PA Bn T l))) 345 l = Int64.ofInt (ahP V AL PA Bn T l) := by
      rw [hJ_sJ_self]; exact if_pos rfl
    rw [e2, i32_ofNat_succ]
    refine w_wJn I2 s_347 hl (by decide) fun I3 => ?_
    have E3 : MvE h (sJ (sJ h1 345 l (Int64.ofInt (ahP V AL PA Bn T l))) 347 l (Int64.ofInt (ahP V AL PA Bn T l))) := by
      refine MvE.of (W := fun a => a = 333 ∨ a = 334 ∨ a = 345 ∨ a = 347) ?_ fun x z => by omega
      exact ((E1.wk (W' := fun a => a = 333 ∨ a = 334 ∨ a = 345 ∨ a = 347) fun a z => by omega).kJ (by omega)).kJ (by omega)
    have n1 : hJ h1 345 = hJ h 345 := E1.j (by omega)
    have n2 : hJ h1 347 = hJ h 347 := E1.j (by omega)
    refine c213_2 q0 hT o hB c (l + 1) _ _ _ (by omega) I3 (E.tr E3) fun m hm => ?_
    constructor
    · rw [hJ_sJ_ne (by decide), hJ_sJ_self, up1]
      by_cases z : m = l
      · rw [if_pos z, z]
      · rw [if_neg z, n1]; exact (q1 m (by omega)).1
    · rw [hJ_sJ_self, up1]
      by_cases z : m = l
      · rw [if_pos z, z]
      · rw [if_neg z, hJ_sJ_ne (by decide), n2]; exact (q1 m (by omega)).2
/-- findsTaken -/
theorem m_213 {i : Nat} {h : Hp} (I : Inv h) (q : LvM h V AL PA Bn r) (hT : isT h i T) (o : okSm T) (hB : 0 < Bn ∧ Bn ≤ 99999999) :
    Wp (K X (d + 6) 213 [.ref 301, .int (Int32.ofNat i)] h) (VI fun x h' => x = Int32.ofNat (numP V AL PA Bn T) ∧ Found h h' V AL PA Bn T) := by
  rw [k_213]
  exact c213_2 q hT o hB 6 0 h none none rfl I MvE.rf fun m hm => absurd hm (Nat.not_lt_zero _)
/-- from what is heard to the levy -/
theorem MhP.lv {A : AY} {h0 h : Hp} {S : AS} (q : MhP A (sL S) (sPc S) h0 h) (m : RM h S) (o : okA S) : LvM h (viewY A) (sL S) (sPc S) (sumB A.2.2.2.2) A.2.2.2.2 := by
  obtain ⟨q1, q2, q3, q4, q5, q6, q7, q8, q9, q10, q11⟩ := q
  refine ⟨⟨q9, fun l hl => ?_, fun p hp => (o.2.2.1 p hp).2.2, fun l hl => (o.2.1 l hl).2.2.2.2.2⟩, q11, q7, q4, q8, m.laws o, fun p hp => o.2.2.1 p hp⟩
  obtain ⟨os, _, _, _, _, _, _, _, z⟩ := m.2.1 l hl
  exact z
theorem HS.lv {h0 h : Hp} {S : AS} {y : Nat} (q : HS S y h0 h) (m : RC h S) (o : okA S) : LvC h (vY S y) (sL S) (sPc S) (sumB (sY S y).2.2.2.2 : Nat) := by
  obtain ⟨q1, q2, q3, q4, q5, q6, q7, g, g1, u1, u2, u3, u4, u5, u6, u7, u8⟩ := q
  exact ⟨fun l hl k hk => q2 l hl k (by omega), q6, q4, q7, u6, u7, u8, ⟨65, Or.inl rfl, u2, (m.pacts o).terms2⟩, m.laws o⟩
end MG
