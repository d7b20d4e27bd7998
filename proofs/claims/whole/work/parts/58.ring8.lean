/-! THE RING OF THE CLASS: answers -/
section R8
variable {X : Ctx} {d : Nat} {Q : Option Value → Hp → Prop} {p op : Nat → Bool} {du : Nat → Int} {off : Nat → Nat → Bool} {M : Nat → Ve} {e : Int}
/-- what stands in the ring after an answer -/
def AnsC (h : Hp) (p : Nat → Bool) (M : Nat → Ve) (e : Int) : Prop := hJ h 291 3 = Int64.ofInt (sg e * e) ∧ ∀ l, l < 6 → p l = true → hJ h 300 l = Int64.ofInt (sg e * XL p M l)
theorem sol_diag {n : Nat} {B : Nat → Ve} (st : St B n n M e) {r : Nat} (hr : r < n) : M r r = e := by
  have := st.2.2.2.1 r hr r hr
  rw [if_pos rfl] at this
  exact this
theorem sol_n0 {B : Nat → Ve} (st : St B 0 0 M e) : e = 1 := st.1
theorem m_78 {set opn : Int32} {h : Hp} {ro : Nat → Nat} (I : Inv h) (ho : offR h off) (hdu : duR h du) (hp : ∀ l, l < 6 → bt set l = p l) (hop : ∀ l, l < 6 → bt opn l = op l) (hd : ∀ l, l < 6 → (du l).natAbs ≤ 17179869184) (g : Rg h ro) :
    Wp (K X (d + 4) 78 [.ref 291, .int set, .int opn, .ref 285, .ref 290] h) (VI fun x h' => x = bi (ansB du off op p) ∧ Eo W78 h h' ∧ (∃ ro', Rg h' ro') ∧ (ansB du off op p = true → ∀ M e, solP du off p = some (M, e) → AnsC h' p M e)) := by
  have n6 := msl_len p 6
  rw [k_78]
  refine w_gS I s_291 ?_
  refine w_bI I (m_79 I ho hdu hp g) (by decide) rfl ?_
  rintro x h1 I1 ⟨rfl, E1, g1, mm, rc⟩
  refine w_gS I1 s_291 ?_
  refine w_bI I1 (m_80 (u := uB (msl p 6).length) n6 (fun x hx => if_pos hx) (fun x => by unfold uB; split <;> decide) I1 (fun r hr x => mA_bd hd hr x) g1 rc) (by decide) rfl ?_
  rintro x h2 I2 ⟨q1, q2, E2, g2⟩
  have E : Eo W78 h h2 := (E1.wk fun a z => by unfold W93 at z; unfold W78; omega).tr (E2.wk fun a z => by unfold W92 at z; unfold W78; omega)
  have mm2 : memR h2 p 6 := fun r hr => by rw [E2.i (show ¬ W92 299 by unfold W92; omega)]; exact mm r hr
  have es : solP du off p = elim (msl p 6).length (msl p 6).length 0 (mA du off p) 1 := rfl
  cases hs : solP du off p with
  | none =>
    have ea : ansB du off op p = false := by unfold ansB; rw [hs]
    rw [q1 (es.symm.trans hs)]
    refine w_iff (fun z => z rfl) ?_
    exact Wp.reti ⟨by rw [ea]; rfl, E, g2, fun z => by rw [ea] at z; cases z⟩
  | some t =>
    obtain ⟨M, e⟩ := t
    obtain ⟨rfl, ro2, g2, rc2⟩ := q2 M e (es.symm.trans hs)
    obtain ⟨B, st, hB, b⟩ := mA_sol hd hs
    have ea : ansB du off op p = (posB p M e && noneB du off op p M e) := by unfold ansB; rw [hs]
    have e0 : e ≠ 0 := st.2.1
    have b2 := b.2
    refine w_ift (by decide) ?_
    have ho2 : offR h2 off := fun x hx k hk => by rw [E.i (show ¬ W78 285 by unfold W78; omega)]; exact ho x hx k hk
    have hdu2 : duR h2 du := fun l hl => by rw [E.j (show ¬ W78 290 by unfold W78; omega)]; exact hdu l hl
    have fin : Wp (sem (X, K X (d + 2 + 1)) 78 45 [some (.ref 291), some (.int set), some (.int opn), some (.ref 285), some (.ref 290), some (.int (Int32.ofNat (msl p 6).length)), none, none, none, none, none] [.long (Int64.ofInt e), .ref 291] h2) (VI fun x h' => x = bi (ansB du off op p) ∧ Eo W78 h h' ∧ (∃ ro', Rg h' ro') ∧ (ansB du off op p = true → ∀ M' e', some (M, e) = some (M', e') → AnsC h' p M' e')) := by
      rw [b_78_45]
      refine w_fJ I2 s_291 fun I3 => ?_
      refine w_gJ I3 s_291 ?_
      have ge : hJ (sJ h2 291 3 (Int64.ofInt e)) 291 3 = Int64.ofInt e := by rw [hJ_sJ_self]; exact if_pos rfl
      have je : jr e := by unfold jr; omega
      rw [ge]
      have go : ∀ w, w = Int64.ofInt (sg e) → Wp (gJ (sJ h2 291 3 (Int64.ofInt e)) 6 291 3 fun g2 => fJ (sJ h2 291 3 (Int64.ofInt e)) 6 291 3 (g2 * w) fun h2 => sem (X, K X (d + 2 + 1)) 78 80 [some (.ref 291), some (.int set), some (.int opn), some (.ref 285), some (.ref 290), some (.int (Int32.ofNat (msl p 6).length)), some (.long w), none, some (.int 0), none, none] [] h2) (VI fun x h' => x = bi (ansB du off op p) ∧ Eo W78 h h' ∧ (∃ ro', Rg h' ro') ∧ (ansB du off op p = true → ∀ M' e', some (M, e) = some (M', e') → AnsC h' p M' e')) := fun w hw => by
        subst hw
        refine w_gJ I3 s_291 ?_
        rw [ge, ← Int64.ofInt_mul, Int.mul_comm e (sg e)]
        refine w_fJ I3 s_291 fun I4 => ?_
        refine (c78_80 (d := d + 1) ho2 hdu2 hp hop b hd (msl p 6).length 0 _ none none (by omega) I4 g2 (fun r hr c hc => ?_) mm2 ((Eo.rf.kJ (by unfold W78; omega)).kJ (by unfold W78; omega)) (by rw [hJ_sJ_self]; exact if_pos rfl) (fun r hr => absurd hr (by omega)) (fun r hr => absurd hr (by omega))).mono ?_
        · have gr := (g2.1 r (by omega)).2
          rw [hJ_sJ_ne (by omega), hJ_sJ_ne (by omega)]; exact rc2 r hr c hc
        · rintro _ h' ⟨x, rfl, rfl, E', g', q'⟩
          refine ⟨_, rfl, by rw [ea], E.tr E', ⟨ro2, g'⟩, fun z M' e' w => ?_⟩
          cases w
          rw [ea] at z
          exact q' z
      refine w_if (fun c0 => ?_) (fun c0 => ?_)
      · have : 0 ≤ e := (j_le (a := 0) (by unfold jr; omega) je).mp ((lg_cmp_ge _ _).mp c0)
        exact go 1 (by unfold sg; rw [if_neg (by omega)]; rfl)
      · have : ¬ 0 ≤ e := fun z => c0 ((lg_cmp_ge _ _).mpr ((j_le (a := 0) (by unfold jr; omega) je).mpr z))
        exact go (-1) (by unfold sg; rw [if_pos (by omega)]; rfl)
    refine w_if (fun c0 => ?_) (fun c0 => ?_)
    · have hn : (msl p 6).length = 0 := by
        have := (i_le (m := (msl p 6).length) (n := 0) (by omega) (by omega)).mp c0
        omega
      have e1 : e = 1 := by rw [hn] at st; exact sol_n0 st
      have : (1 : Int64) = Int64.ofInt e := by rw [e1]; rfl
      rw [this]
      exact fin
    · have hn : (msl p 6).length ≠ 0 := fun z => c0 (by rw [z]; decide)
      obtain ⟨m, hm⟩ : ∃ m, (msl p 6).length = m + 1 := ⟨(msl p 6).length - 1, by omega⟩
      have gm := g2.1 m (by omega)
      refine w_gL I2 s_291 l_291_0 ?_
      rw [hm, i_s1]
      refine w_aRn I2 s_292 (by decide) (by decide) (by omega) (by decide) gm.1 ?_
      refine w_aJn I2 (row_s _ gm.2) (by omega) (by decide) ?_
      rw [rc2 m (by omega) m (by omega), sol_diag st (by omega), ← hm]
      exact fin
/-- what one takes -/
theorem k83 {h : Hp} {l : Nat} (I : Inv h) (hl : l < 6) (hpl : p l = true) (b : Bd p M e) (e0 : e ≠ 0) (a : AnsC h p M e) : Wp (K X (d + 1) 83 [.ref 291, .int (Int32.ofNat l)] h) (VJ fun x h' => x = Int64.ofInt ((sg e * XL p M l).tdiv (sg e * e)) ∧ h' = h) := by
  have s1 := sg_pos e0
  have b1 := b.1 l hl hpl
  have b2 := b.2
  have h1 := sg_abs e e
  have h2 := sg_abs e (XL p M l)
  have je : jr (sg e * e) := by unfold jr; omega
  have jx : jr (sg e * XL p M l) := by unfold jr; omega
  rw [k_83]
  refine w_gJ I s_291 ?_
  have z0 : ¬ Int64.ofInt (sg e * e) = 0 := fun z => absurd ((j_eq (b := 0) je (by unfold jr; omega)).mp z) (by omega)
  rw [a.1]
  refine w_ift (fun z => z0 ((lg_cmp_eq _ _).mp z)) ?_
  refine w_gL I s_291 l_291_2 ?_
  refine w_aJn I s_300 hl (by decide) ?_
  refine w_gJ I s_291 ?_
  rw [a.1, a.2 l hl hpl]
  refine w_gd z0 ?_
  rw [j_div jx je]
  exact Wp.retj ⟨rfl, rfl⟩
end R8
