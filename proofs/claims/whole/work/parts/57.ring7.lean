/-! THE RING OF THE CLASS: answers, the loop -/
section R7
variable {X : Ctx} {d : Nat} {Q : Option Value → Hp → Prop} {p op : Nat → Bool} {du : Nat → Int} {off : Nat → Nat → Bool} {M : Nat → Ve} {e : Int}
theorem XL_r {r : Nat} (hr : r < (msl p 6).length) : XL p M ((msl p 6).getD r 0) = M r (msl p 6).length := by
  have a := msl_at hr
  have b := msl_idx a.1 a.2
  have : (msl p ((msl p 6).getD r 0)).length = r := msl_inj b.1 hr b.2
  show M (msl p ((msl p 6).getD r 0)).length _ = _
  rw [this]
def W78 (a : Nat) : Prop := 291 ≤ a ∧ a ≤ 300
theorem sg_w : Int64.ofInt (sg e) = if e < 0 then -1 else 1 := by
  unfold sg; split <;> rfl
theorem c78_80 {set opn : Int32} {h0 : Hp} {ro : Nat → Nat} (ho : offR h0 off) (hdu : duR h0 du) (hp : ∀ l, l < 6 → bt set l = p l) (hop : ∀ l, l < 6 → bt opn l = op l) (b : Bd p M e) (hd : ∀ l, l < 6 → (du l).natAbs ≤ 17179869184) : ∀ (c i : Nat) (h : Hp) (v9 v10 : Option Value), i + c = (msl p 6).length → Inv h → Rg h ro → rowsC h ro (msl p 6).length M → memR h p 6 → Eo W78 h0 h → hJ h 291 3 = Int64.ofInt (sg e * e) → (∀ r, r < i → 0 < sg e * M r (msl p 6).length) → (∀ r, r < i → hJ h 300 ((msl p 6).getD r 0) = Int64.ofInt (sg e * M r (msl p 6).length)) →
    Wp (sem (X, K X (d + 2)) 78 80 [some (.ref 291), some (.int set), some (.int opn), some (.ref 285), some (.ref 290), some (.int (Int32.ofNat (msl p 6).length)), some (.long (Int64.ofInt (sg e))), none, some (.int (Int32.ofNat i)), v9, v10] [] h) (VI fun x h' => x = bi (posB p M e && noneB du off op p M e) ∧ Eo W78 h0 h' ∧ Rg h' ro ∧ ((posB p M e && noneB du off op p M e) = true → hJ h' 291 3 = Int64.ofInt (sg e * e) ∧ ∀ l, l < 6 → p l = true → hJ h' 300 l = Int64.ofInt (sg e * XL p M l)))
  | 0, i, h, v9, v10, ei, I, g, rc, mm, E, he, q1, q2 => by
    have n6 := msl_len p 6
    rw [b_78_80]
    refine w_ift ((i_le (by omega) (by omega)).mpr (by omega)) ?_
    refine w_gS I s_291 ?_
    have hX : ∀ l, l < 6 → p l = true → hJ h 300 l = Int64.ofInt (sg e * XL p M l) := fun l hl hpl => by
      have z := msl_idx hl hpl
      have := q2 (msl p l).length (by omega)
      rw [z.2] at this
      exact this
    have hP : posB p M e = true := by
      unfold posB
      rw [List.all_eq_true]
      intro r hr
      rw [List.mem_range] at hr
      exact decide_eq_true (q1 r (by omega))
    have ho' : offR h off := fun x hx k hk => by rw [E.i (show ¬ W78 285 by unfold W78; omega)]; exact ho x hx k hk
    have hdu' : duR h du := fun l hl => by rw [E.j (show ¬ W78 290 by unfold W78; omega)]; exact hdu l hl
    refine w_bI I (by rw [k_82]; exact c82_3 I ho' hdu' hp hop b hd hX he 6 0 none none none rfl) (by decide) rfl ?_
    rintro x h' I' ⟨rfl, rfl⟩
    rw [nonL_B]
    refine w_gd (by cases noneB du off op p M e <;> decide) ?_
    rw [hP, Bool.true_and]
    exact Wp.reti ⟨rfl, E, g, fun _ => ⟨he, hX⟩⟩
  | c + 1, i, h, v9, v10, ei, I, g, rc, mm, E, he, q1, q2 => by
    have n6 := msl_len p 6
    have hi : i < (msl p 6).length := by omega
    have gi := g.1 i (by omega)
    have ai := msl_at hi
    have bx := b.1 _ ai.1 ai.2
    rw [XL_r hi] at bx
    have jx : jr (sg e * M i (msl p 6).length) := by
      have := sg_abs e (M i (msl p 6).length)
      unfold jr; omega
    rw [b_78_80]
    refine w_iff (fun z => absurd ((i_le (by omega) (by omega)).mp z) (by omega)) ?_
    refine w_gL I s_291 l_291_0 ?_
    refine w_aRn I s_292 (by decide) (by decide) (by omega) (by decide) gi.1 ?_
    refine w_aJn I (row_s _ gi.2) (by omega) (by decide) ?_
    rw [rc i hi _ (Nat.le_refl _), ← Int64.ofInt_mul, Int.mul_comm (M i (msl p 6).length) (sg e)]
    refine w_if (fun c0 => ?_) (fun c0 => ?_)
    · have hpos : 0 < sg e * M i (msl p 6).length := (j_lt (a := 0) (by unfold jr; omega) jx).mp ((lg_cmp_gt _ _).mp c0)
      refine w_gL I s_291 l_291_2 ?_
      refine w_gL I s_291 l_291_1 ?_
      refine w_aIn I s_299 (by omega) (by decide) ?_
      rw [mm i hi, i32_ofNat_succ]
      refine w_wJn I s_300 ai.1 (by decide) fun I => ?_
      refine c78_80 ho hdu hp hop b hd c (i + 1) _ _ _ (by omega) I g (fun r hr c hc => ?_) mm (E.kJ (by unfold W78; omega)) he (fun r hr => ?_) (fun r hr => ?_)
      · have gr := (g.1 r (by omega)).2
        rw [hJ_sJ_ne (by omega)]; exact rc r hr c hc
      · by_cases z : r = i
        · rw [z]; exact hpos
        · exact q1 r (by omega)
      · rw [hJ_sJ_self, up1]
        by_cases z : r = i
        · rw [if_pos (by rw [z]), z]
        · rw [if_neg (fun w => z (msl_inj (by omega) hi w))]; exact q2 r (by omega)
    · have hpos : ¬ 0 < sg e * M i (msl p 6).length := fun z => c0 ((lg_cmp_gt _ _).mpr ((j_lt (a := 0) (by unfold jr; omega) jx).mpr z))
      have hP : posB p M e = false := by
        cases z : posB p M e
        · rfl
        · exact absurd (of_decide_eq_true (List.all_eq_true.mp z i (List.mem_range.mpr hi))) hpos
      rw [hP, Bool.false_and]
      exact Wp.reti ⟨rfl, E, g, fun z => by cases z⟩
end R7
