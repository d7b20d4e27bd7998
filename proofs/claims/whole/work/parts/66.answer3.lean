/-! THE MODEL'S ANSWERS: isAnswer -/
section M6
variable {X : Ctx} {d : Nat} {Q : Option Value → Hp → Prop} {his : Nat → Bool} {AL : Nat → ALaw} {PA : Nat → APact} {ah : Nat → Int}
/-- what stands in the model after an answer -/
def AnsM (h : Hp) (p : Nat → Bool) (M : Nat → Ve) (e : Int) : Prop := hJ h 301 70 = Int64.ofInt e ∧ ∀ l, l < 6 → hJ h 348 l = if p l then Int64.ofInt (XL p M l) else 0
theorem c212_46 {s : Nat} {h0 : Hp} (hs : s < 64) (q : mRel h0 AL PA) (hh : hI h0 301 63 = msk his 6) (ha : ∀ m, m < 6 → hJ h0 345 m = Int64.ofInt (ah m)) (sub : ∀ l, l < 6 → tb s l = true → his l = true) (hd : ∀ l, l < 6 → (duP (offP AL PA his) his ah l).natAbs ≤ 17179869184) : ∀ (c i : Nat) (h : Hp) (v4 v5 v6 v7 v8 : Option Value), i + c = (msl (tb s) 6).length → Inv h → Fr h0 h → memM h (tb s) 6 → (∀ m, m < 6 → hJ h 348 m = 0) →
    (∀ r, r < i → ∀ c, c ≤ (msl (tb s) 6).length → hJ h 349 (7 * r + c) = Int64.ofInt (mA (duP (offP AL PA his) his ah) (offP AL PA his) (tb s) r c)) →
    Wp (sem (X, K X (d + 4)) 212 46 [some (.ref 301), some (.int (Int32.ofNat s)), some (.int (Int32.ofNat (msl (tb s) 6).length)), some (.int (Int32.ofNat i)), v4, v5, v6, v7, v8] [] h) (VI fun x h' => x = bi (ansB (duP (offP AL PA his) his ah) (offP AL PA his) his (tb s)) ∧ Fr h0 h' ∧ (ansB (duP (offP AL PA his) his ah) (offP AL PA his) his (tb s) = true → ∀ M e, solP (duP (offP AL PA his) his ah) (offP AL PA his) (tb s) = some (M, e) → AnsM h' (tb s) M e))
  | 0, i, h, v4, v5, v6, v7, v8, ei, I, F, mm, zz, q1 => by
    have n6 := msl_len (tb s) 6
    rw [b_212_46]
    refine w_ift ((i_le (by omega) (by omega)).mpr (by omega)) ?_
    refine w_gS I s_301 ?_
    refine w_bI I (m_211 I hd (fun r hr c hc => q1 r (by omega) c hc) mm) (by decide) rfl ?_
    rintro x h1 I1 ⟨a1, a2, E1, n1⟩
    have F1 : Fr h0 h1 := F.tr ⟨E1.wk fun a z => by unfold W11 at z; unfold W12; omega, n1⟩
    cases hsol : solP (duP (offP AL PA his) his ah) (offP AL PA his) (tb s) with
    | none =>
      have ea : ansB (duP (offP AL PA his) his ah) (offP AL PA his) his (tb s) = false := by unfold ansB; rw [hsol]
      rw [a1 hsol]
      refine w_iff (fun z => z rfl) ?_
      exact Wp.reti ⟨by rw [ea]; rfl, F1, fun z => by rw [ea] at z; cases z⟩
    | some t =>
      obtain ⟨M, e⟩ := t
      obtain ⟨rfl, b2, b3⟩ := a2 M e hsol
      obtain ⟨B, st, hB, bd⟩ := mA_sol hd hsol
      have ea : ansB (duP (offP AL PA his) his ah) (offP AL PA his) his (tb s) = (posB (tb s) M e && noneB (duP (offP AL PA his) his ah) (offP AL PA his) his (tb s) M e) := by unfold ansB; rw [hsol]
      have je : jr e := by have := bd.2; unfold jr; omega
      have an : AnsM h1 (tb s) M e := ⟨b2, fun l hl => by rw [b3 l hl, zz l hl]⟩
      refine w_ift (by decide) ?_
      refine w_gJ I1 s_301 ?_
      rw [b2]
      have go : ∀ w, w = Int64.ofInt (sg e) → Wp (sem (X, K X (d + 4)) 212 166 [some (.ref 301), some (.int (Int32.ofNat s)), some (.int (Int32.ofNat (msl (tb s) 6).length)), some (.long w), none, some (.int 0), v6, v7, v8] [] h1) (VI fun x h' => x = bi (ansB (duP (offP AL PA his) his ah) (offP AL PA his) his (tb s)) ∧ Fr h0 h' ∧ (ansB (duP (offP AL PA his) his ah) (offP AL PA his) his (tb s) = true → ∀ M' e', some (M, e) = some (M', e') → AnsM h' (tb s) M' e')) := fun w hw => by
        subst hw
        refine (c212_166 I1 (F1.rel q) ((congrFun F1.2 63).trans hh) (F1.ahs ha) bd hd b2 an.2 6 0 v6 v7 v8 rfl).mono ?_
        rintro _ h' ⟨x, rfl, rfl, rfl⟩
        refine ⟨_, rfl, by rw [ea, fin_eq sub], F1, fun z M' e' w => ?_⟩
        cases w
        exact an
      refine w_if (fun c0 => ?_) (fun c0 => ?_)
      · have : 0 ≤ e := (j_le (a := 0) (by unfold jr; omega) je).mp ((lg_cmp_ge _ _).mp c0)
        exact go 1 (by unfold sg; rw [if_neg (by omega)]; rfl)
      · have : ¬ 0 ≤ e := fun z => c0 ((lg_cmp_ge _ _).mpr ((j_le (a := 0) (by unfold jr; omega) je).mpr z))
        exact go (-1) (by unfold sg; rw [if_pos (by omega)]; rfl)
  | c + 1, i, h, v4, v5, v6, v7, v8, ei, I, F, mm, zz, q1 => by
    have n6 := msl_len (tb s) 6
    rw [b_212_46]
    refine w_iff (fun z => absurd ((i_le (by omega) (by omega)).mp z) (by omega)) ?_
    exact c212_54 hs q hh ha sub (by omega) (msl (tb s) 6).length 0 h v5 v6 v7 v8 (by omega) I F mm zz q1 (fun c hc => absurd hc (Nat.not_lt_zero _)) fun h' w4 w5 w6 w7 w8 I' F' mm' zz' q' => c212_46 hs q hh ha sub hd c (i + 1) h' w4 w5 w6 w7 w8 (by omega) I' F' mm' zz' q'
/-- isAnswer -/
theorem m_212 {s : Nat} {h : Hp} (hs : s < 64) (I : Inv h) (q : mRel h AL PA) (hh : hI h 301 63 = msk his 6) (ha : ∀ m, m < 6 → hJ h 345 m = Int64.ofInt (ah m)) (sub : subB his s = true) (hd : ∀ l, l < 6 → (duP (offP AL PA his) his ah l).natAbs ≤ 17179869184) :
    Wp (K X (d + 5) 212 [.ref 301, .int (Int32.ofNat s)] h) (VI fun x h' => x = bi (ansB (duP (offP AL PA his) his ah) (offP AL PA his) his (tb s)) ∧ Fr h h' ∧ (ansB (duP (offP AL PA his) his ah) (offP AL PA his) his (tb s) = true → ∀ M e, solP (duP (offP AL PA his) his ah) (offP AL PA his) (tb s) = some (M, e) → AnsM h' (tb s) M e)) := by
  rw [k_212]
  refine c212_4 6 0 h none none none none none rfl I Fr.rf (fun r hr => absurd hr (Nat.not_lt_zero _)) (fun m hm => absurd hm (Nat.not_lt_zero _)) fun h' w4 w5 w6 w7 w8 I' F' mm' zz' => ?_
  exact c212_46 hs q hh ha (subB_iff.mp sub) hd (msl (tb s) 6).length 0 h' w4 w5 w6 w7 w8 (by omega) I' F' mm' zz' fun r hr => absurd hr (Nat.not_lt_zero _)
end M6
