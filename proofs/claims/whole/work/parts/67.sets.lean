/-! THE MODEL GOES THROUGH THE SETS -/
section M7
variable {X : Ctx} {d : Nat} {Q : Option Value → Hp → Prop} {his : Nat → Bool} {AL : Nat → ALaw} {PA : Nat → APact} {ah : Nat → Int}
theorem told_tdiv {x e : Int} : (sg e * x).tdiv (sg e * e) = x.tdiv e := by
  unfold sg
  split
  · rw [Int.neg_one_mul, Int.neg_one_mul, Int.neg_tdiv, Int.tdiv_neg, Int.neg_neg]
  · rw [Int.one_mul, Int.one_mul]
def W13 (a : Nat) : Prop := a = 301 ∨ (346 ≤ a ∧ a ≤ 350)
def Fr2 (h h' : Hp) : Prop := Eo W13 h h' ∧ hI h' 301 = hI h 301
theorem Fr2.tr {h h' h'' : Hp} (a : Fr2 h h') (b : Fr2 h' h'') : Fr2 h h'' := ⟨a.1.tr b.1, b.2.trans a.2⟩
theorem Fr.to2 {h h' : Hp} (a : Fr h h') : Fr2 h h' := ⟨a.1.wk fun a z => by unfold W12 at z; unfold W13; omega, a.2⟩
theorem Fr2.rel {h h' : Hp} (a : Fr2 h h') (q : mRel h AL PA) : mRel h' AL PA := q.eo (a.1.i (by unfold W13; omega)) (a.1.i (by unfold W13; omega)) (a.1.i (by unfold W13; omega)) (a.1.i (by unfold W13; omega)) (a.1.i (by unfold W13; omega))
theorem Fr2.ahs {h h' : Hp} (a : Fr2 h h') (q : ∀ m, m < 6 → hJ h 345 m = Int64.ofInt (ah m)) : ∀ m, m < 6 → hJ h' 345 m = Int64.ofInt (ah m) := fun m hm => by rw [a.1.j (show ¬ W13 345 by unfold W13; omega)]; exact q m hm
theorem Fr2.kJ {h h' : Hp} (a : Fr2 h h') {x k : Nat} {v : Int64} (w : W13 x) : Fr2 h (sJ h' x k v) := ⟨a.1.kJ w, a.2⟩
abbrev tk (his : Nat → Bool) (AL : Nat → ALaw) (PA : Nat → APact) (ah : Nat → Int) (o : Option Nat) (l : Nat) : Int := tkn (duP (offP AL PA his) his ah) (offP AL PA his) his ah o l
/-- the first one: what each takes -/
theorem c213_73 {s : Nat} {M : Nat → Ve} {e : Int} {h0 : Hp} (hh : hI h0 301 63 = msk his 6) (an : AnsM h0 (tb s) M e) (bd : Bd (tb s) M e) (e0 : e ≠ 0) (hs : solP (duP (offP AL PA his) his ah) (offP AL PA his) (tb s) = some (M, e)) {v1 : Option Value} : ∀ (c l : Nat) (h : Hp), l + c = 6 → Inv h → Eo (fun a => a = 347) h0 h → (∀ m, m < 6 → hJ h 347 m = if m < l then (if his m then Int64.ofInt (if tb s m then told (duP (offP AL PA his) his ah) (offP AL PA his) (tb s) m else 0) else hJ h0 347 m) else hJ h0 347 m) →
    (∀ h', Inv h' → Eo (fun a => a = 347) h0 h' → (∀ m, m < 6 → hJ h' 347 m = if his m then Int64.ofInt (if tb s m then told (duP (offP AL PA his) his ah) (offP AL PA his) (tb s) m else 0) else hJ h0 347 m) → Wp (sem (X, K X d) 213 42 [some (.ref 301), v1, some (.int 1), some (.int (Int32.ofNat (s + 1))), some (.int 6)] [] h') Q) →
    Wp (sem (X, K X d) 213 73 [some (.ref 301), v1, some (.int 0), some (.int (Int32.ofNat s)), some (.int (Int32.ofNat l))] [] h) Q
  | 0, l, h, el, I, E, q, k => by
    have el : l = 6 := by omega
    subst el
    rw [b_213_73]
    refine w_ift (by decide) ?_
    rw [i32_ofNat_succ]
    exact k h I E fun m hm => by rw [q m hm, if_pos hm]
  | c + 1, l, h, el, I, E, q, k => by
    have hl : l < 6 := by omega
    have je : jr e := by have := bd.2; unfold jr; omega
    rw [b_213_73]
    refine w_iff (fun z => absurd ((i_le (m := 6) (by omega) (by omega)).mp z) (by omega)) ?_
    refine w_iff (fun z => z rfl) ?_
    refine w_gI I s_301 ?_
    rw [E.i (show ¬ (301 = 347) by decide), hh, shr_bt (by omega), bt_msk (by decide) (by omega), decide_eq_true hl, Bool.true_and, i32_ofNat_succ]
    cases hq : his l
    · refine w_ift (by decide) ?_
      refine c213_73 hh an bd e0 hs c (l + 1) h (by omega) I E (fun m hm => ?_) k
      rw [q m hm]
      by_cases z : m = l
      · rw [if_neg (show ¬ m < l by omega), if_pos (show m < l + 1 by omega), z, hq]; rfl
      · by_cases z2 : m < l
        · rw [if_pos z2, if_pos (show m < l + 1 by omega)]
        · rw [if_neg z2, if_neg (show ¬ m < l + 1 by omega)]
    · refine w_iff (by decide) ?_
      refine w_gL I s_301 l_301_66 ?_
      refine w_gL I s_301 l_301_67 ?_
      refine w_aJn I s_348 hl (by decide) ?_
      refine w_gJ I s_301 ?_
      rw [E.j (show ¬ (348 = 347) by decide), E.j (show ¬ (301 = 347) by decide), an.1, an.2 l hl]
      refine w_gd (fun z => e0 ((j_eq (b := 0) je (by unfold jr; omega)).mp z)) ?_
      have ev : (if tb s l then Int64.ofInt (XL (tb s) M l) else 0) / Int64.ofInt e = Int64.ofInt (if tb s l then told (duP (offP AL PA his) his ah) (offP AL PA his) (tb s) l else 0) := by
        cases hp : tb s l
        · show Int64.ofInt 0 / Int64.ofInt e = Int64.ofInt 0
          rw [j_div (by unfold jr; omega) je, Int.zero_tdiv]
        · have bx := bd.1 l hl hp
          show Int64.ofInt (XL (tb s) M l) / Int64.ofInt e = Int64.ofInt (told _ _ _ l)
          rw [j_div (by unfold jr; omega) je]
          unfold told
          rw [hs]
          exact congrArg Int64.ofInt told_tdiv.symm
      rw [ev]
      refine w_wJn I s_347 hl (by decide) fun I => ?_
      refine c213_73 hh an bd e0 hs c (l + 1) _ (by omega) I (E.kJ rfl) (fun m hm => ?_) k
      rw [hJ_sJ_self, up1]
      by_cases z : m = l
      · rw [if_pos z, if_pos (show m < l + 1 by omega), z, hq]; rfl
      · rw [if_neg z, q m hm]
        by_cases z2 : m < l
        · rw [if_pos z2, if_pos (show m < l + 1 by omega)]
        · rw [if_neg z2, if_neg (show ¬ m < l + 1 by omega)]
theorem c213_133 {g : Nat → Int} {x : Int32} {h0 : Hp} {v1 : Option Value} (hg : ∀ l, l < 6 → hJ h0 347 l = Int64.ofInt (g l)) : ∀ (c l : Nat) (h : Hp) (v4 : Option Value), l + c = 6 → Inv h → Eo (fun a => a = 346) h0 h → (∀ m, m < l → hJ h 346 m = Int64.ofInt (g m)) →
    Wp (sem (X, K X d) 213 133 [some (.ref 301), v1, some (.int x), some (.int (Int32.ofNat l)), v4] [] h) (VI fun y h' => y = x ∧ Eo (fun a => a = 346) h0 h' ∧ ∀ m, m < 6 → hJ h' 346 m = Int64.ofInt (g m))
  | 0, l, h, v4, el, I, E, q => by
    have el : l = 6 := by omega
    subst el
    rw [b_213_133]
    exact w_ift (by decide) (Wp.reti ⟨rfl, E, q⟩)
  | c + 1, l, h, v4, el, I, E, q => by
    have hl : l < 6 := by omega
    rw [b_213_133]
    refine w_iff (fun z => absurd ((i_le (m := 6) (by omega) (by omega)).mp z) (by omega)) ?_
    refine w_gL I s_301 l_301_65 ?_
    refine w_gL I s_301 l_301_66 ?_
    refine w_aJn I s_347 hl (by decide) ?_
    rw [E.j (show ¬ (347 = 346) by decide), hg l hl, i32_ofNat_succ]
    refine w_wJn I s_346 hl (by decide) fun I => ?_
    refine c213_133 hg c (l + 1) _ _ (by omega) I (E.kJ rfl) fun m hm => ?_
    rw [hJ_sJ_self, up1]
    by_cases z : m = l
    · rw [if_pos z, z]
    · rw [if_neg z]; exact q m (by omega)
/-- what is told of a SUM -/
def Told (h0 h : Hp) (his : Nat → Bool) (AL : Nat → ALaw) (PA : Nat → APact) (ah : Nat → Int) : Prop := Fr2 h0 h ∧ ∀ l, l < 6 → hJ h 346 l = Int64.ofInt (tk his AL PA ah (frs (duP (offP AL PA his) his ah) (offP AL PA his) his 64) l)
theorem c213_42 {h0 : Hp} (q : mRel h0 AL PA) (hh : hI h0 301 63 = msk his 6) (ha : ∀ m, m < 6 → hJ h0 345 m = Int64.ofInt (ah m)) (hd : ∀ l, l < 6 → (duP (offP AL PA his) his ah l).natAbs ≤ 17179869184) {v1 : Option Value} : ∀ (c s : Nat) (h : Hp) (v4 : Option Value), s + c = 64 → Inv h → Fr2 h0 h → (∀ l, l < 6 → hJ h 347 l = Int64.ofInt (tk his AL PA ah (frs (duP (offP AL PA his) his ah) (offP AL PA his) his s) l)) →
    Wp (sem (X, K X (d + 5)) 213 42 [some (.ref 301), v1, some (.int (Int32.ofNat (num (duP (offP AL PA his) his ah) (offP AL PA his) his s))), some (.int (Int32.ofNat s)), v4] [] h) (VI fun x h' => x = Int32.ofNat (num (duP (offP AL PA his) his ah) (offP AL PA his) his 64) ∧ Told h0 h' his AL PA ah)
  | 0, s, h, v4, es, I, F, q1 => by
    have es : s = 64 := by omega
    subst es
    rw [b_213_42]
    refine w_ift (by decide) ?_
    refine (c213_133 q1 6 0 h v4 rfl I Eo.rf (fun m hm => absurd hm (Nat.not_lt_zero _))).mono ?_
    rintro _ h' ⟨x, rfl, rfl, E, q2⟩
    exact ⟨_, rfl, rfl, F.tr ⟨E.wk fun a z => by unfold W13; omega, E.i (by decide)⟩, q2⟩
  | c + 1, s, h, v4, es, I, F, q1 => by
    have hs : s < 64 := by omega
    have nle := num_le (duP (offP AL PA his) his ah) (offP AL PA his) (q := his) s
    have no : aq (duP (offP AL PA his) his ah) (offP AL PA his) his s = false → num (duP (offP AL PA his) his ah) (offP AL PA his) his (s + 1) = num (duP (offP AL PA his) his ah) (offP AL PA his) his s ∧ frs (duP (offP AL PA his) his ah) (offP AL PA his) his (s + 1) = frs (duP (offP AL PA his) his ah) (offP AL PA his) his s := fun ha => by
      constructor
      · show num _ _ his s + (if aq _ _ his s then 1 else 0) = _
        rw [ha]; rfl
      · show (match frs _ _ his s with | some x => some x | none => if aq _ _ his s then some s else none) = _
        rw [ha]
        cases frs (duP (offP AL PA his) his ah) (offP AL PA his) his s <;> rfl
    have skip : aq (duP (offP AL PA his) his ah) (offP AL PA his) his s = false → ∀ h', Inv h' → Fr2 h0 h' → hJ h' 347 = hJ h 347 → Wp (sem (X, K X (d + 5)) 213 42 [some (.ref 301), v1, some (.int (Int32.ofNat (num (duP (offP AL PA his) his ah) (offP AL PA his) his s))), some (.int (Int32.ofNat (s + 1))), v4] [] h') (VI fun x h' => x = Int32.ofNat (num (duP (offP AL PA his) his ah) (offP AL PA his) his 64) ∧ Told h0 h' his AL PA ah) := fun ha' h' I' F' e' => by
      have := c213_42 q hh ha hd (v1 := v1) c (s + 1) h' v4 (by omega) I' F' (by rw [(no ha').2, e']; exact q1)
      rw [(no ha').1] at this
      exact this
    have h63 : hI h 301 63 = msk his 6 := (congrFun F.2 63).trans hh
    rw [b_213_42]
    refine w_iff (fun z => absurd ((i_le (m := 64) (by omega) (by omega)).mp z) (by omega)) ?_
    refine w_gI I s_301 ?_
    rw [h63, i32_ofNat_succ]
    refine w_if (fun c0 => ?_) (fun c0 => ?_)
    · have ha' : aq (duP (offP AL PA his) his ah) (offP AL PA his) his s = false := by
        unfold aq
        cases hb : subB his s
        · rfl
        · exact absurd ((sub_iff hs).mpr hb) c0
      exact skip ha' h I F rfl
    · have hb : subB his s = true := (sub_iff hs).mp (Classical.byContradiction c0)
      have ea : aq (duP (offP AL PA his) his ah) (offP AL PA his) his s = ansB (duP (offP AL PA his) his ah) (offP AL PA his) his (tb s) := by unfold aq; rw [hb, Bool.true_and]
      refine w_gS I s_301 ?_
      refine w_bI I (m_212 hs I (F.rel q) h63 (F.ahs ha) hb hd) (by decide) rfl ?_
      rintro x h1 I1 ⟨rfl, F1, an⟩
      have n1 : hJ h1 347 = hJ h 347 := F1.1.j (by unfold W12; omega)
      have F01 := F.tr F1.to2
      refine w_if (fun c1 => ?_) (fun c1 => ?_)
      · have hc : ansB (duP (offP AL PA his) his ah) (offP AL PA his) his (tb s) = true := by cases z : ansB (duP (offP AL PA his) his ah) (offP AL PA his) his (tb s); rw [z] at c1; exact absurd rfl c1; rfl
        have ha' : aq (duP (offP AL PA his) his ah) (offP AL PA his) his s = true := by rw [ea]; exact hc
        have en : num (duP (offP AL PA his) his ah) (offP AL PA his) his (s + 1) = num (duP (offP AL PA his) his ah) (offP AL PA his) his s + 1 := by
          show num _ _ his s + (if aq _ _ his s then 1 else 0) = _
          rw [ha']; rfl
        by_cases hn : num (duP (offP AL PA his) his ah) (offP AL PA his) his s = 0
        · obtain ⟨M, e, hs2⟩ : ∃ M e, solP (duP (offP AL PA his) his ah) (offP AL PA his) (tb s) = some (M, e) := by
            unfold ansB at hc
            cases hz : solP (duP (offP AL PA his) his ah) (offP AL PA his) (tb s) with
            | none => rw [hz] at hc; cases hc
            | some t => exact ⟨t.1, t.2, rfl⟩
          obtain ⟨B, st, hB, bd⟩ := mA_sol hd hs2
          have hf : frs (duP (offP AL PA his) his ah) (offP AL PA his) his s = none := (num_frs _ _ s).mp hn
          have ef : frs (duP (offP AL PA his) his ah) (offP AL PA his) his (s + 1) = some s := by
            show (match frs _ _ his s with | some x => some x | none => if aq _ _ his s then some s else none) = _
            rw [hf, ha']; rfl
          rw [hn] at en ⊢
          refine c213_73 ((congrFun F01.2 63).trans hh) (an hc M e hs2) bd st.2.1 hs2 6 0 h1 rfl I1 Eo.rf (fun m hm => by rw [if_neg (Nat.not_lt_zero _)]) fun h2 I2 E2 q2 => ?_
          have := c213_42 q hh ha hd (v1 := v1) c (s + 1) h2 (some (.int 6)) (by omega) I2 (F01.tr ⟨E2.wk fun a z => by unfold W13; omega, E2.i (by decide)⟩) (fun l hl => by
            rw [ef, q2 l hl]
            show _ = Int64.ofInt (if his l then (if tb s l then told _ _ (tb s) l else 0) else ah l)
            cases his l
            · have := q1 l hl
              rw [hf] at this
              exact (congrFun n1 l).trans this
            · rfl)
          rw [en] at this
          exact this
        · cases hf : frs (duP (offP AL PA his) his ah) (offP AL PA his) his s with
          | none => exact absurd ((num_frs _ _ s).mpr hf) hn
          | some x =>
            have ef : frs (duP (offP AL PA his) his ah) (offP AL PA his) his (s + 1) = some x := by
              show (match frs _ _ his s with | some x => some x | none => if aq _ _ his s then some s else none) = _
              rw [hf]
            rw [b_213_73]
            refine w_iff (by decide) ?_
            refine w_ift (fun z => hn ((i_eq (n := 0) (by omega) (by omega)).mp z)) ?_
            rw [i32_ofNat_succ, i32_ofNat_succ, ← en]
            refine c213_42 q hh ha hd c (s + 1) h1 _ (by omega) I1 F01 fun l hl => ?_
            rw [ef, ← hf, n1]
            exact q1 l hl
      · have hc : aq (duP (offP AL PA his) his ah) (offP AL PA his) his s = false := by rw [ea]; exact bi_0.mp (Classical.byContradiction c1)
        exact skip hc h1 I1 F01 n1
end M7
