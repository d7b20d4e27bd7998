/-! THE MODEL'S ANSWERS: one set -/
section M4
variable {X : Ctx} {d : Nat} {Q : Option Value → Hp → Prop} {p his : Nat → Bool} {AL : Nat → ALaw} {PA : Nat → APact} {du : Nat → Int} {off : Nat → Nat → Bool} {M : Nat → Ve} {e : Int} {ah : Nat → Int}
theorem m_211 {h : Hp} (I : Inv h) (hd : ∀ l, l < 6 → (du l).natAbs ≤ 17179869184) (rc : rowsM h (msl p 6).length (mA du off p)) (mm : ∀ r, r < (msl p 6).length → hI h 350 r = Int32.ofNat ((msl p 6).getD r 0)) :
    Wp (K X (d + 2) 211 [.ref 301, .int (Int32.ofNat (msl p 6).length)] h) (VI fun x h' => (solP du off p = none → x = 0) ∧ (∀ M e, solP du off p = some (M, e) → x = 1 ∧ hJ h' 301 70 = Int64.ofInt e ∧ ∀ l, l < 6 → hJ h' 348 l = if p l then Int64.ofInt (XL p M l) else hJ h 348 l) ∧ Eo W11 h h' ∧ hI h' 301 = hI h 301) := by
  have n6 := msl_len p 6
  rw [k_211]
  refine c211_5 (M0 := mA du off p) n6 (u := uB (msl p 6).length) (fun x hx => if_pos hx) (fun x => by unfold uB; split <;> decide) (msl p 6).length 0 (mA du off p) 1 (mA du off p) h _ _ _ _ _ (by omega) I (St.zero _ _) (fun r hr x => mA_bd hd hr x) rc rfl (fun z h' I' E' => ?_) (fun M' e' B z st be h' v4 v5 v6 v7 v8 v9 I' E' rc' => ?_)
  · refine ⟨_, rfl, fun _ => rfl, fun M e w => ?_, E'.wk fun a z => Or.inr (Or.inr z), E'.i (by unfold W49; decide)⟩
    have : solP du off p = none := z
    rw [this] at w; cases w
  · refine w_fJ I' s_301 fun I'' => ?_
    have E2 : Eo W11 h (sJ h' 301 70 (Int64.ofInt e')) := (E'.wk (W' := W11) fun a z => Or.inr (Or.inr z)).kJ (Or.inl rfl)
    have n1 : hI h' 301 = hI h 301 := E'.i (by unfold W49; decide)
    have n2 : hJ h' 348 = hJ h 348 := E'.j (by unfold W49; decide)
    have n3 : hI h' 350 = hI h 350 := E'.i (by unfold W49; decide)
    refine (c211_211 st be (msl p 6).length 0 _ (by omega) I'' Eo.rf ?_ (fun r hr c hc => ?_) (fun r hr => ?_) (fun r hr => absurd hr (Nat.not_lt_zero _)) (fun l _ => rfl)).mono ?_
    · rw [hJ_sJ_self]; exact if_pos rfl
    · rw [hJ_sJ_ne (by decide)]; exact rc' r hr c hc
    · show hI h' 350 r = _
      rw [n3]; exact mm r hr
    · rintro _ h2 ⟨x, rfl, rfl, E3, q⟩
      refine ⟨_, rfl, fun w => ?_, fun M e w => ?_, E2.tr (E3.wk fun a z => Or.inr (Or.inl z)), (E3.i (by decide)).trans n1⟩
      · have : solP du off p = some (M', e') := z
        rw [this] at w; cases w
      · have : solP du off p = some (M', e') := z
        rw [this] at w; cases w
        refine ⟨rfl, ?_, fun l hl => ?_⟩
        · rw [E3.j (show ¬ (301 = 348) by decide), hJ_sJ_self]; exact if_pos rfl
        · rw [q l hl, hJ_sJ_ne (by decide), n2]
def W12 (a : Nat) : Prop := a = 301 ∨ (348 ≤ a ∧ a ≤ 350)
def memM (h : Hp) (p : Nat → Bool) (l : Nat) : Prop := ∀ r, r < (msl p l).length → hI h 350 r = Int32.ofNat ((msl p l).getD r 0)
/-- what stays while a set is looked at -/
def Fr (h h' : Hp) : Prop := Eo W12 h h' ∧ hI h' 301 = hI h 301
theorem Fr.tr {h h' h'' : Hp} (a : Fr h h') (b : Fr h' h'') : Fr h h'' := ⟨a.1.tr b.1, b.2.trans a.2⟩
theorem Fr.rf {h : Hp} : Fr h h := ⟨Eo.rf, rfl⟩
theorem Fr.rel {h h' : Hp} (a : Fr h h') (q : mRel h AL PA) : mRel h' AL PA := q.eo (a.1.i (by unfold W12; omega)) (a.1.i (by unfold W12; omega)) (a.1.i (by unfold W12; omega)) (a.1.i (by unfold W12; omega)) (a.1.i (by unfold W12; omega))
theorem Fr.ahs {h h' : Hp} (a : Fr h h') (q : ∀ m, m < 6 → hJ h 345 m = Int64.ofInt (ah m)) : ∀ m, m < 6 → hJ h' 345 m = Int64.ofInt (ah m) := fun m hm => by rw [a.1.j (show ¬ W12 345 by unfold W12; omega)]; exact q m hm
theorem c212_4 {s : Nat} {h0 : Hp} : ∀ (c l : Nat) (h : Hp) (v4 v5 v6 v7 v8 : Option Value), l + c = 6 → Inv h → Fr h0 h → memM h (tb s) l → (∀ m, m < l → hJ h 348 m = 0) →
    (∀ h' v4 v5 v6 v7 v8, Inv h' → Fr h0 h' → memM h' (tb s) 6 → (∀ m, m < 6 → hJ h' 348 m = 0) → Wp (sem (X, K X d) 212 46 [some (.ref 301), some (.int (Int32.ofNat s)), some (.int (Int32.ofNat (msl (tb s) 6).length)), some (.int (Int32.ofNat 0)), v4, v5, v6, v7, v8] [] h') Q) →
    Wp (sem (X, K X d) 212 4 [some (.ref 301), some (.int (Int32.ofNat s)), some (.int (Int32.ofNat (msl (tb s) l).length)), some (.int (Int32.ofNat l)), v4, v5, v6, v7, v8] [] h) Q
  | 0, l, h, v4, v5, v6, v7, v8, el, I, F, mm, zz, q => by
    have : l = 6 := by omega
    subst this
    rw [b_212_4]
    exact w_ift (by decide) (q h _ _ _ _ _ I F mm zz)
  | c + 1, l, h, v4, v5, v6, v7, v8, el, I, F, mm, zz, q => by
    have hl : l < 6 := by omega
    have nl := msl_len (tb s) l
    rw [b_212_4]
    refine w_iff (fun z => absurd ((i_le (m := 6) (by omega) (by omega)).mp z) (by omega)) ?_
    refine w_gL I s_301 l_301_67 ?_
    refine w_wJn I s_348 hl (by decide) fun I => ?_
    have F1 : Fr h0 (sJ h 348 l 0) := ⟨F.1.kJ (Or.inr (by omega)), F.2⟩
    have z1 : ∀ m, m < l + 1 → hJ (sJ h 348 l 0) 348 m = 0 := fun m hm => by
      rw [hJ_sJ_self, up1]
      by_cases z : m = l
      · rw [if_pos z]
      · rw [if_neg z]; exact zz m (by omega)
    rw [shr_bt (by omega), i32_ofNat_succ, i32_ofNat_succ]
    have hb : bt (Int32.ofNat s) l = tb s l := rfl
    rw [hb]
    cases hp : tb s l
    · refine w_iff (fun z => z rfl) ?_
      have e1 : msl (tb s) (l + 1) = msl (tb s) l := if_neg (by rw [hp]; decide)
      have := c212_4 c (l + 1) (sJ h 348 l 0) v4 v5 v6 v7 v8 (by omega) I F1 (by unfold memM; rw [e1]; exact mm) z1 q
      rw [e1] at this
      exact this
    · refine w_ift (by decide) ?_
      have e1 : msl (tb s) (l + 1) = msl (tb s) l ++ [l] := if_pos hp
      have e2 : (msl (tb s) (l + 1)).length = (msl (tb s) l).length + 1 := by rw [e1]; simp
      refine w_gL I s_301 l_301_69 ?_
      refine w_wIn I s_350 (by omega) (by decide) fun I => ?_
      have := c212_4 c (l + 1) (sI (sJ h 348 l 0) 350 (msl (tb s) l).length (Int32.ofNat l)) v4 v5 v6 v7 v8 (by omega) I ⟨F1.1.kI (Or.inr (by omega)), (hI_sI_ne (by decide)).trans F1.2⟩ (fun r hr => by
        rw [hI_sI_self, up1]
        by_cases z : r = (msl (tb s) l).length
        · rw [if_pos z, e1, z, List.getD_eq_getElem?_getD, List.getElem?_append_right (Nat.le_refl _)]; simp
        · rw [if_neg z]
          have := mm r (by omega)
          rw [e1, List.getD_eq_getElem?_getD, List.getElem?_append_left (by omega), ← List.getD_eq_getElem?_getD]
          exact this) z1 q
      rw [e2] at this
      exact this
/-- one row of the matrix -/
theorem c212_54 {s : Nat} {h0 : Hp} (hs : s < 64) (q : mRel h0 AL PA) (hh : hI h0 301 63 = msk his 6) (ha : ∀ m, m < 6 → hJ h0 345 m = Int64.ofInt (ah m)) (sub : ∀ l, l < 6 → tb s l = true → his l = true) {i : Nat} (hi : i < (msl (tb s) 6).length) {v1 : Option Value} : ∀ (c j : Nat) (h : Hp) (v5 v6 v7 v8 : Option Value), j + c = (msl (tb s) 6).length → Inv h → Fr h0 h → memM h (tb s) 6 → (∀ m, m < 6 → hJ h 348 m = 0) →
    (∀ r, r < i → ∀ c, c ≤ (msl (tb s) 6).length → hJ h 349 (7 * r + c) = Int64.ofInt (mA (duP (offP AL PA his) his ah) (offP AL PA his) (tb s) r c)) → (∀ c, c < j → hJ h 349 (7 * i + c) = Int64.ofInt (mA (duP (offP AL PA his) his ah) (offP AL PA his) (tb s) i c)) →
    (∀ h' v4 v5 v6 v7 v8, Inv h' → Fr h0 h' → memM h' (tb s) 6 → (∀ m, m < 6 → hJ h' 348 m = 0) → (∀ r, r < i + 1 → ∀ c, c ≤ (msl (tb s) 6).length → hJ h' 349 (7 * r + c) = Int64.ofInt (mA (duP (offP AL PA his) his ah) (offP AL PA his) (tb s) r c)) → Wp (sem (X, K X (d + 4)) 212 46 [some (.ref 301), v1, some (.int (Int32.ofNat (msl (tb s) 6).length)), some (.int (Int32.ofNat (i + 1))), v4, v5, v6, v7, v8] [] h') Q) →
    Wp (sem (X, K X (d + 4)) 212 54 [some (.ref 301), v1, some (.int (Int32.ofNat (msl (tb s) 6).length)), some (.int (Int32.ofNat i)), some (.int (Int32.ofNat j)), v5, v6, v7, v8] [] h) Q
  | 0, j, h, v5, v6, v7, v8, ej, I, F, mm, zz, q1, q2, k => by
    have n6 := msl_len (tb s) 6
    have ai := msl_at hi
    have ej : j = (msl (tb s) 6).length := by omega
    rw [b_212_54]
    refine w_ift ((i_le (by omega) (by omega)).mpr (by omega)) ?_
    refine w_gL I s_301 l_301_68 ?_
    refine w_gL I s_301 l_301_69 ?_
    refine w_aIn I s_350 (by omega) (by decide) ?_
    rw [mm i hi]
    refine w_gS I s_301 ?_
    refine w_eJ (m_209 I (F.rel q) ((congrFun F.2 63).trans hh) (F.ahs ha) ai.1 (sub _ ai.1 ai.2)) ?_
    rw [ix7 i (by omega) _ (by omega), i32_ofNat_succ]
    refine w_wJn I s_349 (by omega) (by decide) fun I => ?_
    have hrow : mA (duP (offP AL PA his) his ah) (offP AL PA his) (tb s) i (msl (tb s) 6).length = duP (offP AL PA his) his ah ((msl (tb s) 6).getD i 0) := if_neg (Nat.lt_irrefl _)
    refine k _ _ _ _ _ _ I ⟨F.1.kJ (Or.inr (by omega)), F.2⟩ mm (fun m hm => by rw [hJ_sJ_ne (by decide)]; exact zz m hm) fun r hr c hc => ?_
    rw [hJ_sJ_self, up1]
    by_cases z : 7 * r + c = 7 * i + (msl (tb s) 6).length
    · have hr1 : r = i := by omega
      have hc1 : c = (msl (tb s) 6).length := by omega
      rw [if_pos z, hr1, hc1, hrow]
    · rw [if_neg z]
      by_cases z2 : r = i
      · rw [z2]; exact q2 c (by omega)
      · exact q1 r (by omega) c hc
  | c + 1, j, h, v5, v6, v7, v8, ej, I, F, mm, zz, q1, q2, k => by
    have n6 := msl_len (tb s) 6
    have ai := msl_at hi
    have hj : j < (msl (tb s) 6).length := by omega
    have aj := msl_at hj
    rw [b_212_54]
    refine w_iff (fun z => absurd ((i_le (by omega) (by omega)).mp z) (by omega)) ?_
    refine w_gL I s_301 l_301_68 ?_
    rw [ix7 i (by omega) j (by omega), i32_ofNat_succ]
    have em : mA (duP (offP AL PA his) his ah) (offP AL PA his) (tb s) i j = (if i = j then 1 else if offP AL PA his ((msl (tb s) 6).getD i 0) ((msl (tb s) 6).getD j 0) then 1 else 0) := if_pos hj
    have go : ∀ v, v = Int64.ofInt (mA (duP (offP AL PA his) his ah) (offP AL PA his) (tb s) i j) → Inv (sJ h 349 (7 * i + j) v) → Wp (sem (X, K X (d + 4)) 212 54 [some (.ref 301), v1, some (.int (Int32.ofNat (msl (tb s) 6).length)), some (.int (Int32.ofNat i)), some (.int (Int32.ofNat (j + 1))), v5, v6, v7, v8] [] (sJ h 349 (7 * i + j) v)) Q := fun v hv I => by
      refine c212_54 hs q hh ha sub hi c (j + 1) _ _ _ _ _ (by omega) I ⟨F.1.kJ (Or.inr (by omega)), F.2⟩ mm (fun m hm => by rw [hJ_sJ_ne (by decide)]; exact zz m hm) (fun r hr c hc => ?_) (fun c hc => ?_) k
      · rw [hJ_sJ_self, up1, if_neg (by omega)]; exact q1 r hr c hc
      · rw [hJ_sJ_self, up1]
        by_cases z : c = j
        · rw [if_pos (by rw [z]), z]; exact hv
        · rw [if_neg (by omega)]; exact q2 c (by omega)
    refine w_if (fun c0 => ?_) (fun c0 => ?_)
    · have hij : i = j := (i_eq (by omega) (by omega)).mp c0
      refine w_wJn I s_349 (by omega) (by decide) fun I => go _ ?_ I
      rw [em, if_pos hij]; rfl
    · have hij : i ≠ j := fun z => c0 (by rw [z])
      have hne : (msl (tb s) 6).getD i 0 ≠ (msl (tb s) 6).getD j 0 := fun z => hij (msl_inj hi hj z)
      refine w_gL I s_301 l_301_69 ?_
      refine w_aIn I s_350 (by omega) (by decide) ?_
      refine w_gL I s_301 l_301_69 ?_
      refine w_aIn I s_350 (by omega) (by decide) ?_
      rw [mm i hi, mm j hj]
      refine w_gS I s_301 ?_
      refine w_eI (m_208 I (F.rel q) ai.1 aj.1) ?_
      rw [of_his (sub _ ai.1 ai.2) hne]
      refine w_if (fun c1 => ?_) (fun c1 => ?_)
      · refine w_wJn I s_349 (by omega) (by decide) fun I => go _ ?_ I
        rw [em, if_neg hij, bi_0.mp c1]; rfl
      · have hc : offP AL PA his ((msl (tb s) 6).getD i 0) ((msl (tb s) 6).getD j 0) = true := by
          cases z : offP AL PA his ((msl (tb s) 6).getD i 0) ((msl (tb s) 6).getD j 0)
          · rw [z] at c1; exact absurd rfl c1
          · rfl
        refine w_wJn I s_349 (by omega) (by decide) fun I => go _ ?_ I
        rw [em, if_neg hij, hc]; rfl
end M4
