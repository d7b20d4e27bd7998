/-! UNDER, all pairs -/
abbrev dn (l m x k : Nat) : Prop := x < l ∨ (x = l ∧ k < m)
def seeD (PA : Nat → APact) (his : Nat → Bool) (l m k : Nat) : Bool := (List.range 6).any fun j => decide (dn l m k j) && (decide (j ≠ k) && (looksP PA k j && (his k || his j)))
theorem any6 {p : Nat → Bool} : (List.range 6).any p = (p 0 || p 1 || p 2 || p 3 || p 4 || p 5) := by
  simp [List.range_succ, Bool.or_assoc]
theorem any_eq {p q : Nat → Bool} (h : ∀ j, j < 6 → p j = q j) : (List.range 6).any p = (List.range 6).any q := by
  rw [any6, any6, h 0 (by decide), h 1 (by decide), h 2 (by decide), h 3 (by decide), h 4 (by decide), h 5 (by decide)]
theorem any_or {p : Nat → Bool} {m : Nat} {c : Bool} (hm : m < 6) : (List.range 6).any (fun j => p j || (decide (j = m) && c)) = ((List.range 6).any p || c) := by
  have : m = 0 ∨ m = 1 ∨ m = 2 ∨ m = 3 ∨ m = 4 ∨ m = 5 := by omega
  rw [any6, any6]
  cases c
  · simp
  · rcases this with rfl | rfl | rfl | rfl | rfl | rfl <;> simp
/-- what the loops of under have laid so far -/
def UnP (AL : Nat → ALaw) (PA : Nat → APact) (his : Nat → Bool) (T : Nat) (l m : Nat) (h0 h : Hp) : Prop :=
  Eo W3 h0 h ∧ hP h 274 12 = some T ∧ (∀ k, k ≠ 12 → hP h 274 k = hP h0 274 k) ∧ hJ h = hJ h0 ∧ (∀ k, k ≠ 16 → hI h 274 k = hI h0 274 k) ∧
  (∀ k, k < 32 → bt (hI h 274 16) k = (decide (k < 6) && seeD PA his l m k)) ∧
  (∀ x, x < l → ∀ k, k < 32 → bt (hI h 285 x) k = (decide (k < 6 ∧ k ≠ x) && offP AL PA his x k)) ∧
  (∀ x, x < l → ∀ k, k < 32 → bt (hI h 286 x) k = (decide (k < 6 ∧ k ≠ x) && frP AL PA his x k))
def UnQ (AL : Nat → ALaw) (PA : Nat → APact) (his : Nat → Bool) (l m : Nat) (h : Hp) : Prop :=
  (∀ k, k < 32 → bt (hI h 285 l) k = (decide (k < m ∧ k ≠ l) && offP AL PA his l k)) ∧ (∀ k, k < 32 → bt (hI h 286 l) k = (decide (k < m ∧ k ≠ l) && frP AL PA his l k))
/-- PACTS told by a row: their terms -/
def Terms (h : Hp) (T : Nat) (PA : Nat → APact) : Prop := ∀ p, p < 15 → ∃ P, hP h T p = some P ∧ IsPact P ∧ cTerms h P (PA p) ∧ (PA p).2.2.2.1 ≤ 2
def Rels (h : Hp) (AL : Nat → ALaw) : Prop := ∀ l, l < 6 → ∃ L, hP h 64 l = some L ∧ IsLaw L ∧ hI h L 11 = Int32.ofNat (AL l).2.2.2 ∧ (AL l).2.2.2 ≤ 2
theorem IsLaw.rg {L : Nat} (h : IsLaw L) : 91 ≤ L ∧ L ≤ 176 := by
  have : ∀ a ∈ [91, 136, 144, 152, 160, 168, 176], 91 ≤ a ∧ a ≤ 176 := by decide
  exact this L h
theorem IsPact.rg {P : Nat} (h : IsPact P) : 99 ≤ P ∧ P ≤ 271 := by
  have : ∀ a ∈ [99, 184, 190, 196, 202, 208, 214, 220, 226, 232, 238, 244, 250, 256, 262, 268, 187, 193, 199, 205, 211, 217, 223, 229, 235, 241, 247, 253, 259, 265, 271], 99 ≤ a ∧ a ≤ 271 := by decide
  exact this P h
theorem W3_lo {a : Nat} (h : a < 274) : ¬ W3 a := by unfold W3; omega
theorem Terms.eo {h h' : Hp} {T : Nat} {PA : Nat → APact} {W : Nat → Prop} (q : Terms h T PA) (e : Eo W h h') (hT : ¬ W T) (hW : ∀ a, 99 ≤ a → a < 274 → ¬ W a) : Terms h' T PA := fun p hp => by
  obtain ⟨P, p1, p2, p3, p4⟩ := q p hp
  have := p2.rg
  exact ⟨P, by rw [e.p hT]; exact p1, p2, p3.eo (e.i (hW _ (by omega) (by omega))) (e.i (hW _ (by omega) (by omega))), p4⟩
theorem Rels.eo {h h' : Hp} {AL : Nat → ALaw} {W : Nat → Prop} (q : Rels h AL) (e : Eo W h h') (h64 : ¬ W 64) (hW : ∀ a, 91 ≤ a → a < 274 → ¬ W a) : Rels h' AL := fun l hl => by
  obtain ⟨L, p1, p2, p3, p4⟩ := q l hl
  have := p2.rg
  exact ⟨L, by rw [e.p h64]; exact p1, p2, by rw [e.i (hW _ (by omega) (by omega))]; exact p3, p4⟩
section UL
variable {X : Ctx} {d : Nat} {T : Nat} {Q : Option Value → Hp → Prop} {AL : Nat → ALaw} {PA : Nat → APact} {his : Nat → Bool} {h0 : Hp}
theorem under34 (hT : SH T = (63, 15)) (hT2 : T < 274) (ht : Terms h0 T PA) (hr : Rels h0 AL) (hh : ∀ k, k < 6 → bt (hI h0 274 15) k = his k) {l : Nat} (hl : l < 6) : ∀ (c m : Nat) (h : Hp), m + c = 6 → Inv h → UnP AL PA his T l m h0 h → UnQ AL PA his l m h →
    (∀ h', Inv h' → UnP AL PA his T (l + 1) 0 h0 h' → Wp (sem (X, K X (d + 2)) 16 12 [some (.ref 274), some (.ref T), some (.int (Int32.ofNat (l + 1))), some (.int 6)] [] h') Q) →
    Wp (sem (X, K X (d + 2)) 16 34 [some (.ref 274), some (.ref T), some (.int (Int32.ofNat l)), some (.int (Int32.ofNat m))] [] h) Q
  | 0, m, h, e, I, u, v, q => by
    have e : m = 6 := by omega
    subst e
    rw [b_16_34]
    refine w_ift ((i_le (m := 6) (by omega) (by omega)).mpr (by omega)) ?_
    rw [i32_ofNat_succ]
    obtain ⟨u1, u2, u3, u4, u5, u6, u7, u8⟩ := u
    refine q h I ⟨u1, u2, u3, u4, u5, fun k hk => ?_, fun x hx k hk => ?_, fun x hx k hk => ?_⟩
    · rw [u6 k hk]
      congr 1
      exact any_eq fun j hj => by
        congr 1
        exact decide_eq_decide.mpr (by unfold dn; omega)
    · by_cases y : x = l
      · subst y; exact v.1 k hk
      · exact u7 x (by omega) k hk
    · by_cases y : x = l
      · subst y; exact v.2 k hk
      · exact u8 x (by omega) k hk
  | c + 1, m, h, e, I, u, v, q => by
    have hm : m < 6 := by omega
    rw [b_16_34]
    refine w_iff (fun z => absurd ((i_le (m := 6) (by omega) (by omega)).mp z) (by omega)) ?_
    rw [i32_ofNat_succ]
    obtain ⟨u1, u2, u3, u4, u5, u6, u7, u8⟩ := u
    by_cases y : m = l
    · refine w_ift (by rw [y]) ?_
      refine under34 hT hT2 ht hr hh hl c (m + 1) h (by omega) I ⟨u1, u2, u3, u4, u5, fun k hk => ?_, u7, u8⟩ ⟨fun k hk => ?_, fun k hk => ?_⟩ q
      · rw [u6 k hk]
        congr 1
        refine any_eq fun j hj => ?_
        by_cases w : j = k
        · simp [w]
        · congr 1
          exact decide_eq_decide.mpr (by unfold dn; omega)
      · rw [v.1 k hk]; congr 1; exact decide_eq_decide.mpr (by omega)
      · rw [v.2 k hk]; congr 1; exact decide_eq_decide.mpr (by omega)
    · refine w_iff (fun z => y ((i_eq (by omega) (by omega)).mp z)) ?_
      refine w_eI (m_141 hl hm (fun z => y z.symm)) ?_
      have hpr := pr_lt l hl m hm (fun z => y z.symm)
      obtain ⟨P, t1, t2, t3, t4⟩ := (ht.eo u1 (W3_lo hT2) (fun a _ ha => W3_lo ha)) (pr l m) hpr
      obtain ⟨L, r1, r2, r3, r4⟩ := (hr.eo u1 (W3_lo (by decide)) (fun a _ ha => W3_lo ha)) l hl
      refine w_aRn I hT (by decide) (by decide) hpr (by decide) t1 ?_
      refine w_gS I s_274 ?_
      refine w_bV I (m_17 (his := his) I hl hm (fun k hk => by rw [u5 15 (by decide)]; exact hh k hk) t2 t3 t4 r1 r2 r3 r4) (by decide) rfl fun h1 I1 p => ?_
      obtain ⟨p1, p2, p3, p4, p5, p6, p7, p8, p9⟩ := p
      refine under34 hT hT2 ht hr hh hl c (m + 1) h1 (by omega) I1 ⟨u1.tr p1, by rw [p2]; exact u2, fun k hk => by rw [p2]; exact u3 k hk, p3.trans u4, fun k hk => (p4 k hk).trans (u5 k hk), fun k hk => ?_, fun x hx k hk => ?_, fun x hx k hk => ?_⟩ ⟨fun k hk => ?_, fun k hk => ?_⟩ q
      · rw [p5 k hk, u6 k hk]
        by_cases kl : k = l
        · subst kl
          rw [decide_eq_true hl, decide_eq_true rfl, Bool.true_and, Bool.true_and, Bool.true_and]
          unfold seeD
          rw [← any_or hm]
          refine any_eq fun j hj => ?_
          by_cases jm : j = m
          · subst jm
            simp [dn, y]
          · rw [decide_eq_false jm, Bool.false_and, Bool.or_false]
            congr 1
            exact decide_eq_decide.mpr (by unfold dn; omega)
        · rw [decide_eq_false kl, Bool.false_and, Bool.or_false]
          congr 1
          refine any_eq fun j hj => ?_
          congr 1
          exact decide_eq_decide.mpr (by unfold dn; omega)
      · rw [p6 x (by omega)]; exact u7 x hx k hk
      · rw [p8 x (by omega)]; exact u8 x hx k hk
      · rw [p7 k hk, v.1 k hk]
        by_cases km : k = m
        · subst km
          rw [decide_eq_false (by omega), decide_eq_true rfl, decide_eq_true (by omega)]; simp
        · rw [decide_eq_false km, Bool.false_and, Bool.or_false]
          congr 1
          exact decide_eq_decide.mpr (by omega)
      · rw [p9 k hk, v.2 k hk]
        by_cases km : k = m
        · subst km
          rw [decide_eq_false (by omega), decide_eq_true rfl, decide_eq_true (by omega)]; simp
        · rw [decide_eq_false km, Bool.false_and, Bool.or_false]
          congr 1
          exact decide_eq_decide.mpr (by omega)
theorem under12 (hT : SH T = (63, 15)) (hT2 : T < 274) (ht : Terms h0 T PA) (hr : Rels h0 AL) (hh : ∀ k, k < 6 → bt (hI h0 274 15) k = his k) : ∀ (c l : Nat) (h : Hp) (v3 : Option Value), l + c = 6 → Inv h → UnP AL PA his T l 0 h0 h →
    (∀ h', Inv h' → UnP AL PA his T 6 0 h0 h' → Q none h') →
    Wp (sem (X, K X (d + 2)) 16 12 [some (.ref 274), some (.ref T), some (.int (Int32.ofNat l)), v3] [] h) Q
  | 0, l, h, v3, e, I, u, q => by
    have e : l = 6 := by omega
    subst e
    rw [b_16_12]
    refine w_ift ((i_le (m := 6) (by omega) (by omega)).mpr (by omega)) ?_
    exact Wp.ret (q h I u)
  | c + 1, l, h, v3, e, I, u, q => by
    have hl : l < 6 := by omega
    rw [b_16_12]
    refine w_iff (fun z => absurd ((i_le (m := 6) (by omega) (by omega)).mp z) (by omega)) ?_
    refine w_gL I s_274 l_274_5 ?_
    refine w_wIn I s_285 hl (by decide) fun I => ?_
    refine w_gL I s_274 l_274_6 ?_
    refine w_wIn I s_286 hl (by decide) fun I => ?_
    obtain ⟨u1, u2, u3, u4, u5, u6, u7, u8⟩ := u
    have E : Eo W3 h (sI (sI h 285 l 0) 286 l 0) := (Eo.rf.kI (Or.inr (Or.inl rfl))).kI (Or.inr (Or.inr rfl))
    have e5 : ∀ x, x ≠ l → hI (sI (sI h 285 l 0) 286 l 0) 285 x = hI h 285 x := fun x hx => by
      rw [sI_other (by decide), hI_sI_self, up1, if_neg hx]
    have e6 : ∀ x, x ≠ l → hI (sI (sI h 285 l 0) 286 l 0) 286 x = hI h 286 x := fun x hx => by
      rw [hI_sI_self, up1, if_neg hx, sI_other (by decide)]
    have e274 : hI (sI (sI h 285 l 0) 286 l 0) 274 = hI h 274 := by rw [sI_other (by decide), sI_other (by decide)]
    refine under34 hT hT2 ht hr hh hl 6 0 _ (by omega) I ⟨u1.tr E, u2, u3, u4, fun k hk => by rw [e274]; exact u5 k hk, fun k hk => by rw [e274]; exact u6 k hk, fun x hx k hk => by rw [e5 x (by omega)]; exact u7 x hx k hk, fun x hx k hk => by rw [e6 x (by omega)]; exact u8 x hx k hk⟩ ⟨fun k hk => ?_, fun k hk => ?_⟩ ?_
    · rw [sI_other (by decide), hI_sI_self, up1, if_pos rfl, bt_zero]; simp
    · rw [hI_sI_self, up1, if_pos rfl, bt_zero]; simp
    · intro h' I' u'
      exact under12 hT hT2 ht hr hh c (l + 1) h' _ (by omega) I' u' q
theorem seeD_0 (k : Nat) : seeD PA his 0 0 k = false := by
  unfold seeD
  rw [any6]
  simp [dn]
theorem seeD_6 {k : Nat} (hk : k < 6) : seeD PA his 6 0 k = seeP PA his k := by
  unfold seeD seeP
  refine any_eq fun j hj => ?_
  rw [decide_eq_true (show dn 6 0 k j from Or.inl hk), Bool.true_and]
/-- what stands behind under -/
def UnderP (AL : Nat → ALaw) (PA : Nat → APact) (his : Nat → Bool) (T : Nat) (h0 h : Hp) : Prop :=
  Eo W3 h0 h ∧ hP h 274 12 = some T ∧ (∀ k, k ≠ 12 → hP h 274 k = hP h0 274 k) ∧ hJ h = hJ h0 ∧ (∀ k, k ≠ 16 → hI h 274 k = hI h0 274 k) ∧
  (∀ k, k < 32 → bt (hI h 274 16) k = (decide (k < 6) && seeP PA his k)) ∧
  (∀ x, x < 6 → ∀ k, k < 32 → bt (hI h 285 x) k = (decide (k < 6 ∧ k ≠ x) && offP AL PA his x k)) ∧
  (∀ x, x < 6 → ∀ k, k < 32 → bt (hI h 286 x) k = (decide (k < 6 ∧ k ≠ x) && frP AL PA his x k))
theorem m_16 (I : Inv h0) (hT : SH T = (63, 15)) (hT2 : T < 274) (ht : Terms h0 T PA) (hr : Rels h0 AL) (hh : ∀ k, k < 6 → bt (hI h0 274 15) k = his k) :
    Wp (K X (d + 3) 16 [.ref 274, .ref T] h0) (VV fun h' => UnderP AL PA his T h0 h') := by
  rw [k_16]
  refine w_fR I s_274 (by rw [hT]; decide +kernel) (by decide) (by decide +kernel) (by decide +kernel) fun I => ?_
  refine w_fI I s_274 fun I => ?_
  refine under12 hT hT2 ht hr hh 6 0 _ none (by omega) I ⟨(Eo.rf.kP (Or.inl rfl)).kI (Or.inl rfl), ?_, fun k hk => ?_, rfl, fun k hk => ?_, fun k hk => ?_, fun x hx => absurd hx (by omega), fun x hx => absurd hx (by omega)⟩ ?_
  · show hP (sP h0 274 12 (some T)) 274 12 = _
    rw [hP_sP_self, up1, if_pos rfl]
  · show hP (sP h0 274 12 (some T)) 274 k = _
    rw [hP_sP_self, up1, if_neg hk]
  · rw [hI_sI_self, up1, if_neg hk]; rfl
  · rw [hI_sI_self, up1, if_pos rfl, bt_zero, seeD_0, Bool.and_false]
  · intro h' I' u
    obtain ⟨u1, u2, u3, u4, u5, u6, u7, u8⟩ := u
    refine ⟨rfl, u1, u2, u3, u4, u5, fun k hk => ?_, u7, u8⟩
    rw [u6 k hk]
    by_cases k6 : k < 6
    · rw [seeD_6 k6]
    · rw [decide_eq_false k6]; rfl
end UL
