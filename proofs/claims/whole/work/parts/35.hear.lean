/-! HEAR: whose he is; the class's side -/
def msk (p : Nat → Bool) : Nat → Int32
  | 0 => 0
  | n + 1 => if p n then msk p n ||| (1 <<< (Int32.ofNat n &&& 31)) else msk p n
theorem bt_msk {p : Nat → Bool} : ∀ {n k : Nat}, n ≤ 32 → k < 32 → bt (msk p n) k = (decide (k < n) && p k)
  | 0, k, _, _ => by show bt 0 k = _; rw [bt_zero]; simp
  | n + 1, k, hn, hk => by
    unfold msk
    by_cases q : p n
    · rw [if_pos q, bt_set (by omega) hk, bt_msk (by omega) hk]
      by_cases e : k = n
      · subst e; simp [q]
      · rw [decide_eq_false e, Bool.or_false]
        congr 1
        exact decide_eq_decide.mpr (by omega)
    · rw [if_neg q, bt_msk (by omega) hk]
      by_cases e : k = n
      · subst e; simp [q]
      · congr 1
        exact decide_eq_decide.mpr (by omega)
theorem bt_ext {s t : Int32} (h : ∀ k, k < 32 → bt s k = bt t k) : s = t := by
  apply Int32.toBitVec_inj.1
  apply BitVec.eq_of_getLsbD_eq
  intro i hi
  exact h i hi
def syP (V : Sv) (AL : Nat → ALaw) (k : Nat) : Bool := says (pF V k) (AL k).1
def GP (V : Sv) (AL : Nat → ALaw) (PA : Nat → APact) (x k : Nat) : Bool := gwS (syP V AL) (pF V x) (pF V k) (PA (pr x k)).1 x k
def hisP (V : Sv) (AL : Nat → ALaw) (PA : Nat → APact) (x : Nat) : Bool := syP V AL x && !((List.range 6).any fun k => decide (k ≠ x) && GP V AL PA x k)
def whoP (V : Sv) (AL : Nat → ALaw) (PA : Nat → APact) (B : Int) (l : Nat) : Int64 := if hisP V AL PA l then Int64.ofInt (tx (B - (AL l).2.2.1) (AL l).2.1) else 0
def cLaws (h : Hp) (AL : Nat → ALaw) : Prop := ∀ l, l < 6 → ∃ L, hP h 64 l = some L ∧ IsLaw L ∧ cLaw h L (AL l) ∧ okL (AL l)
def cPacts (h : Hp) (PA : Nat → APact) : Prop := ∀ p, p < 15 → ∃ P, hP h 65 p = some P ∧ IsPact P ∧ cPact h P (PA p) ∧ okP (PA p)
def WS (a : Nat) : Prop := 274 ≤ a ∧ a ≤ 300 ∧ a ≠ 275 ∧ a ≠ 282 ∧ a ≠ 292
theorem WS_lo {a : Nat} (h : a < 274) : ¬ WS a := by unfold WS; omega
theorem cLaws.eo {h h' : Hp} {AL : Nat → ALaw} {W : Nat → Prop} (q : cLaws h AL) (e : Eo W h h') (h64 : ¬ W 64) (hW : ∀ a, 91 ≤ a → a < 184 → ¬ W a) : cLaws h' AL := fun l hl => by
  obtain ⟨L, p1, p2, p3, p4⟩ := q l hl
  have := p2.rg
  exact ⟨L, by rw [e.p h64]; exact p1, p2, p3.eo (fun k hk => e.i (hW _ (by omega) (by omega))), p4⟩
theorem cPacts.eo {h h' : Hp} {PA : Nat → APact} {W : Nat → Prop} (q : cPacts h PA) (e : Eo W h h') (h65 : ¬ W 65) (hW : ∀ a, 99 ≤ a → a < 274 → ¬ W a) : cPacts h' PA := fun l hl => by
  obtain ⟨P, p1, p2, p3, p4⟩ := q l hl
  have := p2.rg
  exact ⟨P, by rw [e.p h65]; exact p1, p2, p3.eo (e.i (hW _ (by omega) (by omega))) (e.i (hW _ (by omega) (by omega))) (e.i (hW _ (by omega) (by omega))), p4⟩
theorem cPacts.terms {h : Hp} {PA : Nat → APact} (q : cPacts h PA) : Terms h 65 PA := fun p hp => by
  obtain ⟨P, p1, p2, p3, p4⟩ := q p hp
  exact ⟨P, p1, p2, p3.2.2, p4.2.2⟩
theorem cLaws.rels {h : Hp} {AL : Nat → ALaw} (q : cLaws h AL) : Rels h AL := fun l hl => by
  obtain ⟨L, p1, p2, p3, p4⟩ := q l hl
  exact ⟨L, p1, p2, p3.2.2.2.2.2, p4.2.2.2.2.2⟩
theorem IsStay.rg {s : Nat} (h : IsStay s) : 88 ≤ s ∧ s ≤ 121 := by
  have : ∀ a ∈ [88, 104, 121], 88 ≤ a ∧ a ≤ 121 := by decide
  exact this s h
section HE
variable {X : Ctx} {d s : Nat} {Q : Option Value → Hp → Prop} {V : Sv} {AL : Nat → ALaw} {PA : Nat → APact} {B : Int} {h0 : Hp}
/-- the first loop: who says so -/
def H1 (V : Sv) (AL : Nat → ALaw) (B : Int) (i : Nat) (h0 h : Hp) : Prop := Eo WS h0 h ∧ (∀ k, k < i → fRow h (276 + k) (pF V k)) ∧ hI h 274 14 = msk (syP V AL) i ∧ (∀ k, k < i → hI h 284 k = 0) ∧ hJ h 274 13 = Int64.ofInt B
theorem hear1 (hs : IsStay s) (hV : cSv h0 s V) (hL : cLaws h0 AL) {v2 v3 v4 v6 : Option Value} : ∀ (c i : Nat) (h : Hp), i + c = 6 → Inv h → H1 V AL B i h0 h →
    (∀ h', Inv h' → H1 V AL B 6 h0 h' → Wp (sem (X, K X (d + 4)) 13 67 [some (.ref 274), some (.ref s), v2, v3, v4, some (.int 0), v6] [] h') Q) →
    Wp (sem (X, K X (d + 4)) 13 13 [some (.ref 274), some (.ref s), v2, v3, v4, some (.int (Int32.ofNat i)), v6] [] h) Q
  | 0, i, h, e, I, u, q => by
    have e : i = 6 := by omega
    subst e
    rw [b_13_13]
    refine w_ift ((i_le (m := 6) (by omega) (by omega)).mpr (by omega)) ?_
    exact q h I u
  | c + 1, i, h, e, I, u, q => by
    have hi : i < 6 := by omega
    have sr := hs.rg
    obtain ⟨u1, u2, u3, u4, u5⟩ := u
    rw [b_13_13]
    refine w_iff (fun z => absurd ((i_le (m := 6) (by omega) (by omega)).mp z) (by omega)) ?_
    rw [i32_ofNat_succ]
    refine w_gS I s_274 ?_
    obtain ⟨L, p1, p2, p3, p4⟩ := (hL.eo u1 (WS_lo (by decide)) (fun a _ ha => WS_lo (by omega))) i hi
    refine w_bI I (m_12 I hs hi (hV.eo (u1.i (WS_lo (by omega))) (u1.i (WS_lo (by omega)))) p1 p2 p3 p4) (by decide) rfl fun x h1 I1 p => ?_
    obtain ⟨rfl, r1, r2⟩ := p
    have E1 : Eo WS h0 h1 := u1.tr (r2.wk fun a z => by unfold WS; rcases z with z | z <;> omega)
    have e274 : hI h1 274 = hI h 274 := r2.i (by omega)
    have j274 : hJ h1 274 = hJ h 274 := r2.j (by omega)
    have fin : ∀ (v : Int32), v = msk (syP V AL) (i + 1) → Inv (sI (sI h1 274 14 v) 284 i 0) → H1 V AL B (i + 1) h0 (sI (sI h1 274 14 v) 284 i 0) := fun v hv _ => by
      refine ⟨(E1.kI (by unfold WS; omega)).kI (by unfold WS; omega), fun k hk => ?_, ?_, fun k hk => ?_, ?_⟩
      · rw [show (fRow (sI (sI h1 274 14 v) 284 i 0) (276 + k) (pF V k)) = fRow h1 (276 + k) (pF V k) from by unfold fRow; rw [sI_other (by omega), sI_other (by omega)]]
        by_cases y : k = i
        · subst y; exact r1
        · exact (u2 k (by omega)).eo (r2.i (by omega))
      · rw [sI_other (by decide), hI_sI_self, up1, if_pos rfl]; exact hv
      · rw [hI_sI_self, up1]
        by_cases y : k = i
        · rw [if_pos y]
        · rw [if_neg y, sI_other (by decide), r2.i (by omega)]; exact u4 k (by omega)
      · show hJ h1 274 13 = _
        rw [j274]; exact u5
    refine w_if (fun c0 => ?_) (fun c0 => ?_)
    · have c0 : syP V AL i = false := bi_0.mp c0
      refine w_gI I1 s_274 ?_
      refine w_fI I1 s_274 fun I => ?_
      refine w_gL I s_274 l_274_4 ?_
      refine w_wIn I s_284 hi (by decide) fun I => ?_
      refine hear1 hs hV hL c (i + 1) _ (by omega) I (fin _ ?_ I) q
      rw [e274, u3]
      show _ = if syP V AL i then _ else _
      rw [c0]; rfl
    · have c0 : syP V AL i = true := by cases z : syP V AL i; exact absurd (by show bi (syP V AL i) = 0; rw [z]; rfl) c0; rfl
      refine w_gI I1 s_274 ?_
      refine w_fI I1 s_274 fun I => ?_
      refine w_gL I s_274 l_274_4 ?_
      refine w_wIn I s_284 hi (by decide) fun I => ?_
      refine hear1 hs hV hL c (i + 1) _ (by omega) I (fin _ ?_ I) q
      rw [e274, u3]
      show _ = if syP V AL i then _ else _
      rw [c0]; rfl
/-- the pairs: who gives way to whom -/
abbrev dq (a b x k : Nat) : Prop := min x k < a ∨ (min x k = a ∧ max x k < b)
def H2 (V : Sv) (AL : Nat → ALaw) (PA : Nat → APact) (B : Int) (a b : Nat) (h0 h : Hp) : Prop := Eo WS h0 h ∧ (∀ k, k < 6 → fRow h (276 + k) (pF V k)) ∧ hI h 274 14 = msk (syP V AL) 6 ∧ hJ h 274 13 = Int64.ofInt B ∧
  (∀ x, x < 6 → ∀ k, k < 32 → bt (hI h 284 x) k = (decide (k < 6 ∧ k ≠ x ∧ dq a b x k) && GP V AL PA x k))
theorem hear2b (hP0 : cPacts h0 PA) {v1 v3 v4 : Option Value} {a : Nat} (ha : a < 6) : ∀ (c b : Nat) (h : Hp), b + c = 6 → a < b → Inv h → H2 V AL PA B a b h0 h →
    (∀ h', Inv h' → H2 V AL PA B (a + 1) (a + 2) h0 h' → Wp (sem (X, K X (d + 4)) 13 67 [some (.ref 274), v1, some (.ref 65), v3, v4, some (.int (Int32.ofNat (a + 1))), some (.int 6)] [] h') Q) →
    Wp (sem (X, K X (d + 4)) 13 80 [some (.ref 274), v1, some (.ref 65), v3, v4, some (.int (Int32.ofNat a)), some (.int (Int32.ofNat b))] [] h) Q
  | 0, b, h, e, hab, I, u, q => by
    have e : b = 6 := by omega
    subst e
    rw [b_13_80]
    refine w_ift ((i_le (m := 6) (by omega) (by omega)).mpr (by omega)) ?_
    rw [i32_ofNat_succ]
    obtain ⟨u1, u2, u3, u4, u5⟩ := u
    refine q h I ⟨u1, u2, u3, u4, fun x hx k hk => ?_⟩
    rw [u5 x hx k hk]
    congr 1
    exact decide_eq_decide.mpr (by unfold dq; omega)
  | c + 1, b, h, e, hab, I, u, q => by
    have hb : b < 6 := by omega
    obtain ⟨u1, u2, u3, u4, u5⟩ := u
    have hpr := pr_lt a ha b hb (by omega)
    rw [b_13_80]
    refine w_iff (fun z => absurd ((i_le (m := 6) (by omega) (by omega)).mp z) (by omega)) ?_
    rw [i32_ofNat_succ]
    refine w_eI (m_141 ha hb (by omega)) ?_
    obtain ⟨P, t1, t2, t3, t4⟩ := (hP0.eo u1 (WS_lo (by decide)) (fun a _ ha => WS_lo (by omega))) (pr a b) hpr
    refine w_aRn I s_65 (by decide) (by decide) hpr (by decide) t1 ?_
    refine w_gS I s_274 ?_
    refine w_bV I (m_14 (sy := syP V AL) I t2 ha hb (by omega) (fun k hk => by rw [u3, bt_msk (by decide) (by omega), decide_eq_true hk]; rfl) (u2 a ha) (u2 b hb) t3.1 t3.2.1 t4.1) (by decide) rfl fun h1 I1 p => ?_
    obtain ⟨p1, p2, p3, p4⟩ := p
    refine hear2b hP0 ha c (b + 1) h1 (by omega) (by omega) I1 ⟨u1.tr (p1.wk fun a z => by unfold WS; omega), fun k hk => (u2 k hk).eo (p1.i (by omega)), by rw [p1.i (by decide)]; exact u3, by rw [p1.j (by decide)]; exact u4, fun x hx k hk => ?_⟩ q
    by_cases xa : x = a
    · subst xa
      rw [p3 k hk, u5 x hx k hk]
      by_cases kb : k = b
      · subst kb
        rw [decide_eq_true rfl, decide_eq_true (show k < 6 ∧ k ≠ x ∧ dq x (k + 1) x k by unfold dq; omega), Bool.true_and, Bool.true_and]
        show (_ && GP V AL PA x k || GP V AL PA x k) = _
        cases GP V AL PA x k <;> simp
      · rw [decide_eq_false kb, Bool.false_and, Bool.or_false]
        congr 1
        exact decide_eq_decide.mpr (by unfold dq; omega)
    · by_cases xb : x = b
      · subst xb
        rw [p4 k hk, u5 x hx k hk]
        by_cases ka : k = a
        · subst ka
          rw [decide_eq_true rfl, decide_eq_true (show k < 6 ∧ k ≠ x ∧ dq k (x + 1) x k by unfold dq; omega), Bool.true_and, Bool.true_and]
          have eg : gwS (syP V AL) (pF V x) (pF V k) (PA (pr k x)).1 x k = GP V AL PA x k := by unfold GP; rw [pr_comm x hx k ha]
          rw [eg]
          cases GP V AL PA x k <;> simp
        · rw [decide_eq_false ka, Bool.false_and, Bool.or_false]
          congr 1
          exact decide_eq_decide.mpr (by unfold dq; omega)
      · rw [p2 x hx xa xb, u5 x hx k hk]
        congr 1
        exact decide_eq_decide.mpr (by unfold dq; omega)
theorem hear2 (hP0 : cPacts h0 PA) {v1 v3 v4 : Option Value} : ∀ (c a : Nat) (h : Hp) (v6 : Option Value), a + c = 6 → Inv h → H2 V AL PA B a (a + 1) h0 h →
    (∀ h' v6, Inv h' → H2 V AL PA B 6 7 h0 h' → Wp (sem (X, K X (d + 4)) 13 124 [some (.ref 274), v1, some (.ref 65), v3, v4, some (.int 0), v6] [] (sI h' 274 15 0)) Q) →
    Wp (sem (X, K X (d + 4)) 13 67 [some (.ref 274), v1, some (.ref 65), v3, v4, some (.int (Int32.ofNat a)), v6] [] h) Q
  | 0, a, h, v6, e, I, u, q => by
    have e : a = 6 := by omega
    subst e
    rw [b_13_67]
    refine w_ift ((i_le (m := 6) (by omega) (by omega)).mpr (by omega)) ?_
    refine w_fI I s_274 fun I1 => ?_
    exact q h v6 I u
  | c + 1, a, h, v6, e, I, u, q => by
    rw [b_13_67]
    refine w_iff (fun z => absurd ((i_le (m := 6) (by omega) (by omega)).mp z) (by omega)) ?_
    rw [i32_ofNat_succ]
    refine hear2b hP0 (by omega) (5 - a) (a + 1) h (by omega) (by omega) I u fun h' I' u' => ?_
    exact hear2 hP0 c (a + 1) h' _ (by omega) I' u' q
/-- whose he is, and the whole tax -/
def H3 (V : Sv) (AL : Nat → ALaw) (PA : Nat → APact) (B : Int) (i : Nat) (h0 h : Hp) : Prop := Eo WS h0 h ∧ (∀ k, k < 6 → fRow h (276 + k) (pF V k)) ∧ hI h 274 14 = msk (syP V AL) 6 ∧ hJ h 274 13 = Int64.ofInt B ∧
  (∀ x, x < 6 → ∀ k, k < 32 → bt (hI h 284 x) k = (decide (k < 6 ∧ k ≠ x) && GP V AL PA x k)) ∧ hI h 274 15 = msk (hisP V AL PA) i ∧ (∀ k, k < i → hJ h 287 k = whoP V AL PA B k)
def HearP (V : Sv) (AL : Nat → ALaw) (PA : Nat → APact) (B : Int) (h0 h : Hp) : Prop := Eo WS h0 h ∧ (∀ k, k < 6 → fRow h (276 + k) (pF V k)) ∧ hI h 274 14 = msk (syP V AL) 6 ∧ hJ h 274 13 = Int64.ofInt B ∧
  (∀ x, x < 6 → ∀ k, k < 32 → bt (hI h 284 x) k = (decide (k < 6 ∧ k ≠ x) && GP V AL PA x k)) ∧ hI h 274 15 = msk (hisP V AL PA) 6 ∧ (∀ k, k < 6 → hJ h 287 k = whoP V AL PA B k) ∧
  (∃ g, H3 V AL PA B 6 h0 g ∧ UnderP AL PA (hisP V AL PA) 65 g h)
theorem hear3 (hL : cLaws h0 AL) (hP0 : cPacts h0 PA) (hB : 0 ≤ B ∧ B ≤ 99999999) {v1 v3 v4 v6 : Option Value} : ∀ (c i : Nat) (h : Hp), i + c = 6 → Inv h → H3 V AL PA B i h0 h →
    Wp (sem (X, K X (d + 4)) 13 124 [some (.ref 274), v1, some (.ref 65), v3, v4, some (.int (Int32.ofNat i)), v6] [] h) (VV fun h' => HearP V AL PA B h0 h')
  | 0, i, h, e, I, u => by
    have e : i = 6 := by omega
    subst e
    have u0 := u
    obtain ⟨u1, u2, u3, u4, u5, u6, u7⟩ := u
    rw [b_13_124]
    refine w_ift ((i_le (m := 6) (by omega) (by omega)).mpr (by omega)) ?_
    refine w_gS I s_274 ?_
    refine w_bV I (m_16 (his := hisP V AL PA) I s_65 (by decide) ((hP0.eo u1 (WS_lo (by decide)) (fun a _ ha => WS_lo (by omega))).terms) ((hL.eo u1 (WS_lo (by decide)) (fun a _ ha => WS_lo (by omega))).rels) (fun k hk => by rw [u6, bt_msk (by decide) (by omega), decide_eq_true hk]; rfl)) (by decide) rfl fun h1 I1 p => ?_
    have p0 := p
    obtain ⟨p1, p2, p3, p4, p5, p6, p7, p8⟩ := p
    refine Wp.retv ⟨u1.tr (p1.wk fun a z => by unfold W3 at z; unfold WS; omega), fun k hk => (u2 k hk).eo (p1.i (by unfold W3; omega)), by rw [p5 14 (by decide)]; exact u3, by rw [p4]; exact u4, fun x hx k hk => by rw [p1.i (by unfold W3; omega)]; exact u5 x hx k hk, by rw [p5 15 (by decide)]; exact u6, fun k hk => by rw [p4]; exact u7 k hk, h, u0, p0⟩
  | c + 1, i, h, e, I, u => by
    have hi : i < 6 := by omega
    obtain ⟨u1, u2, u3, u4, u5, u6, u7⟩ := u
    have go : ∀ (v : Int32), v = msk (hisP V AL PA) (i + 1) → Wp (sem (X, K X (d + 4)) 13 171 [some (.ref 274), v1, some (.ref 65), v3, v4, some (.int (Int32.ofNat i)), v6] [.int v, .ref 274] h) (VV fun h' => HearP V AL PA B h0 h') := by
      intro v hv
      rw [b_13_171]
      refine w_fI I s_274 fun I1 => ?_
      refine w_gL I1 s_274 l_274_7 ?_
      refine w_gI I1 s_274 ?_
      refine w_eI (m_has (by omega)) ?_
      have eb : bt (hI (sI h 274 15 v) 274 15) i = hisP V AL PA i := by
        rw [hI_sI_self, up1, if_pos rfl, hv, bt_msk (by omega) (by omega), decide_eq_true (Nat.lt_succ_self i)]; rfl
      rw [eb, i32_ofNat_succ]
      have fin : ∀ w, w = whoP V AL PA B i → H3 V AL PA B (i + 1) h0 (sJ (sI h 274 15 v) 287 i w) := fun w hw => by
        refine ⟨(u1.kI (by unfold WS; omega)).kJ (by unfold WS; omega), fun k hk => (u2 k hk).eo (sI_other (by omega)), ?_, ?_, fun x hx k hk => ?_, ?_, fun k hk => ?_⟩
        · show hI (sI h 274 15 v) 274 14 = _
          rw [hI_sI_self, up1, if_neg (by decide)]; exact u3
        · rw [hJ_sJ_ne (by decide)]; exact u4
        · show bt (hI (sI h 274 15 v) 284 x) k = _
          rw [sI_other (by decide)]; exact u5 x hx k hk
        · show hI (sI h 274 15 v) 274 15 = _
          rw [hI_sI_self, up1, if_pos rfl]; exact hv
        · rw [hJ_sJ_self, up1]
          by_cases y : k = i
          · rw [if_pos y, y]; exact hw
          · rw [if_neg y]; exact u7 k (by omega)
      refine w_if (fun c0 => ?_) (fun c0 => ?_)
      · refine w_wJn I1 s_287 hi (by decide) fun I2 => ?_
        refine hear3 hL hP0 hB c (i + 1) _ (by omega) I2 (fin _ ?_)
        unfold whoP; rw [bi_0.mp c0]; rfl
      · have c1 : hisP V AL PA i = true := by cases z : hisP V AL PA i; rw [z] at c0; exact absurd rfl c0; rfl
        obtain ⟨L, p1, p2, p3, p4⟩ := (hL.eo (u1.kI (a := 274) (k := 15) (v := v) (by unfold WS; omega)) (WS_lo (by decide)) (fun a _ ha => WS_lo (by omega))) i hi
        refine w_gL I1 s_274 l_274_0 ?_
        refine w_aRn I1 s_64 (by decide) (by decide) hi (by decide) p1 ?_
        refine w_gJ I1 s_274 ?_
        refine w_gS I1 p2.s ?_
        show Wp (bJ (K X (d + 4) 8 [.ref L, .long (hJ h 274 13)] (sI h 274 15 v)) _) _
        rw [u4]
        refine w_eJ (m_8 I1 p2 p3 p4 hB) ?_
        refine w_wJn I1 s_287 hi (by decide) fun I2 => ?_
        refine hear3 hL hP0 hB c (i + 1) _ (by omega) I2 (fin _ ?_)
        unfold whoP; rw [c1]; rfl
    rw [b_13_124]
    refine w_iff (fun z => absurd ((i_le (m := 6) (by omega) (by omega)).mp z) (by omega)) ?_
    refine w_gI I s_274 ?_
    refine w_eI (m_has (by omega)) ?_
    rw [u3, bt_msk (by decide) (by omega), decide_eq_true hi, Bool.true_and]
    have z0 : hI h 284 i = 0 ↔ ((List.range 6).any fun k => decide (k ≠ i) && GP V AL PA i k) = false := by
      constructor
      · intro z
        rw [any6]
        have w : ∀ k, k < 6 → (decide (k ≠ i) && GP V AL PA i k) = false := fun k hk => by
          have := u5 i hi k (by omega)
          rw [z, bt_zero] at this
          rw [this]
          congr 1
          exact decide_eq_decide.mpr (by omega)
        rw [w 0 (by decide), w 1 (by decide), w 2 (by decide), w 3 (by decide), w 4 (by decide), w 5 (by decide)]; rfl
      · intro z
        apply bt_ext
        intro k hk
        rw [bt_zero, u5 i hi k hk]
        by_cases k6 : k < 6
        · have := List.any_eq_false.mp z k (List.mem_range.mpr k6)
          cases y : decide (k < 6 ∧ k ≠ i)
          · rfl
          · have y := of_decide_eq_true y
            rw [decide_eq_true y.2] at this
            simpa using this
        · rw [decide_eq_false (by omega)]; rfl
    refine w_if (fun c0 => ?_) (fun c0 => ?_)
    · refine w_gI I s_274 ?_
      refine go _ ?_
      rw [u6]
      show _ = if hisP V AL PA i then _ else _
      unfold hisP; rw [bi_0.mp c0]; rfl
    · have c1 : syP V AL i = true := by cases z : syP V AL i; rw [z] at c0; exact absurd rfl c0; rfl
      refine w_gL I s_274 l_274_4 ?_
      refine w_aIn I s_284 hi (by decide) ?_
      refine w_if (fun c2 => ?_) (fun c2 => ?_)
      · have c3 : ((List.range 6).any fun k => decide (k ≠ i) && GP V AL PA i k) = true := by
          cases z : ((List.range 6).any fun k => decide (k ≠ i) && GP V AL PA i k)
          · exact absurd (z0.mpr z) c2
          · rfl
        refine w_gI I s_274 ?_
        refine go _ ?_
        rw [u6]
        show _ = if hisP V AL PA i then _ else _
        unfold hisP; rw [c1, c3]; rfl
      · have c3 := z0.mp (Classical.byContradiction c2)
        refine w_gI I s_274 ?_
        refine go _ ?_
        rw [u6]
        show _ = if hisP V AL PA i then _ else _
        unfold hisP; rw [c1, c3]; rfl
theorem m_13 (I : Inv h0) (hs : IsStay s) (hV : cSv h0 s V) (hL : cLaws h0 AL) (hP0 : cPacts h0 PA) (hB : 0 ≤ B ∧ B ≤ 99999999) :
    Wp (K X (d + 5) 13 [.ref 274, .ref s, .ref 65, .long (Int64.ofInt B)] h0) (VV fun h' => HearP V AL PA B h0 h') := by
  rw [k_13]
  refine w_fJ I s_274 fun I => ?_
  refine w_fI I s_274 fun I => ?_
  refine hear1 (B := B) (h0 := h0) hs hV hL 6 0 _ (by omega) I ⟨(Eo.rf.kJ (by unfold WS; omega)).kI (by unfold WS; omega), fun k hk => absurd hk (by omega), ?_, fun k hk => absurd hk (by omega), ?_⟩ ?_
  · rw [hI_sI_self, up1, if_pos rfl]; rfl
  · show hJ (sJ h0 274 13 (Int64.ofInt B)) 274 13 = _
    rw [hJ_sJ_self, up1, if_pos rfl]
  · intro h1 I1 u
    obtain ⟨u1, u2, u3, u4, u5⟩ := u
    refine hear2 (V := V) (AL := AL) (B := B) (h0 := h0) hP0 6 0 h1 none (by omega) I1 ⟨u1, u2, u3, u5, fun x hx k hk => ?_⟩ ?_
    · rw [u4 x hx, bt_zero, decide_eq_false (by unfold dq; omega)]; rfl
    · intro h2 v6 I2 w
      obtain ⟨w1, w2, w3, w4, w5⟩ := w
      refine hear3 hL hP0 hB 6 0 _ (by omega) I2.sI ⟨w1.kI (by unfold WS; omega), fun k hk => (w2 k hk).eo (sI_other (by omega)), ?_, w4, fun x hx k hk => ?_, ?_, fun k hk => absurd hk (by omega)⟩
      · rw [hI_sI_self, up1, if_neg (by decide)]; exact w3
      · rw [sI_other (by decide), w5 x hx k hk]
        congr 1
        exact decide_eq_decide.mpr (by unfold dq; omega)
      · rw [hI_sI_self, up1, if_pos rfl]; rfl
end HE
