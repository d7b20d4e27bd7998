/-! TEXT: the model's tokens -/
def mt (c : Nat) : Nat := if c < 8 then 61 + c else if c < 14 then 32 + c else if c < 19 then 6 + c else if c < 29 then [3, 7, 8, 4, 5, 6, 25, 26, 27, 28].getD (c - 19) 0 else if c = 100 then 2 else if c = 101 then 0 else if c = 102 then 1 else 100 + c
def Tm (T : Nat → Nat) (L : Nat) (h : Hp) : Prop := hI h 301 35 = Int32.ofNat L ∧ (∀ k, k < L → hI h 332 k = Int32.ofNat (T k)) ∧ L ≤ 600 ∧ ∀ k, T k < 256
def seeV (T : Nat → Nat) (L p : Nat) : Int32 := if p < L then Int32.ofNat (T p) else -1
/-- token t is the one at hand -/
def LXt (h : Hp) (t : Nat × Nat × Nat × Nat) : Prop := hI h 301 37 = Int32.ofNat (mt t.1) ∧ hI h 301 38 = Int32.ofNat t.2.1 ∧ (t.1 = 100 → hI h 301 39 = Int32.ofNat t.2.2.1) ∧ hI h 301 36 = Int32.ofNat t.2.2.2
/-- what the lexer leaves alone -/
def LF (h h' : Hp) : Prop := Eo (fun a => a = 301) h h' ∧ ∀ k, (k < 36 ∨ 39 < k) → hI h' 301 k = hI h 301 k
theorem LF.rf {h : Hp} : LF h h := ⟨Eo.rf, fun _ _ => rfl⟩
theorem LF.tr {h h' h'' : Hp} (a : LF h h') (b : LF h' h'') : LF h h'' := ⟨a.1.tr b.1, fun k hk => (b.2 k hk).trans (a.2 k hk)⟩
theorem LF.set {h h' : Hp} {k : Nat} {v : Int32} (a : LF h h') (hk : 36 ≤ k ∧ k ≤ 39) : LF h (sI h' 301 k v) := ⟨a.1.kI rfl, fun j hj => by rw [hI_sI_self, up1, if_neg (by omega)]; exact a.2 j hj⟩
theorem Tm.lf {T : Nat → Nat} {L : Nat} {h h' : Hp} (q : Tm T L h) (e : LF h h') : Tm T L h' := ⟨by rw [e.2 35 (by omega)]; exact q.1, fun k hk => by rw [e.1.i (by decide)]; exact q.2.1 k hk, q.2.2⟩
theorem mle_k : ∀ c, c < 256 → (decide (¬ Int32.ofNat c < 97 ∧ ¬ (122 : Int32) < Int32.ofNat c) || decide (¬ Int32.ofNat c < 65 ∧ ¬ (90 : Int32) < Int32.ofNat c)) = isLe c := by decide +kernel
theorem mdi_k : ∀ c, c < 256 → decide (¬ Int32.ofNat c < 48 ∧ ¬ (57 : Int32) < Int32.ofNat c) = isDi c := by decide +kernel
def seeLe (T : Nat → Nat) (L p : Nat) : Bool := decide (p < L) && isLe (T p)
def seeDi (T : Nat → Nat) (L p : Nat) : Bool := decide (p < L) && isDi (T p)
theorem bsN_eq {T : Nat → Nat} {q e : Nat} {l : List Nat} : bsN T q e = l ↔ (e - q = l.length ∧ ∀ j, j < l.length → T (q + j) = l.getD j 0) := by
  unfold bsN
  constructor
  · rintro rfl
    refine ⟨by rw [List.length_map, List.length_range], fun j hj => ?_⟩
    rw [List.length_map, List.length_range] at hj
    rw [List.getD_eq_getElem?_getD, List.getElem?_map, List.getElem?_range hj]; rfl
  · rintro ⟨h1, h2⟩
    refine List.ext_getElem (by rw [List.length_map, List.length_range, h1]) fun j h3 h4 => ?_
    rw [List.getElem_map, List.getElem_range, h2 j h4, List.getD_eq_getElem?_getD, List.getElem?_eq_getElem h4]; rfl
section LM
variable {X : Ctx} {d : Nat} {Q : Option Value → Hp → Prop} {T : Nat → Nat} {L : Nat} {h : Hp}
theorem m_153 {p : Nat} (I : Inv h) (q : Tm T L h) (hp : p < 2147483648) : K X (d + 1) 153 [.ref 301, .int (Int32.ofNat p)] h = some (some (.int (seeV T L p)), h) := by
  have l6 := q.2.2.1
  refine Wp.eqI ?_
  rw [k_153]
  refine w_gI I s_301 ?_
  rw [q.1]
  unfold seeV
  refine w_if (fun c => ?_) (fun c => ?_)
  · rw [if_neg (by have := (i_le (by omega) hp).mp c; omega)]
    exact Wp.reti ⟨rfl, rfl⟩
  · have hl : p < L := Nat.lt_of_not_le fun z => c ((i_le (by omega) hp).mpr z)
    rw [if_pos hl]
    refine w_gL I s_301 l_301_30 ?_
    refine w_aIn I s_332 (by omega) (by decide) ?_
    exact Wp.reti ⟨q.2.1 p hl, rfl⟩
theorem m_154 {p : Nat} (q : Tm T L h) : K X (d + 2) 154 [.int (seeV T L p)] h = some (some (.int (bi (seeLe T L p))), h) := by
  refine Wp.eqI ?_
  have key : (decide (¬ seeV T L p < 97 ∧ ¬ (122 : Int32) < seeV T L p) || decide (¬ seeV T L p < 65 ∧ ¬ (90 : Int32) < seeV T L p)) = seeLe T L p := by
    unfold seeV seeLe
    by_cases z : p < L
    · rw [if_pos z, decide_eq_true z, Bool.true_and]; exact mle_k _ (q.2.2.2 p)
    · rw [if_neg z, decide_eq_false z, Bool.false_and]; decide
  rw [k_154]
  refine w_eI m_142 ?_
  rw [← key]
  cases decide (¬ seeV T L p < 97 ∧ ¬ (122 : Int32) < seeV T L p)
  · refine w_iff (by decide) ?_
    refine w_eI m_142 ?_
    cases decide (¬ seeV T L p < 65 ∧ ¬ (90 : Int32) < seeV T L p)
    · exact w_ift (by decide) (Wp.reti ⟨rfl, rfl⟩)
    · exact w_iff (by decide) (Wp.reti ⟨rfl, rfl⟩)
  · exact w_ift (by decide) (Wp.reti ⟨rfl, rfl⟩)
theorem bi_ok (b : Bool) : okN .boolean (bi b) := by cases b <;> decide
theorem m_155 {p : Nat} (q : Tm T L h) : K X (d + 2) 155 [.int (seeV T L p)] h = some (some (.int (bi (seeDi T L p))), h) := by
  refine Wp.eqI ?_
  have key : decide (¬ seeV T L p < 48 ∧ ¬ (57 : Int32) < seeV T L p) = seeDi T L p := by
    unfold seeV seeDi
    by_cases z : p < L
    · rw [if_pos z, decide_eq_true z, Bool.true_and]; exact mdi_k _ (q.2.2.2 p)
    · rw [if_neg z, decide_eq_false z, Bool.false_and]; decide
  rw [k_155]
  refine w_eI m_142 ?_
  rw [key]
  exact w_gd (bi_ok _) (Wp.reti ⟨rfl, rfl⟩)
theorem c156_24 {x q e : Nat} (hv : X.2.2 = .null ∨ X.2.2 = .ref 61) (hx : 1 ≤ x ∧ x < 31) (I : Inv h) (tm : Tm T L h) (h38 : hI h 301 38 = Int32.ofNat q) (he : e ≤ L) (hq : q ≤ e) : ∀ (c k : Nat), k + c = sLen x →
    sem (X, K X (d + 4)) 156 24 [some (.ref 301), some (.ref x), some (.int (bi (decide (e - q = sLen x ∧ ∀ j, j < k → T (q + j) = sChr x j)))), some (.int (Int32.ofNat k))] [] h = some (some (.int (bi (decide (e - q = sLen x ∧ ∀ j, j < sLen x → T (q + j) = sChr x j)))), h)
  | 0, k, ek => by
    have sl := sLen_lt x
    have ek : k = sLen x := by omega
    refine Wp.eqI ?_
    rw [b_156_24]
    refine w_gd hx ?_
    refine w_eI (s_len hx) ?_
    rw [ek]
    exact w_ift (Int32.le_refl _) (w_gd (bi_ok _) (Wp.reti ⟨rfl, rfl⟩))
  | c + 1, k, ek => by
    have sl := sLen_lt x
    have l6 := tm.2.2.1
    refine Wp.eqI ?_
    rw [b_156_24]
    refine w_gd hx ?_
    refine w_eI (s_len hx) ?_
    refine w_iff (fun z => absurd ((i_le (by omega) (by omega)).mp z) (by omega)) ?_
    refine w_if (fun c0 => ?_) (fun c0 => ?_)
    · have n := bi_dec.mp c0
      refine w_gd (bi_ok _) (Wp.reti ⟨?_, rfl⟩)
      rw [decide_eq_false n, decide_eq_false fun z => n ⟨z.1, fun j hj => z.2 j (by omega)⟩]
    · have y : e - q = sLen x ∧ ∀ j, j < k → T (q + j) = sChr x j := Classical.byContradiction fun z => c0 (bi_dec.mpr z)
      refine w_gL I s_301 l_301_30 ?_
      refine w_gI I s_301 ?_
      rw [h38, i_add]
      refine w_aIn I s_332 (by omega) (by decide) ?_
      rw [tm.2.1 (q + k) (by omega)]
      refine w_gd hx ?_
      refine w_eI (s_chr hv hx (by omega)) ?_
      rw [i32_ofNat_succ]
      have cl := sChr_lt x k
      have tl := tm.2.2.2 (q + k)
      have nxt : ∀ b, b = decide (e - q = sLen x ∧ ∀ j, j < k + 1 → T (q + j) = sChr x j) → Wp (sem (X, K X (d + 4)) 156 24 [some (.ref 301), some (.ref x), some (.int (bi b)), some (.int (Int32.ofNat (k + 1)))] [] h) (VI fun y g => y = bi (decide (e - q = sLen x ∧ ∀ j, j < sLen x → T (q + j) = sChr x j)) ∧ g = h) := fun b hb => by
        rw [hb]
        exact Wp.eq (c156_24 (x := x) hv hx I tm h38 he hq c (k + 1) (by omega)) ⟨_, rfl, rfl, rfl⟩
      refine w_if (fun c1 => ?_) (fun c1 => ?_)
      · refine nxt false (decide_eq_false fun z => c1 ?_).symm
        rw [z.2 k (by omega)]
      · refine nxt true (decide_eq_true ⟨y.1, fun j hj => ?_⟩).symm
        by_cases z : j = k
        · rw [z]; exact (i_eq (by omega) (by omega)).mp (Classical.byContradiction c1)
        · exact y.2 j (by omega)
theorem m_156 {x q e : Nat} (hv : X.2.2 = .null ∨ X.2.2 = .ref 61) (hx : 1 ≤ x ∧ x < 31) (I : Inv h) (tm : Tm T L h) (h36 : hI h 301 36 = Int32.ofNat e) (h38 : hI h 301 38 = Int32.ofNat q) (he : e ≤ L) (hq : q ≤ e) : K X (d + 5) 156 [.ref 301, .ref x] h = some (some (.int (bi (decide (bsN T q e = strB.getD (x - 1) [])))), h) := by
  have sl := sLen_lt x
  have l6 := tm.2.2.1
  have fin : decide (bsN T q e = strB.getD (x - 1) []) = decide (e - q = sLen x ∧ ∀ j, j < sLen x → T (q + j) = sChr x j) := decide_eq_decide.mpr bsN_eq
  have st : ∀ b, b = decide (e - q = sLen x) → Wp (sem (X, K X (d + 4)) 156 24 [some (.ref 301), some (.ref x), some (.int (bi b)), some (.int 0)] [] h) (VI fun y g => y = bi (decide (bsN T q e = strB.getD (x - 1) [])) ∧ g = h) := fun b hb => by
    have e0 : ∀ k, k = 0 → b = decide (e - q = sLen x ∧ ∀ j, j < k → T (q + j) = sChr x j) := fun k hk => by
      rw [hb]; exact decide_eq_decide.mpr ⟨fun z => ⟨z, fun j hj => absurd hj (by omega)⟩, fun z => z.1⟩
    rw [e0 0 rfl, fin]
    exact Wp.eq (c156_24 (x := x) (k := 0) (c := sLen x) hv hx I tm h38 he hq (by omega)) ⟨_, rfl, rfl, rfl⟩
  refine Wp.eqI ?_
  rw [k_156]
  refine w_gI I s_301 ?_
  refine w_gI I s_301 ?_
  refine w_gd hx ?_
  refine w_eI (s_len hx) ?_
  rw [h36, h38, i_sub hq]
  refine w_if (fun c => st false ?_) (fun c => st true ?_)
  · exact (decide_eq_false fun z => c (by rw [z])).symm
  · exact (decide_eq_true ((i_eq (by omega) (by omega)).mp (Classical.byContradiction c))).symm
theorem kwN_102 {bs : List Nat} (n0 : bs ≠ [110, 105, 103, 104, 116, 115]) (n1 : bs ≠ [104, 111, 109, 101]) (n2 : bs ≠ [98, 111, 110, 100]) (n3 : bs ≠ [98, 105, 114, 116, 104]) (n4 : bs ≠ [109, 111, 115, 116]) (n5 : bs ≠ [105, 110]) (n6 : bs ≠ [112, 97, 121, 115]) (n7 : bs ≠ [97, 109, 111, 117, 110, 116]) (n8 : bs ≠ [112, 97, 121]) (n9 : bs ≠ [108, 101, 116]) (n10 : bs ≠ [103, 97, 105, 110]) (n11 : bs ≠ [115, 104, 97, 114, 101]) (n12 : bs ≠ [112, 101, 110, 115, 105, 111, 110]) (n13 : bs ≠ [116, 104, 114, 111, 117, 103, 104]) (n14 : bs ≠ [109, 105, 110, 101]) (n15 : bs ≠ [116, 97, 107, 101]) (n16 : bs ≠ [102, 114, 101, 101]) (n17 : bs ≠ [115, 116, 101, 112]) (n18 : bs ≠ [114, 101, 108, 105, 101, 102]) (n19 : bs ≠ [119, 104, 101, 110]) (n20 : bs ≠ [110, 111]) (n21 : bs ≠ [111, 102, 102]) (n22 : bs ≠ [111, 114]) (n23 : bs ≠ [97, 110, 100]) (n24 : bs ≠ [110, 111, 116]) (n25 : bs ≠ [116, 101, 115, 116]) (n26 : bs ≠ [111, 110, 108, 121]) (n27 : bs ≠ [116, 111, 112]) (n28 : bs ≠ [108, 111, 111, 107]) : kwN bs = 102 := by
  unfold kwN KW
  simp only [kwF]
  rw [if_neg n0, if_neg n1, if_neg n2, if_neg n3, if_neg n4, if_neg n5, if_neg n6, if_neg n7, if_neg n8, if_neg n9, if_neg n10, if_neg n11, if_neg n12, if_neg n13, if_neg n14, if_neg n15, if_neg n16, if_neg n17, if_neg n18, if_neg n19, if_neg n20, if_neg n21, if_neg n22, if_neg n23, if_neg n24, if_neg n25, if_neg n26, if_neg n27, if_neg n28]
theorem m_157 {q e : Nat} (hv : X.2.2 = .null ∨ X.2.2 = .ref 61) (I : Inv h) (tm : Tm T L h) (h36 : hI h 301 36 = Int32.ofNat e) (h38 : hI h 301 38 = Int32.ofNat q) (he : e ≤ L) (hq : q ≤ e) (n14 : bsN T q e ≠ [109, 105, 110, 101]) (n15 : bsN T q e ≠ [116, 97, 107, 101]) (n16 : bsN T q e ≠ [102, 114, 101, 101]) (n17 : bsN T q e ≠ [115, 116, 101, 112]) (n18 : bsN T q e ≠ [114, 101, 108, 105, 101, 102]) (n25 : bsN T q e ≠ [116, 101, 115, 116]) (n26 : bsN T q e ≠ [111, 110, 108, 121]) (n27 : bsN T q e ≠ [116, 111, 112]) (n28 : bsN T q e ≠ [108, 111, 111, 107]) (n19 : bsN T q e ≠ [119, 104, 101, 110]) (n22 : bsN T q e ≠ [111, 114]) (n23 : bsN T q e ≠ [97, 110, 100]) (n24 : bsN T q e ≠ [110, 111, 116]) (n20 : bsN T q e ≠ [110, 111]) (n21 : bsN T q e ≠ [111, 102, 102]) : K X (d + 6) 157 [.ref 301] h = some (some (.int (Int32.ofNat (mt (kwN (bsN T q e))))), h) := by
  refine Wp.eqI ?_
  rw [k_157]
  refine w_gS I s_301 ?_
  refine w_eI (m_156 (x := 17) hv (by decide) I tm h36 h38 he hq) ?_
  refine w_if (fun c8 => ?_) (fun c => Wp.reti ⟨by rw [show bsN T q e = [112, 97, 121] from Classical.byContradiction fun z => c (bi_dec.mpr z)]; decide +kernel, rfl⟩)
  have n8 : bsN T q e ≠ [112, 97, 121] := bi_dec.mp c8
  refine w_gS I s_301 ?_
  refine w_eI (m_156 (x := 18) hv (by decide) I tm h36 h38 he hq) ?_
  refine w_if (fun c9 => ?_) (fun c => Wp.reti ⟨by rw [show bsN T q e = [108, 101, 116] from Classical.byContradiction fun z => c (bi_dec.mpr z)]; decide +kernel, rfl⟩)
  have n9 : bsN T q e ≠ [108, 101, 116] := bi_dec.mp c9
  refine w_gS I s_301 ?_
  refine w_eI (m_156 (x := 19) hv (by decide) I tm h36 h38 he hq) ?_
  refine w_if (fun c10 => ?_) (fun c => Wp.reti ⟨by rw [show bsN T q e = [103, 97, 105, 110] from Classical.byContradiction fun z => c (bi_dec.mpr z)]; decide +kernel, rfl⟩)
  have n10 : bsN T q e ≠ [103, 97, 105, 110] := bi_dec.mp c10
  refine w_gS I s_301 ?_
  refine w_eI (m_156 (x := 20) hv (by decide) I tm h36 h38 he hq) ?_
  refine w_if (fun c11 => ?_) (fun c => Wp.reti ⟨by rw [show bsN T q e = [115, 104, 97, 114, 101] from Classical.byContradiction fun z => c (bi_dec.mpr z)]; decide +kernel, rfl⟩)
  have n11 : bsN T q e ≠ [115, 104, 97, 114, 101] := bi_dec.mp c11
  refine w_gS I s_301 ?_
  refine w_eI (m_156 (x := 21) hv (by decide) I tm h36 h38 he hq) ?_
  refine w_if (fun c12 => ?_) (fun c => Wp.reti ⟨by rw [show bsN T q e = [112, 101, 110, 115, 105, 111, 110] from Classical.byContradiction fun z => c (bi_dec.mpr z)]; decide +kernel, rfl⟩)
  have n12 : bsN T q e ≠ [112, 101, 110, 115, 105, 111, 110] := bi_dec.mp c12
  refine w_gS I s_301 ?_
  refine w_eI (m_156 (x := 22) hv (by decide) I tm h36 h38 he hq) ?_
  refine w_if (fun c13 => ?_) (fun c => Wp.reti ⟨by rw [show bsN T q e = [116, 104, 114, 111, 117, 103, 104] from Classical.byContradiction fun z => c (bi_dec.mpr z)]; decide +kernel, rfl⟩)
  have n13 : bsN T q e ≠ [116, 104, 114, 111, 117, 103, 104] := bi_dec.mp c13
  refine w_gS I s_301 ?_
  refine w_eI (m_156 (x := 23) hv (by decide) I tm h36 h38 he hq) ?_
  refine w_if (fun c0 => ?_) (fun c => Wp.reti ⟨by rw [show bsN T q e = [110, 105, 103, 104, 116, 115] from Classical.byContradiction fun z => c (bi_dec.mpr z)]; decide +kernel, rfl⟩)
  have n0 : bsN T q e ≠ [110, 105, 103, 104, 116, 115] := bi_dec.mp c0
  refine w_gS I s_301 ?_
  refine w_eI (m_156 (x := 24) hv (by decide) I tm h36 h38 he hq) ?_
  refine w_if (fun c1 => ?_) (fun c => Wp.reti ⟨by rw [show bsN T q e = [104, 111, 109, 101] from Classical.byContradiction fun z => c (bi_dec.mpr z)]; decide +kernel, rfl⟩)
  have n1 : bsN T q e ≠ [104, 111, 109, 101] := bi_dec.mp c1
  refine w_gS I s_301 ?_
  refine w_eI (m_156 (x := 25) hv (by decide) I tm h36 h38 he hq) ?_
  refine w_if (fun c2 => ?_) (fun c => Wp.reti ⟨by rw [show bsN T q e = [98, 111, 110, 100] from Classical.byContradiction fun z => c (bi_dec.mpr z)]; decide +kernel, rfl⟩)
  have n2 : bsN T q e ≠ [98, 111, 110, 100] := bi_dec.mp c2
  refine w_gS I s_301 ?_
  refine w_eI (m_156 (x := 26) hv (by decide) I tm h36 h38 he hq) ?_
  refine w_if (fun c3 => ?_) (fun c => Wp.reti ⟨by rw [show bsN T q e = [98, 105, 114, 116, 104] from Classical.byContradiction fun z => c (bi_dec.mpr z)]; decide +kernel, rfl⟩)
  have n3 : bsN T q e ≠ [98, 105, 114, 116, 104] := bi_dec.mp c3
  refine w_gS I s_301 ?_
  refine w_eI (m_156 (x := 27) hv (by decide) I tm h36 h38 he hq) ?_
  refine w_if (fun c4 => ?_) (fun c => Wp.reti ⟨by rw [show bsN T q e = [109, 111, 115, 116] from Classical.byContradiction fun z => c (bi_dec.mpr z)]; decide +kernel, rfl⟩)
  have n4 : bsN T q e ≠ [109, 111, 115, 116] := bi_dec.mp c4
  refine w_gS I s_301 ?_
  refine w_eI (m_156 (x := 28) hv (by decide) I tm h36 h38 he hq) ?_
  refine w_if (fun c5 => ?_) (fun c => Wp.reti ⟨by rw [show bsN T q e = [105, 110] from Classical.byContradiction fun z => c (bi_dec.mpr z)]; decide +kernel, rfl⟩)
  have n5 : bsN T q e ≠ [105, 110] := bi_dec.mp c5
  refine w_gS I s_301 ?_
  refine w_eI (m_156 (x := 29) hv (by decide) I tm h36 h38 he hq) ?_
  refine w_if (fun c6 => ?_) (fun c => Wp.reti ⟨by rw [show bsN T q e = [112, 97, 121, 115] from Classical.byContradiction fun z => c (bi_dec.mpr z)]; decide +kernel, rfl⟩)
  have n6 : bsN T q e ≠ [112, 97, 121, 115] := bi_dec.mp c6
  refine w_gS I s_301 ?_
  refine w_eI (m_156 (x := 30) hv (by decide) I tm h36 h38 he hq) ?_
  refine w_if (fun c7 => ?_) (fun c => Wp.reti ⟨by rw [show bsN T q e = [97, 109, 111, 117, 110, 116] from Classical.byContradiction fun z => c (bi_dec.mpr z)]; decide +kernel, rfl⟩)
  have n7 : bsN T q e ≠ [97, 109, 111, 117, 110, 116] := bi_dec.mp c7
  exact Wp.reti ⟨by rw [kwN_102 n0 n1 n2 n3 n4 n5 n6 n7 n8 n9 n10 n11 n12 n13 n14 n15 n16 n17 n18 n19 n20 n21 n22 n23 n24 n25 n26 n27 n28]; rfl, rfl⟩
theorem m_158 {q e : Nat} (hv : X.2.2 = .null ∨ X.2.2 = .ref 61) (I : Inv h) (tm : Tm T L h) (h36 : hI h 301 36 = Int32.ofNat e) (h38 : hI h 301 38 = Int32.ofNat q) (he : e ≤ L) (hq : q ≤ e) : K X (d + 7) 158 [.ref 301] h = some (some (.int (Int32.ofNat (mt (kwN (bsN T q e))))), h) := by
  refine Wp.eqI ?_
  rw [k_158]
  refine w_gS I s_301 ?_
  refine w_eI (m_156 (d := d + 1) (x := 2) hv (by decide) I tm h36 h38 he hq) ?_
  refine w_if (fun c14 => ?_) (fun c => Wp.reti ⟨by rw [show bsN T q e = [109, 105, 110, 101] from Classical.byContradiction fun z => c (bi_dec.mpr z)]; decide +kernel, rfl⟩)
  have n14 : bsN T q e ≠ [109, 105, 110, 101] := bi_dec.mp c14
  refine w_gS I s_301 ?_
  refine w_eI (m_156 (d := d + 1) (x := 3) hv (by decide) I tm h36 h38 he hq) ?_
  refine w_if (fun c15 => ?_) (fun c => Wp.reti ⟨by rw [show bsN T q e = [116, 97, 107, 101] from Classical.byContradiction fun z => c (bi_dec.mpr z)]; decide +kernel, rfl⟩)
  have n15 : bsN T q e ≠ [116, 97, 107, 101] := bi_dec.mp c15
  refine w_gS I s_301 ?_
  refine w_eI (m_156 (d := d + 1) (x := 4) hv (by decide) I tm h36 h38 he hq) ?_
  refine w_if (fun c16 => ?_) (fun c => Wp.reti ⟨by rw [show bsN T q e = [102, 114, 101, 101] from Classical.byContradiction fun z => c (bi_dec.mpr z)]; decide +kernel, rfl⟩)
  have n16 : bsN T q e ≠ [102, 114, 101, 101] := bi_dec.mp c16
  refine w_gS I s_301 ?_
  refine w_eI (m_156 (d := d + 1) (x := 5) hv (by decide) I tm h36 h38 he hq) ?_
  refine w_if (fun c17 => ?_) (fun c => Wp.reti ⟨by rw [show bsN T q e = [115, 116, 101, 112] from Classical.byContradiction fun z => c (bi_dec.mpr z)]; decide +kernel, rfl⟩)
  have n17 : bsN T q e ≠ [115, 116, 101, 112] := bi_dec.mp c17
  refine w_gS I s_301 ?_
  refine w_eI (m_156 (d := d + 1) (x := 6) hv (by decide) I tm h36 h38 he hq) ?_
  refine w_if (fun c18 => ?_) (fun c => Wp.reti ⟨by rw [show bsN T q e = [114, 101, 108, 105, 101, 102] from Classical.byContradiction fun z => c (bi_dec.mpr z)]; decide +kernel, rfl⟩)
  have n18 : bsN T q e ≠ [114, 101, 108, 105, 101, 102] := bi_dec.mp c18
  refine w_gS I s_301 ?_
  refine w_eI (m_156 (d := d + 1) (x := 7) hv (by decide) I tm h36 h38 he hq) ?_
  refine w_if (fun c25 => ?_) (fun c => Wp.reti ⟨by rw [show bsN T q e = [116, 101, 115, 116] from Classical.byContradiction fun z => c (bi_dec.mpr z)]; decide +kernel, rfl⟩)
  have n25 : bsN T q e ≠ [116, 101, 115, 116] := bi_dec.mp c25
  refine w_gS I s_301 ?_
  refine w_eI (m_156 (d := d + 1) (x := 8) hv (by decide) I tm h36 h38 he hq) ?_
  refine w_if (fun c26 => ?_) (fun c => Wp.reti ⟨by rw [show bsN T q e = [111, 110, 108, 121] from Classical.byContradiction fun z => c (bi_dec.mpr z)]; decide +kernel, rfl⟩)
  have n26 : bsN T q e ≠ [111, 110, 108, 121] := bi_dec.mp c26
  refine w_gS I s_301 ?_
  refine w_eI (m_156 (d := d + 1) (x := 9) hv (by decide) I tm h36 h38 he hq) ?_
  refine w_if (fun c27 => ?_) (fun c => Wp.reti ⟨by rw [show bsN T q e = [116, 111, 112] from Classical.byContradiction fun z => c (bi_dec.mpr z)]; decide +kernel, rfl⟩)
  have n27 : bsN T q e ≠ [116, 111, 112] := bi_dec.mp c27
  refine w_gS I s_301 ?_
  refine w_eI (m_156 (d := d + 1) (x := 10) hv (by decide) I tm h36 h38 he hq) ?_
  refine w_if (fun c28 => ?_) (fun c => Wp.reti ⟨by rw [show bsN T q e = [108, 111, 111, 107] from Classical.byContradiction fun z => c (bi_dec.mpr z)]; decide +kernel, rfl⟩)
  have n28 : bsN T q e ≠ [108, 111, 111, 107] := bi_dec.mp c28
  refine w_gS I s_301 ?_
  refine w_eI (m_156 (d := d + 1) (x := 11) hv (by decide) I tm h36 h38 he hq) ?_
  refine w_if (fun c19 => ?_) (fun c => Wp.reti ⟨by rw [show bsN T q e = [119, 104, 101, 110] from Classical.byContradiction fun z => c (bi_dec.mpr z)]; decide +kernel, rfl⟩)
  have n19 : bsN T q e ≠ [119, 104, 101, 110] := bi_dec.mp c19
  refine w_gS I s_301 ?_
  refine w_eI (m_156 (d := d + 1) (x := 12) hv (by decide) I tm h36 h38 he hq) ?_
  refine w_if (fun c22 => ?_) (fun c => Wp.reti ⟨by rw [show bsN T q e = [111, 114] from Classical.byContradiction fun z => c (bi_dec.mpr z)]; decide +kernel, rfl⟩)
  have n22 : bsN T q e ≠ [111, 114] := bi_dec.mp c22
  refine w_gS I s_301 ?_
  refine w_eI (m_156 (d := d + 1) (x := 13) hv (by decide) I tm h36 h38 he hq) ?_
  refine w_if (fun c23 => ?_) (fun c => Wp.reti ⟨by rw [show bsN T q e = [97, 110, 100] from Classical.byContradiction fun z => c (bi_dec.mpr z)]; decide +kernel, rfl⟩)
  have n23 : bsN T q e ≠ [97, 110, 100] := bi_dec.mp c23
  refine w_gS I s_301 ?_
  refine w_eI (m_156 (d := d + 1) (x := 14) hv (by decide) I tm h36 h38 he hq) ?_
  refine w_if (fun c24 => ?_) (fun c => Wp.reti ⟨by rw [show bsN T q e = [110, 111, 116] from Classical.byContradiction fun z => c (bi_dec.mpr z)]; decide +kernel, rfl⟩)
  have n24 : bsN T q e ≠ [110, 111, 116] := bi_dec.mp c24
  refine w_gS I s_301 ?_
  refine w_eI (m_156 (d := d + 1) (x := 15) hv (by decide) I tm h36 h38 he hq) ?_
  refine w_if (fun c20 => ?_) (fun c => Wp.reti ⟨by rw [show bsN T q e = [110, 111] from Classical.byContradiction fun z => c (bi_dec.mpr z)]; decide +kernel, rfl⟩)
  have n20 : bsN T q e ≠ [110, 111] := bi_dec.mp c20
  refine w_gS I s_301 ?_
  refine w_eI (m_156 (d := d + 1) (x := 16) hv (by decide) I tm h36 h38 he hq) ?_
  refine w_if (fun c21 => ?_) (fun c => Wp.reti ⟨by rw [show bsN T q e = [111, 102, 102] from Classical.byContradiction fun z => c (bi_dec.mpr z)]; decide +kernel, rfl⟩)
  have n21 : bsN T q e ≠ [111, 102, 102] := bi_dec.mp c21
  refine w_gS I s_301 ?_
  refine w_eI (m_157 (d := d) hv I tm h36 h38 he hq n14 n15 n16 n17 n18 n25 n26 n27 n28 n19 n22 n23 n24 n20 n21) ?_
  exact Wp.reti ⟨rfl, rfl⟩
/-- letters -/
theorem c159_76 {q : Nat} {h0 : Hp} {v1 v2 : Option Value} (hv : X.2.2 = .null ∨ X.2.2 = .ref 61) : ∀ (c e : Nat) (h : Hp), e + c = L → q ≤ e → Inv h → Tm T L h → LF h0 h → hI h 301 36 = Int32.ofNat e → hI h 301 38 = Int32.ofNat q →
    Wp (sem (X, K X (d + 7)) 159 76 [some (.ref 301), v1, v2] [] h) (VV fun h' => LF h0 h' ∧ hI h' 301 37 = Int32.ofNat (mt (kwN (bsN T q (rn isLe T L e)))) ∧ hI h' 301 38 = Int32.ofNat q ∧ hI h' 301 36 = Int32.ofNat (rn isLe T L e))
  | c, e, h, ec, hq, I, tm, E, h36, h38 => by
    have l6 := tm.2.2.1
    rw [b_159_76]
    refine w_gI I s_301 ?_
    rw [h36]
    refine w_gS I s_301 ?_
    refine w_eI (m_153 I tm (by omega)) ?_
    refine w_eI (m_154 (d := d + 5) tm) ?_
    refine w_if (fun c0 => ?_) (fun c0 => ?_)
    · have hn : rn isLe T L e = e := rn_n fun z => by
        have := bi_0.mp c0
        unfold seeLe at this
        rw [decide_eq_true z, Bool.true_and] at this
        exact this
      rw [hn]
      refine w_gS I s_301 ?_
      refine w_eI (m_158 (d := d) hv I tm h36 h38 (by omega) hq) ?_
      refine w_fI I s_301 fun I2 => ?_
      refine Wp.retv ⟨E.set (by decide), ?_, ?_, ?_⟩
      · rw [hI_sI_self, up1, if_pos rfl]
      · rw [hI_sI_self, up1, if_neg (by decide)]; exact h38
      · rw [hI_sI_self, up1, if_neg (by decide)]; exact h36
    · have hs : seeLe T L e = true := by cases z : seeLe T L e; rw [z] at c0; exact absurd rfl c0; rfl
      unfold seeLe at hs
      rw [Bool.and_eq_true, decide_eq_true_eq] at hs
      refine w_gI I s_301 ?_
      rw [h36, i32_ofNat_succ]
      refine w_fI I s_301 fun I2 => ?_
      cases c with
      | zero => exact absurd hs.1 (by omega)
      | succ c =>
        rw [rn_y hs.1 hs.2]
        exact c159_76 hv c (e + 1) _ (by omega) (by omega) I2 (tm.lf (LF.rf.set (by decide))) (E.set (by decide)) (by rw [hI_sI_self, up1, if_pos rfl]) (by rw [hI_sI_self, up1, if_neg (by decide)]; exact h38)
  termination_by c => c
/-- digits -/
theorem c159_126 {q : Nat} {h0 : Hp} {v1 v2 : Option Value} : ∀ (c e : Nat) (h : Hp), e + c = L → q ≤ e → (∀ j, q ≤ j → j < e → isDi (T j) = true) → Inv h → Tm T L h → LF h0 h → hI h 301 36 = Int32.ofNat e → hI h 301 38 = Int32.ofNat q → hI h 301 39 = Int32.ofNat (nmG T q (min (e - q) 6)) →
    Wp (sem (X, K X (d + 7)) 159 126 [some (.ref 301), v1, v2] [] h) (VV fun h' => LF h0 h' ∧ hI h' 301 37 = Int32.ofNat (if rn isDi T L e - q ≤ 6 then 2 else 1) ∧ hI h' 301 38 = Int32.ofNat q ∧ hI h' 301 36 = Int32.ofNat (rn isDi T L e) ∧ hI h' 301 39 = Int32.ofNat (nmG T q (min (rn isDi T L e - q) 6)))
  | c, e, h, ec, hq, al, I, tm, E, h36, h38, h39 => by
    have l6 := tm.2.2.1
    rw [b_159_126]
    refine w_gI I s_301 ?_
    rw [h36]
    refine w_gS I s_301 ?_
    refine w_eI (m_153 I tm (by omega)) ?_
    refine w_eI (m_155 (d := d + 5) tm) ?_
    refine w_if (fun c0 => ?_) (fun c0 => ?_)
    · have hn : rn isDi T L e = e := rn_n fun z => by
        have := bi_0.mp c0
        unfold seeDi at this
        rw [decide_eq_true z, Bool.true_and] at this
        exact this
      rw [hn]
      refine w_gI I s_301 ?_
      refine w_gI I s_301 ?_
      rw [h36, h38, i_sub hq]
      have fin : ∀ v : Int32, v = Int32.ofNat (if e - q ≤ 6 then 2 else 1) → Wp (fI h 11 301 37 v fun h3 => some (none, h3)) (VV fun h' => LF h0 h' ∧ hI h' 301 37 = Int32.ofNat (if e - q ≤ 6 then 2 else 1) ∧ hI h' 301 38 = Int32.ofNat q ∧ hI h' 301 36 = Int32.ofNat e ∧ hI h' 301 39 = Int32.ofNat (nmG T q (min (e - q) 6))) := fun v ev => by
        refine w_fI I s_301 fun I2 => ?_
        refine Wp.retv ⟨E.set (by decide), ?_, ?_, ?_, ?_⟩
        · rw [hI_sI_self, up1, if_pos rfl]; exact ev
        · rw [hI_sI_self, up1, if_neg (by decide)]; exact h38
        · rw [hI_sI_self, up1, if_neg (by decide)]; exact h36
        · rw [hI_sI_self, up1, if_neg (by decide)]; exact h39
      refine w_if (fun c1 => fin 1 ?_) (fun c1 => fin 2 ?_)
      · rw [if_neg (by have := (i_le (m := 7) (by omega) (by omega)).mp c1; omega)]; rfl
      · rw [if_pos (by have : ¬ 7 ≤ e - q := fun z => c1 ((i_le (m := 7) (by omega) (by omega)).mpr z); omega)]; rfl
    · have hs : seeDi T L e = true := by cases z : seeDi T L e; rw [z] at c0; exact absurd rfl c0; rfl
      unfold seeDi at hs
      rw [Bool.and_eq_true, decide_eq_true_eq] at hs
      have dl := isDi_le hs.2
      have al' : ∀ j, q ≤ j → j < e + 1 → isDi (T j) = true := fun j h1 h2 => by
        by_cases z : j = e
        · rw [z]; exact hs.2
        · exact al j h1 (by omega)
      cases c with
      | zero => exact absurd hs.1 (by omega)
      | succ c =>
        rw [rn_y hs.1 hs.2]
        refine w_gI I s_301 ?_
        refine w_gI I s_301 ?_
        have e6 : Int32.ofNat q + 6 = Int32.ofNat (q + 6) := i_add q 6
        rw [h36, h38, e6]
        refine w_if (fun c1 => ?_) (fun c1 => ?_)
        · have g6 := (i_le (by omega) (by omega)).mp c1
          refine w_gI I s_301 ?_
          rw [h36, i32_ofNat_succ]
          refine w_fI I s_301 fun I2 => ?_
          refine c159_126 c (e + 1) _ (by omega) (by omega) al' I2 (tm.lf (LF.rf.set (by decide))) (E.set (by decide)) (by rw [hI_sI_self, up1, if_pos rfl]) (by rw [hI_sI_self, up1, if_neg (by decide)]; exact h38) ?_
          rw [hI_sI_self, up1, if_neg (by decide), h39]
          congr 2; omega
        · have g6 : ¬ q + 6 ≤ e := fun z => c1 ((i_le (by omega) (by omega)).mpr z)
          refine w_gI I s_301 ?_
          refine w_gI I s_301 ?_
          rw [h36]
          refine w_gS I s_301 ?_
          refine w_eI (m_153 I tm (by omega)) ?_
          have ev : ((10 : Int32) * hI h 301 39 + seeV T L e) - 48 = Int32.ofNat (nmG T q (min (e + 1 - q) 6)) := by
            have m1 : min (e - q) 6 = e - q := by omega
            have m2 : min (e + 1 - q) 6 = (e - q) + 1 := by omega
            rw [h39, m1, m2]
            unfold seeV
            rw [if_pos hs.1, show (10 : Int32) = Int32.ofNat 10 from rfl, i_mul, i_add]
            show Int32.ofNat (10 * nmG T q (e - q) + T e) - Int32.ofNat 48 = Int32.ofNat (10 * nmG T q (e - q) + (T (q + (e - q)) - 48))
            rw [i_sub (by omega)]
            congr 1
            rw [show q + (e - q) = e by omega]; omega
          rw [ev]
          refine w_fI I s_301 fun I2 => ?_
          refine w_gI I2 s_301 ?_
          have a36 : hI (sI h 301 39 (Int32.ofNat (nmG T q (min (e + 1 - q) 6)))) 301 36 = Int32.ofNat e := by rw [hI_sI_self, up1, if_neg (by decide)]; exact h36
          rw [a36, i32_ofNat_succ]
          refine w_fI I2 s_301 fun I3 => ?_
          refine c159_126 c (e + 1) _ (by omega) (by omega) al' I3 (tm.lf ((LF.rf.set (by decide)).set (by decide))) ((E.set (by decide)).set (by decide)) (by rw [hI_sI_self, up1, if_pos rfl]) ?_ ?_
          · rw [hI_sI_self, up1, if_neg (by decide), hI_sI_self, up1, if_neg (by decide)]; exact h38
          · rw [hI_sI_self, up1, if_neg (by decide), hI_sI_self, up1, if_pos rfl]
  termination_by c => c
theorem bl_32 {c : Nat} (hc : c < 256) : (Int32.ofNat c = 32 → c = 32) ∧ (Int32.ofNat c = 10 → c = 10) := ⟨fun z => (i_eq (n := 32) (by omega) (by omega)).mp z, fun z => (i_eq (n := 10) (by omega) (by omega)).mp z⟩
theorem c159_0 {h0 : Hp} (hv : X.2.2 = .null ∨ X.2.2 = .ref 61) : ∀ (c p : Nat) (h : Hp) (v1 v2 : Option Value), p + c = L → Inv h → Tm T L h → LF h0 h → hI h 301 36 = Int32.ofNat p →
    Wp (sem (X, K X (d + 7)) 159 0 [some (.ref 301), v1, v2] [] h) (VV fun h' => LF h0 h' ∧ LXt h' (tokA T L p))
  | c, p, h, v1, v2, ec, I, tm, E, h36 => by
    have l6 := tm.2.2.1
    have hp : p ≤ L := by omega
    have tl := tm.2.2.2 p
    have skip : p < L → isBl (T p) = true → Wp (sem (X, K X (d + 7)) 159 0 [some (.ref 301), v1, v2] [] (sI h 301 36 (Int32.ofNat (p + 1)))) (VV fun h' => LF h0 h' ∧ LXt h' (tokA T L p)) := fun z b => by
      have I2 : Inv (sI h 301 36 (Int32.ofNat (p + 1))) := I.sI
      cases c with
      | zero => exact absurd z (by omega)
      | succ c =>
        have et : tokA T L p = tokA T L (p + 1) := by
          unfold tokA
          rw [rn_y z b]
        rw [et]
        exact c159_0 hv c (p + 1) _ v1 v2 (by omega) I2 (tm.lf (LF.rf.set (by decide))) (E.set (by decide)) (by rw [hI_sI_self, up1, if_pos rfl])
    rw [b_159_0]
    refine w_gI I s_301 ?_
    rw [h36]
    refine w_gS I s_301 ?_
    refine w_eI (m_153 I tm (by omega)) ?_
    have lt_of : ∀ v : Int32, v ≠ -1 → seeV T L p = v → p < L ∧ Int32.ofNat (T p) = v := fun v hv z => by
      unfold seeV at z
      by_cases y : p < L
      · rw [if_pos y] at z; exact ⟨y, z⟩
      · rw [if_neg y] at z; exact absurd z.symm hv
    refine w_if (fun c0 => ?_) (fun c0 => ?_)
    · have z := lt_of 32 (by decide) c0
      refine w_gI I s_301 ?_
      rw [h36, i32_ofNat_succ]
      refine w_fI I s_301 fun _ => ?_
      exact skip z.1 (by rw [(bl_32 tl).1 z.2]; rfl)
    · refine w_gI I s_301 ?_
      rw [h36]
      refine w_gS I s_301 ?_
      refine w_eI (m_153 I tm (by omega)) ?_
      refine w_if (fun c1 => ?_) (fun c1 => ?_)
      · have nb : p < L → isBl (T p) = false := fun z => by
          cases y : isBl (T p)
          · rfl
          · unfold isBl at y
            rw [Bool.or_eq_true, decide_eq_true_eq, decide_eq_true_eq] at y
            unfold seeV at c0 c1
            rw [if_pos z] at c0 c1
            rcases y with y | y
            · exact absurd (by rw [y]; rfl) c0
            · exact absurd (by rw [y]; rfl) c1
        have er : rn isBl T L p = p := rn_n nb
        refine w_gI I s_301 ?_
        rw [h36]
        refine w_fI I s_301 fun I2 => ?_
        have E2 : LF h0 (sI h 301 38 (Int32.ofNat p)) := E.set (by decide)
        have tm2 : Tm T L (sI h 301 38 (Int32.ofNat p)) := tm.lf (LF.rf.set (by decide))
        have a36 : hI (sI h 301 38 (Int32.ofNat p)) 301 36 = Int32.ofNat p := by rw [hI_sI_self, up1, if_neg (by decide)]; exact h36
        have a38 : hI (sI h 301 38 (Int32.ofNat p)) 301 38 = Int32.ofNat p := by rw [hI_sI_self, up1, if_pos rfl]
        generalize sI h 301 38 (Int32.ofNat p) = g at I2 E2 tm2 a36 a38 ⊢
        refine w_gI I2 s_301 ?_
        rw [a36]
        refine w_gS I2 s_301 ?_
        refine w_eI (m_153 I2 tm2 (by omega)) ?_
        refine w_if (fun c2 => ?_) (fun c2 => ?_)
        · have hl : p < L := by
            apply Classical.byContradiction
            intro z
            exact c2 (by unfold seeV; rw [if_neg z])
          have sv : seeV T L p = Int32.ofNat (T p) := if_pos hl
          refine w_eI (m_154 (d := d + 5) tm2) ?_
          have sl : seeLe T L p = isLe (T p) := by unfold seeLe; rw [decide_eq_true hl, Bool.true_and]
          rw [sl]
          refine w_if (fun c3 => ?_) (fun c3 => ?_)
          · have nl : isLe (T p) = false := bi_0.mp c3
            refine w_eI (m_155 (d := d + 5) tm2) ?_
            have sd : seeDi T L p = isDi (T p) := by unfold seeDi; rw [decide_eq_true hl, Bool.true_and]
            rw [sd]
            refine w_if (fun c4 => ?_) (fun c4 => ?_)
            · have nd : isDi (T p) = false := bi_0.mp c4
              refine w_gI I2 s_301 ?_
              rw [a36, i32_ofNat_succ, sv]
              refine w_fI I2 s_301 fun I3 => ?_
              have et : tokA T L p = (if isSi (T p) then T p else 102, p, 0, p + 1) := by
                unfold tokA
                rw [er, if_neg (by omega), nl, if_neg (by decide), nd, if_neg (by decide)]
              rw [et]
              have fin : ∀ (b : Bool), isSi (T p) = b → Wp (sem (X, K X (d + 7)) 159 291 [some (.ref 301), some (.int (Int32.ofNat (T p))), v2] [.int (bi b)] (sI g 301 36 (Int32.ofNat (p + 1)))) (VV fun h' => LF h0 h' ∧ LXt h' (if isSi (T p) then T p else 102, p, 0, p + 1)) := fun b hb => by
                rw [b_159_291, hb]
                have b38 : ∀ w : Int32, hI (sI (sI g 301 36 (Int32.ofNat (p + 1))) 301 37 w) 301 38 = Int32.ofNat p := fun w => by rw [hI_sI_self, up1, if_neg (by decide), hI_sI_self, up1, if_neg (by decide)]; exact a38
                have b36 : ∀ w : Int32, hI (sI (sI g 301 36 (Int32.ofNat (p + 1))) 301 37 w) 301 36 = Int32.ofNat (p + 1) := fun w => by rw [hI_sI_self, up1, if_neg (by decide), hI_sI_self, up1, if_pos rfl]
                cases b
                · refine w_ift (by decide) ?_
                  refine w_fI I3 s_301 fun I4 => ?_
                  refine Wp.retv ⟨(E2.set (by decide)).set (by decide), ?_, b38 _, fun z => absurd (show (102 : Nat) = 100 from z) (by decide), b36 _⟩
                  rw [hI_sI_self, up1, if_pos rfl]; rfl
                · refine w_iff (by decide) ?_
                  refine w_fI I3 s_301 fun I4 => ?_
                  have r := isSi_r hb
                  refine Wp.retv ⟨(E2.set (by decide)).set (by decide), ?_, b38 _, fun z => absurd z (by show T p ≠ 100; omega), b36 _⟩
                  rw [hI_sI_self, up1, if_pos rfl]
                  show Int32.ofNat 100 + Int32.ofNat (T p) = Int32.ofNat (mt (T p))
                  rw [i_add]
                  unfold mt
                  rw [if_neg (by omega), if_neg (by omega), if_neg (by omega), if_neg (by omega), if_neg (by omega), if_neg (by omega), if_neg (by omega)]
              have yes : ∀ n : Nat, n < 256 → isSi n = true → Int32.ofNat (T p) = Int32.ofNat n → isSi (T p) = true := fun n hn hs e => by rw [(i_eq (by omega) (by omega)).mp e]; exact hs
              refine w_if (fun c59 => fin true (yes 59 (by decide) (by decide) c59)) (fun c59 => ?_)
              refine w_if (fun c43 => fin true (yes 43 (by decide) (by decide) c43)) (fun c43 => ?_)
              refine w_if (fun c45 => fin true (yes 45 (by decide) (by decide) c45)) (fun c45 => ?_)
              refine w_if (fun c42 => fin true (yes 42 (by decide) (by decide) c42)) (fun c42 => ?_)
              refine w_if (fun c47 => fin true (yes 47 (by decide) (by decide) c47)) (fun c47 => ?_)
              refine w_if (fun c40 => fin true (yes 40 (by decide) (by decide) c40)) (fun c40 => ?_)
              refine w_if (fun c41 => fin true (yes 41 (by decide) (by decide) c41)) (fun c41 => ?_)
              refine w_if (fun c60 => fin true (yes 60 (by decide) (by decide) c60)) (fun c60 => ?_)
              refine w_if (fun c61 => fin true (yes 61 (by decide) (by decide) c61)) (fun c61 => ?_)
              refine w_if (fun c62 => fin false ?_) (fun c62 => fin true (yes 62 (by decide) (by decide) (Classical.byContradiction c62)))
              cases hs : isSi (T p)
              · rfl
              · have ne : ∀ n : Nat, Int32.ofNat (T p) ≠ Int32.ofNat n → T p ≠ n := fun n z y => z (by rw [y])
                have q59 := ne 59 c59
                have q43 := ne 43 c43
                have q45 := ne 45 c45
                have q42 := ne 42 c42
                have q47 := ne 47 c47
                have q40 := ne 40 c40
                have q41 := ne 41 c41
                have q60 := ne 60 c60
                have q61 := ne 61 c61
                have q62 := ne 62 c62
                unfold isSi at hs
                simp only [Bool.or_eq_true, Bool.and_eq_true, decide_eq_true_eq] at hs
                omega
            · have yd : isDi (T p) = true := by cases z : isDi (T p); rw [z] at c4; exact absurd rfl c4; rfl
              refine w_fI I2 s_301 fun I3 => ?_
              have et : tokA T L p = (if rn isDi T L p - p ≤ 6 then 100 else 102, p, nmG T p (min (rn isDi T L p - p) 6), rn isDi T L p) := by
                unfold tokA
                rw [er, if_neg (by omega), nl, if_neg (by decide), yd, if_pos rfl]
              rw [et]
              refine (c159_126 (d := d) (h0 := h0) (q := p) c p _ (by omega) (Nat.le_refl _) (fun j h1 h2 => absurd h1 (by omega)) I3 (tm2.lf (LF.rf.set (by decide))) (E2.set (by decide)) (by rw [hI_sI_self, up1, if_neg (by decide)]; exact a36) (by rw [hI_sI_self, up1, if_neg (by decide)]; exact a38) ?_).mono ?_
              · rw [hI_sI_self, up1, if_pos rfl, Nat.sub_self]; rfl
              · rintro _ h4 ⟨rfl, u1, u2, u3, u4, u5⟩
                refine ⟨rfl, u1, ?_, u3, fun _ => u5, u4⟩
                rw [u2]
                congr 1
                show _ = mt (if rn isDi T L p - p ≤ 6 then 100 else 102)
                split <;> rfl
          · have yl : isLe (T p) = true := by cases z : isLe (T p); rw [z] at c3; exact absurd rfl c3; rfl
            have et : tokA T L p = (kwN (bsN T p (rn isLe T L p)), p, 0, rn isLe T L p) := by
              unfold tokA
              rw [er, if_neg (by omega), yl, if_pos rfl]
            rw [et]
            refine (c159_76 (d := d) (h0 := h0) (q := p) hv c p g (by omega) (Nat.le_refl _) I2 tm2 E2 a36 a38).mono ?_
            rintro _ h4 ⟨rfl, u1, u2, u3, u4⟩
            exact ⟨rfl, u1, u2, u3, fun z => by
              have z : kwN (bsN T p (rn isLe T L p)) = 100 := z
              rcases kwN_le (bs := bsN T p (rn isLe T L p)) with y | y <;> omega, u4⟩
        · have hl : ¬ p < L := fun z => by
            have sv : seeV T L p = Int32.ofNat (T p) := if_pos z
            have c2 : seeV T L p = -1 := Classical.byContradiction c2
            rw [sv] at c2
            exact i_nm1 (by omega) c2
          refine w_fI I2 s_301 fun I3 => ?_
          have et : tokA T L p = (101, p, 0, p) := by
            unfold tokA
            rw [er, if_pos (by omega)]
          rw [et]
          refine Wp.retv ⟨E2.set (by decide), ?_, ?_, fun z => absurd (show (101 : Nat) = 100 from z) (by decide), ?_⟩
          · rw [hI_sI_self, up1, if_pos rfl]; rfl
          · rw [hI_sI_self, up1, if_neg (by decide)]; exact a38
          · rw [hI_sI_self, up1, if_neg (by decide)]; exact a36
      · have z := lt_of 10 (by decide) (Classical.byContradiction c1)
        refine w_gI I s_301 ?_
        rw [h36, i32_ofNat_succ]
        refine w_fI I s_301 fun _ => ?_
        exact skip z.1 (by rw [(bl_32 tl).2 z.2]; rfl)
  termination_by c => c
/-- token k is the one at hand -/
def LX (T : Nat → Nat) (L : Nat) (h : Hp) (k : Nat) : Prop := LXt h (tokA T L (sps T L k))
theorem m_159 {p : Nat} (hv : X.2.2 = .null ∨ X.2.2 = .ref 61) (I : Inv h) (tm : Tm T L h) (hp : p ≤ L) (h36 : hI h 301 36 = Int32.ofNat p) : Wp (K X (d + 8) 159 [.ref 301] h) (VV fun h' => LF h h' ∧ LXt h' (tokA T L p)) := by
  rw [k_159]
  exact c159_0 (d := d) (h0 := h) hv (L - p) p h none none (by omega) I tm LF.rf h36
theorem m_next {k : Nat} (hv : X.2.2 = .null ∨ X.2.2 = .ref 61) (I : Inv h) (tm : Tm T L h) (ne : NE (tC T L) (k + 1)) (lx : LX T L h k) : Wp (K X (d + 8) 159 [.ref 301] h) (VV fun h' => LF h h' ∧ LX T L h' (k + 1)) := by
  have b := sP_b ne
  exact m_159 (p := sps T L (k + 1)) hv I tm b.2 lx.2.2.2
end LM
