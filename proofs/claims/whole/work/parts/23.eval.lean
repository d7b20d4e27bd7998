/-! WHAT CONDITIONS AND EXPRESSIONS COME TO: ops (sort, number), a stack; the class's codes and the model's steps -/
def jn (s : Nat) (a b : Int32) : Int32 := if s = 9 then a + b else if s = 10 then a - b else if s = 11 then a * b else if s = 13 then bi (decide (a < b)) else if s = 14 then bi (decide (a = b)) else if s = 15 then bi (decide (b < a)) else if s = 17 then a &&& b else a ||| b
abbrev Op := Nat × Int32
def ev1 (f : Nat → Int32) (o : Op) (st : List Int32) : List Int32 :=
  if o.1 = 0 then o.2 :: st else if o.1 ≤ 8 then f (o.1 - 1) :: st else if o.1 = 12 then (st.headD 0 / o.2) :: st.tail else if o.1 = 16 then (1 - st.headD 0) :: st.tail else jn o.1 (st.tail.headD 0) (st.headD 0) :: st.tail.tail
def ev (f : Nat → Int32) : List Op → List Int32 → List Int32
  | [], st => st
  | o :: r, st => ev f r (ev1 f o st)
def evv (f : Nat → Int32) (ops : List Op) : Int32 := (ev f ops []).getLastD 0
def isJ (s : Nat) : Prop := s = 9 ∨ s = 10 ∨ s = 11 ∨ s = 13 ∨ s = 14 ∨ s = 15 ∨ s = 17 ∨ s = 18
def okO (n : Nat) (o : Op) : Prop := (o.1 = 0 ∧ ¬ o.2 < 0 ∧ n < 60) ∨ (1 ≤ o.1 ∧ o.1 ≤ 8 ∧ n < 60) ∨ (o.1 = 12 ∧ 0 < n ∧ n < 60 ∧ 0 < o.2) ∨ (o.1 = 16 ∧ 0 < n) ∨ (isJ o.1 ∧ 1 < n)
def nxt (n : Nat) (o : Op) : Nat := if o.1 ≤ 8 then n + 1 else if o.1 = 12 ∨ o.1 = 16 then n else n - 1
def okS : List Op → Nat → Prop
  | [], n => 0 < n
  | o :: r, n => okO n o ∧ okS r (nxt n o)
/-- the class's codes of an op -/
def cod (s : Nat) : Int32 := if s = 16 then -18 else if s = 17 then -16 else if s = 18 then -17 else -(Int32.ofNat s)
def opC (o : Op) : List Int32 := if o.1 = 0 then [o.2] else if o.1 = 12 then [o.2, -12] else [cod o.1]
def opsC (ops : List Op) : List Int32 := ops.flatMap opC
/-- a stack in a row, the bottom first -/
def stk (h : Hp) (p : Nat) (st : List Int32) : Prop := ∀ j, j < st.length → hI h p j = st.reverse.getD j 0
theorem stk_push {h : Hp} {p : Nat} {st : List Int32} (s : stk h p st) (v : Int32) : stk (sI h p st.length v) p (v :: st) := by
  intro j hj
  rw [List.reverse_cons]
  by_cases e : j = st.length
  · subst e
    rw [hI_sI_self, up1, if_pos rfl, List.getD_eq_getElem?_getD, List.getElem?_append_right (by simp)]
    simp
  · have hj2 : j < st.length := by simp at hj; omega
    rw [hI_sI_self, up1, if_neg e, s j hj2, List.getD_eq_getElem?_getD, List.getD_eq_getElem?_getD, List.getElem?_append_left (by simp; omega)]
theorem stk_tail {h : Hp} {p : Nat} {a : Int32} {st : List Int32} (s : stk h p (a :: st)) : stk h p st := by
  intro j hj
  rw [s j (by simp; omega), List.reverse_cons, List.getD_eq_getElem?_getD, List.getD_eq_getElem?_getD, List.getElem?_append_left (by simp; omega)]
theorem stk_top {h : Hp} {p : Nat} {a : Int32} {st : List Int32} (s : stk h p (a :: st)) : hI h p st.length = a := by
  rw [s st.length (by simp), List.reverse_cons, List.getD_eq_getElem?_getD, List.getElem?_append_right (by simp)]
  simp
theorem stk_bot {h : Hp} {p : Nat} {st : List Int32} (s : stk h p st) (hl : 0 < st.length) : hI h p 0 = st.getLastD 0 := by
  rw [s 0 hl, List.getD_eq_getElem?_getD]
  cases st with
  | nil => exact absurd hl (by decide)
  | cons a r =>
    rw [← List.head?_eq_getElem?, List.head?_reverse, List.getLast?_eq_some_getLast (by simp)]
    show (a :: r).getLast _ = _
    rw [List.getLastD_eq_getLast?, List.getLast?_eq_some_getLast (by simp)]
    rfl
theorem ev1_len {f : Nat → Int32} {o : Op} {st : List Int32} (k : okO st.length o) : (ev1 f o st).length = nxt st.length o := by
  unfold ev1 nxt
  rcases k with ⟨e, _⟩ | ⟨e1, e2, _⟩ | ⟨e, k1, _⟩ | ⟨e, k1⟩ | ⟨e, k1⟩
  · simp [e]
  · have : o.1 ≠ 0 := by omega
    simp [this, e2]
  · simp [e]; omega
  · simp [e]; omega
  · have h0 : ¬ o.1 = 0 := by rcases e with e | e | e | e | e | e | e | e <;> omega
    have h1 : ¬ o.1 ≤ 8 := by rcases e with e | e | e | e | e | e | e | e <;> omega
    have h2 : ¬ (o.1 = 12 ∨ o.1 = 16) := by rcases e with e | e | e | e | e | e | e | e <;> omega
    have h3 : ¬ o.1 = 12 := fun z => h2 (Or.inl z)
    have h4 : ¬ o.1 = 16 := fun z => h2 (Or.inr z)
    rw [if_neg h0, if_neg h1, if_neg h3, if_neg h4, if_neg h1, if_neg h2]
    simp; omega
theorem i_m1 (n : Nat) : Int32.ofNat (n + 1) + (-1) = Int32.ofNat n := by
  rw [← i32_ofNat_succ, Int32.add_assoc]
  have : (1 : Int32) + -1 = 0 := by decide
  rw [this, Int32.add_zero]
theorem i_s1 (n : Nat) : Int32.ofNat (n + 1) - 1 = Int32.ofNat n := by
  rw [Int32.sub_eq_add_neg]; exact i_m1 n
section EV
variable {X : Ctx} {d : Nat} {Q : Option Value → Hp → Prop}
/-- join: what an operator makes of two -/
theorem m_10 {s : Nat} {a b : Int32} {h : Hp} (hs : isJ s) : K X (d + 1) 10 [.int (cod s), .int a, .int b] h = some (some (.int (jn s a b)), h) := by
  rcases hs with rfl | rfl | rfl | rfl | rfl | rfl | rfl | rfl
  · exact (k_10 _ _ _ _).trans (b_10_52 _ _ _ _)
  · exact (k_10 _ _ _ _).trans (b_10_56 _ _ _ _)
  · exact (k_10 _ _ _ _).trans (b_10_60 _ _ _ _)
  · refine (k_10 _ _ _ _).trans ((b_10_76 _ _ _ _).trans ?_)
    show _ = some (some (Value.int (bi (decide (a < b)))), h)
    by_cases z : b ≤ a
    · rw [if_pos z, decide_eq_false (Int32.not_lt.mpr z)]; rfl
    · rw [if_neg z, decide_eq_true (Int32.not_le.mp z)]; rfl
  · refine (k_10 _ _ _ _).trans ((b_10_87 _ _ _ _).trans ?_)
    show _ = some (some (Value.int (bi (decide (a = b)))), h)
    by_cases z : a = b
    · rw [if_neg (fun q => q z), decide_eq_true z]; rfl
    · rw [if_pos z, decide_eq_false z]; rfl
  · refine (k_10 _ _ _ _).trans ((b_10_98 _ _ _ _).trans ?_)
    show _ = some (some (Value.int (bi (decide (b < a)))), h)
    by_cases z : a ≤ b
    · rw [if_pos z, decide_eq_false (Int32.not_lt.mpr z)]; rfl
    · rw [if_neg z, decide_eq_true (Int32.not_le.mp z)]; rfl
  · exact (k_10 _ _ _ _).trans (b_10_109 _ _ _ _)
  · exact (k_10 _ _ _ _).trans (b_10_113 _ _ _ _)
theorem m_10d {a b : Int32} {h : Hp} (hb : 0 < b) : K X (d + 1) 10 [.int (-12), .int a, .int b] h = some (some (.int (a / b)), h) := by
  refine (k_10 _ _ _ _).trans ((b_10_64 _ _ _ _).trans ?_)
  have : ¬ b = 0 := by intro z; rw [z] at hb; exact absurd hb (by decide)
  rw [if_pos this, gd_t this]
variable {h : Hp} {L F P i t n : Nat} {v1 v7 : Option Value}
/-- one code: a push -/
theorem e_push (I : Inv h) (hL : IsLaw L) (hF : SH F = (50, 8)) (hP : SH P = (50, 64)) (ht : t ≤ 600) (hi : i < t) (hn : n < 64) {c : Int32} (hc : hI h (L + 1) i = c) (h9 : -9 < c) (h8 : c < 0 → ∃ k, k < 8 ∧ -1 - c = Int32.ofNat k)
    (k : Inv (sI h P n (if c < 0 then hI h F (-1 - c).toNatClampNeg else c)) → Wp (sem (X, K X d) 9 6 [some (.ref L), v1, some (.int (Int32.ofNat t)), some (.ref F), some (.ref P), some (.int (Int32.ofNat (n + 1))), some (.int (Int32.ofNat (i + 1))), some (.int c)] [] (sI h P n (if c < 0 then hI h F (-1 - c).toNatClampNeg else c))) Q) :
    Wp (sem (X, K X d) 9 6 [some (.ref L), v1, some (.int (Int32.ofNat t)), some (.ref F), some (.ref P), some (.int (Int32.ofNat n)), some (.int (Int32.ofNat i)), v7] [] h) Q := by
  rw [b_9_6]
  refine w_iff (fun z => absurd ((i_le (by omega) (by omega)).mp z) (by omega)) ?_
  refine w_gL I hL.s hL.l0 ?_
  refine w_aL I hL.s1 (by decide) ?_
  refine w_iff (fun z => absurd ((i_le (by omega) (by omega)).mp z) (by omega)) ?_
  refine w_gL I hL.s hL.l0 ?_
  refine w_aIn I hL.s1 (by omega) (by omega) ?_
  rw [hc]
  refine w_iff (Int32.not_le.mpr h9) ?_
  refine w_aL I hP (by decide) ?_
  refine w_iff (fun z => absurd ((i_le (by omega) (by omega)).mp z) (by omega)) ?_
  rw [i32_ofNat_succ, i32_ofNat_succ]
  refine w_if (fun c0 => ?_) (fun c0 => ?_)
  · obtain ⟨k8, hk8, e8⟩ := h8 c0
    rw [if_pos c0] at k
    have e9 : (-1 : Int32) - c = Int32.ofNat k8 := e8
    rw [e9] at k ⊢
    refine w_aIn I hF hk8 (by decide) ?_
    rw [i32_ofNat_clamp (by omega)] at k
    exact w_wIn I hP hn (by decide) k
  · rw [if_neg c0] at k
    exact w_wIn I hP hn (by decide) k
theorem e_not (I : Inv h) (hL : IsLaw L) (hP : SH P = (50, 64)) (ht : t ≤ 600) (hi : i < t) (hn : n < 64) (hc : hI h (L + 1) i = -18)
    (k : Inv (sI h P n (1 - hI h P n)) → Wp (sem (X, K X d) 9 6 [some (.ref L), v1, some (.int (Int32.ofNat t)), some (.ref F), some (.ref P), some (.int (Int32.ofNat (n + 1))), some (.int (Int32.ofNat (i + 1))), some (.int (-18))] [] (sI h P n (1 - hI h P n))) Q) :
    Wp (sem (X, K X d) 9 6 [some (.ref L), v1, some (.int (Int32.ofNat t)), some (.ref F), some (.ref P), some (.int (Int32.ofNat (n + 1))), some (.int (Int32.ofNat i)), v7] [] h) Q := by
  rw [b_9_6]
  refine w_iff (fun z => absurd ((i_le (by omega) (by omega)).mp z) (by omega)) ?_
  refine w_gL I hL.s hL.l0 ?_
  refine w_aL I hL.s1 (by decide) ?_
  refine w_iff (fun z => absurd ((i_le (by omega) (by omega)).mp z) (by omega)) ?_
  refine w_gL I hL.s hL.l0 ?_
  refine w_aIn I hL.s1 (by omega) (by omega) ?_
  rw [hc]
  refine w_ift (by decide) ?_
  refine w_iff (fun z => z rfl) ?_
  refine w_iff (fun z => absurd ((i_le (n := 0) (by omega) (by omega)).mp z) (by omega)) ?_
  rw [i_s1, i32_ofNat_succ]
  refine w_aIn I hP hn (by decide) ?_
  exact w_wIn I hP hn (by decide) k
theorem e_join (I : Inv h) (hL : IsLaw L) (hP : SH P = (50, 64)) (ht : t ≤ 600) (hi : i < t) (hn : n + 1 < 64) {c r : Int32} (hc : hI h (L + 1) i = c) (h9 : c ≤ -9) (h18 : c ≠ -18) (hj : K X d 10 [.int c, .int (hI h P n), .int (hI h P (n + 1))] h = some (some (.int r), h))
    (k : Inv (sI h P n r) → Wp (sem (X, K X d) 9 6 [some (.ref L), v1, some (.int (Int32.ofNat t)), some (.ref F), some (.ref P), some (.int (Int32.ofNat (n + 1))), some (.int (Int32.ofNat (i + 1))), some (.int c)] [] (sI h P n r)) Q) :
    Wp (sem (X, K X d) 9 6 [some (.ref L), v1, some (.int (Int32.ofNat t)), some (.ref F), some (.ref P), some (.int (Int32.ofNat (n + 1 + 1))), some (.int (Int32.ofNat i)), v7] [] h) Q := by
  rw [b_9_6]
  refine w_iff (fun z => absurd ((i_le (by omega) (by omega)).mp z) (by omega)) ?_
  refine w_gL I hL.s hL.l0 ?_
  refine w_aL I hL.s1 (by decide) ?_
  refine w_iff (fun z => absurd ((i_le (by omega) (by omega)).mp z) (by omega)) ?_
  refine w_gL I hL.s hL.l0 ?_
  refine w_aIn I hL.s1 (by omega) (by omega) ?_
  rw [hc]
  refine w_ift h9 ?_
  refine w_ift h18 ?_
  refine w_iff (fun z => absurd ((i_le (n := 1) (by omega) (by omega)).mp z) (by omega)) ?_
  rw [i_m1, i_s1, i32_ofNat_succ]
  refine w_aIn I hP (by omega) (by decide) ?_
  refine w_aIn I hP (by omega) (by decide) ?_
  refine w_eI hj ?_
  exact w_wIn I hP (by omega) (by decide) k
end EV
