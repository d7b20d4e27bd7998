/-! PUBLIC METHODS: night, home, tie -/
section PW
variable {h h' : Hp} {S : AS} {W : Nat → Prop}
theorem P1 (q : ∀ y, y < 2 → cYear h y (sY S y)) (o : okA S) (e : Eo W h h') (w : ∀ a, 102 ≤ a → a ≤ 135 → ¬ W a) : ∀ y, y < 2 → cYear h' y (sY S y) := fun y hy => (q y hy).eo (fun a h1 h2 => e.i (w a (by omega) (by omega))) (o.1 y hy).2.1
theorem P2 {AL : Nat → ALaw} (q : lawsC h AL) (e : Eo W h h') (w : ∀ a, (a = 64 ∨ (91 ≤ a ∧ a ≤ 98) ∨ (136 ≤ a ∧ a ≤ 183)) → ¬ W a) (e2 : hP h' 62 = hP h 62) : lawsC h' AL := q.eo (fun a h1 h2 h3 => e.i (w a (by omega))) (e.p (w 64 (by omega))) e2
theorem P3 {PA : Nat → APact} (q : pactsC h PA) (e : Eo W h h') (w : ∀ a, (a = 65 ∨ (99 ≤ a ∧ a ≤ 101) ∨ (184 ≤ a ∧ a ≤ 273 ∧ (a - 184) % 6 < 3)) → ¬ W a) (e2 : hP h' 62 = hP h 62) : pactsC h' PA := q.eo (fun a h1 => e.i (w a (by omega))) (e.p (w 65 (by omega))) e2
theorem P6 (q : plansC h S) (e : Eo W h h') (w : ∀ a, 67 ≤ a → a ≤ 75 → ¬ W a) : plansC h' S := by
  unfold plansC at q ⊢
  rw [e.i (w 67 (by omega) (by omega))]
  obtain ⟨p1, p2, p3, p4, p5, p6⟩ := q
  exact ⟨p1, p2.eo (e.i (w _ (by omega) (by omega))) (e.i (w _ (by omega) (by omega))), p3, p4.eo (e.i (w _ (by omega) (by omega))) (e.i (w _ (by omega) (by omega))) (e.i (w _ (by omega) (by omega))), p5, p6.eo (e.i (w _ (by omega) (by omega))) (e.i (w _ (by omega) (by omega))) (e.i (w _ (by omega) (by omega)))⟩
theorem P7 {l : List AAns} (q : hI h 76 4 = Int32.ofNat l.length ∧ rA h 77 78 79 80 0 l) (e : Eo W h h') (w : ∀ a, 76 ≤ a → a ≤ 80 → ¬ W a) : hI h' 76 4 = Int32.ofNat l.length ∧ rA h' 77 78 79 80 0 l :=
  ⟨by rw [e.i (w 76 (by omega) (by omega))]; exact q.1, q.2.eo (e.i (w _ (by omega) (by omega))) (e.i (w _ (by omega) (by omega))) (e.i (w _ (by omega) (by omega))) (e.j (w _ (by omega) (by omega)))⟩
end PW
/-- the class's call: what it answers, what it leaves -/
abbrev isYr (y : Int32) : Prop := ¬ y < 0 ∧ ¬ 2 ≤ y
abbrev isLd (l : Int32) : Prop := ¬ l < 0 ∧ ¬ 6 ≤ l
abbrev isLN (l : Int32) : Prop := l = -1 ∨ isLd l
theorem lt_le {n : Nat} {x : Int32} (hn : n + 1 < 2147483648) : Int32.ofNat n < x ↔ Int32.ofNat (n + 1) ≤ x := by
  rw [Int32.lt_iff_toInt_lt, Int32.le_iff_toInt_le, i32_ofNat_lt (by omega), i32_ofNat_lt hn]
  omega
theorem yr_nat {y : Int32} (h : isYr y) : ∃ n, n < 2 ∧ y = Int32.ofNat n := i_nat (by decide) h.1 h.2
theorem ld_nat {l : Int32} (h : isLd l) : ∃ n, n < 6 ∧ l = Int32.ofNat n := i_nat (by decide) h.1 h.2
theorem ln_nat {l : Int32} (h : isLN l) : ∃ n, n ≤ 6 ∧ l = nv n := by
  rcases h with rfl | h
  · exact ⟨6, Nat.le_refl _, rfl⟩
  · obtain ⟨n, h1, h2⟩ := ld_nat h
    exact ⟨n, by omega, by rw [h2]; exact (if_pos h1).symm⟩
theorem bi_dec {p : Prop} [Decidable p] : bi (decide p) = 0 ↔ ¬ p := by rw [bi_0, decide_eq_false_iff_not]
section PB
variable {X : Ctx} {d : Nat} {h : Hp} {S : AS}
theorem yr_c {y : Int32} : K X (d + 1) 137 [.int y] h = some (some (.int (bi (decide (isYr y)))), h) := m_137
theorem ld_c {l : Int32} : K X (d + 1) 138 [.int l] h = some (some (.int (bi (decide (isLd l)))), h) := m_138
theorem ln_c {l : Int32} : K X (d + 2) 139 [.int l] h = some (some (.int (bi (decide (isLN l)))), h) := m_139
theorem yr_m {y : Int32} : K X (d + 2) 143 [.int y] h = some (some (.int (bi (decide (isYr y)))), h) := by
  rw [m_143]
  have e : decide (¬ y < 0 ∧ ¬ 1 < y) = decide (isYr y) := decide_eq_decide.mpr (and_congr Iff.rfl (not_congr (lt_le (n := 1) (by decide))))
  rw [e]
theorem ld_m {l : Int32} : K X (d + 2) 144 [.int l] h = some (some (.int (bi (decide (isLd l)))), h) := by
  rw [m_144]
  have e : decide (¬ l < 0 ∧ ¬ 5 < l) = decide (isLd l) := decide_eq_decide.mpr (and_congr Iff.rfl (not_congr (lt_le (n := 5) (by decide))))
  rw [e]
/-- a call that can't be: nothing is done -/
theorem failI {ok : Prop} {A : Int32 → Hp → Prop} {r : Int32} (no : ¬ ok) : Wp (some (some (.int r), h)) (VI fun v h' => (ok → A v h') ∧ (¬ ok → v = r ∧ h' = h)) := Wp.reti ⟨fun z => absurd z no, fun _ => ⟨rfl, rfl⟩⟩
theorem passI {ok : Prop} {A : Int32 → Hp → Prop} {r : Int32} {o : Option (Option Value × Hp)} (yes : ok) (w : Wp o (VI A)) : Wp o (VI fun v h' => (ok → A v h') ∧ (¬ ok → v = r ∧ h' = h)) := w.mono (by
  rintro v h' ⟨x, rfl, a⟩
  exact ⟨x, rfl, fun _ => a, fun no => absurd yes no⟩)
/-! night -/
def okNight (y f t l : Int32) : Prop := isYr y ∧ ¬ f < 0 ∧ ¬ t < f ∧ ¬ 360 ≤ t ∧ isLN l
def putY (S : AS) (y : Nat) (A : AY) : AS := ((fun z => if z = y then A else sY S z), S.2)
def nightS (S : AS) (y f t x : Nat) : AS := putY S y (setW (sY S y).1 f (t + 1) x, (sY S y).2)
theorem okA_putY {y : Nat} {A : AY} (o : okA S) (oA : okY A) (hl : y = 0 → (sY S 0).2.2.2.2.length ≤ A.2.2.2.2.length) : okA (putY S y A) := by
  obtain ⟨o1, o2, o3, o4, o5, o6, o7, o8⟩ := o
  have n0 : nS S 0 ≤ nS (putY S y A) 0 := by
    show (sY S 0).2.2.2.2.length ≤ (if 0 = y then A else sY S 0).2.2.2.2.length
    split
    · next z => exact hl z.symm
    · exact Nat.le_refl _
  refine ⟨fun z hz => ?_, o2, o3, o4, o5, ⟨o6.1, fun t ht => ?_⟩, o7, ⟨o8.1, fun a ha => ?_⟩⟩
  · show okY (if z = y then A else sY S z)
    split
    · exact oA
    · exact o1 z hz
  · have := o6.2 t ht
    exact ⟨Nat.lt_of_lt_of_le this.1 n0, this.2⟩
  · obtain ⟨a1, a2, a3⟩ := o8.2 a ha
    exact ⟨a1, a2, fun z => by obtain ⟨i, i1, i2⟩ := a3 z; exact ⟨i, Nat.lt_of_lt_of_le i1 n0, i2⟩⟩
theorem okA_night {y f t x : Nat} (o : okA S) (hy : y < 2) (hx : x ≤ 6) : okA (nightS S y f t x) :=
  okA_putY o ⟨fun k => setW_le (o.1 y hy).1 hx k, (o.1 y hy).2⟩ (fun z => by subst z; exact Nat.le_refl _)
theorem nat_ge {f t : Nat} {x : Int32} (hn : f < 2147483648) (hx : x = Int32.ofNat t) (ht : t < 2147483648) (h : ¬ x < Int32.ofNat f) : f ≤ t := by
  subst hx
  exact Nat.le_of_not_lt fun z => h ((i_lt ht hn).mpr z)
theorem n_97 {y f t l : Int32} (I : Inv h) (q : RC h S) (o : okA S) :
    Wp (K X (d + 4) 97 [.ref 62, .int y, .int f, .int t, .int l] h) (VI fun v h' => (okNight y f t l → (v = 1 ∧ Cl h h' ∧ ∀ yn a b x, yn < 2 → a ≤ b → b < 360 → x ≤ 6 → y = Int32.ofNat yn → f = Int32.ofNat a → t = Int32.ofNat b → l = nv x → RC h' (nightS S yn a b x))) ∧ (¬ okNight y f t l → v = 0 ∧ h' = h)) := by
  rw [k_97]
  refine w_eI yr_c ?_
  refine w_if (fun c => failI fun z => bi_dec.mp c z.1) (fun c => ?_)
  have hy : isYr y := Classical.byContradiction fun z => c (bi_dec.mpr z)
  refine w_if (fun c => failI fun z => z.2.1 c) (fun c1 => ?_)
  refine w_if (fun c => failI fun z => z.2.2.1 c) (fun c2 => ?_)
  refine w_if (fun c => failI fun z => z.2.2.2.1 c) (fun c3 => ?_)
  refine w_eI ln_c ?_
  refine w_if (fun c => ?_) (fun c => failI fun z => bi_dec.mp (Classical.byContradiction c) z.2.2.2.2)
  have hl : isLN l := Classical.byContradiction fun z => c (bi_dec.mpr z)
  refine passI ⟨hy, c1, c2, c3, hl⟩ ?_
  obtain ⟨yn, y2, rfl⟩ := yr_nat hy
  obtain ⟨x, x6, rfl⟩ := ln_nat hl
  have t0 : ¬ t < 0 := fun z => c2 (Int32.lt_of_lt_of_le z (Int32.not_lt.mp c1))
  obtain ⟨tn, t3, rfl⟩ := i_nat (n := 360) (by decide) t0 c3
  have f3 : ¬ Int32.ofNat 360 ≤ f := fun z => c3 (Int32.le_trans z (Int32.not_lt.mp c2))
  obtain ⟨fn, f4, rfl⟩ := i_nat (n := 360) (by decide) c1 f3
  have ft : fn ≤ tn := nat_ge (by omega) rfl (by omega) c2
  have ys := year_s y2
  refine w_gL I s_62 l_62_0 ?_
  refine w_aLn I s_63 (by decide) (by decide) y2 (by decide) (lk_years yn y2) ?_
  refine w_gS I ys.1 ?_
  obtain ⟨a1, a2, a3, a4, a5⟩ := q.1.1 yn y2
  have w93 : Wp (K X (d + 3) 93 [.ref (102 + 17 * yn), .int (Int32.ofNat fn), .int (Int32.ofNat tn), .int (nv x)] h) (VV fun h' => Eo (fun b => 103 + 17 * yn ≤ b ∧ b ≤ 105 + 17 * yn) h h' ∧ (∀ k, k < 360 → hI h' (103 + 17 * yn) k = nv (setW (sY S yn).1 fn (tn + 1) x k)) ∧ cCnt h' (104 + 17 * yn) (setW (sY S yn).1 fn (tn + 1) x) ∧ (∀ k, k ≠ 1 → hI h' (104 + 17 * yn) k = hI h (104 + 17 * yn) k)) := by
    rw [k_93, if_neg (i_lt0 (by omega))]
    refine spend_loop (w := (sY S yn).1) y2 ft t3 x6 (o.1 yn y2).1 (tn + 1 - fn) fn h (by omega) (Nat.le_refl _) I ⟨Eo.rf, fun k hk => by rw [setW_0]; exact a1 k hk, by rw [setW_0]; exact ⟨a2.1, a3⟩, fun _ _ => rfl⟩ fun h' I' u => ⟨rfl, u⟩
  refine w_bV I w93 (by decide) rfl fun h1 I1 p => ?_
  obtain ⟨p1, p2, p3, p4⟩ := p
  refine Wp.reti ⟨rfl, p1.wk (fun a z => by omega), ?_⟩
  intro yn' fn' tn' x' e1 e2 e3 e4 e5 e6 e7 e8
  have e5 := (i_eq (by omega) (by omega)).mp e5
  have e6 := (i_eq (by omega) (by omega)).mp e6
  have e7 := (i_eq (by omega) (by omega)).mp e7
  have e8 : x = x' := by
    by_cases z : x < 6 <;> by_cases z' : x' < 6
    · rw [show nv x = Int32.ofNat x from if_pos z, show nv x' = Int32.ofNat x' from if_pos z'] at e8
      exact (i_eq (by omega) (by omega)).mp e8
    · rw [show nv x = Int32.ofNat x from if_pos z, show nv x' = -1 from if_neg z'] at e8
      exact absurd e8 (i_nm1 (by omega))
    · rw [show nv x' = Int32.ofNat x' from if_pos z', show nv x = -1 from if_neg z] at e8
      exact absurd e8.symm (i_nm1 (by omega))
    · omega
  subst e5; subst e6; subst e7; subst e8
  obtain ⟨q1, q2, q3, q4, q5, q6, q7, q8, q9⟩ := q.1
  refine ⟨⟨fun z hz => ?_, P2 q2 p1 (fun a z => by omega) (p1.p (by omega)), P3 q3 p1 (fun a z => by omega) (p1.p (by omega)), ?_, ?_, P6 (S := nightS S yn fn tn x) q6 p1 (fun a z => by omega), P7 q7 p1 (fun a z => by omega), q8.eo (p1.i (by omega)), ?_⟩, q.2.eo (p1.p (by omega))⟩
  · show cYear h1 z (if z = yn then _ else sY S z)
    by_cases zy : z = yn
    · rw [if_pos zy]; subst zy
      exact ⟨p2, ⟨p3.1, by rw [p4 2 (by decide)]; exact a2.2.1, by rw [p4 3 (by decide)]; exact a2.2.2.1, by rw [p4 4 (by decide)]; exact a2.2.2.2⟩, p3.2, by rw [p1.i (by omega)]; exact a4, a5.eo (fun a h1 h2 => p1.i (by omega))⟩
    · rw [if_neg zy]
      have ne : 17 * z + 17 ≤ 17 * yn ∨ 17 * yn + 17 ≤ 17 * z := by omega
      exact (q1 z hz).eo (fun a h1 h2 => p1.i (by omega)) (o.1 z hz).2.1
  · rw [p1.i (show ¬ (103 + 17 * yn ≤ 62 ∧ 62 ≤ 105 + 17 * yn) by omega), p1.i (show ¬ (103 + 17 * yn ≤ 81 ∧ 81 ≤ 105 + 17 * yn) by omega)]; exact q4
  · rw [p1.i (show ¬ (103 + 17 * yn ≤ 82 ∧ 82 ≤ 105 + 17 * yn) by omega)]; exact q5
  · rw [p1.j (show ¬ (103 + 17 * yn ≤ 83 ∧ 83 ≤ 105 + 17 * yn) by omega)]; exact q9
end PB
