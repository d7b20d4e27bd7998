/-! night of the model; home, tie -/
def dN (x : Int32) : Nat := x.toNatClampNeg
def dL (x : Int32) : Nat := if x = -1 then 6 else x.toNatClampNeg
theorem dN_of {n : Nat} (h : n < 2147483648) : dN (Int32.ofNat n) = n := i32_ofNat_clamp h
theorem dL_of {n : Nat} (h : n ≤ 6) : dL (nv n) = n := by
  unfold dL nv
  by_cases z : n < 6
  · rw [if_pos z, if_neg (i_nm1 (by omega)), i32_ofNat_clamp (by omega)]
  · rw [if_neg z, if_pos rfl]; omega
section PC
variable {X : Ctx} {d : Nat} {h : Hp} {S : AS}
theorem RC.years {h' : Hp} {W : Nat → Prop} {y : Nat} {A : AY} (q : RC h S) (o : okA S) (e : Eo W h h') (w : ∀ a, W a → 102 + 17 * y ≤ a ∧ a < 119 + 17 * y) (hy : y < 2) (c : cYear h' y A) : RC h' (putY S y A) := by
  obtain ⟨q1, q2, q3, q4, q5, q6, q7, q8, q9⟩ := q.1
  have n : ∀ a, (a < 102 + 17 * y ∨ 119 + 17 * y ≤ a) → ¬ W a := fun a z k => by have := w a k; omega
  refine ⟨⟨fun z hz => ?_, P2 q2 e (fun a z => n a (by omega)) (e.p (n _ (by omega))), P3 q3 e (fun a z => n a (by omega)) (e.p (n _ (by omega))), ?_, ?_, P6 (S := putY S y A) q6 e (fun a z z2 => n a (by omega)), P7 q7 e (fun a z z2 => n a (by omega)), q8.eo (e.i (n _ (by omega))), ?_⟩, q.2.eo (e.p (n _ (by omega)))⟩
  · show cYear h' z (if z = y then A else sY S z)
    by_cases zy : z = y
    · rw [if_pos zy]; subst zy; exact c
    · rw [if_neg zy]
      exact (q1 z hz).eo (fun a h1 h2 => e.i (n _ (by omega))) (o.1 z hz).2.1
  · rw [e.i (n 62 (by omega)), e.i (n 81 (by omega))]; exact q4
  · rw [e.i (n 82 (by omega))]; exact q5
  · rw [e.j (n 83 (by omega))]; exact q9
theorem RM.years {h' : Hp} {W : Nat → Prop} {y : Nat} {A : AY} (q : RM h S) (e : Eo W h h') (w : ∀ a, W a → 302 ≤ a ∧ a ≤ 310) (c : mYear h' y A) (c2 : ∀ z, z < 2 → z ≠ y → mYear h' z (sY S z)) : RM h' (putY S y A) := by
  obtain ⟨q1, q2, q3, q4, q5, q6, q7, q8, q9⟩ := q
  have n : ∀ a, (a < 302 ∨ 310 < a) → ¬ W a := fun a z k => by have := w a k; omega
  refine ⟨fun z hz => ?_, fun l hl => (q2 l hl).eo (fun a ha => by unfold inML at ha; exact e.i (n a (by omega))), ⟨q3.1.eo (e.i (n _ (by omega))) (e.i (n _ (by omega))) (e.i (n _ (by omega))) (e.i (n _ (by omega))), fun a ha b hb hn => (q3.2 a ha b hb hn).eo (e.i (n _ (by omega))) (e.i (n _ (by omega)))⟩, ?_, ?_, ?_, ?_, ?_, ?_⟩
  · show mYear h' z (if z = y then A else sY S z)
    by_cases zy : z = y
    · rw [if_pos zy, zy]; exact c
    · rw [if_neg zy]; exact c2 z hz zy
  · rw [e.i (n 301 (by omega)), e.i (n 332 (by omega))]; exact q4
  · rw [e.i (n 301 (by omega))]; exact q5
  · rw [e.i (n 301 (by omega))]; exact ⟨q6.1, q6.2.eo (e.i (n _ (by omega))) (e.i (n _ (by omega)))⟩
  · rw [e.i (n 301 (by omega))]; exact ⟨q7.1, q7.2.eo (e.i (n _ (by omega))) (e.i (n _ (by omega))) (e.i (n _ (by omega)))⟩
  · rw [e.i (n 301 (by omega))]; exact ⟨q8.1, q8.2.eo (e.i (n _ (by omega))) (e.i (n _ (by omega))) (e.i (n _ (by omega)))⟩
  · rw [e.i (n 301 (by omega))]; exact ⟨q9.1, q9.2.eo (e.i (n _ (by omega))) (e.i (n _ (by omega))) (e.i (n _ (by omega))) (e.j (n _ (by omega)))⟩
theorem c_night {y f t l : Int32} (I : Inv h) (q : RC h S) (o : okA S) :
    Wp (K X (d + 4) 97 [.ref 62, .int y, .int f, .int t, .int l] h) (VI fun v h' => (okNight y f t l → (v = 1 ∧ Cl h h' ∧ RC h' (nightS S (dN y) (dN f) (dN t) (dL l)))) ∧ (¬ okNight y f t l → v = 0 ∧ h' = h)) := by
  refine (n_97 I q o).mono ?_
  rintro v h' ⟨x, rfl, a, b⟩
  refine ⟨x, rfl, fun ok => ?_, b⟩
  obtain ⟨a1, a2, a3⟩ := a ok
  obtain ⟨hy, c1, c2, c3, hl⟩ := ok
  obtain ⟨yn, y2, rfl⟩ := yr_nat hy
  obtain ⟨xn, x6, rfl⟩ := ln_nat hl
  have t0 : ¬ t < 0 := fun z => c2 (Int32.lt_of_lt_of_le z (Int32.not_lt.mp c1))
  obtain ⟨tn, t3, rfl⟩ := i_nat (n := 360) (by decide) t0 c3
  have f3 : ¬ Int32.ofNat 360 ≤ f := fun z => c3 (Int32.le_trans z (Int32.not_lt.mp c2))
  obtain ⟨fn, f4, rfl⟩ := i_nat (n := 360) (by decide) c1 f3
  have ft : fn ≤ tn := nat_ge (by omega) rfl (by omega) c2
  rw [dN_of (by omega), dN_of (by omega), dN_of (by omega), dL_of x6]
  exact ⟨a1, a2, a3 yn fn tn xn y2 ft t3 x6 rfl rfl rfl rfl⟩
theorem setY_loop {Q : Option Value → Hp → Prop} {y a t x : Nat} {w : Nat → Nat} (hy : y < 2) (ht : t < 360) {v2 : Option Value} {h0 : Hp} : ∀ (c i : Nat) (h : Hp), i + c = t + 1 → a ≤ i → Inv h → (Eo (fun b => b = 302) h0 h ∧ (∀ k, k < 360 → hI h 302 (360 * y + k) = nv (setW w a i x k)) ∧ ∀ k, k < 360 → ∀ z, z < 2 → z ≠ y → hI h 302 (360 * z + k) = hI h0 302 (360 * z + k)) →
    (∀ h', Inv h' → (Eo (fun b => b = 302) h0 h' ∧ (∀ k, k < 360 → hI h' 302 (360 * y + k) = nv (setW w a (t + 1) x k)) ∧ ∀ k, k < 360 → ∀ z, z < 2 → z ≠ y → hI h' 302 (360 * z + k) = hI h0 302 (360 * z + k)) → Q (some (.int 1)) h') →
    Wp (sem (X, K X d) 147 48 [some (.ref 301), some (.int (Int32.ofNat y)), v2, some (.int (Int32.ofNat t)), some (.int (nv x)), some (.int (Int32.ofNat i))] [] h) Q
  | 0, i, h, e, hi, I, u, q => by
    have e : i = t + 1 := by omega
    subst e
    rw [b_147_48]
    exact w_ift ((i_lt (by omega) (by omega)).mpr (by omega)) (Wp.ret (q h I u))
  | c + 1, i, h, e, hi, I, u, q => by
    obtain ⟨u1, u2, u3⟩ := u
    have x1 : (360 : Int32) * Int32.ofNat y + Int32.ofNat i = Int32.ofNat (360 * y + i) := i_lin1 360 y i
    rw [b_147_48]
    refine w_iff (fun z => absurd ((i_lt (by omega) (by omega)).mp z) (by omega)) ?_
    refine w_gL I s_301 l_301_0 ?_
    rw [x1, i32_ofNat_succ]
    refine w_wIn I s_302 (by omega) (by decide) fun I => ?_
    refine setY_loop hy ht c (i + 1) _ (by omega) (by omega) I ⟨u1.kI rfl, fun k hk => ?_, fun k hk z hz zy => ?_⟩ q
    · rw [hI_sI_self, up1, ← setW_step w hi]
      unfold updW
      by_cases e : k = i
      · rw [if_pos (by omega), if_pos e]
      · rw [if_neg (by omega), if_neg e]; exact u2 k hk
    · rw [hI_sI_self, up1, if_neg (by omega)]; exact u3 k hk z hz zy
theorem m_night {y f t l : Int32} (I : Inv h) (q : RM h S) (o : okA S) :
    Wp (K X (d + 4) 147 [.ref 301, .int y, .int f, .int t, .int l] h) (VI fun v h' => (okNight y f t l → (v = 1 ∧ Mo h h' ∧ RM h' (nightS S (dN y) (dN f) (dN t) (dL l)))) ∧ (¬ okNight y f t l → v = 0 ∧ h' = h)) := by
  have k359 : ∀ {z : Int32}, (359 : Int32) < z ↔ (360 : Int32) ≤ z := lt_le (n := 359) (by decide)
  rw [k_147]
  refine w_eI yr_m ?_
  refine w_if (fun c => failI fun z => bi_dec.mp c z.1) (fun c => ?_)
  have hy : isYr y := Classical.byContradiction fun z => c (bi_dec.mpr z)
  refine w_eI m_142 ?_
  refine w_if (fun c => failI fun z => bi_dec.mp c ⟨z.2.1, fun w => z.2.2.2.1 (k359.mp (Int32.lt_of_lt_of_le w (Int32.not_lt.mp z.2.2.1)))⟩) (fun c => ?_)
  have hf : ¬ f < 0 ∧ ¬ 359 < f := Classical.byContradiction fun z => c (bi_dec.mpr z)
  refine w_eI m_142 ?_
  refine w_if (fun c => failI fun z => bi_dec.mp c ⟨z.2.2.1, fun w => z.2.2.2.1 (k359.mp w)⟩) (fun c => ?_)
  have ht : ¬ t < f ∧ ¬ 359 < t := Classical.byContradiction fun z => c (bi_dec.mpr z)
  have t3' : ¬ (360 : Int32) ≤ t := fun w => ht.2 (k359.mpr w)
  have go : isLN l → Wp (sem (X, K X (d + 3)) 147 48 [some (.ref 301), some (.int y), some (.int f), some (.int t), some (.int l), some (.int f)] [] h) (VI fun v h' => (okNight y f t l → (v = 1 ∧ Mo h h' ∧ RM h' (nightS S (dN y) (dN f) (dN t) (dL l)))) ∧ (¬ okNight y f t l → v = 0 ∧ h' = h)) := by
    intro hl
    refine passI ⟨hy, hf.1, ht.1, t3', hl⟩ ?_
    obtain ⟨yn, y2, rfl⟩ := yr_nat hy
    obtain ⟨x, x6, rfl⟩ := ln_nat hl
    have t0 : ¬ t < 0 := fun z => ht.1 (Int32.lt_of_lt_of_le z (Int32.not_lt.mp hf.1))
    obtain ⟨tn, t3, rfl⟩ := i_nat (n := 360) (by decide) t0 t3'
    have f3 : ¬ Int32.ofNat 360 ≤ f := fun z => t3' (Int32.le_trans z (Int32.not_lt.mp ht.1))
    obtain ⟨fn, f4, rfl⟩ := i_nat (n := 360) (by decide) hf.1 f3
    have ft : fn ≤ tn := nat_ge (by omega) rfl (by omega) ht.1
    obtain ⟨a1, a2⟩ := q.1 yn y2
    refine setY_loop (w := (sY S yn).1) (h0 := h) y2 t3 (tn + 1 - fn) fn h (by omega) (Nat.le_refl _) I ⟨Eo.rf, fun k hk => by rw [setW_0]; exact a1 k hk, fun _ _ _ _ _ => rfl⟩ fun h' I' u => ⟨_, rfl, rfl, u.1.wk (fun a z => by omega), ?_⟩
    obtain ⟨u1, u2, u3⟩ := u
    rw [dN_of (by omega), dN_of (by omega), dN_of (by omega), dL_of x6]
    have e : ∀ a, a ≠ 302 → hI h' a = hI h a := fun a ha => u1.i ha
    refine q.years u1 (fun a z => by omega) ⟨u2, by rw [e 303 (by decide)]; exact a2.1, by rw [e 304 (by decide)]; exact a2.2.1, by rw [e 304 (by decide)]; exact a2.2.2.1, by rw [e 305 (by decide)]; exact a2.2.2.2.1, a2.2.2.2.2.eo (e _ (by decide)) (e _ (by decide)) (e _ (by decide)) (e _ (by decide)) (e _ (by decide))⟩ fun z hz zy => ?_
    obtain ⟨b1, b2⟩ := q.1 z hz
    exact ⟨fun k hk => by rw [u3 k hk z hz zy]; exact b1 k hk, by rw [e 303 (by decide)]; exact b2.1, by rw [e 304 (by decide)]; exact b2.2.1, by rw [e 304 (by decide)]; exact b2.2.2.1, by rw [e 305 (by decide)]; exact b2.2.2.2.1, b2.2.2.2.2.eo (e _ (by decide)) (e _ (by decide)) (e _ (by decide)) (e _ (by decide)) (e _ (by decide))⟩
  refine w_if (fun c => go (Or.inl c)) (fun c1 => ?_)
  refine w_eI ld_m ?_
  refine w_if (fun c => go (Or.inr (Classical.byContradiction fun z => c (bi_dec.mpr z)))) (fun c => failI fun z => ?_)
  exact bi_dec.mp (Classical.byContradiction c) (z.2.2.2.2.resolve_left c1)
/-! home -/
def okHome (y l : Int32) : Prop := isYr y ∧ isLd l
def homeV (x l is : Int32) : Int32 := if is = 0 then x &&& ((1 <<< (l &&& 31)) ^^^ (-1)) else x ||| (1 <<< (l &&& 31))
def homeS (S : AS) (y : Nat) (l is : Int32) : AS := putY S y ((sY S y).1, homeV (sY S y).2.1 l is, (sY S y).2.2)
theorem okA_home {y : Nat} {l is : Int32} (o : okA S) (hy : y < 2) : okA (homeS S y l is) := okA_putY o (o.1 y hy) (fun z => by subst z; exact Nat.le_refl _)
theorem c_home {y l is : Int32} (I : Inv h) (q : RC h S) (o : okA S) :
    Wp (K X (d + 4) 98 [.ref 62, .int y, .int l, .int is] h) (VI fun v h' => (okHome y l → (v = 1 ∧ Cl h h' ∧ RC h' (homeS S (dN y) l is))) ∧ (¬ okHome y l → v = 0 ∧ h' = h)) := by
  rw [k_98]
  refine w_eI yr_c ?_
  refine w_if (fun c => failI fun z => bi_dec.mp c z.1) (fun c => ?_)
  have hy : isYr y := Classical.byContradiction fun z => c (bi_dec.mpr z)
  refine w_eI ld_c ?_
  refine w_if (fun c => ?_) (fun c => failI fun z => bi_dec.mp (Classical.byContradiction c) z.2)
  have hl : isLd l := Classical.byContradiction fun z => c (bi_dec.mpr z)
  refine passI ⟨hy, hl⟩ ?_
  obtain ⟨yn, y2, rfl⟩ := yr_nat hy
  have ys := year_s y2
  obtain ⟨a1, a2, a3, a4, a5⟩ := q.1.1 yn y2
  rw [dN_of (by omega)]
  refine w_gL I s_62 l_62_0 ?_
  refine w_aLn I s_63 (by decide) (by decide) y2 (by decide) (lk_years yn y2) ?_
  refine w_gL I ys.1 ys.2.2.2.2.2.2.1 ?_
  have fin : ∀ v, v = homeV (sY S yn).2.1 l is → Wp (some (some (.int 1), sI h (104 + 17 * yn) 2 v)) (VI fun x h' => x = 1 ∧ Cl h h' ∧ RC h' (homeS S yn l is)) := fun v hv => by
    have E : Eo (fun a => a = 104 + 17 * yn) h (sI h (104 + 17 * yn) 2 v) := Eo.rf.kI rfl
    refine Wp.reti ⟨rfl, E.wk (fun a z => by omega), q.years o E (fun a z => by omega) y2 ⟨fun k hk => by rw [sI_other (by omega)]; exact a1 k hk, ⟨fun k hk => by rw [sI_other (by omega)]; exact a2.1 k hk, ?_, ?_, ?_⟩, ?_, by rw [sI_other (by omega)]; exact a4, a5.eo (fun a h1 h2 => sI_other (by omega))⟩⟩
    · rw [hI_sI_self, up1, if_pos rfl]; exact hv
    · rw [hI_sI_self, up1, if_neg (by decide)]; exact a2.2.2.1
    · rw [hI_sI_self, up1, if_neg (by decide)]; exact a2.2.2.2
    · rw [hI_sI_self, up1, if_neg (by decide)]; exact a3
  refine w_if (fun c => ?_) (fun c => ?_)
  · refine w_gI I ys.2.2.1 ?_
    rw [a2.2.1]
    refine w_fI I ys.2.2.1 fun I => ?_
    exact fin _ (by unfold homeV; rw [if_pos c]; rfl)
  · refine w_gI I ys.2.2.1 ?_
    rw [a2.2.1]
    refine w_fI I ys.2.2.1 fun I => ?_
    exact fin _ (by unfold homeV; rw [if_neg c]; rfl)
theorem m_home {y l is : Int32} (I : Inv h) (q : RM h S) (o : okA S) :
    Wp (K X (d + 4) 148 [.ref 301, .int y, .int l, .int is] h) (VI fun v h' => (okHome y l → (v = 1 ∧ Mo h h' ∧ RM h' (homeS S (dN y) l is))) ∧ (¬ okHome y l → v = 0 ∧ h' = h)) := by
  rw [k_148]
  refine w_eI yr_m ?_
  refine w_if (fun c => failI fun z => bi_dec.mp c z.1) (fun c => ?_)
  have hy : isYr y := Classical.byContradiction fun z => c (bi_dec.mpr z)
  refine w_eI ld_m ?_
  refine w_if (fun c => ?_) (fun c => failI fun z => bi_dec.mp (Classical.byContradiction c) z.2)
  have hl : isLd l := Classical.byContradiction fun z => c (bi_dec.mpr z)
  refine passI ⟨hy, hl⟩ ?_
  obtain ⟨yn, y2, rfl⟩ := yr_nat hy
  obtain ⟨a1, a2, a3⟩ := q.1 yn y2
  rw [dN_of (by omega)]
  refine w_gL I s_301 l_301_1 ?_
  have fin : ∀ v, v = homeV (sY S yn).2.1 l is → Wp (some (some (.int 1), sI h 303 yn v)) (VI fun x h' => x = 1 ∧ Mo h h' ∧ RM h' (homeS S yn l is)) := fun v hv => by
    have E : Eo (fun a => a = 303) h (sI h 303 yn v) := Eo.rf.kI rfl
    have e : ∀ a, a ≠ 303 → hI (sI h 303 yn v) a = hI h a := fun a ha => sI_other ha
    refine Wp.reti ⟨rfl, E.wk (fun a z => by omega), q.years E (fun a z => by omega) ⟨fun k hk => by rw [e 302 (by decide)]; exact a1 k hk, by rw [hI_sI_self, up1, if_pos rfl]; exact hv, by rw [e 304 (by decide)]; exact a3.1, by rw [e 304 (by decide)]; exact a3.2.1, by rw [e 305 (by decide)]; exact a3.2.2.1, a3.2.2.2.eo (e _ (by decide)) (e _ (by decide)) (e _ (by decide)) (e _ (by decide)) (e _ (by decide))⟩ fun z hz zy => ?_⟩
    obtain ⟨b1, b2, b3⟩ := q.1 z hz
    exact ⟨fun k hk => by rw [e 302 (by decide)]; exact b1 k hk, by rw [hI_sI_self, up1, if_neg zy]; exact b2, by rw [e 304 (by decide)]; exact b3.1, by rw [e 304 (by decide)]; exact b3.2.1, by rw [e 305 (by decide)]; exact b3.2.2.1, b3.2.2.2.eo (e _ (by decide)) (e _ (by decide)) (e _ (by decide)) (e _ (by decide)) (e _ (by decide))⟩
  refine w_if (fun c => ?_) (fun c => ?_)
  · refine w_gL I s_301 l_301_1 ?_
    refine w_aIn I s_303 y2 (by decide) ?_
    rw [a2]
    refine w_wIn I s_303 y2 (by decide) fun I => ?_
    exact fin _ (by unfold homeV; rw [if_pos c])
  · refine w_gL I s_301 l_301_1 ?_
    refine w_aIn I s_303 y2 (by decide) ?_
    rw [a2]
    refine w_wIn I s_303 y2 (by decide) fun I => ?_
    exact fin _ (by unfold homeV; rw [if_neg c])
end PC
