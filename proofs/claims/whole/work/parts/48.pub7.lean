/-! sum -/
theorem cSums.snoc {h h' : Hp} {S : SumT} : ∀ {r : List SumT} {u : Nat}, cSums h u r → (∀ a, u ≤ a → a < u + r.length → hI h' a = hI h a) → cSum h' (u + r.length) S → cSums h' u (r ++ [S])
  | [], _, _, _, c => ⟨c, trivial⟩
  | T :: r, u, q, e, c => by
    have l : u + (T :: r).length = u + 1 + r.length := by simp; omega
    rw [l] at e c
    exact ⟨q.1.eo (e u (Nat.le_refl _) (by omega)), cSums.snoc q.2 (fun a h1 h2 => e a (by omega) h2) c⟩
theorem rSums.eo2 {h h' : Hp} {a b c d e : Nat} : ∀ {r : List SumT} {j : Nat}, rSums h a b c d e j r → (∀ i, j ≤ i → i < j + r.length → hI h' a i = hI h a i ∧ hI h' b i = hI h b i ∧ hI h' c i = hI h c i ∧ hI h' d i = hI h d i ∧ hI h' e i = hI h e i) → rSums h' a b c d e j r
  | [], _, _, _ => trivial
  | S :: r, j, q, f => by
    obtain ⟨f1, f2, f3, f4, f5⟩ := f j (Nat.le_refl _) (by simp)
    exact ⟨by rw [f1, f2, f3, f4, f5]; exact q.1, rSums.eo2 q.2 (fun i h1 h2 => f i (by omega) (by simp; omega))⟩
theorem rSums.snoc {h : Hp} {a b c d e : Nat} {S : SumT} : ∀ {r : List SumT} {j : Nat}, rSums h a b c d e j r → (hI h a (j + r.length) = Int32.ofNat S.1 ∧ hI h b (j + r.length) = Int32.ofNat S.2.1 ∧ hI h c (j + r.length) = Int32.ofNat S.2.2.1 ∧ hI h d (j + r.length) = Int32.ofNat S.2.2.2.1 ∧ hI h e (j + r.length) = Int32.ofNat S.2.2.2.2) → rSums h a b c d e j (r ++ [S])
  | [], _, _, f => ⟨f, trivial⟩
  | T :: r, j, q, f => by
    have l : j + (T :: r).length = j + 1 + r.length := by simp; omega
    rw [l] at f
    exact ⟨q.1, rSums.snoc q.2 f⟩
section PH
variable {X : Ctx} {d : Nat} {h : Hp} {S : AS}
def okSumC (S : AS) (y k r a s p : Int32) : Prop := isYr y ∧ (¬ k < 0 ∧ ¬ 6 ≤ k) ∧ (k = 5 → ¬ r < 0 ∧ ¬ 5 ≤ r) ∧ (¬ a < 1 ∧ ¬ 999999 < a) ∧ isLd s ∧ isLd p ∧ nS S (dN y) ≠ 12
def sumS (S : AS) (y : Nat) (T : SumT) : AS := putY S y ((sY S y).1, (sY S y).2.1, (sY S y).2.2.1, (sY S y).2.2.2.1, (sY S y).2.2.2.2 ++ [T])
def sumT (k r a s p : Int32) : SumT := (dN k, dN (if k = 5 then r else k), dN a, dN s, dN p)
theorem okA_sum {y : Nat} {T : SumT} (o : okA S) (hy : y < 2) (hT : okSm T) (hn : nS S y ≠ 12) : okA (sumS S y T) := by
  refine okA_putY o ⟨(o.1 y hy).1, ?_, fun U hU => ?_⟩ (fun z => by subst z; simp)
  · have h1 := (o.1 y hy).2.1
    have hn : (sY S y).2.2.2.2.length ≠ 12 := hn
    simp; omega
  · rcases List.mem_append.mp hU with z | z
    · exact (o.1 y hy).2.2 U z
    · rw [List.mem_singleton.mp z]; exact hT
theorem sumT_ok {y k r a s p : Int32} (ok : okSumC S y k r a s p) : okSm (sumT k r a s p) ∧ k = Int32.ofNat (sumT k r a s p).1 ∧ (if k = 5 then r else k) = Int32.ofNat (sumT k r a s p).2.1 ∧ a = Int32.ofNat (sumT k r a s p).2.2.1 ∧ s = Int32.ofNat (sumT k r a s p).2.2.2.1 ∧ p = Int32.ofNat (sumT k r a s p).2.2.2.2 := by
  obtain ⟨-, k2, k3, k4, k5, k6, -⟩ := ok
  obtain ⟨kn, kn6, rfl⟩ := i_nat (n := 6) (by decide) k2.1 k2.2
  obtain ⟨sn, sn6, rfl⟩ := ld_nat k5
  obtain ⟨pn, pn6, rfl⟩ := ld_nat k6
  have a0 : ¬ a < 0 := fun z => k4.1 (Int32.lt_of_lt_of_le z (by decide))
  obtain ⟨an, an6, rfl⟩ := i_nat (n := 1000000) (by decide) a0 (fun z => k4.2 ((lt_le (n := 999999) (by decide)).mpr z))
  have a1 : 1 ≤ an := Nat.le_of_not_lt fun z => k4.1 ((i_lt (n := 1) (by omega) (by decide)).mpr z)
  unfold sumT
  rw [dN_of (by omega), dN_of (by omega), dN_of (by omega), dN_of (by omega)]
  by_cases e5 : Int32.ofNat kn = 5
  · have : kn = 5 := (i_eq (n := 5) (by omega) (by decide)).mp e5
    obtain ⟨rn, rn5, rfl⟩ := i_nat (n := 5) (by decide) (k3 e5).1 (k3 e5).2
    rw [if_pos e5, dN_of (by omega)]
    exact ⟨⟨kn6, by show rn < 6; omega, fun z => absurd this z, a1, by show an ≤ 999999; omega, sn6, pn6⟩, rfl, rfl, rfl, rfl, rfl⟩
  · rw [if_neg e5, dN_of (by omega)]
    exact ⟨⟨kn6, kn6, fun _ => rfl, a1, by show an ≤ 999999; omega, sn6, pn6⟩, rfl, rfl, rfl, rfl, rfl⟩
theorem c_sum {y k r a s p : Int32} (I : Inv h) (q : RC h S) (o : okA S) :
    Wp (K X (d + 4) 100 [.ref 62, .int y, .int k, .int r, .int a, .int s, .int p] h) (VI fun v h' => (okSumC S y k r a s p → (v = Int32.ofNat (nS S (dN y)) ∧ Cl h h' ∧ RC h' (sumS S (dN y) (sumT k r a s p)))) ∧ (¬ okSumC S y k r a s p → v = -1 ∧ h' = h)) := by
  rw [k_100]
  refine w_eI yr_c ?_
  refine w_if (fun c => failI fun z => bi_dec.mp c z.1) (fun c => ?_)
  have hy : isYr y := Classical.byContradiction fun z => c (bi_dec.mpr z)
  refine w_if (fun c => failI fun z => z.2.1.1 c) (fun c0 => ?_)
  refine w_if (fun c => failI fun z => z.2.1.2 c) (fun c1 => ?_)
  have go : (k = 5 → ¬ r < 0 ∧ ¬ 5 ≤ r) → Wp (sem (X, K X (d + 3)) 100 33 [some (.ref 62), some (.int y), some (.int k), some (.int r), some (.int a), some (.int s), some (.int p), none, none] [] h) (VI fun v h' => (okSumC S y k r a s p → (v = Int32.ofNat (nS S (dN y)) ∧ Cl h h' ∧ RC h' (sumS S (dN y) (sumT k r a s p)))) ∧ (¬ okSumC S y k r a s p → v = -1 ∧ h' = h)) := by
    intro hr
    obtain ⟨yn, y2, ey⟩ := yr_nat hy
    have dy : dN y = yn := by rw [ey, dN_of (by omega)]
    have ys := year_s y2
    obtain ⟨a1, a2, a3, a4, a5⟩ := q.1.1 yn y2
    have n12 : (sY S yn).2.2.2.2.length ≤ 12 := (o.1 yn y2).2.1
    rw [b_100_33, ey]
    refine w_gL I s_62 l_62_0 ?_
    refine w_aLn I s_63 (by decide) (by decide) y2 (by decide) (lk_years yn y2) ?_
    rw [← ey]
    refine w_if (fun c => failI fun z => z.2.2.2.1.1 c) (fun c2 => ?_)
    refine w_if (fun c => failI fun z => z.2.2.2.1.2 c) (fun c3 => ?_)
    refine w_eI ld_c ?_
    refine w_if (fun c => failI fun z => bi_dec.mp c z.2.2.2.2.1) (fun c => ?_)
    have hs : isLd s := Classical.byContradiction fun z => c (bi_dec.mpr z)
    refine w_eI ld_c ?_
    refine w_if (fun c => failI fun z => bi_dec.mp c z.2.2.2.2.2.1) (fun c => ?_)
    have hp : isLd p := Classical.byContradiction fun z => c (bi_dec.mpr z)
    refine w_gI I ys.1 ?_
    rw [a4]
    refine w_if (fun c => ?_) (fun c => failI fun z => c ((i_lt (n := 12) (by omega) (by omega)).mpr (by have := z.2.2.2.2.2.2; rw [dy] at this; have this : (sY S yn).2.2.2.2.length ≠ 12 := this; omega)))
    have c4 := (i_lt (n := 12) (by omega) (by omega)).mp c
    have ok : okSumC S y k r a s p := ⟨hy, ⟨c0, c1⟩, hr, ⟨c2, c3⟩, hs, hp, by rw [dy]; show (sY S yn).2.2.2.2.length ≠ 12; omega⟩
    refine passI ok ?_
    obtain ⟨t0, t1, t2, t3, t4, t5⟩ := sumT_ok ok
    rw [dy]
    refine w_gL I ys.1 ys.2.2.2.2.2.2.2.1 ?_
    refine w_gI I ys.1 ?_
    rw [a4]
    refine w_aLn I ys.2.2.2.2.1 (by decide) (by decide) c4 (by decide) (lk_sums yn y2 _ c4) ?_
    have hu := sum_s y2 c4
    refine w_fI I hu fun I => ?_
    have g113 : ∀ v, v = (if k = 5 then r else k) → ∀ (w0 w1 w2 w3 : Option Value), Wp (sem (X, K X (d + 3)) 100 113 [w0, w1, w2, w3, some (.int a), some (.int s), some (.int p), some (.ref (102 + 17 * yn)), some (.ref (107 + 17 * yn + (sY S yn).2.2.2.2.length))] [.int v, .ref (107 + 17 * yn + (sY S yn).2.2.2.2.length)] (sI h (107 + 17 * yn + (sY S yn).2.2.2.2.length) 0 k)) (VI fun v h' => v = Int32.ofNat (nS S yn) ∧ Cl h h' ∧ RC h' (sumS S yn (sumT k r a s p))) := by
      intro v hv w0 w1 w2 w3
      rw [b_100_113]
      refine w_fI I hu fun I => ?_
      refine w_fI I hu fun I => ?_
      refine w_fI I hu fun I => ?_
      refine w_fI I hu fun I => ?_
      refine w_gI I ys.1 ?_
      have e3 : ∀ (g : Hp) (j : Nat) (v : Int32), hI (sI g (107 + 17 * yn + (sY S yn).2.2.2.2.length) j v) (102 + 17 * yn) = hI g (102 + 17 * yn) := fun g j v => sI_other (by omega)
      rw [e3, e3, e3, e3, e3, a4]
      refine w_fI I ys.1 fun I => ?_
      refine w_gI I ys.1 ?_
      generalize hg : sI (sI (sI (sI (sI (sI h (107 + 17 * yn + (sY S yn).2.2.2.2.length) 0 k) (107 + 17 * yn + (sY S yn).2.2.2.2.length) 1 v) (107 + 17 * yn + (sY S yn).2.2.2.2.length) 2 a) (107 + 17 * yn + (sY S yn).2.2.2.2.length) 3 s) (107 + 17 * yn + (sY S yn).2.2.2.2.length) 4 p) (102 + 17 * yn) 3 (Int32.ofNat (sY S yn).2.2.2.2.length + 1) = g at I ⊢
      have E : Eo (fun b => b = 102 + 17 * yn ∨ b = 107 + 17 * yn + (sY S yn).2.2.2.2.length) h g := by
        rw [← hg]; exact (((((Eo.rf.kI (by omega)).kI (by omega)).kI (by omega)).kI (by omega)).kI (by omega)).kI (by omega)
      have g8 : hI g (102 + 17 * yn) 3 = Int32.ofNat (sY S yn).2.2.2.2.length + 1 := by rw [← hg, hI_sI_self, up1, if_pos rfl]
      have gu : hI g (107 + 17 * yn + (sY S yn).2.2.2.2.length) = up1 (up1 (up1 (up1 (up1 (hI h (107 + 17 * yn + (sY S yn).2.2.2.2.length)) 0 k) 1 v) 2 a) 3 s) 4 p := by
        rw [← hg, sI_other (by omega)]; simp only [hI_sI_self]
      rw [g8, ofNat_m1]
      have cs : cSum g (107 + 17 * yn + (sY S yn).2.2.2.2.length) (sumT k r a s p) := by
        unfold cSum
        rw [gu]
        exact ⟨t1, hv.trans t2, t3, t4, t5⟩
      refine Wp.reti ⟨rfl, E.wk (fun a z => by omega), q.years o E (fun a z => by omega) y2 ⟨fun j hj => by rw [E.i (by omega)]; exact a1 j hj, a2.eo (E.i (by omega)) (E.i (by omega)), by rw [E.i (by omega)]; exact a3, ?_, a5.snoc (fun b h1 h2 => E.i (by omega)) cs⟩⟩
      rw [g8, i32_ofNat_succ]; congr 1; simp
    refine w_if (fun e5 => ?_) (fun e5 => ?_)
    · exact g113 k (if_neg e5).symm _ _ _ _
    · exact g113 r (if_pos (Classical.byContradiction e5)).symm _ _ _ _
  refine w_if (fun e5 => go (fun z => absurd z e5)) (fun e5 => ?_)
  have e5 : k = 5 := Classical.byContradiction e5
  refine w_if (fun c => failI fun z => (z.2.2.1 e5).1 c) (fun c5 => ?_)
  refine w_if (fun c => go (fun _ => ⟨c5, Int32.not_le.mpr c⟩)) (fun c => failI fun z => c (Int32.not_le.mp (z.2.2.1 e5).2))
theorem m_sum {y k r a s p : Int32} (I : Inv h) (q : RM h S) (o : okA S) :
    Wp (K X (d + 4) 150 [.ref 301, .int y, .int k, .int r, .int a, .int s, .int p] h) (VI fun v h' => (okSumC S y k r a s p → (v = Int32.ofNat (nS S (dN y)) ∧ Mo h h' ∧ RM h' (sumS S (dN y) (sumT k r a s p)))) ∧ (¬ okSumC S y k r a s p → v = -1 ∧ h' = h)) := by
  have k6 : ∀ {z : Int32}, (¬ z < 0 ∧ ¬ 5 < z) ↔ (¬ z < 0 ∧ ¬ 6 ≤ z) := and_congr Iff.rfl (not_congr (lt_le (n := 5) (by decide)))
  have k5 : ∀ {z : Int32}, (¬ z < 0 ∧ ¬ 4 < z) ↔ (¬ z < 0 ∧ ¬ 5 ≤ z) := and_congr Iff.rfl (not_congr (lt_le (n := 4) (by decide)))
  rw [k_150]
  refine w_eI yr_m ?_
  refine w_if (fun c => failI fun z => bi_dec.mp c z.1) (fun c => ?_)
  have hy : isYr y := Classical.byContradiction fun z => c (bi_dec.mpr z)
  refine w_eI m_142 ?_
  refine w_if (fun c => failI fun z => bi_dec.mp c (k6.mpr z.2.1)) (fun c => ?_)
  have hk : ¬ k < 0 ∧ ¬ 6 ≤ k := k6.mp (Classical.byContradiction fun z => c (bi_dec.mpr z))
  have go : (k = 5 → ¬ r < 0 ∧ ¬ 5 ≤ r) → Wp (sem (X, K X (d + 3)) 150 30 [some (.ref 301), some (.int y), some (.int k), some (.int r), some (.int a), some (.int s), some (.int p), none] [] h) (VI fun v h' => (okSumC S y k r a s p → (v = Int32.ofNat (nS S (dN y)) ∧ Mo h h' ∧ RM h' (sumS S (dN y) (sumT k r a s p)))) ∧ (¬ okSumC S y k r a s p → v = -1 ∧ h' = h)) := by
    intro hr
    obtain ⟨yn, y2, ey⟩ := yr_nat hy
    have dy : dN y = yn := by rw [ey, dN_of (by omega)]
    obtain ⟨b1, b2, b3, b4, b5, b6⟩ := q.1 yn y2
    have n12 : (sY S yn).2.2.2.2.length ≤ 12 := (o.1 yn y2).2.1
    rw [b_150_30]
    refine w_eI m_142 ?_
    refine w_if (fun c => failI fun z => bi_dec.mp c z.2.2.2.1) (fun c => ?_)
    have ha : ¬ a < 1 ∧ ¬ 999999 < a := Classical.byContradiction fun z => c (bi_dec.mpr z)
    refine w_eI ld_m ?_
    refine w_if (fun c => failI fun z => bi_dec.mp c z.2.2.2.2.1) (fun c => ?_)
    have hs : isLd s := Classical.byContradiction fun z => c (bi_dec.mpr z)
    refine w_eI ld_m ?_
    refine w_if (fun c => failI fun z => bi_dec.mp c z.2.2.2.2.2.1) (fun c => ?_)
    have hp : isLd p := Classical.byContradiction fun z => c (bi_dec.mpr z)
    refine w_gL I s_301 l_301_3 ?_
    rw [ey]
    refine w_aIn I s_305 y2 (by decide) ?_
    rw [b5]
    refine w_if (fun c => ?_) (fun c => failI fun z => z.2.2.2.2.2.2 (by rw [← ey, dy]; exact (i_eq (m := (sY S yn).2.2.2.2.length) (n := 12) (by omega) (by omega)).mp (Classical.byContradiction c)))
    have c4 : (sY S yn).2.2.2.2.length < 12 := by
      have : (sY S yn).2.2.2.2.length ≠ 12 := fun z => c (by rw [z]; rfl)
      omega
    rw [← ey]
    have ok : okSumC S y k r a s p := ⟨hy, hk, hr, ha, hs, hp, by rw [dy]; show (sY S yn).2.2.2.2.length ≠ 12; omega⟩
    refine passI ok ?_
    obtain ⟨t0, t1, t2, t3, t4, t5⟩ := sumT_ok ok
    rw [dy, ey]
    have x1 : (12 : Int32) * Int32.ofNat yn + Int32.ofNat (sY S yn).2.2.2.2.length = Int32.ofNat (12 * yn + (sY S yn).2.2.2.2.length) := i_lin1 12 yn _
    have hb : 12 * yn + (sY S yn).2.2.2.2.length < 24 := by omega
    refine w_gL I s_301 l_301_3 ?_
    refine w_aIn I s_305 y2 (by decide) ?_
    rw [b5, x1]
    refine w_gL I s_301 l_301_4 ?_
    refine w_wIn I s_306 hb (by decide) fun I => ?_
    refine w_gL I s_301 l_301_5 ?_
    have g107 : ∀ v, v = (if k = 5 then r else k) → ∀ (w2 w3 : Option Value), Wp (sem (X, K X (d + 3)) 150 107 [some (.ref 301), some (.int (Int32.ofNat yn)), w2, w3, some (.int a), some (.int s), some (.int p), some (.int (Int32.ofNat (12 * yn + (sY S yn).2.2.2.2.length)))] [.int v, .int (Int32.ofNat (12 * yn + (sY S yn).2.2.2.2.length)), .ref 307] (sI h 306 (12 * yn + (sY S yn).2.2.2.2.length) k)) (VI fun v h' => v = Int32.ofNat (nS S yn) ∧ Mo h h' ∧ RM h' (sumS S yn (sumT k r a s p))) := by
      intro v hv w2 w3
      rw [b_150_107]
      refine w_wIn I s_307 hb (by decide) fun I => ?_
      refine w_gL I s_301 l_301_6 ?_
      refine w_wIn I s_308 hb (by decide) fun I => ?_
      refine w_gL I s_301 l_301_7 ?_
      refine w_wIn I s_309 hb (by decide) fun I => ?_
      refine w_gL I s_301 l_301_8 ?_
      refine w_wIn I s_310 hb (by decide) fun I => ?_
      refine w_gL I s_301 l_301_3 ?_
      refine w_aIn I s_305 y2 (by decide) ?_
      rw [sI_other (b := 305) (by decide), sI_other (b := 305) (by decide), sI_other (b := 305) (by decide), sI_other (b := 305) (by decide), sI_other (b := 305) (by decide), b5]
      refine w_wIn I s_305 y2 (by decide) fun I => ?_
      refine w_gL I s_301 l_301_3 ?_
      refine w_aIn I s_305 y2 (by decide) ?_
      generalize hg : sI (sI (sI (sI (sI (sI h 306 (12 * yn + (sY S yn).2.2.2.2.length) k) 307 (12 * yn + (sY S yn).2.2.2.2.length) v) 308 (12 * yn + (sY S yn).2.2.2.2.length) a) 309 (12 * yn + (sY S yn).2.2.2.2.length) s) 310 (12 * yn + (sY S yn).2.2.2.2.length) p) 305 yn (Int32.ofNat (sY S yn).2.2.2.2.length + 1) = g at I ⊢
      have E : Eo (fun b => 305 ≤ b ∧ b ≤ 310) h g := by
        rw [← hg]; exact (((((Eo.rf.kI (by omega)).kI (by omega)).kI (by omega)).kI (by omega)).kI (by omega)).kI (by omega)
      have g5 : hI g 305 = up1 (hI h 305) yn (Int32.ofNat (sY S yn).2.2.2.2.length + 1) := by rw [← hg, hI_sI_self, sI_other (by decide), sI_other (by decide), sI_other (by decide), sI_other (by decide), sI_other (by decide)]
      have e6 : hI g 306 = up1 (hI h 306) (12 * yn + (sY S yn).2.2.2.2.length) k := by rw [← hg, sI_other (by decide), sI_other (by decide), sI_other (by decide), sI_other (by decide), sI_other (by decide), hI_sI_self]
      have e7 : hI g 307 = up1 (hI h 307) (12 * yn + (sY S yn).2.2.2.2.length) v := by rw [← hg, sI_other (by decide), sI_other (by decide), sI_other (by decide), sI_other (by decide), hI_sI_self, sI_other (by decide)]
      have e8 : hI g 308 = up1 (hI h 308) (12 * yn + (sY S yn).2.2.2.2.length) a := by rw [← hg, sI_other (by decide), sI_other (by decide), sI_other (by decide), hI_sI_self, sI_other (by decide), sI_other (by decide)]
      have e9 : hI g 309 = up1 (hI h 309) (12 * yn + (sY S yn).2.2.2.2.length) s := by rw [← hg, sI_other (by decide), sI_other (by decide), hI_sI_self, sI_other (by decide), sI_other (by decide), sI_other (by decide)]
      have e10 : hI g 310 = up1 (hI h 310) (12 * yn + (sY S yn).2.2.2.2.length) p := by rw [← hg, sI_other (by decide), hI_sI_self, sI_other (by decide), sI_other (by decide), sI_other (by decide), sI_other (by decide)]
      have old : ∀ i, i ≠ 12 * yn + (sY S yn).2.2.2.2.length → hI g 306 i = hI h 306 i ∧ hI g 307 i = hI h 307 i ∧ hI g 308 i = hI h 308 i ∧ hI g 309 i = hI h 309 i ∧ hI g 310 i = hI h 310 i := fun i hi => by
        rw [e6, e7, e8, e9, e10, up1, up1, up1, up1, up1, if_neg hi, if_neg hi, if_neg hi, if_neg hi, if_neg hi]; exact ⟨rfl, rfl, rfl, rfl, rfl⟩
      have new : hI g 306 (12 * yn + (sY S yn).2.2.2.2.length) = k ∧ hI g 307 (12 * yn + (sY S yn).2.2.2.2.length) = v ∧ hI g 308 (12 * yn + (sY S yn).2.2.2.2.length) = a ∧ hI g 309 (12 * yn + (sY S yn).2.2.2.2.length) = s ∧ hI g 310 (12 * yn + (sY S yn).2.2.2.2.length) = p := by
        rw [e6, e7, e8, e9, e10, up1, up1, up1, up1, up1, if_pos rfl, if_pos rfl, if_pos rfl, if_pos rfl, if_pos rfl]; exact ⟨rfl, rfl, rfl, rfl, rfl⟩
      have g55 : hI g 305 yn = Int32.ofNat (sY S yn).2.2.2.2.length + 1 := by rw [g5, up1, if_pos rfl]
      rw [g55, ofNat_m1]
      refine Wp.reti ⟨rfl, E.wk (fun a z => by omega), q.years E (fun a z => by omega) ⟨fun j hj => by rw [E.i (by omega)]; exact b1 j hj, by rw [E.i (by omega)]; exact b2, by rw [E.i (by omega)]; exact b3, by rw [E.i (by omega)]; exact b4, ?_, (b6.eo2 (fun i h1 h2 => old i (by omega))).snoc ?_⟩ fun z hz zy => ?_⟩
      · rw [g55, i32_ofNat_succ]; congr 1; simp
      · obtain ⟨n1, n2, n3, n4, n5⟩ := new
        exact ⟨n1.trans t1, (n2.trans hv).trans t2, n3.trans t3, n4.trans t4, n5.trans t5⟩
      · obtain ⟨c1, c2, c3, c4', c5, c6⟩ := q.1 z hz
        have nz : (sY S z).2.2.2.2.length ≤ 12 := (o.1 z hz).2.1
        exact ⟨fun j hj => by rw [E.i (by omega)]; exact c1 j hj, by rw [E.i (by omega)]; exact c2, by rw [E.i (by omega)]; exact c3, by rw [E.i (by omega)]; exact c4', by rw [g5, up1, if_neg zy]; exact c5, c6.eo2 (fun i h1 h2 => old i (by omega))⟩
    refine w_if (fun e5 => ?_) (fun e5 => ?_)
    · exact g107 k (if_neg e5).symm _ _
    · exact g107 r (if_pos (Classical.byContradiction e5)).symm _ _
  refine w_if (fun e5 => go (fun z => absurd z e5)) (fun e5 => ?_)
  have e5 : k = 5 := Classical.byContradiction e5
  refine w_eI m_142 ?_
  refine w_if (fun c => failI fun z => bi_dec.mp c (k5.mpr (z.2.2.1 e5))) (fun c => go fun _ => k5.mp (Classical.byContradiction fun z => c (bi_dec.mpr z)))
end PH
