/-! OWES, of the class -/
section OW
variable {X : Ctx} {d : Nat} {Q : Option Value → Hp → Prop} {S : AS} {h : Hp}
theorem told_bd {du : Nat → Int} {off : Nat → Nat → Bool} {p : Nat → Bool} (hd : ∀ l, l < 6 → (du l).natAbs ≤ 17179869184) {l : Nat} (hl : l < 6) (hp : p l = true) : (told du off p l).natAbs ≤ 12369505812480 := by
  unfold told
  cases hs : solP du off p with
  | none => exact Nat.zero_le _
  | some t =>
    obtain ⟨M, e⟩ := t
    obtain ⟨B, st, hB, bd⟩ := mA_sol hd hs
    show ((sg e * XL p M l).tdiv (sg e * e)).natAbs ≤ _
    rw [Int.natAbs_tdiv, sg_abs]
    exact Nat.le_trans (Nat.div_le_self _ _) (bd.1 l hl hp)
theorem tak_bd {V : Sv} {AL : Nat → ALaw} {PA : Nat → APact} {B : Int} {T : SumT} (o : okSm T) (oL : ∀ l, l < 6 → okL (AL l)) (hB : 0 < B) {l : Nat} (hl : l < 6) : (takP V AL PA B T l).natAbs ≤ 12369505812480 := by
  have hA : ∀ m, m < 6 → 0 ≤ ahP V AL PA B T m ∧ ahP V AL PA B T m ≤ 1999998000 := fun m hm => ah_bd (oL m hm) o hB
  have ha := hA l hl
  unfold takP tk tkn
  split
  · omega
  · split
    · split
      · rename_i hp
        exact told_bd (du_bd hA) hl hp
      · decide
    · omega
/-- how many take something -/
def posN (t : Nat → Int) : Nat → Nat
  | 0 => 0
  | n + 1 => posN t n + if 0 < t n then 1 else 0
theorem posN_le (t : Nat → Int) : ∀ n, posN t n ≤ n
  | 0 => Nat.le_refl _
  | n + 1 => by
    have := posN_le t n
    unfold posN; split <;> omega
theorem c27 {t : Nat → Int} (I : Inv h) (ht : ∀ l, l < 6 → hJ h 289 l = Int64.ofInt (t l)) (jt : ∀ l, l < 6 → jr (t l)) : ∀ (c l : Nat), l + c = 6 →
    sem (X, K X d) 27 4 [some (.ref 274), some (.int (Int32.ofNat (posN t l))), some (.int (Int32.ofNat l))] [] h = some (some (.int (Int32.ofNat (posN t 6))), h)
  | 0, l, el => by
    have el : l = 6 := by omega
    subst el
    rw [b_27_4, if_pos (by decide)]
  | c + 1, l, el => by
    have hl : l < 6 := by omega
    have ih := c27 I ht jt c (l + 1) (by omega)
    have st : posN t (l + 1) = posN t l + if 0 < t l then 1 else 0 := rfl
    refine Wp.eqI ?_
    rw [b_27_4]
    refine w_iff (fun z => absurd ((i_le (m := 6) (by omega) (by omega)).mp z) (by omega)) ?_
    refine w_gL I s_274 l_274_9 ?_
    refine w_aJn I s_289 hl (by decide) ?_
    rw [ht l hl, i32_ofNat_succ]
    refine w_if (fun c0 => ?_) (fun c0 => ?_)
    · have := (j_le (b := 0) (jt l hl) (by unfold jr; omega)).mp ((lg_cmp_le _ _).mp c0)
      rw [st, if_neg (by omega), Nat.add_zero] at ih
      rw [Int32.add_zero]
      exact Wp.eq ih ⟨_, rfl, rfl, rfl⟩
    · have : ¬ t l ≤ 0 := fun z => c0 ((lg_cmp_le _ _).mpr ((j_le (b := 0) (jt l hl) (by unfold jr; omega)).mpr z))
      rw [st, if_pos (by omega)] at ih
      rw [i32_ofNat_succ]
      exact Wp.eq ih ⟨_, rfl, rfl, rfl⟩
theorem m_27 {t : Nat → Int} (I : Inv h) (ht : ∀ l, l < 6 → hJ h 289 l = Int64.ofInt (t l)) (jt : ∀ l, l < 6 → jr (t l)) : K X (d + 1) 27 [.ref 274] h = some (some (.int (Int32.ofNat (posN t 6))), h) := by
  rw [k_27]
  exact c27 I ht jt 6 0 rfl
/-- SUM i: what each takes, how many -/
def tkS (S : AS) (y i l : Nat) : Int := takP (vY S y) (sL S) (sPc S) (vB S y) (sumA S y i) l
def tkC (S : AS) (y i : Nat) : Nat := posN (tkS S y i) 6
def owT (S : AS) (y : Nat) : Nat → Int
  | 0 => 0
  | n + 1 => owT S y n + sumTo6 (tkS S y n) 6
def owF (S : AS) (y lo hi i : Nat) : Bool := decide (lo ≤ tkC S y i ∧ tkC S y i ≤ hi)
/-- going through the SUMS of a year that is heard -/
theorem each {y i : Nat} {h1 : Hp} {f : Int64 → Hp → Option (Option Value × Hp)} (o : okA S) (hy : y < 2) (hi : i < nS S y) (q1 : RC h1 S) (L1 : LvC h1 (vY S y) (sL S) (sPc S) (vB S y)) (I : Inv h) (E : LvE h1 h) (g : ∃ ro, Rg h ro)
    (k : ∀ h2, Inv h2 → LvE h1 h2 → (∃ ro, Rg h2 ro) → (∀ l, l < 6 → hJ h2 289 l = Int64.ofInt (tkS S y i l)) → Wp (f (Int64.ofInt (sumTo6 (tkS S y i) 6)) h2) Q) :
    Wp (gR h 9 (102 + 17 * y) 2 fun g2 => aR h g2 (Int32.ofNat i) fun g3 => gd (hS h 274 = (3, 0)) (bJ (K X (d + 6) 21 [.ref 274, .ref g3] h) f)) Q := by
  have n12 : (sY S y).2.2.2.2.length ≤ 12 := (o.1 y hy).2.1
  have i12 : i < 12 := Nat.lt_of_lt_of_le hi n12
  have mem := sumA_mem hi
  have oT := (o.1 y hy).2.2 _ mem.1
  have hB := baseB o hy hi
  have hu2 : 107 + 17 * y + i < 274 := by omega
  have hT : cSum h1 (107 + 17 * y + i) (sumA S y i) := by
    have := (q1.1.1 y hy).2.2.2.2.at hi
    rw [mem.2] at this
    exact this
  obtain ⟨ro, g⟩ := g
  refine w_gL I (year_s hy).1 (year_s hy).2.2.2.2.2.2.2.1 ?_
  refine w_aLn I (year_s hy).2.2.2.2.1 (by decide) (by decide) i12 (by decide) (lk_sums y hy i i12) ?_
  refine w_gS I s_274 ?_
  refine w_bJ I (m_21 I (sum_s hy i12) hu2 (L1.eo E) (E.sum hu2 hT) oT ⟨by unfold vB; omega, by unfold vB; omega⟩ o.2.1 g) (by decide) rfl ?_
  rintro x h2 I2 ⟨rfl, e1, e2, e3, e4, e5⟩
  exact k h2 I2 (E.tr e1) e2 e4
theorem year_n {y : Nat} {h1 : Hp} (hy : y < 2) (q1 : RC h1 S) (E : LvE h1 h) : hI h (102 + 17 * y) 3 = Int32.ofNat (nS S y) := by
  rw [E.1.i (show ¬ WL (102 + 17 * y) by unfold WL; omega)]
  exact (q1.1.1 y hy).2.2.2.1
theorem c20_5 {y : Nat} {h1 : Hp} (o : okA S) (hy : y < 2) (q1 : RC h1 S) (L1 : LvC h1 (vY S y) (sL S) (sPc S) (vB S y)) : ∀ (c i : Nat) (h : Hp), i + c = nS S y → Inv h → LvE h1 h → (∃ ro, Rg h ro) →
    Wp (sem (X, K X (d + 6)) 20 5 [some (.ref 274), some (.ref (102 + 17 * y)), some (.long (Int64.ofInt (owT S y i))), none, some (.int (Int32.ofNat i))] [] h) (VJ fun x h' => x = Int64.ofInt (owT S y (nS S y)) ∧ LvE h1 h' ∧ ∃ ro, Rg h' ro)
  | 0, i, h, ei, I, E, g => by
    have n12 : nS S y ≤ 12 := (o.1 y hy).2.1
    have ei : i = nS S y := by omega
    rw [b_20_5]
    refine w_gI I (year_s hy).1 ?_
    rw [year_n hy q1 E, ei]
    exact w_ift (Int32.le_refl _) (Wp.retj ⟨rfl, E, g⟩)
  | c + 1, i, h, ei, I, E, g => by
    have n12 : nS S y ≤ 12 := (o.1 y hy).2.1
    have hi : i < nS S y := by omega
    rw [b_20_5]
    refine w_gI I (year_s hy).1 ?_
    rw [year_n hy q1 E]
    refine w_iff (fun z => absurd ((i_le (by omega) (by omega)).mp z) (by omega)) ?_
    refine each o hy hi q1 L1 I E g fun h2 I2 E2 g2 t2 => ?_
    rw [← Int64.ofInt_add, i32_ofNat_succ]
    exact c20_5 o hy q1 L1 c (i + 1) h2 (by omega) I2 E2 g2
theorem c112_6 {y lo hi : Nat} {h1 : Hp} (o : okA S) (hy : y < 2) (hlo : lo ≤ 6) (hhi : hi ≤ 6) (q1 : RC h1 S) (L1 : LvC h1 (vY S y) (sL S) (sPc S) (vB S y)) : ∀ (c i : Nat) (h : Hp) (v6 : Option Value), i + c = nS S y → Inv h → LvE h1 h → (∃ ro, Rg h ro) →
    Wp (sem (X, K X (d + 6)) 112 6 [some (.ref 62), some (.ref (102 + 17 * y)), some (.int (Int32.ofNat lo)), some (.int (Int32.ofNat hi)), some (.int (msk (owF S y lo hi) i)), some (.int (Int32.ofNat i)), v6] [] h) (VI fun x h' => x = msk (owF S y lo hi) (nS S y) ∧ LvE h1 h' ∧ ∃ ro, Rg h' ro)
  | 0, i, h, v6, ei, I, E, g => by
    have n12 : nS S y ≤ 12 := (o.1 y hy).2.1
    have ei : i = nS S y := by omega
    rw [b_112_6]
    refine w_gI I (year_s hy).1 ?_
    rw [year_n hy q1 E, ei]
    exact w_ift (Int32.le_refl _) (Wp.reti ⟨rfl, E, g⟩)
  | c + 1, i, h, v6, ei, I, E, g => by
    have n12 : nS S y ≤ 12 := (o.1 y hy).2.1
    have hi' : i < nS S y := by omega
    have hB := baseB o hy hi'
    have oT := (o.1 y hy).2.2 _ (sumA_mem hi').1
    have jt : ∀ l, l < 6 → jr (tkS S y i l) := fun l hl => by
      have := tak_bd (V := vY S y) (AL := sL S) (PA := sPc S) (B := (vB S y : Int)) oT o.2.1 (by unfold vB; omega) hl
      unfold tkS jr; omega
    have pn := posN_le (tkS S y i) 6
    rw [b_112_6]
    refine w_gI I (year_s hy).1 ?_
    rw [year_n hy q1 E]
    refine w_iff (fun z => absurd ((i_le (by omega) (by omega)).mp z) (by omega)) ?_
    refine w_gL I s_62 l_62_8 ?_
    refine each o hy hi' q1 L1 I E g fun h2 I2 E2 g2 t2 => ?_
    refine w_gL I2 s_62 l_62_8 ?_
    refine w_gS I2 s_274 ?_
    refine w_eI (m_27 I2 t2 jt) ?_
    have sm : msk (owF S y lo hi) (i + 1) = if owF S y lo hi i then msk (owF S y lo hi) i ||| (1 <<< (Int32.ofNat i &&& 31)) else msk (owF S y lo hi) i := rfl
    have ih := fun v6 => c112_6 o hy hlo hhi q1 L1 c (i + 1) h2 v6 (by omega) I2 E2 g2
    rw [i32_ofNat_succ]
    refine w_if (fun c0 => ?_) (fun c0 => ?_)
    · have : owF S y lo hi i = false := decide_eq_false fun z => absurd ((i_lt (by omega) (by omega)).mp c0) (by have := z.1; unfold tkC at this; omega)
      rw [sm, this, if_neg (by decide)] at ih
      exact ih _
    · refine w_if (fun c1 => ?_) (fun c1 => ?_)
      · have : owF S y lo hi i = false := decide_eq_false fun z => absurd ((i_lt (by omega) (by omega)).mp c1) (by have := z.2; unfold tkC at this; omega)
        rw [sm, this, if_neg (by decide)] at ih
        exact ih _
      · have : owF S y lo hi i = true := decide_eq_true ⟨Nat.le_of_not_lt fun z => c0 ((i_lt (by omega) (by omega)).mpr z), Nat.le_of_not_lt fun z => c1 ((i_lt (by omega) (by omega)).mpr z)⟩
        rw [sm, this, if_pos rfl] at ih
        exact ih _
end OW
