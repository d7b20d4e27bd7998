/-! THE MODEL'S RING -/
section M1
variable {X : Ctx} {d : Nat} {Q : Option Value → Hp → Prop} {AL : Nat → ALaw} {PA : Nat → APact} {his : Nat → Bool}
def mRel (h : Hp) (AL : Nat → ALaw) (PA : Nat → APact) : Prop := mNow h PA ∧ (∀ l, l < 6 → hI h 322 l = Int32.ofNat (AL l).2.2.2) ∧ (∀ p, p < 15 → (PA p).2.2.2.1 ≤ 2) ∧ ∀ l, l < 6 → (AL l).2.2.2 ≤ 2
theorem mRel.eo {h h' : Hp} (q : mRel h AL PA) (e1 : hI h' 341 = hI h 341) (e2 : hI h' 342 = hI h 342) (e3 : hI h' 343 = hI h 343) (e4 : hI h' 344 = hI h 344) (e5 : hI h' 322 = hI h 322) : mRel h' AL PA := ⟨q.1.eo e1 e2 e3 e4, by rw [e5]; exact q.2.1, q.2.2⟩
theorem m_202 {h : Hp} {l m : Nat} (I : Inv h) (q : mRel h AL PA) (hl : l < 6) (hm : m < 6) (hn : l ≠ m) : K X (d + 2) 202 [.ref 301, .int (Int32.ofNat l), .int (Int32.ofNat m)] h = some (some (.int (Int32.ofNat (relP AL PA l m))), h) := by
  have np : pm l m < 36 := pm_lt l hl m hm
  obtain ⟨t1, t2, t3, t4⟩ := q.1 (pr l m) (pr_lt l hl m hm hn)
  rw [← pm_pr l hl m hm hn] at t3
  refine Wp.eqI ?_
  rw [k_202]
  refine w_gL I s_301 l_301_60 ?_
  refine w_eI (m_186 hl hm) ?_
  refine w_aIn I s_343 (by omega) (by decide) ?_
  unfold relP
  rcases t3 with ⟨z, e⟩ | ⟨z, e⟩
  · refine w_ift e ?_
    refine w_gL I s_301 l_301_20 ?_
    refine w_aIn I s_322 (by omega) (by decide) ?_
    rw [if_pos z]
    exact Wp.reti ⟨q.2.1 l hl, rfl⟩
  · have b := q.2.2.1 (pr l m) (pr_lt l hl m hm hn)
    have ne : ∀ n, n ≤ 2 → Int32.ofNat n ≠ -1 := by decide
    refine w_iff (by rw [e]; exact ne _ b) ?_
    rw [if_neg z]
    exact Wp.reti ⟨e, rfl⟩
def ofM (AL : Nat → ALaw) (PA : Nat → APact) (l m : Nat) : Bool := decide (l ≠ m) && decide (relP AL PA l m = 1)
theorem m_208 {h : Hp} {l m : Nat} (I : Inv h) (q : mRel h AL PA) (hl : l < 6) (hm : m < 6) : K X (d + 3) 208 [.ref 301, .int (Int32.ofNat l), .int (Int32.ofNat m)] h = some (some (.int (bi (ofM AL PA l m))), h) := by
  refine Wp.eqI ?_
  rw [k_208]
  unfold ofM
  refine w_if (fun c => ?_) (fun c => ?_)
  · have e : l = m := (i_eq (by omega) (by omega)).mp c
    rw [decide_eq_false (fun z => z e), Bool.false_and]
    exact Wp.reti ⟨rfl, rfl⟩
  · have e : l ≠ m := fun z => c (by rw [z])
    have b : relP AL PA l m ≤ 2 := rel_le (q.2.2.2 l hl) (q.2.2.1 _ (pr_lt l hl m hm e))
    rw [decide_eq_true e, Bool.true_and]
    refine w_gS I s_301 ?_
    refine w_eI (m_202 I q hl hm e) ?_
    refine w_if (fun c => ?_) (fun c => ?_)
    · have : relP AL PA l m ≠ 1 := fun z => c (by rw [z]; rfl)
      rw [decide_eq_false this]
      exact Wp.reti ⟨rfl, rfl⟩
    · have : relP AL PA l m = 1 := (i_eq (n := 1) (by omega) (by omega)).mp (Classical.byContradiction c)
      rw [decide_eq_true this]
      exact Wp.reti ⟨rfl, rfl⟩
theorem of_his {l m : Nat} (hl : his l = true) (hn : l ≠ m) : ofM AL PA l m = offP AL PA his l m := by
  unfold ofM offP
  rw [decide_eq_true hn, hl]
/-- what those take that are not HIS, and come off -/
def tkO (f : Nat → Nat → Bool) (his : Nat → Bool) (ah : Nat → Int) (l : Nat) : Nat → Int
  | 0 => 0
  | m + 1 => tkO f his ah l m + if f l m && !his m then ah m else 0
def duP (f : Nat → Nat → Bool) (his : Nat → Bool) (ah : Nat → Int) (l : Nat) : Int := ah l - tkO f his ah l 6
theorem c209 {h : Hp} {ah : Nat → Int} {l : Nat} (I : Inv h) (q : mRel h AL PA) (hh : hI h 301 63 = msk his 6) (ha : ∀ m, m < 6 → hJ h 345 m = Int64.ofInt (ah m)) (hl : l < 6) (hq : his l = true) : ∀ (c m : Nat), m + c = 6 →
    Wp (sem (X, K X (d + 3)) 209 10 [some (.ref 301), some (.int (Int32.ofNat l)), some (.long (Int64.ofInt (ah l - tkO (offP AL PA his) his ah l m))), none, some (.int (Int32.ofNat m))] [] h) (VJ fun x h' => x = Int64.ofInt (duP (offP AL PA his) his ah l) ∧ h' = h)
  | 0, m, em => by
    have : m = 6 := by omega
    subst this
    rw [b_209_10]
    exact w_ift (by decide) (Wp.retj ⟨rfl, rfl⟩)
  | c + 1, m, em => by
    have hm : m < 6 := by omega
    have ih := c209 I q hh ha hl hq c (m + 1) (by omega)
    have st : tkO (offP AL PA his) his ah l (m + 1) = tkO (offP AL PA his) his ah l m + if offP AL PA his l m && !his m then ah m else 0 := rfl
    rw [b_209_10]
    refine w_iff (fun z => absurd ((i_le (m := 6) (by omega) (by omega)).mp z) (by omega)) ?_
    refine w_gI I s_301 ?_
    rw [hh, shr_bt (by omega), bt_msk (by decide) (by omega), decide_eq_true hm, Bool.true_and, i32_ofNat_succ]
    refine w_if (fun c0 => ?_) (fun c0 => ?_)
    · have hb : his m = true := by cases z : his m; rw [z] at c0; exact absurd rfl c0; rfl
      rw [st, hb] at ih
      simp only [Bool.not_true, Bool.and_false, Bool.false_eq_true, if_false, Int.add_zero] at ih
      exact ih
    · have hb : his m = false := bi_0.mp (Classical.byContradiction c0)
      have hn : l ≠ m := fun z => by rw [z, hb] at hq; cases hq
      rw [st, hb] at ih
      refine w_gS I s_301 ?_
      refine w_eI (m_208 I q hl hm) ?_
      rw [of_his hq hn]
      refine w_if (fun c1 => ?_) (fun c1 => ?_)
      · rw [bi_0.mp c1] at ih
        simp only [Bool.false_and, Bool.false_eq_true, if_false, Int.add_zero] at ih
        exact ih
      · have hc : offP AL PA his l m = true := by cases z : offP AL PA his l m; rw [z] at c1; exact absurd rfl c1; rfl
        rw [hc] at ih
        simp only [Bool.not_false, Bool.and_self, if_true] at ih
        refine w_gL I s_301 l_301_64 ?_
        refine w_aJn I s_345 hm (by decide) ?_
        rw [ha m hm, ← Int64.ofInt_sub, Int.sub_sub]
        exact ih
/-- lessOthers -/
theorem m_209 {h : Hp} {ah : Nat → Int} {l : Nat} (I : Inv h) (q : mRel h AL PA) (hh : hI h 301 63 = msk his 6) (ha : ∀ m, m < 6 → hJ h 345 m = Int64.ofInt (ah m)) (hl : l < 6) (hq : his l = true) :
    K X (d + 4) 209 [.ref 301, .int (Int32.ofNat l)] h = some (some (.long (Int64.ofInt (duP (offP AL PA his) his ah l))), h) := by
  refine Wp.eqJ ?_
  rw [k_209]
  refine w_gL I s_301 l_301_64 ?_
  refine w_aJn I s_345 hl (by decide) ?_
  rw [ha l hl]
  have := c209 (X := X) (d := d) I q hh ha hl hq 6 0 rfl
  rw [show ah l - tkO (offP AL PA his) his ah l 0 = ah l from Int.sub_zero _] at this
  exact this
/-- the matrix -/
def rowsM (h : Hp) (n : Nat) (M : Nat → Ve) : Prop := ∀ r, r < n → ∀ c, c ≤ n → hJ h 349 (7 * r + c) = Int64.ofInt (M r c)
theorem ix7 : ∀ r, r < 6 → ∀ c, c < 7 → 7 * Int32.ofNat r + Int32.ofNat c = Int32.ofNat (7 * r + c) := by decide +kernel
theorem c210 {n k p : Nat} {M : Nat → Ve} {h0 : Hp} (hn : n ≤ 6) (hk : k < n) (hp : p < n) (hkp : p ≠ k) (rc : rowsM h0 n M) : ∀ (c m : Nat) (h : Hp) (v5 v6 : Option Value), m + c = n + 1 → Inv h → Eo (fun a => a = 349) h0 h → (∀ r, r < n → ∀ c, c ≤ n → hJ h 349 (7 * r + c) = Int64.ofInt (if c < m then swp M k p r c else M r c)) →
    Wp (sem (X, K X d) 210 3 [some (.ref 301), some (.int (Int32.ofNat n)), some (.int (Int32.ofNat p)), some (.int (Int32.ofNat k)), some (.int (Int32.ofNat m)), v5, v6] [] h) (VV fun h' => Eo (fun a => a = 349) h0 h' ∧ rowsM h' n (swp M k p))
  | 0, m, h, v5, v6, em, I, E, q => by
    rw [b_210_3]
    refine w_ift ((i_lt (by omega) (by omega)).mpr (by omega)) (Wp.retv ⟨E, fun r hr c hc => ?_⟩)
    rw [q r hr c hc, if_pos (by omega)]
  | c + 1, m, h, v5, v6, em, I, E, q => by
    rw [b_210_3]
    refine w_iff (fun z => absurd ((i_lt (by omega) (by omega)).mp z) (by omega)) ?_
    rw [ix7 p (by omega) m (by omega), ix7 k (by omega) m (by omega)]
    refine w_gL I s_301 l_301_68 ?_
    refine w_aJn I s_349 (by omega) (by decide) ?_
    refine w_gL I s_301 l_301_68 ?_
    refine w_gL I s_301 l_301_68 ?_
    refine w_aJn I s_349 (by omega) (by decide) ?_
    refine w_wJn I s_349 (by omega) (by decide) fun I => ?_
    refine w_gL I s_301 l_301_68 ?_
    refine w_wJn I s_349 (by omega) (by decide) fun I => ?_
    rw [i32_ofNat_succ]
    refine c210 hn hk hp hkp rc c (m + 1) _ _ _ (by omega) I ((E.kJ rfl).kJ rfl) fun r hr c' hc' => ?_
    have q1 := q p hp m (by omega)
    have q2 := q k hk m (by omega)
    rw [if_neg (Nat.lt_irrefl _)] at q1 q2
    rw [hJ_sJ_self, up1]
    by_cases z1 : 7 * r + c' = 7 * k + m
    · have hr1 : r = k := by omega
      have hc1 : c' = m := by omega
      rw [if_pos z1, q1, hr1, hc1, if_pos (by omega)]
      show _ = Int64.ofInt ((if k = k then M p else _) m)
      rw [if_pos rfl]
    · rw [if_neg z1, hJ_sJ_self, up1]
      by_cases z2 : 7 * r + c' = 7 * p + m
      · have hr1 : r = p := by omega
        have hc1 : c' = m := by omega
        rw [if_pos z2, q2, hr1, hc1, if_pos (by omega)]
        show _ = Int64.ofInt ((if p = k then M p else if p = p then M k else _) m)
        rw [if_neg hkp, if_pos rfl]
      · rw [if_neg z2, q r hr c' hc']
        by_cases z3 : c' < m
        · rw [if_pos z3, if_pos (show c' < m + 1 by omega)]
        · rw [if_neg z3]
          by_cases z4 : c' < m + 1
          · have hc1 : c' = m := by omega
            rw [if_pos z4]
            show _ = Int64.ofInt ((if r = k then M p else if r = p then M k else M r) c')
            rw [if_neg (fun z => z1 (by omega)), if_neg (fun z => z2 (by omega))]
          · rw [if_neg z4]
theorem m_210 {n k p : Nat} {M : Nat → Ve} {h0 : Hp} (I : Inv h0) (hn : n ≤ 6) (hk : k < n) (hp : p < n) (hkp : p ≠ k) (rc : rowsM h0 n M) :
    Wp (K X (d + 1) 210 [.ref 301, .int (Int32.ofNat n), .int (Int32.ofNat p), .int (Int32.ofNat k)] h0) (VV fun h' => Eo (fun a => a = 349) h0 h' ∧ rowsM h' n (swp M k p)) := by
  rw [k_210]
  exact c210 hn hk hp hkp rc (n + 1) 0 h0 _ _ (by omega) I Eo.rf fun r hr c hc => by rw [if_neg (by omega)]; exact rc r hr c hc
end M1
