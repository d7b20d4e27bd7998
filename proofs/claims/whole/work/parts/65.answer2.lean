/-! THE MODEL'S ANSWERS: whether a set is one -/
section M5
variable {X : Ctx} {d : Nat} {Q : Option Value → Hp → Prop} {p his : Nat → Bool} {AL : Nat → ALaw} {PA : Nat → APact} {du : Nat → Int} {off : Nat → Nat → Bool} {M : Nat → Ve} {e : Int} {ah : Nat → Int}
def finC (his p : Nat → Bool) (du : Nat → Int) (off : Nat → Nat → Bool) (M : Nat → Ve) (e : Int) (l : Nat) : Bool := if his l then (if p l then decide (0 < sg e * XL p M l) else decide (sg e * (du l * e - sumL off p M l 6) ≤ 0)) else true
def finB (his p : Nat → Bool) (du : Nat → Int) (off : Nat → Nat → Bool) (M : Nat → Ve) (e : Int) : Nat → Nat → Bool
  | 0, _ => true
  | c + 1, l => finC his p du off M e l && finB his p du off M e c (l + 1)
theorem finB_iff : ∀ {c l : Nat}, finB his p du off M e c l = true ↔ ∀ m, l ≤ m → m < l + c → finC his p du off M e m = true
  | 0, l => by
    constructor
    · intro _ m h1 h2; omega
    · intro _; rfl
  | c + 1, l => by
    show (finC his p du off M e l && finB his p du off M e c (l + 1)) = true ↔ _
    rw [Bool.and_eq_true, finB_iff]
    constructor
    · rintro ⟨a, b⟩ m h1 h2
      by_cases z : m = l
      · rw [z]; exact a
      · exact b m (by omega) (by omega)
    · intro z
      exact ⟨z l (by omega) (by omega), fun m h1 h2 => z m (by omega) (by omega)⟩
theorem posB_iff : posB p M e = true ↔ ∀ l, l < 6 → p l = true → 0 < sg e * XL p M l := by
  unfold posB
  rw [List.all_eq_true]
  constructor
  · intro z l hl hp
    exact of_decide_eq_true (z _ (List.mem_range.mpr (msl_idx hl hp).1))
  · intro z r hr
    rw [List.mem_range] at hr
    have a := msl_at hr
    have := z _ a.1 a.2
    rw [XL_r hr] at this
    exact decide_eq_true this
theorem noneB_iff {q : Nat → Bool} : noneB du off q p M e = true ↔ ∀ l, l < 6 → q l = true → p l = false → sg e * (du l * e - sumL off p M l 6) ≤ 0 := by
  unfold noneB
  rw [List.all_eq_true]
  refine forall_congr' fun l => ?_
  rw [List.mem_range, sumL_O (Nat.le_refl 6)]
  refine forall_congr' fun _ => ?_
  cases q l <;> cases p l <;> simp
theorem fin_eq (sub : ∀ l, l < 6 → p l = true → his l = true) : finB his p du off M e 6 0 = (posB p M e && noneB du off his p M e) := by
  rw [Bool.eq_iff_iff, Bool.and_eq_true, finB_iff, posB_iff, noneB_iff]
  unfold finC
  constructor
  · intro z
    refine ⟨fun l hl hp => ?_, fun l hl hq hp => ?_⟩
    · have := z l (by omega) (by omega)
      rw [if_pos (sub l hl hp), if_pos hp] at this
      exact of_decide_eq_true this
    · have := z l (by omega) (by omega)
      rw [if_pos hq, if_neg (by rw [hp]; decide)] at this
      exact of_decide_eq_true this
  · rintro ⟨z1, z2⟩ m _ hm
    cases hq : his m
    · rfl
    · cases hp : p m
      · exact decide_eq_true (z2 m (by omega) hq hp)
      · exact decide_eq_true (z1 m (by omega) hp)
theorem c212_230 {s : Nat} {h : Hp} {l : Nat} (hl : l < 6) (I : Inv h) (q : mRel h AL PA) (b : Bd (tb s) M e) (hd : (du l).natAbs ≤ 17179869184) (hpl : tb s l = false) (hq : his l = true) (hX : ∀ m, m < 6 → hJ h 348 m = if tb s m then Int64.ofInt (XL (tb s) M m) else 0) {v2 : Option Value} : ∀ (c m : Nat), m + c = 6 →
    (sg e * (du l * e - sumL (offP AL PA his) (tb s) M l 6) ≤ 0 → ∀ w6 w8, Wp (sem (X, K X (d + 3)) 212 166 [some (.ref 301), some (.int (Int32.ofNat s)), v2, some (.long (Int64.ofInt (sg e))), none, some (.int (Int32.ofNat (l + 1))), some (.long w6), none, some (.int w8)] [] h) Q) → (¬ sg e * (du l * e - sumL (offP AL PA his) (tb s) M l 6) ≤ 0 → Q (some (.int 0)) h) →
    Wp (sem (X, K X (d + 3)) 212 230 [some (.ref 301), some (.int (Int32.ofNat s)), v2, some (.long (Int64.ofInt (sg e))), none, some (.int (Int32.ofNat l)), some (.long (Int64.ofInt (du l * e - sumL (offP AL PA his) (tb s) M l m))), none, some (.int (Int32.ofNat m))] [] h) Q
  | 0, m, em, k1, k2 => by
    have em : m = 6 := by omega
    subst em
    have bb : (du l * e - sumL (offP AL PA his) (tb s) M l 6).natAbs ≤ 17179869184 * 720 + 6 * 12369505812480 := by
      have h1 : (du l * e).natAbs ≤ 17179869184 * 720 := by rw [Int.natAbs_mul]; exact Nat.mul_le_mul hd b.2
      have h2 := sumL_bd (off := offP AL PA his) (l := l) b (m := 6) (by omega)
      omega
    have jb : jr (sg e * (du l * e - sumL (offP AL PA his) (tb s) M l 6)) := by
      have := sg_abs e (du l * e - sumL (offP AL PA his) (tb s) M l 6)
      unfold jr; omega
    rw [b_212_230]
    refine w_ift ((i_le (m := 6) (by omega) (by omega)).mpr (by omega)) ?_
    rw [i32_ofNat_succ, ← Int64.ofInt_mul, Int.mul_comm _ (sg e)]
    refine w_if (fun c => ?_) (fun c => ?_)
    · exact k1 ((j_le (b := 0) jb (by unfold jr; omega)).mp ((lg_cmp_le _ _).mp c)) _ _
    · exact Wp.ret (k2 fun z => c ((lg_cmp_le _ _).mpr ((j_le (b := 0) jb (by unfold jr; omega)).mpr z)))
  | c + 1, m, em, k1, k2 => by
    have hm : m < 6 := by omega
    have st : sumL (offP AL PA his) (tb s) M l (m + 1) = sumL (offP AL PA his) (tb s) M l m + (if tb s m && offP AL PA his l m then XL (tb s) M m else 0) := rfl
    have ih := c212_230 hl I q b hd hpl hq hX c (m + 1) (by omega) k1 k2
    rw [b_212_230]
    refine w_iff (fun z => absurd ((i_le (m := 6) (by omega) (by omega)).mp z) (by omega)) ?_
    rw [shr_bt (by omega), i32_ofNat_succ]
    have hb : bt (Int32.ofNat s) m = tb s m := rfl
    rw [hb]
    refine w_if (fun c0 => ?_) (fun c0 => ?_)
    · have hp : tb s m = false := by cases z : tb s m; rfl; rw [z] at c0; exact absurd rfl c0
      rw [st, hp] at ih
      simp only [Bool.false_and, Bool.false_eq_true, if_false, Int.add_zero] at ih
      exact ih
    · have hp : tb s m = true := by cases z : tb s m; rw [z] at c0; exact absurd (by decide) c0; rfl
      have hn : l ≠ m := fun z => by rw [z, hp] at hpl; cases hpl
      refine w_gS I s_301 ?_
      refine w_eI (m_208 I q hl hm) ?_
      rw [of_his hq hn]
      refine w_if (fun c1 => ?_) (fun c1 => ?_)
      · rw [st, bi_0.mp c1] at ih
        simp only [Bool.and_false, Bool.false_eq_true, if_false, Int.add_zero] at ih
        exact ih
      · have hc : offP AL PA his l m = true := by cases z : offP AL PA his l m; rw [z] at c1; exact absurd rfl c1; rfl
        rw [st, hp, hc] at ih
        simp only [Bool.and_self, if_true] at ih
        refine w_gL I s_301 l_301_67 ?_
        refine w_aJn I s_348 hm (by decide) ?_
        rw [hX m hm, if_pos hp, ← Int64.ofInt_sub, Int.sub_sub]
        exact ih
theorem c212_166 {s : Nat} {h : Hp} (I : Inv h) (q : mRel h AL PA) (hh : hI h 301 63 = msk his 6) (ha : ∀ m, m < 6 → hJ h 345 m = Int64.ofInt (ah m)) (b : Bd (tb s) M e) (hd : ∀ l, l < 6 → (duP (offP AL PA his) his ah l).natAbs ≤ 17179869184) (he : hJ h 301 70 = Int64.ofInt e) (hX : ∀ m, m < 6 → hJ h 348 m = if tb s m then Int64.ofInt (XL (tb s) M m) else 0) {v2 : Option Value} : ∀ (c l : Nat) (v6 v7 v8 : Option Value), l + c = 6 →
    Wp (sem (X, K X (d + 4)) 212 166 [some (.ref 301), some (.int (Int32.ofNat s)), v2, some (.long (Int64.ofInt (sg e))), none, some (.int (Int32.ofNat l)), v6, v7, v8] [] h) (VI fun x h' => x = bi (finB his (tb s) (duP (offP AL PA his) his ah) (offP AL PA his) M e c l) ∧ h' = h)
  | 0, l, v6, v7, v8, el => by
    rw [b_212_166]
    exact w_ift ((i_le (m := 6) (by omega) (by omega)).mpr (by omega)) (Wp.reti ⟨rfl, rfl⟩)
  | c + 1, l, v6, v7, v8, el => by
    have hl : l < 6 := by omega
    have ih := fun v6 v7 v8 => c212_166 I q hh ha b hd he hX (v2 := v2) c (l + 1) v6 v7 v8 (by omega)
    have st : finB his (tb s) (duP (offP AL PA his) his ah) (offP AL PA his) M e (c + 1) l = (finC his (tb s) (duP (offP AL PA his) his ah) (offP AL PA his) M e l && finB his (tb s) (duP (offP AL PA his) his ah) (offP AL PA his) M e c (l + 1)) := rfl
    rw [b_212_166, st]
    refine w_iff (fun z => absurd ((i_le (m := 6) (by omega) (by omega)).mp z) (by omega)) ?_
    refine w_gI I s_301 ?_
    rw [hh, shr_bt (by omega), bt_msk (by decide) (by omega), decide_eq_true hl, Bool.true_and, shr_bt (by omega), i32_ofNat_succ]
    have hb : bt (Int32.ofNat s) l = tb s l := rfl
    rw [hb]
    unfold finC
    cases hq : his l
    · refine w_iff (fun z => z rfl) ?_
      exact ih _ _ _
    · refine w_ift (by decide) ?_
      rw [if_pos rfl]
      cases hp : tb s l
      · refine w_ift (by decide) ?_
        rw [if_neg (by decide)]
        refine w_gS I s_301 ?_
        refine w_eJ (m_209 I q hh ha hl hq) ?_
        refine w_gJ I s_301 ?_
        rw [he, ← Int64.ofInt_mul]
        have e1 : Int64.ofInt (duP (offP AL PA his) his ah l * e) = Int64.ofInt (duP (offP AL PA his) his ah l * e - sumL (offP AL PA his) (tb s) M l 0) := congrArg Int64.ofInt (Int.sub_zero _).symm
        rw [e1]
        refine c212_230 (d := d + 1) hl I q b (hd l hl) hp hq hX 6 0 rfl (fun z w6 w8 => ?_) (fun z => ?_)
        · rw [decide_eq_true z, Bool.true_and]
          exact ih _ _ _
        · rw [decide_eq_false z, Bool.false_and]
          exact ⟨_, rfl, rfl, rfl⟩
      · refine w_iff (by decide) ?_
        rw [if_pos rfl]
        have bx := b.1 l hl hp
        have jx : jr (sg e * XL (tb s) M l) := by
          have := sg_abs e (XL (tb s) M l)
          unfold jr; omega
        refine w_gL I s_301 l_301_67 ?_
        refine w_aJn I s_348 hl (by decide) ?_
        rw [hX l hl, if_pos hp, ← Int64.ofInt_mul, Int.mul_comm _ (sg e)]
        refine w_if (fun c0 => ?_) (fun c0 => ?_)
        · have : 0 < sg e * XL (tb s) M l := (j_lt (a := 0) (by unfold jr; omega) jx).mp ((lg_cmp_gt _ _).mp c0)
          rw [decide_eq_true this, Bool.true_and]
          exact ih _ _ _
        · have : ¬ 0 < sg e * XL (tb s) M l := fun z => c0 ((lg_cmp_gt _ _).mpr ((j_lt (a := 0) (by unfold jr; omega) jx).mpr z))
          rw [decide_eq_false this, Bool.false_and]
          exact Wp.reti ⟨rfl, rfl⟩
end M5
