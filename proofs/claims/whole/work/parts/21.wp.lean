/-! WHAT A TREE COMES TO: rules, an operator a row, at Inv -/
def Wp (o : Option (Option Value × Hp)) (Q : Option Value → Hp → Prop) : Prop := ∃ v h, o = some (v, h) ∧ Q v h
def VI (P : Int32 → Hp → Prop) : Option Value → Hp → Prop := fun v h => ∃ x, v = some (.int x) ∧ P x h
def VJ (P : Int64 → Hp → Prop) : Option Value → Hp → Prop := fun v h => ∃ x, v = some (.long x) ∧ P x h
def VV (P : Hp → Prop) : Option Value → Hp → Prop := fun v h => v = none ∧ P h
theorem Inv.lk {h : Hp} (I : Inv h) {a k v : Nat} (hl : LK a k = some v) : hP h a k = some v := I.2.2.2.1 a k v hl
theorem Inv.sh {h : Hp} (I : Inv h) : hS h = SH := I.1
theorem SH_61 {a : Nat} {s : Nat × Nat} (hs : SH a = s) (h0 : s ≠ (0, 0)) : 61 ≤ a := by
  have := SH_hi (a := a) (by rw [hs]; exact h0)
  omega
theorem SH_o {a ci : Nat} (hs : SH a = (ci + 1, 0)) : 61 ≤ a := SH_61 hs (by intro z; cases z)
theorem SH_a {a t n : Nat} (hs : SH a = (t, n)) (ht : 0 < t) : 61 ≤ a := SH_61 hs (by intro z; cases z; omega)
section WP
variable {X : Ctx} {Q : Option Value → Hp → Prop} {h : Hp} {α : Type}
theorem Wp.ret {v : Option Value} (q : Q v h) : Wp (some (v, h)) Q := ⟨v, h, rfl, q⟩
theorem Wp.reti {P : Int32 → Hp → Prop} {x : Int32} (q : P x h) : Wp (some (some (.int x), h)) (VI P) := ⟨_, h, rfl, x, rfl, q⟩
theorem Wp.retj {P : Int64 → Hp → Prop} {x : Int64} (q : P x h) : Wp (some (some (.long x), h)) (VJ P) := ⟨_, h, rfl, x, rfl, q⟩
theorem Wp.retv {P : Hp → Prop} (q : P h) : Wp (some (none, h)) (VV P) := ⟨_, h, rfl, rfl, q⟩
theorem Wp.mono {o : Option (Option Value × Hp)} {Q' : Option Value → Hp → Prop} (w : Wp o Q') (m : ∀ v h, Q' v h → Q v h) : Wp o Q := by
  obtain ⟨v, h, e, q⟩ := w
  exact ⟨v, h, e, m v h q⟩
theorem Wp.eq {o : Option (Option Value × Hp)} {v : Option Value} {h : Hp} (e : o = some (v, h)) (q : Q v h) : Wp o Q := ⟨v, h, e, q⟩
theorem Wp.eqI {o : Option (Option Value × Hp)} {x : Int32} {h' : Hp} (w : Wp o (VI fun y g => y = x ∧ g = h')) : o = some (some (.int x), h') := by
  obtain ⟨_, _, e, _, rfl, rfl, rfl⟩ := w
  exact e
theorem Wp.eqJ {o : Option (Option Value × Hp)} {x : Int64} {h' : Hp} (w : Wp o (VJ fun y g => y = x ∧ g = h')) : o = some (some (.long x), h') := by
  obtain ⟨_, _, e, _, rfl, rfl, rfl⟩ := w
  exact e
theorem Wp.eqV {o : Option (Option Value × Hp)} {h' : Hp} (w : Wp o (VV fun g => g = h')) : o = some (none, h') := by
  obtain ⟨_, _, e, rfl, rfl⟩ := w
  exact e
theorem w_if {c : Prop} [Decidable c] {a b : Option (Option Value × Hp)} (h1 : c → Wp a Q) (h2 : ¬ c → Wp b Q) : Wp (if c then a else b) Q := by
  by_cases hc : c
  · rw [if_pos hc]; exact h1 hc
  · rw [if_neg hc]; exact h2 hc
theorem w_ift {c : Prop} [Decidable c] {a b : Option (Option Value × Hp)} (hc : c) (k : Wp a Q) : Wp (if c then a else b) Q := by rw [if_pos hc]; exact k
theorem w_iff {c : Prop} [Decidable c] {a b : Option (Option Value × Hp)} (hc : ¬ c) (k : Wp b Q) : Wp (if c then a else b) Q := by rw [if_neg hc]; exact k
theorem w_gd {c : Prop} [Decidable c] {x : Option (Option Value × Hp)} (hc : c) (k : Wp x Q) : Wp (gd c x) Q := by rw [gd_t hc]; exact k
theorem w_gS {a : Nat} {s : Nat × Nat} {x : Option (Option Value × Hp)} (I : Inv h) (hs : SH a = s) (k : Wp x Q) : Wp (gd (hS h a = s) x) Q := w_gd (by rw [I.sh]; exact hs) k
theorem w_gI {ci a x : Nat} {f : Int32 → Option (Option Value × Hp)} (I : Inv h) (hs : SH a = (ci + 1, 0)) (k : Wp (f (hI h a x)) Q) : Wp (gI h ci a x f) Q := w_gd ⟨SH_o hs, by rw [I.sh]; exact hs⟩ k
theorem w_gJ {ci a x : Nat} {f : Int64 → Option (Option Value × Hp)} (I : Inv h) (hs : SH a = (ci + 1, 0)) (k : Wp (f (hJ h a x)) Q) : Wp (gJ h ci a x f) Q := w_gd ⟨SH_o hs, by rw [I.sh]; exact hs⟩ k
theorem w_gR {ci a x v : Nat} {f : Nat → Option (Option Value × Hp)} (I : Inv h) (hs : SH a = (ci + 1, 0)) (hp : hP h a x = some v) (k : Wp (f v) Q) : Wp (gR h ci a x f) Q := w_gd ⟨SH_o hs, by rw [I.sh]; exact hs⟩ (by rw [hp]; exact k)
theorem w_gL {ci a x v : Nat} {f : Nat → Option (Option Value × Hp)} (I : Inv h) (hs : SH a = (ci + 1, 0)) (hl : LK a x = some v) (k : Wp (f v) Q) : Wp (gR h ci a x f) Q := w_gR I hs (I.lk hl) k
theorem w_fI {ci a x : Nat} {v : Int32} {f : Hp → Option (Option Value × Hp)} (I : Inv h) (hs : SH a = (ci + 1, 0)) (k : Inv (sI h a x v) → Wp (f (sI h a x v)) Q) : Wp (fI h ci a x v f) Q := w_gd ⟨SH_o hs, by rw [I.sh]; exact hs⟩ (k I.sI)
theorem w_fJ {ci a x : Nat} {v : Int64} {f : Hp → Option (Option Value × Hp)} (I : Inv h) (hs : SH a = (ci + 1, 0)) (k : Inv (sJ h a x v) → Wp (f (sJ h a x v)) Q) : Wp (fJ h ci a x v f) Q := w_gd ⟨SH_o hs, by rw [I.sh]; exact hs⟩ (k I.sJ)
theorem w_fZ {ci a x : Nat} {v : Int32} {f : Hp → Option (Option Value × Hp)} (I : Inv h) (hs : SH a = (ci + 1, 0)) (hz : okN .boolean v) (k : Inv (sI h a x v) → Wp (f (sI h a x v)) Q) : Wp (fZ h ci a x v f) Q := w_gd ⟨SH_o hs, by rw [I.sh]; exact hs, hz⟩ (k I.sI)
theorem w_fR {ci a x v : Nat} {f : Hp → Option (Option Value × Hp)} (I : Inv h) (hs : SH a = (ci + 1, 0)) (hv : (SH v).1 = frt ci x) (hc : ci < 12) (hk : x < nfl ci) (hf : fieldFin ci x = false) (k : Inv (sP h a x (some v)) → Wp (f (sP h a x (some v))) Q) : Wp (fR h ci a x v f) Q := by
  have hv2 : (hS h v).1 = frt ci x := by rw [I.sh]; exact hv
  have hs2 : hS h a = (ci + 1, 0) := by rw [I.sh]; exact hs
  exact w_gd ⟨SH_o hs, hs2, hv2⟩ (k (I.pf hc hk hs2 hf hv2))
theorem w_aI {a n : Nat} {i : Int32} {f : Int32 → Option (Option Value × Hp)} (I : Inv h) (hs : SH a = (50, n)) (hi : inb i n) (k : Wp (f (hI h a i.toNatClampNeg)) Q) : Wp (aI X h a i f) Q := by
  have h1 := SH_a hs (by decide)
  refine w_iff (by omega) (w_gd ⟨h1, ?_⟩ k)
  rw [I.sh, hs]
  exact ⟨rfl, hi⟩
theorem w_aIn {a n m : Nat} {f : Int32 → Option (Option Value × Hp)} (I : Inv h) (hs : SH a = (50, n)) (hm : m < n) (hn : n < 2147483648) (k : Wp (f (hI h a m)) Q) : Wp (aI X h a (Int32.ofNat m) f) Q := by
  refine w_aI I hs (inb_ofNat hn hm) ?_
  rw [i32_ofNat_clamp (by omega)]
  exact k
theorem w_aJ {a n : Nat} {i : Int32} {f : Int64 → Option (Option Value × Hp)} (I : Inv h) (hs : SH a = (51, n)) (hi : inb i n) (k : Wp (f (hJ h a i.toNatClampNeg)) Q) : Wp (aJ h a i f) Q := by
  refine w_gd ⟨SH_a hs (by decide), ?_⟩ k
  rw [I.sh, hs]
  exact ⟨rfl, hi⟩
theorem w_aJn {a n m : Nat} {f : Int64 → Option (Option Value × Hp)} (I : Inv h) (hs : SH a = (51, n)) (hm : m < n) (hn : n < 2147483648) (k : Wp (f (hJ h a m)) Q) : Wp (aJ h a (Int32.ofNat m) f) Q := by
  refine w_aJ I hs (inb_ofNat hn hm) ?_
  rw [i32_ofNat_clamp (by omega)]
  exact k
theorem w_aZn {a n m : Nat} {f : Int32 → Option (Option Value × Hp)} (I : Inv h) (hs : SH a = (52, n)) (hm : m < n) (hn : n < 2147483648) (k : Wp (f (hI h a m)) Q) : Wp (aZ h a (Int32.ofNat m) f) Q := by
  have h1 : 61 ≤ a := SH_a hs (by decide)
  have i := inb_ofNat hn hm
  refine w_iff (by omega) (w_gd ⟨?_, ?_⟩ ?_)
  · rw [I.sh, hs]
  · rw [I.sh, hs]; exact i
  · rw [i32_ofNat_clamp (by omega)]; exact k
theorem w_aRn {a t n m v : Nat} {f : Nat → Option (Option Value × Hp)} (I : Inv h) (hs : SH a = (t, n)) (ht : 60 ≤ t) (ht2 : t < 82) (hm : m < n) (hn : n < 2147483648) (hp : hP h a m = some v) (k : Wp (f v) Q) : Wp (aR h a (Int32.ofNat m) f) Q := by
  refine w_gd ⟨SH_a hs (by omega), ?_⟩ ?_
  · rw [I.sh, hs]; exact ⟨ht, ht2, inb_ofNat hn hm⟩
  · rw [i32_ofNat_clamp (by omega), hp]; exact k
theorem w_aLn {a t n m v : Nat} {f : Nat → Option (Option Value × Hp)} (I : Inv h) (hs : SH a = (t, n)) (ht : 60 ≤ t) (ht2 : t < 82) (hm : m < n) (hn : n < 2147483648) (hl : LK a m = some v) (k : Wp (f v) Q) : Wp (aR h a (Int32.ofNat m) f) Q := w_aRn I hs ht ht2 hm hn (I.lk hl) k
theorem w_aL {a t n : Nat} {f : Int32 → Option (Option Value × Hp)} (I : Inv h) (hs : SH a = (t, n)) (ht : 50 ≤ t) (k : Wp (f (Int32.ofNat n)) Q) : Wp (aL X h a f) Q := by
  have h1 : 61 ≤ a := SH_a hs (by omega)
  have e : alen X h a = some n := by
    unfold alen
    rw [if_neg (by omega), if_neg (by omega), if_neg (by omega), I.sh, hs, if_pos ht]
  unfold aL
  rw [e]
  exact k
theorem w_wI {a n : Nat} {i v : Int32} {f : Hp → Option (Option Value × Hp)} (I : Inv h) (hs : SH a = (50, n)) (hi : inb i n) (k : Inv (sI h a i.toNatClampNeg v) → Wp (f (sI h a i.toNatClampNeg v)) Q) : Wp (wI h a i v f) Q := by
  refine w_gd ⟨SH_a hs (by decide), ?_⟩ (k I.sI)
  rw [I.sh, hs]
  exact ⟨rfl, hi⟩
theorem w_wIn {a n m : Nat} {v : Int32} {f : Hp → Option (Option Value × Hp)} (I : Inv h) (hs : SH a = (50, n)) (hm : m < n) (hn : n < 2147483648) (k : Inv (sI h a m v) → Wp (f (sI h a m v)) Q) : Wp (wI h a (Int32.ofNat m) v f) Q := by
  refine w_wI I hs (inb_ofNat hn hm) ?_
  rw [i32_ofNat_clamp (by omega)]
  exact k
theorem w_wZn {a n m : Nat} {v : Int32} {f : Hp → Option (Option Value × Hp)} (I : Inv h) (hs : SH a = (52, n)) (hm : m < n) (hn : n < 2147483648) (hz : okN .boolean v) (k : Inv (sI h a m v) → Wp (f (sI h a m v)) Q) : Wp (wZ h a (Int32.ofNat m) v f) Q := by
  have i := inb_ofNat hn hm
  refine w_gd ⟨SH_a hs (by decide), ?_⟩ ?_
  · rw [I.sh, hs]; exact ⟨rfl, i, hz⟩
  · rw [i32_ofNat_clamp (by omega)]; exact k I.sI
theorem w_wJ {a n : Nat} {i : Int32} {v : Int64} {f : Hp → Option (Option Value × Hp)} (I : Inv h) (hs : SH a = (51, n)) (hi : inb i n) (k : Inv (sJ h a i.toNatClampNeg v) → Wp (f (sJ h a i.toNatClampNeg v)) Q) : Wp (wJ h a i v f) Q := by
  refine w_gd ⟨SH_a hs (by decide), ?_⟩ (k I.sJ)
  rw [I.sh, hs]
  exact ⟨rfl, hi⟩
theorem w_wJn {a n m : Nat} {v : Int64} {f : Hp → Option (Option Value × Hp)} (I : Inv h) (hs : SH a = (51, n)) (hm : m < n) (hn : n < 2147483648) (k : Inv (sJ h a m v) → Wp (f (sJ h a m v)) Q) : Wp (wJ h a (Int32.ofNat m) v f) Q := by
  refine w_wJ I hs (inb_ofNat hn hm) ?_
  rw [i32_ofNat_clamp (by omega)]
  exact k
/-- a reference into one of the three rows that change -/
theorem w_wRn {a t n m v : Nat} {f : Hp → Option (Option Value × Hp)} (I : Inv h) (ha : a = 64 ∨ a = 65 ∨ a = 292) (hs : SH a = (t, n)) (hm : m < n) (hn : n < 2147483648) (hg : (60 ≤ t ∧ t < 72 ∧ SH v = (t - 59, 0)) ∨ (t = 81 ∧ SH v = (51, 7))) (k : Inv (sP h a m (some v)) → Wp (f (sP h a m (some v))) Q) : Wp (gd (GA h a) (wR h a (Int32.ofNat m) v f)) Q := by
  refine w_gd (I.ag ha) ?_
  have i := inb_ofNat hn hm
  have hv : 61 ≤ v := by
    rcases hg with g | g
    · exact SH_61 g.2.2 (by intro z; have := congrArg Prod.fst z; simp at this; omega)
    · exact SH_61 g.2 (by decide)
  have hg2 : (60 ≤ (hS h a).1 ∧ (hS h a).1 < 72 ∧ hS h v = ((hS h a).1 - 59, 0)) ∨ ((hS h a).1 = 81 ∧ hS h v = (51, 7)) := by rw [I.sh, hs]; exact hg
  refine w_gd ⟨by rcases ha with rfl | rfl | rfl <;> decide, hv, ?_, hg2⟩ ?_
  · rw [I.sh, hs]; exact i
  · rw [i32_ofNat_clamp (by omega)]
    exact k (I.as ha hg2)
theorem w_acpI {a b n m s1 s2 : Nat} {rest : List Value} {hr : (rest.map Value.category).sum ≤ 8} {f : Hp → Option (Option Value × Hp)} (I : Inv h) (hs : SH a = (50, s1)) (hs2 : SH b = (50, s2)) (h1 : m ≤ s1) (h2 : m ≤ s2) (hm : m < 2147483648) (k : Inv (rI h b (cpy (hI h a) (hI h b) 0 0 m)) → Wp (f (rI h b (cpy (hI h a) (hI h b) 0 0 m))) Q) : Wp (acp h a 0 b 0 (Int32.ofNat m) hr f) Q := by
  unfold acp
  have e0 : (0 : Int32).toNatClampNeg = 0 := by decide
  have em : (Int32.ofNat m).toNatClampNeg = m := i32_ofNat_clamp hm
  refine w_gd ⟨by decide, by decide, ?_, ?_, ?_, hr⟩ ?_
  · rw [Int32.lt_iff_toInt_lt, i32_ofNat_lt hm]
    show ¬ (m : Int) < 0
    omega
  · rw [I.sh, hs, e0, em]; omega
  · rw [I.sh, hs2, e0, em]; omega
  · refine w_ift (by rw [I.sh, hs, hs2]; exact ⟨rfl, rfl⟩) ?_
    rw [e0, em]
    exact k I.rI
theorem w_acpJ {a b n m s1 s2 : Nat} {rest : List Value} {hr : (rest.map Value.category).sum ≤ 8} {f : Hp → Option (Option Value × Hp)} (I : Inv h) (hs : SH a = (51, s1)) (hs2 : SH b = (51, s2)) (h1 : m ≤ s1) (h2 : m ≤ s2) (hm : m < 2147483648) (k : Inv (rJ h b (cpy (hJ h a) (hJ h b) 0 0 m)) → Wp (f (rJ h b (cpy (hJ h a) (hJ h b) 0 0 m))) Q) : Wp (acp h a 0 b 0 (Int32.ofNat m) hr f) Q := by
  unfold acp
  have e0 : (0 : Int32).toNatClampNeg = 0 := by decide
  have em : (Int32.ofNat m).toNatClampNeg = m := i32_ofNat_clamp hm
  refine w_gd ⟨by decide, by decide, ?_, ?_, ?_, hr⟩ ?_
  · rw [Int32.lt_iff_toInt_lt, i32_ofNat_lt hm]
    show ¬ (m : Int) < 0
    omega
  · rw [I.sh, hs, e0, em]; omega
  · rw [I.sh, hs2, e0, em]; omega
  · refine w_iff (by rw [I.sh, hs, hs2]; exact fun z => absurd (show (51 : Nat) = 50 from z.1) (by decide)) (w_ift (by rw [I.sh, hs, hs2]; exact ⟨rfl, rfl⟩) ?_)
    rw [e0, em]
    exact k I.rJ
theorem w_bI {P : Int32 → Hp → Prop} {d y : Nat} {vs : List Value} {f : Int32 → Hp → Option (Option Value × Hp)} (I : Inv h) (w : Wp (K X d y vs h) (VI P)) (hy : y < 247) (hq : mIni y = false) (k : ∀ x h', Inv h' → P x h' → Wp (f x h') Q) : Wp (bI (K X d y vs h) f) Q := by
  obtain ⟨_, h', e, x, rfl, p⟩ := w
  rw [e]
  exact k x h' (K_inv X d y vs h _ h' hy hq I e) p
theorem w_bJ {P : Int64 → Hp → Prop} {d y : Nat} {vs : List Value} {f : Int64 → Hp → Option (Option Value × Hp)} (I : Inv h) (w : Wp (K X d y vs h) (VJ P)) (hy : y < 247) (hq : mIni y = false) (k : ∀ x h', Inv h' → P x h' → Wp (f x h') Q) : Wp (bJ (K X d y vs h) f) Q := by
  obtain ⟨_, h', e, x, rfl, p⟩ := w
  rw [e]
  exact k x h' (K_inv X d y vs h _ h' hy hq I e) p
theorem w_bV {P : Hp → Prop} {d y : Nat} {vs : List Value} {f : Hp → Option (Option Value × Hp)} (I : Inv h) (w : Wp (K X d y vs h) (VV P)) (hy : y < 247) (hq : mIni y = false) (k : ∀ h', Inv h' → P h' → Wp (f h') Q) : Wp (bV (K X d y vs h) f) Q := by
  obtain ⟨_, h', e, rfl, p⟩ := w
  rw [e]
  exact k h' (K_inv X d y vs h _ h' hy hq I e) p
theorem w_eI {x : Int32} {h' : Hp} {o : Option (Option Value × Hp)} {f : Int32 → Hp → Option (Option Value × Hp)} (e : o = some (some (.int x), h')) (k : Wp (f x h') Q) : Wp (bI o f) Q := by rw [e]; exact k
theorem w_eJ {x : Int64} {h' : Hp} {o : Option (Option Value × Hp)} {f : Int64 → Hp → Option (Option Value × Hp)} (e : o = some (some (.long x), h')) (k : Wp (f x h') Q) : Wp (bJ o f) Q := by rw [e]; exact k
theorem w_eV {h' : Hp} {o : Option (Option Value × Hp)} {f : Hp → Option (Option Value × Hp)} (e : o = some (none, h')) (k : Wp (f h') Q) : Wp (bV o f) Q := by rw [e]; exact k
end WP
/-! INTS -/
theorem i_le {m n : Nat} (hm : m < 2147483648) (hn : n < 2147483648) : Int32.ofNat m ≤ Int32.ofNat n ↔ m ≤ n := i32_le_lit hn hm
theorem i_lt {m n : Nat} (hm : m < 2147483648) (hn : n < 2147483648) : Int32.ofNat m < Int32.ofNat n ↔ m < n := by
  rw [Int32.lt_iff_toInt_lt, i32_ofNat_lt hn, i32_ofNat_lt hm]; omega
theorem i_eq {m n : Nat} (hm : m < 2147483648) (hn : n < 2147483648) : Int32.ofNat m = Int32.ofNat n ↔ m = n := by
  constructor
  · intro e
    have := congrArg Int32.toNatClampNeg e
    rw [i32_ofNat_clamp hm, i32_ofNat_clamp hn] at this
    exact this
  · rintro rfl; rfl
theorem i_add (m n : Nat) : Int32.ofNat m + Int32.ofNat n = Int32.ofNat (m + n) := (Int32.ofNat_add m n).symm
theorem i_mul (m n : Nat) : Int32.ofNat m * Int32.ofNat n = Int32.ofNat (m * n) := (Int32.ofNat_mul m n).symm
theorem i_sub {m n : Nat} (h : n ≤ m) : Int32.ofNat m - Int32.ofNat n = Int32.ofNat (m - n) := by
  have e : Int32.ofNat m = Int32.ofNat (m - n) + Int32.ofNat n := by rw [i_add]; congr 1; omega
  rw [e, Int32.add_sub_cancel]
theorem i_lt0 {n : Nat} (hn : n < 2147483648) : ¬ Int32.ofNat n < 0 := by
  have := i_lt (m := n) (n := 0) hn (by decide)
  intro z
  exact absurd (this.mp z) (Nat.not_lt_zero n)
theorem i_nm1 {n : Nat} (hn : n < 2147483648) : Int32.ofNat n ≠ -1 := by
  intro z
  have := i_lt0 hn
  rw [z] at this
  exact this (by decide)
/-- an int that lies in 0 .. n - 1 is a number -/
theorem i_nat {x : Int32} {n : Nat} (hn : n < 2147483648) (h0 : ¬ x < 0) (h1 : ¬ Int32.ofNat n ≤ x) : ∃ m, m < n ∧ x = Int32.ofNat m := by
  rw [Int32.lt_iff_toInt_lt] at h0
  rw [Int32.le_iff_toInt_le, i32_ofNat_lt hn] at h1
  have h0 : ¬ x.toInt < 0 := h0
  refine ⟨x.toInt.toNat, by omega, ?_⟩
  apply Int32.toInt_inj.mp
  rw [i32_ofNat_lt (by omega)]
  omega
