/-! WHICH SET: the mathematics -/
def tb (s l : Nat) : Bool := bt (Int32.ofNat s) l
theorem tb_hi : ∀ s, s < 64 → ∀ k, k < 32 → 6 ≤ k → tb s k = false := by decide +kernel
def subB (q : Nat → Bool) (s : Nat) : Bool := (List.range 6).all fun l => !tb s l || q l
theorem subB_iff {q : Nat → Bool} {s : Nat} : subB q s = true ↔ ∀ l, l < 6 → tb s l = true → q l = true := by
  unfold subB
  rw [List.all_eq_true]
  refine forall_congr' fun l => ?_
  rw [List.mem_range]
  refine forall_congr' fun _ => ?_
  cases tb s l <;> cases q l <;> simp
theorem sub_iff {q : Nat → Bool} {s : Nat} (hs : s < 64) : (Int32.ofNat s &&& (msk q 6 ^^^ (-1))) = 0 ↔ subB q s = true := by
  rw [subB_iff]
  constructor
  · intro z l hl hb
    have : bt (Int32.ofNat s &&& (msk q 6 ^^^ (-1))) l = bt 0 l := by rw [z]
    rw [bt_and, bt_not _ (by omega), bt_msk (by decide) (by omega), bt_zero, decide_eq_true hl, Bool.true_and] at this
    have hb : bt (Int32.ofNat s) l = true := hb
    rw [hb, Bool.true_and] at this
    cases hq : q l
    · rw [hq] at this; cases this
    · rfl
  · intro z
    refine bt_ext fun k hk => ?_
    rw [bt_and, bt_not _ hk, bt_msk (by decide) hk, bt_zero]
    by_cases h6 : k < 6
    · cases hb : bt (Int32.ofNat s) k
      · rfl
      · rw [z k h6 hb, decide_eq_true h6]; rfl
    · have : bt (Int32.ofNat s) k = false := tb_hi s hs k hk (by omega)
      rw [this, Bool.false_and]
theorem msk_nat (q : Nat → Bool) : ∃ N, N < 64 ∧ msk q 6 = Int32.ofNat N := by
  have key : ∀ b0 b1 b2 b3 b4 b5 : Bool, ∀ N, N = b0.toNat + 2 * b1.toNat + 4 * b2.toNat + 8 * b3.toNat + 16 * b4.toNat + 32 * b5.toNat → N < 64 ∧ msk (fun l => if l = 0 then b0 else if l = 1 then b1 else if l = 2 then b2 else if l = 3 then b3 else if l = 4 then b4 else b5) 6 = Int32.ofNat N := by
    intro b0 b1 b2 b3 b4 b5 N hN
    subst hN
    revert b0 b1 b2 b3 b4 b5
    decide +kernel
  have e : msk q 6 = msk (fun l => if l = 0 then q 0 else if l = 1 then q 1 else if l = 2 then q 2 else if l = 3 then q 3 else if l = 4 then q 4 else q 5) 6 := rfl
  rw [e]
  exact ⟨_, key (q 0) (q 1) (q 2) (q 3) (q 4) (q 5) _ rfl⟩
theorem sub_le : ∀ N, N < 64 → ∀ s, s < 64 → (Int32.ofNat s &&& (Int32.ofNat N ^^^ (-1))) = 0 → s ≤ N := by decide +kernel
section CH
variable (du : Nat → Int) (off : Nat → Nat → Bool)
def aq (q : Nat → Bool) (s : Nat) : Bool := subB q s && ansB du off q (tb s)
def opq (his : Nat → Bool) (l : Nat) : Bool := his l && decide (0 < du l)
theorem aq_open {his : Nat → Bool} (s : Nat) : aq du off his s = aq du off (opq du his) s := by
  unfold aq
  have e : ansB du off his (tb s) = ansB du off (opq du his) (tb s) := ans_open du off (tb s)
  rw [← e]
  cases ha : ansB du off his (tb s)
  · rw [Bool.and_false, Bool.and_false]
  · rw [Bool.and_true, Bool.and_true, Bool.eq_iff_iff, subB_iff, subB_iff]
    constructor
    · intro z l hl hb
      have := ans_due du off ha hl hb
      show (his l && decide (0 < du l)) = true
      rw [z l hl hb, decide_eq_true this]; rfl
    · intro z l hl hb
      have : (his l && decide (0 < du l)) = true := z l hl hb
      rw [Bool.and_eq_true] at this
      exact this.1
def num (q : Nat → Bool) : Nat → Nat
  | 0 => 0
  | s + 1 => num q s + if aq du off q s then 1 else 0
def frs (q : Nat → Bool) : Nat → Option Nat
  | 0 => none
  | s + 1 => match frs q s with
    | some x => some x
    | none => if aq du off q s then some s else none
theorem num_le {q : Nat → Bool} : ∀ s, num du off q s ≤ s
  | 0 => Nat.le_refl _
  | s + 1 => by
    have := num_le (q := q) s
    unfold num; split <;> omega
theorem num_frs {q : Nat → Bool} : ∀ s, num du off q s = 0 ↔ frs du off q s = none
  | 0 => by simp [num, frs]
  | s + 1 => by
    have ih := num_frs (q := q) s
    unfold num frs
    cases hf : frs du off q s with
    | some x =>
      have : num du off q s ≠ 0 := fun z => by rw [ih, hf] at z; cases z
      constructor
      · intro z; omega
      · intro z; cases z
    | none =>
      have h0 := ih.mpr hf
      rw [h0]
      cases ha : aq du off q s <;> simp
theorem num_open {his : Nat → Bool} : ∀ s, num du off his s = num du off (opq du his) s
  | 0 => rfl
  | s + 1 => by unfold num; rw [num_open s, aq_open]
theorem frs_open {his : Nat → Bool} : ∀ s, frs du off his s = frs du off (opq du his) s
  | 0 => rfl
  | s + 1 => by unfold frs; rw [frs_open s, aq_open]
theorem frs_aq {q : Nat → Bool} {x : Nat} : ∀ {s : Nat}, frs du off q s = some x → x < s ∧ aq du off q x = true
  | 0, h => by cases h
  | s + 1, h => by
    unfold frs at h
    cases hf : frs du off q s with
    | some z =>
      rw [hf] at h
      cases h
      have := frs_aq hf
      exact ⟨by omega, this.2⟩
    | none =>
      rw [hf] at h
      cases ha : aq du off q s
      · rw [ha] at h; cases h
      · rw [ha] at h; cases h; exact ⟨by omega, ha⟩
/-- behind the open ones no set is one -/
theorem aq_beyond {q : Nat → Bool} {N s : Nat} (hN : N < 64) (e : msk q 6 = Int32.ofNat N) (hs : s < 64) (h : N < s) : aq du off q s = false := by
  cases ha : subB q s
  · unfold aq; rw [ha]; rfl
  · have := (sub_iff hs).mpr ha
    rw [e] at this
    have := sub_le N hN s hs this
    omega
theorem num_beyond {q : Nat → Bool} {N : Nat} (hN : N < 64) (e : msk q 6 = Int32.ofNat N) : ∀ c s, s + c = 64 → N < s → num du off q 64 = num du off q s ∧ frs du off q 64 = frs du off q s
  | 0, s, hs, _ => by
    have : s = 64 := by omega
    rw [this]; exact ⟨rfl, rfl⟩
  | c + 1, s, hs, h => by
    have ih := num_beyond hN e c (s + 1) (by omega) (by omega)
    have b := aq_beyond du off hN e (s := s) (by omega) h
    rw [ih.1, ih.2]
    constructor
    · show num du off q s + (if aq du off q s then 1 else 0) = _
      rw [b]; rfl
    · show (match frs du off q s with | some x => some x | none => if aq du off q s then some s else none) = _
      rw [b]
      cases frs du off q s <;> rfl
def told (p : Nat → Bool) (l : Nat) : Int := match solP du off p with
  | some (M, e) => (sg e * XL p M l).tdiv (sg e * e)
  | none => 0
def tkn (his : Nat → Bool) (ah : Nat → Int) (o : Option Nat) (l : Nat) : Int := match o with
  | none => ah l
  | some s => if his l then (if tb s l then told du off (tb s) l else 0) else ah l
end CH
