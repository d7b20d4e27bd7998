/-! BITS OF SETS, SMALL METHODS -/
def bt (s : Int32) (l : Nat) : Bool := s.toBitVec.getLsbD l
def btL (s : Int64) (l : Nat) : Bool := s.toBitVec.getLsbD l
def bi (b : Bool) : Int32 := if b then 1 else 0
def bj (b : Bool) : Int64 := if b then 1 else 0
theorem bi_0 {b : Bool} : bi b = 0 ↔ b = false := by cases b <;> decide
theorem bi_1 {b : Bool} : bi b = 1 ↔ b = true := by cases b <;> decide
theorem bj_1 {b : Bool} : bj b = 1 ↔ b = true := by cases b <;> decide
theorem bi_z (b : Bool) : okN .boolean (bi b) := by cases b <;> decide
theorem smod32 : ∀ l, l < 32 → ((Int32.ofNat l &&& 31).toBitVec.smod 32).toNat = l := by decide +kernel
theorem smod64 : ∀ l, l < 64 → (((Int32.ofNat l).toInt64 &&& 63).toBitVec.smod 64).toNat = l := by decide +kernel
theorem shr_bt {s : Int32} {l : Nat} (hl : l < 32) : (s >>> (Int32.ofNat l &&& 31)) &&& 1 = bi (bt s l) := by
  apply Int32.toBitVec_inj.1
  apply BitVec.eq_of_getLsbD_eq
  intro i hi
  rw [Int32.toBitVec_and, Int32.toBitVec_shiftRight, BitVec.getLsbD_and, BitVec.sshiftRight_eq', smod32 l hl, BitVec.getLsbD_sshiftRight]
  by_cases h0 : i = 0
  · subst h0
    have e : (1 : Int32).toBitVec.getLsbD 0 = true := by decide
    rw [e]
    cases hb : bt s l
    · have : s.toBitVec.getLsbD l = false := hb
      rw [if_pos (show l + 0 < 32 from hl), Nat.add_zero, this]; rfl
    · have : s.toBitVec.getLsbD l = true := hb
      rw [if_pos (show l + 0 < 32 from hl), Nat.add_zero, this]; rfl
  · have e : (1 : Int32).toBitVec.getLsbD i = false := by
      show (1#32).getLsbD i = false
      rw [BitVec.getLsbD_one]; simp [h0]
    rw [e, Bool.and_false]
    cases hb : bt s l
    · show false = (0#32).getLsbD i
      simp
    · show false = (1#32).getLsbD i
      rw [BitVec.getLsbD_one]; simp [h0]
theorem shrL {s : Int64} {l : Nat} (hl : l < 64) : (s >>> ((Int32.ofNat l).toInt64 &&& 63)) &&& 1 = bj (btL s l) := by
  apply Int64.toBitVec_inj.1
  apply BitVec.eq_of_getLsbD_eq
  intro i hi
  rw [Int64.toBitVec_and, Int64.toBitVec_shiftRight, BitVec.getLsbD_and, BitVec.sshiftRight_eq', smod64 l hl, BitVec.getLsbD_sshiftRight]
  by_cases h0 : i = 0
  · subst h0
    have e : (1 : Int64).toBitVec.getLsbD 0 = true := by decide
    rw [e]
    cases hb : btL s l
    · have : s.toBitVec.getLsbD l = false := hb
      rw [if_pos (show l + 0 < 64 from hl), Nat.add_zero, this]; rfl
    · have : s.toBitVec.getLsbD l = true := hb
      rw [if_pos (show l + 0 < 64 from hl), Nat.add_zero, this]; rfl
  · have e : (1 : Int64).toBitVec.getLsbD i = false := by
      show (1#64).getLsbD i = false
      rw [BitVec.getLsbD_one]; simp [h0]
    rw [e, Bool.and_false]
    cases hb : btL s l
    · show false = (0#64).getLsbD i
      simp
    · show false = (1#64).getLsbD i
      rw [BitVec.getLsbD_one]; simp [h0]
theorem btL_ext {s : Int32} {l : Nat} (hl : l < 32) : btL s.toInt64 l = bt s l := by
  unfold btL bt
  rw [Int32.toBitVec_toInt64, BitVec.getLsbD_signExtend]
  simp [hl]
  omega
theorem bt_or (s t : Int32) (k : Nat) : bt (s ||| t) k = (bt s k || bt t k) := by
  unfold bt; rw [Int32.toBitVec_or, BitVec.getLsbD_or]
theorem bt_and (s t : Int32) (k : Nat) : bt (s &&& t) k = (bt s k && bt t k) := by
  unfold bt; rw [Int32.toBitVec_and, BitVec.getLsbD_and]
theorem bt_not (s : Int32) {k : Nat} (hk : k < 32) : bt (s ^^^ (-1)) k = !bt s k := by
  unfold bt
  rw [Int32.toBitVec_xor, BitVec.getLsbD_xor]
  have e : (-1 : Int32).toBitVec = BitVec.allOnes 32 := by decide
  rw [e, BitVec.getLsbD_allOnes]
  simp [hk]
theorem bt_zero (k : Nat) : bt 0 k = false := by
  show (0#32).getLsbD k = false
  simp
theorem bt_shl {l k : Nat} (hl : l < 32) (hk : k < 32) : bt (1 <<< (Int32.ofNat l &&& 31)) k = decide (k = l) := by
  unfold bt
  rw [Int32.toBitVec_shiftLeft, BitVec.getLsbD_shiftLeft', smod32 l hl]
  have e : (1 : Int32).toBitVec = 1#32 := rfl
  rw [e, BitVec.getLsbD_one]
  by_cases h : k = l
  · subst h; simp [hk]
  · simp [h]
    intro _ h2
    omega
theorem bt_set {s : Int32} {l k : Nat} (hl : l < 32) (hk : k < 32) : bt (s ||| (1 <<< (Int32.ofNat l &&& 31))) k = (bt s k || decide (k = l)) := by
  rw [bt_or, bt_shl hl hk]
theorem bt_clr {s : Int32} {l k : Nat} (hl : l < 32) (hk : k < 32) : bt (s &&& ((1 <<< (Int32.ofNat l &&& 31)) ^^^ (-1))) k = (bt s k && !decide (k = l)) := by
  rw [bt_and, bt_not _ hk, bt_shl hl hk]
section SM
variable {X : Ctx} {d : Nat} {h : Hp}
theorem m_140 {s : Int64} {l : Nat} (hl : l < 64) : K X (d + 1) 140 [.long s, .int (Int32.ofNat l)] h = some (some (.int (bi (btL s l))), h) := by
  rw [k_140, shrL hl]
  cases hb : btL s l
  · exact if_pos (by decide)
  · exact if_neg (by decide)
theorem m_has {s : Int32} {l : Nat} (hl : l < 32) : K X (d + 1) 140 [.long s.toInt64, .int (Int32.ofNat l)] h = some (some (.int (bi (bt s l))), h) := by
  rw [m_140 (by omega), btL_ext hl]
def pr (a b : Nat) : Nat := (min a b) * (11 - min a b) / 2 + max a b - min a b - 1
def pm (a b : Nat) : Nat := if a < b then 6 * a + b else 6 * b + a
theorem pr_all : ∀ a, a < 6 → ∀ b, b < 6 → a ≠ b → ((((((if Int32.ofNat b < Int32.ofNat a then Int32.ofNat b else Int32.ofNat a) * (11 - (if Int32.ofNat b < Int32.ofNat a then Int32.ofNat b else Int32.ofNat a))) / 2) + (if Int32.ofNat a < Int32.ofNat b then Int32.ofNat b else Int32.ofNat a)) - (if Int32.ofNat b < Int32.ofNat a then Int32.ofNat b else Int32.ofNat a)) - 1) = Int32.ofNat (pr a b) := by decide +kernel
theorem pr_lt : ∀ a, a < 6 → ∀ b, b < 6 → a ≠ b → pr a b < 15 := by decide +kernel
theorem pr_comm : ∀ a, a < 6 → ∀ b, b < 6 → pr a b = pr b a := by decide +kernel
def prLo (p : Nat) : Nat := [0, 0, 0, 0, 0, 1, 1, 1, 1, 2, 2, 2, 3, 3, 4].getD p 0
def prHi (p : Nat) : Nat := [1, 2, 3, 4, 5, 2, 3, 4, 5, 3, 4, 5, 4, 5, 5].getD p 0
theorem pr_inv : ∀ a, a < 6 → ∀ b, b < 6 → a < b → prLo (pr a b) = a ∧ prHi (pr a b) = b := by decide +kernel
theorem pr_of : ∀ p, p < 15 → prLo p < prHi p ∧ prHi p < 6 ∧ pr (prLo p) (prHi p) = p := by decide +kernel
theorem pm_lt : ∀ a, a < 6 → ∀ b, b < 6 → pm a b < 36 := by decide +kernel
theorem pm_comm : ∀ a, a < 6 → ∀ b, b < 6 → pm a b = pm b a := by decide +kernel
theorem m_141 {a b : Nat} (ha : a < 6) (hb : b < 6) (hn : a ≠ b) : K X (d + 1) 141 [.int (Int32.ofNat a), .int (Int32.ofNat b)] h = some (some (.int (Int32.ofNat (pr a b))), h) := by
  rw [k_141, gd_t (by decide), pr_all a ha b hb hn]
theorem m_186 {a b : Nat} (ha : a < 6) (hb : b < 6) : K X (d + 1) 186 [.int (Int32.ofNat a), .int (Int32.ofNat b)] h = some (some (.int (Int32.ofNat (pm a b))), h) := by
  rw [k_186]
  have e : ∀ a, a < 6 → ∀ b, b < 6 → (6 * Int32.ofNat b + Int32.ofNat a = Int32.ofNat (6 * b + a)) := by decide +kernel
  unfold pm
  by_cases hc : a < b
  · rw [if_pos hc, if_neg (fun z => absurd ((i_le (by omega) (by omega)).mp z) (by omega)), e b hb a ha]
  · rw [if_neg hc, if_pos ((i_le (by omega) (by omega)).mpr (by omega)), e a ha b hb]
theorem m_137 {x : Int32} : K X (d + 1) 137 [.int x] h = some (some (.int (bi (decide (¬ x < 0 ∧ ¬ 2 ≤ x)))), h) := by
  rw [k_137]
  by_cases h1 : x < 0
  · rw [if_pos h1]; simp [h1, bi]
  · rw [if_neg h1]
    by_cases h2 : 2 ≤ x
    · rw [if_pos h2]; simp [h2, bi]
    · rw [if_neg h2]; simp [h1, h2, bi]
theorem m_138 {x : Int32} : K X (d + 1) 138 [.int x] h = some (some (.int (bi (decide (¬ x < 0 ∧ ¬ 6 ≤ x)))), h) := by
  rw [k_138]
  by_cases h1 : x < 0
  · rw [if_pos h1]; simp [h1, bi]
  · rw [if_neg h1]
    by_cases h2 : 6 ≤ x
    · rw [if_pos h2]; simp [h2, bi]
    · rw [if_neg h2]; simp [h1, h2, bi]
theorem m_139 {x : Int32} : K X (d + 2) 139 [.int x] h = some (some (.int (bi (decide (x = -1 ∨ (¬ x < 0 ∧ ¬ 6 ≤ x))))), h) := by
  rw [k_139, m_138]
  by_cases h1 : x = -1
  · rw [if_pos h1]; simp [h1, bi]
  · rw [if_neg h1]
    show (if bi _ = 0 then _ else _) = _
    by_cases h2 : ¬ x < 0 ∧ ¬ 6 ≤ x
    · rw [if_neg (by simp [h2, bi])]; simp [h2, bi]
    · rw [if_pos (by simp [bi]; intro a; exact Classical.byContradiction fun q => h2 ⟨Int32.not_lt.mpr a, q⟩)]
      simp only [h1, h2, or_self, decide_false, bi]
      rfl
theorem m_142 {x a b : Int32} : K X (d + 1) 142 [.int x, .int a, .int b] h = some (some (.int (bi (decide (¬ x < a ∧ ¬ b < x)))), h) := by
  rw [k_142]
  by_cases h1 : x < a
  · rw [if_pos h1]; simp [h1, bi]
  · rw [if_neg h1]
    by_cases h2 : b < x
    · rw [if_pos h2]; simp [h2, bi]
    · rw [if_neg h2]; simp [h1, h2, bi]
theorem m_143 {x : Int32} : K X (d + 2) 143 [.int x] h = some (some (.int (bi (decide (¬ x < 0 ∧ ¬ 1 < x)))), h) := by
  rw [k_143, m_142]
  exact gd_t (bi_z _) _
theorem m_144 {x : Int32} : K X (d + 2) 144 [.int x] h = some (some (.int (bi (decide (¬ x < 0 ∧ ¬ 5 < x)))), h) := by
  rw [k_144, m_142]
  exact gd_t (bi_z _) _
end SM
