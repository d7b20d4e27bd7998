/-! RINGS: what those that take something take of one another, the mathematics -/
def fpiv (M : Nat → Ve) (k : Nat) : Nat → Nat → Option Nat
  | 0, _ => none
  | c + 1, i => if M i k = 0 then fpiv M k c (i + 1) else some i
theorem fpiv_some {M : Nat → Ve} {k : Nat} : ∀ {c i p : Nat}, fpiv M k c i = some p → i ≤ p ∧ p < i + c ∧ M p k ≠ 0
  | 0, _, _, h => by cases h
  | c + 1, i, p, h => by
    unfold fpiv at h
    by_cases q : M i k = 0
    · rw [if_pos q] at h
      have := fpiv_some h
      exact ⟨by omega, by omega, this.2.2⟩
    · rw [if_neg q] at h
      cases h
      exact ⟨Nat.le_refl _, by omega, q⟩
def elim (n : Nat) : Nat → Nat → (Nat → Ve) → Int → Option ((Nat → Ve) × Int)
  | 0, _, M, e => some (M, e)
  | c + 1, k, M, e => match fpiv M k (n - k) k with
    | none => none
    | some p => elim n c (k + 1) (nxM (swp M k p) k e) (swp M k p k k)
theorem elim_St {n : Nat} {A0 : Nat → Ve} : ∀ (c k : Nat) (M : Nat → Ve) (e : Int) (A : Nat → Ve) (M' : Nat → Ve) (e' : Int), k + c = n → St A n k M e → (∀ i, i < n → ∃ r, r < n ∧ A r = A0 i) → elim n c k M e = some (M', e') → ∃ B, St B n n M' e' ∧ ∀ i, i < n → ∃ r, r < n ∧ B r = A0 i
  | 0, k, M, e, A, M', e', hk, st, pm, h => by
    have hk : k = n := by omega
    subst hk
    cases h
    exact ⟨A, st, pm⟩
  | c + 1, k, M, e, A, M', e', hk, st, pm, h => by
    unfold elim at h
    cases hp : fpiv M k (n - k) k with
    | none => rw [hp] at h; cases h
    | some p =>
      rw [hp] at h
      obtain ⟨p1, p2, p3⟩ := fpiv_some hp
      have s2 := st.swap p1 (by omega)
      have hne : swp M k p k k ≠ 0 := by
        have : swp M k p k = M p := if_pos rfl
        rw [this]; exact p3
      have s3 := (s2.step (by omega) hne).2
      refine elim_St c (k + 1) _ _ _ M' e' (by omega) s3 (fun i hi => ?_) h
      obtain ⟨r, r1, r2⟩ := pm i hi
      by_cases q1 : r = k
      · refine ⟨p, by omega, ?_⟩
        unfold swp
        by_cases q2 : p = k
        · rw [if_pos q2, ← r2, q1, q2]
        · rw [if_neg q2, if_pos rfl, ← r2, q1]
      · by_cases q2 : r = p
        · refine ⟨k, by omega, ?_⟩
          show (if k = k then A p else _) = _
          rw [if_pos rfl, ← r2, q2]
        · refine ⟨r, r1, ?_⟩
          show (if r = k then A p else if r = p then A k else A r) = _
          rw [if_neg q1, if_neg q2, r2]
/-- members of a set, the least first -/
def msl (p : Nat → Bool) : Nat → List Nat
  | 0 => []
  | l + 1 => if p l then msl p l ++ [l] else msl p l
theorem msl_len (p : Nat → Bool) : ∀ l, (msl p l).length ≤ l
  | 0 => Nat.le_refl _
  | l + 1 => by
    have := msl_len p l
    unfold msl; split
    · simp; omega
    · omega
theorem msl_mem {p : Nat → Bool} {x : Nat} : ∀ {l : Nat}, x ∈ msl p l ↔ x < l ∧ p x = true
  | 0 => by simp [msl]
  | l + 1 => by
    unfold msl
    by_cases q : p l
    · rw [if_pos q, List.mem_append, msl_mem, List.mem_singleton]
      constructor
      · rintro (z | z)
        · exact ⟨by omega, z.2⟩
        · subst z; exact ⟨by omega, q⟩
      · rintro ⟨z1, z2⟩
        by_cases e : x = l
        · exact Or.inr e
        · exact Or.inl ⟨by omega, z2⟩
    · rw [if_neg q, msl_mem]
      constructor
      · rintro ⟨z1, z2⟩; exact ⟨by omega, z2⟩
      · rintro ⟨z1, z2⟩
        refine ⟨?_, z2⟩
        by_cases e : x = l
        · subst e; exact absurd z2 q
        · omega
/-- strictly rising -/
theorem msl_lt {p : Nat → Bool} : ∀ {l i j : Nat}, i < j → (hj : j < (msl p l).length) → (msl p l).getD i 0 < (msl p l).getD j 0
  | 0, _, _, _, h => absurd h (Nat.not_lt_zero _)
  | l + 1, i, j, hij, h => by
    unfold msl at h ⊢
    by_cases q : p l
    · rw [if_pos q] at h ⊢
      rw [List.length_append] at h
      have h : j < (msl p l).length + 1 := h
      by_cases e : j = (msl p l).length
      · rw [e, List.getD_eq_getElem?_getD, List.getD_eq_getElem?_getD, List.getElem?_append_left (by omega), List.getElem?_append_right (Nat.le_refl _), Nat.sub_self, List.getElem?_eq_getElem (by omega)]
        show (msl p l)[i] < l
        exact (msl_mem.mp (List.getElem_mem (by omega : i < (msl p l).length))).1
      · rw [List.getD_eq_getElem?_getD, List.getD_eq_getElem?_getD, List.getElem?_append_left (by omega), List.getElem?_append_left (by omega), ← List.getD_eq_getElem?_getD, ← List.getD_eq_getElem?_getD]
        exact msl_lt hij (by omega)
    · rw [if_neg q] at h ⊢
      exact msl_lt hij h
theorem msl_inj {p : Nat → Bool} {l i j : Nat} (hi : i < (msl p l).length) (hj : j < (msl p l).length) (e : (msl p l).getD i 0 = (msl p l).getD j 0) : i = j := by
  rcases Nat.lt_trichotomy i j with z | z | z
  · have := msl_lt z hj; omega
  · exact z
  · have := msl_lt z hi; omega
theorem msl_at {p : Nat → Bool} {l r : Nat} (hr : r < (msl p l).length) : (msl p l).getD r 0 < l ∧ p ((msl p l).getD r 0) = true := by
  have : (msl p l).getD r 0 = (msl p l)[r] := by rw [List.getD_eq_getElem?_getD, List.getElem?_eq_getElem hr]; rfl
  rw [this]
  exact msl_mem.mp (List.getElem_mem hr)
theorem msl_of {p : Nat → Bool} {l x : Nat} (hx : x < l) (hp : p x = true) : ∃ r, r < (msl p l).length ∧ (msl p l).getD r 0 = x := by
  obtain ⟨r, r1, r2⟩ := List.mem_iff_getElem.mp (msl_mem.mpr ⟨hx, hp⟩)
  exact ⟨r, r1, by rw [List.getD_eq_getElem?_getD, List.getElem?_eq_getElem r1]; exact r2⟩
def sg (e : Int) : Int := if e < 0 then -1 else 1
theorem sg_pos {e : Int} (h : e ≠ 0) : 0 < sg e * e := by
  unfold sg; split <;> omega
section RG
variable (du : Nat → Int) (off : Nat → Nat → Bool)
def mA (p : Nat → Bool) (r : Nat) : Ve := fun c => if c < (msl p 6).length then (if r = c then 1 else if off ((msl p 6).getD r 0) ((msl p 6).getD c 0) then 1 else 0) else du ((msl p 6).getD r 0)
def solP (p : Nat → Bool) : Option ((Nat → Ve) × Int) := elim (msl p 6).length (msl p 6).length 0 (mA du off p) 1
/-- all of a set take something -/
def posB (p : Nat → Bool) (M : Nat → Ve) (e : Int) : Bool := (List.range (msl p 6).length).all fun r => decide (0 < sg e * M r (msl p 6).length)
/-- what a set's lands take of which l takes off -/
def sumO (p : Nat → Bool) (M : Nat → Ve) (l : Nat) : Nat → Int
  | 0 => 0
  | r + 1 => sumO p M l r + (if off l ((msl p 6).getD r 0) then M r (msl p 6).length else 0)
/-- no other one would -/
def noneB (q p : Nat → Bool) (M : Nat → Ve) (e : Int) : Bool := (List.range 6).all fun l => !(q l && !p l) || decide (sg e * (du l * e - sumO off p M l (msl p 6).length) ≤ 0)
def ansB (q p : Nat → Bool) : Bool := match solP du off p with
  | none => false
  | some (M, e) => posB p M e && noneB du off q p M e
theorem sol_St {p : Nat → Bool} {M : Nat → Ve} {e : Int} (h : solP du off p = some (M, e)) : ∃ B, St B (msl p 6).length (msl p 6).length M e ∧ ∀ i, i < (msl p 6).length → ∃ r, r < (msl p 6).length ∧ B r = mA du off p i :=
  elim_St _ 0 _ _ (mA du off p) M e (by omega) (St.zero _ _) (fun i hi => ⟨i, hi, rfl⟩) h
theorem sumTo_nn {f : Nat → Int} {n : Nat} (h : ∀ i, i < n → 0 ≤ f i) : 0 ≤ sumTo n f := by
  induction n with
  | zero => exact Int.le_refl _
  | succ n ih =>
    have := ih (fun i hi => h i (by omega))
    have := h n (by omega)
    show 0 ≤ sumTo n f + f n
    omega
theorem sumTo_ge {f : Nat → Int} {n j : Nat} (h : ∀ i, i < n → 0 ≤ f i) (hj : j < n) : f j ≤ sumTo n f := by
  induction n with
  | zero => exact absurd hj (by omega)
  | succ n ih =>
    show f j ≤ sumTo n f + f n
    by_cases e : j = n
    · subst e
      have := sumTo_nn (n := j) (fun i hi => h i (by omega))
      omega
    · have := ih (fun i hi => h i (by omega)) (by omega)
      have := h n (by omega)
      omega
theorem sumTo_mul {f : Nat → Int} {a : Int} (n : Nat) : a * sumTo n f = sumTo n (fun j => a * f j) := by
  induction n with
  | zero => simp [sumTo]
  | succ n ih =>
    show a * (sumTo n f + f n) = sumTo n (fun j => a * f j) + a * f n
    rw [Int.mul_add, ih]
/-- those that take something have something due -/
theorem pos_due {p : Nat → Bool} {M : Nat → Ve} {e : Int} (h : solP du off p = some (M, e)) (hp : posB p M e = true) {l : Nat} (hl : l < 6) (hpl : p l = true) : 0 < du l := by
  obtain ⟨B, st, pm⟩ := sol_St du off h
  have e0 : e ≠ 0 := st.2.1
  obtain ⟨r, r1, r2⟩ := msl_of hl hpl
  obtain ⟨b, b1, b2⟩ := pm r r1
  have q := st.sol b1 (msl p 6).length
  rw [b2] at q
  have ql : mA du off p r (msl p 6).length = du l := by
    show (if (msl p 6).length < (msl p 6).length then _ else du ((msl p 6).getD r 0)) = _
    rw [if_neg (Nat.lt_irrefl _), r2]
  rw [ql] at q
  have hpos : ∀ j, j < (msl p 6).length → 0 < sg e * M j (msl p 6).length := fun j hj => of_decide_eq_true (List.all_eq_true.mp hp j (List.mem_range.mpr hj))
  have q2 : sg e * (e * du l) = sumTo (msl p 6).length (fun j => mA du off p r j * (sg e * M j (msl p 6).length)) := by
    rw [q, sumTo_mul]
    exact sumTo_congr fun i hi => by grind
  have nn : ∀ j, j < (msl p 6).length → 0 ≤ mA du off p r j * (sg e * M j (msl p 6).length) := fun j hj => by
    have hm : mA du off p r j = 1 ∨ mA du off p r j = 0 := by
      show (if j < (msl p 6).length then _ else _) = (1 : Int) ∨ (if j < (msl p 6).length then _ else _) = (0 : Int)
      rw [if_pos hj]
      split
      · exact Or.inl rfl
      · split
        · exact Or.inl rfl
        · exact Or.inr rfl
    have := hpos j hj
    rcases hm with z | z <;> rw [z] <;> omega
  have ge := sumTo_ge nn r1
  have hr : mA du off p r r = 1 := by
    show (if r < (msl p 6).length then (if r = r then (1 : Int) else _) else _) = 1
    rw [if_pos r1, if_pos rfl]
  rw [hr, ← q2] at ge
  have := hpos r r1
  have s1 := sg_pos e0
  have : 0 < (sg e * e) * du l := by rw [Int.mul_assoc]; omega
  rcases Int.lt_or_le 0 (du l) with z | z
  · exact z
  · have := Int.mul_nonpos_of_nonneg_of_nonpos (Int.le_of_lt s1) z
    omega
theorem ans_due {q p : Nat → Bool} (h : ansB du off q p = true) {l : Nat} (hl : l < 6) (hpl : p l = true) : 0 < du l := by
  unfold ansB at h
  cases hs : solP du off p with
  | none => rw [hs] at h; cases h
  | some t =>
    obtain ⟨M, e⟩ := t
    rw [hs] at h
    have h : (posB p M e && noneB du off q p M e) = true := h
    rw [Bool.and_eq_true] at h
    exact pos_due du off hs h.1 hl hpl
theorem sumO_nn {p : Nat → Bool} {M : Nat → Ve} {e : Int} {l : Nat} : ∀ {r : Nat}, (∀ j, j < r → 0 < sg e * M j (msl p 6).length) → 0 ≤ sg e * sumO off p M l r
  | 0, _ => by simp [sumO]
  | r + 1, h => by
    have ih := sumO_nn (l := l) (r := r) (fun j hj => h j (by omega))
    have := h r (by omega)
    show 0 ≤ sg e * (sumO off p M l r + (if off l ((msl p 6).getD r 0) then M r (msl p 6).length else 0))
    rw [Int.mul_add]
    split
    · omega
    · simp; exact ih
/-- it is enough to look at those that have something due -/
theorem ans_open {q : Nat → Bool} (p : Nat → Bool) : ansB du off q p = ansB du off (fun l => q l && decide (0 < du l)) p := by
  unfold ansB
  cases hs : solP du off p with
  | none => rfl
  | some t =>
    obtain ⟨M, e⟩ := t
    obtain ⟨B, st, pm⟩ := sol_St du off hs
    have e0 : e ≠ 0 := st.2.1
    show (posB p M e && noneB du off q p M e) = (posB p M e && noneB du off (fun l => q l && decide (0 < du l)) p M e)
    cases hp : posB p M e
    · rfl
    · rw [Bool.true_and, Bool.true_and]
      have hpos : ∀ j, j < (msl p 6).length → 0 < sg e * M j (msl p 6).length := fun j hj => of_decide_eq_true (List.all_eq_true.mp hp j (List.mem_range.mpr hj))
      unfold noneB
      rw [Bool.eq_iff_iff, List.all_eq_true, List.all_eq_true]
      refine forall_congr' fun l => forall_congr' fun hl => ?_
      show _ ↔ (!((q l && decide (0 < du l)) && !p l) || decide (sg e * (du l * e - sumO off p M l (msl p 6).length) ≤ 0)) = true
      by_cases hd : 0 < du l
      · rw [decide_eq_true hd, Bool.and_true]
      · have w : sg e * (du l * e - sumO off p M l (msl p 6).length) ≤ 0 := by
          have s1 := sg_pos e0
          have s2 := sumO_nn off (e := e) (l := l) hpos
          have s3 : (sg e * e) * du l ≤ 0 := Int.mul_nonpos_of_nonneg_of_nonpos (Int.le_of_lt s1) (by omega)
          have s4 : sg e * (du l * e - sumO off p M l (msl p 6).length) = (sg e * e) * du l - sg e * sumO off p M l (msl p 6).length := by grind
          omega
        rw [decide_eq_true w, Bool.or_true, Bool.or_true]
end RG
