/-! ELIMINATION: rows swapped, the solution, bounds -/
def swp {α : Type} (f : Nat → α) (a b : Nat) : Nat → α := fun r => if r = a then f b else if r = b then f a else f r
theorem Wk_congr {A B : Nat → Ve} : ∀ {k : Nat}, (∀ i, i < k → A i = B i) → Wk A k = Wk B k
  | 0, _ => rfl
  | k + 1, h => by
    show La (A k) (Wk A k) = La (B k) (Wk B k)
    rw [h k (by omega), Wk_congr (fun i hi => h i (by omega))]
theorem St.swap {A : Nat → Ve} {n k p : Nat} {M : Nat → Ve} {e : Int} (h : St A n k M e) (hp : k ≤ p) (hn : p < n) : St (swp A k p) n k (swp M k p) e := by
  obtain ⟨e1, e2, e3, e4, e5, e6, e7⟩ := h
  have hA : ∀ i, i < k → swp A k p i = A i := fun i hi => by
    unfold swp; rw [if_neg (by omega), if_neg (by omega)]
  have hM : ∀ i, i < k → swp M k p i = M i := fun i hi => by
    unfold swp; rw [if_neg (by omega), if_neg (by omega)]
  have hW : Wk (swp A k p) k = Wk A k := Wk_congr hA
  have hI : ∀ u, Inn (swp A k p) k u ↔ Inn A k u := fun u => by unfold Inn; rw [hW]
  refine ⟨by rw [hW]; exact e1, e2, fun j hj => ?_, fun j hj i hi => ?_, fun r h1 h2 w => ?_, fun r h1 h2 i hi => ?_, fun j hj w => ?_⟩
  · rw [hM j hj, hI]; exact e3 j hj
  · rw [hM j hj]; exact e4 j hj i hi
  · rw [hW]
    unfold swp
    by_cases q1 : r = k
    · rw [if_pos q1, if_pos q1]; exact e5 p hp hn w
    · rw [if_neg q1, if_neg q1]
      by_cases q2 : r = p
      · rw [if_pos q2, if_pos q2]; exact e5 k (Nat.le_refl _) (by omega) w
      · rw [if_neg q2, if_neg q2]; exact e5 r h1 h2 w
  · unfold swp
    by_cases q1 : r = k
    · rw [if_pos q1]; exact e6 p hp hn i hi
    · rw [if_neg q1]
      by_cases q2 : r = p
      · rw [if_pos q2]; exact e6 k (Nat.le_refl _) (by omega) i hi
      · rw [if_neg q2]; exact e6 r h1 h2 i hi
  · rw [hM j hj, hW]; exact e7 j hj w
def sumTo : Nat → (Nat → Int) → Int
  | 0, _ => 0
  | n + 1, f => sumTo n f + f n
theorem sumTo_one {f : Nat → Int} {j : Nat} : ∀ {n : Nat}, j < n → (∀ i, i < n → i ≠ j → f i = 0) → sumTo n f = f j
  | 0, h, _ => absurd h (by omega)
  | n + 1, h, hf => by
    show sumTo n f + f n = f j
    by_cases q : j = n
    · subst q
      have : ∀ m, m ≤ j → sumTo m f = 0 := fun m => by
        induction m with
        | zero => intro _; rfl
        | succ m ih => intro hm; show sumTo m f + f m = 0; rw [ih (by omega), hf m (by omega) (by omega)]; rfl
      rw [this j (Nat.le_refl _)]; omega
    · rw [sumTo_one (by omega) (fun i hi => hf i (by omega)), hf n (by omega) (by omega)]; omega
theorem sumTo_congr {f g : Nat → Int} : ∀ {n : Nat}, (∀ i, i < n → f i = g i) → sumTo n f = sumTo n g
  | 0, _ => rfl
  | n + 1, h => by
    show sumTo n f + f n = sumTo n g + g n
    rw [sumTo_congr (fun i hi => h i (by omega)), h n (by omega)]
theorem Inn.sum {A : Nat → Ve} {k : Nat} {M : Nat → Ve} (a : Ve) (b : Ve) (hb : Inn A k b) : ∀ (n : Nat), (∀ j, j < n → Inn A k (M j)) → Inn A k (fun w => 1 * b w - 1 * sumTo n (fun j => a j * M j w))
  | 0, _ => by
    have e : (fun w => 1 * b w - 1 * sumTo 0 (fun j => a j * M j w)) = b := by funext w; simp [sumTo]
    rw [e]; exact hb
  | n + 1, h => by
    have e : (fun w => 1 * b w - 1 * sumTo (n + 1) (fun j => a j * M j w)) = fun w => 1 * (1 * b w - 1 * sumTo n (fun j => a j * M j w)) - a n * M n w := by
      funext w
      show 1 * b w - 1 * (sumTo n (fun j => a j * M j w) + a n * M n w) = _
      omega
    rw [e]
    exact (Inn.sum a b hb n (fun j hj => h j (by omega))).lin (h n (by omega)) _ _
theorem Inn.smul {A : Nat → Ve} {k : Nat} {u : Ve} (h : Inn A k u) (p : Int) : Inn A k (fun x => p * u x) := fun C => by
  rw [La_smul, h]; simp
/-- at the end: what stands in the rows solves the rows that were given -/
theorem St.sol {A : Nat → Ve} {n : Nat} {M : Nat → Ve} {e : Int} (h : St A n n M e) {r : Nat} (hr : r < n) (w : Nat) : e * A r w = sumTo n (fun j => A r j * M j w) := by
  obtain ⟨e1, e2, e3, e4, -, -, -⟩ := h
  have i0 : Inn A n (A r) := (Inn.self A r).le (by omega)
  have i1 := Inn.sum (M := M) (A r) _ (i0.smul e) n e3
  have z : ∀ i, i < n → 1 * (e * A r i) - 1 * sumTo n (fun j => A r j * M j i) = 0 := fun i hi => by
    rw [sumTo_one hi (fun j hj hne => by rw [e4 j hj i hi, if_neg (fun q => hne q.symm)]; simp), e4 i hi i hi, if_pos rfl, Int.mul_comm e]
    omega
  have q := i1 (w :: Rk n)
  have q2 : (1 * (e * A r w) - 1 * sumTo n (fun j => A r j * M j w)) * Wk A n (Rk n) - La (fun w => 1 * (e * A r w) - 1 * sumTo n (fun j => A r j * M j w)) (fun D => Wk A n (w :: D)) (Rk n) = 0 := q
  rw [La_0 _ (Rk n) _ (fun x hx => z x (Rk_lt.mp hx)), ← e1] at q2
  rcases Int.mul_eq_zero.mp (show (1 * (e * A r w) - 1 * sumTo n (fun j => A r j * M j w)) * e = 0 by omega) with y | y
  · omega
  · exact absurd y e2
def fac : Nat → Nat
  | 0 => 1
  | n + 1 => (n + 1) * fac n
def Pl (u : Nat → Nat) : List Nat → Nat
  | [] => 1
  | x :: C => u x * Pl u C
theorem La_bd {a : Ve} {u : Nat → Nat} (ha : ∀ x, (a x).natAbs ≤ u x) : ∀ (C : List Nat) (G : List Nat → Int) (g : Nat → Nat), (∀ D, (G D).natAbs ≤ g D.length * Pl u D) → (La a G C).natAbs ≤ C.length * (g (C.length - 1) * Pl u C)
  | [], _, _, _ => by simp [La]
  | x :: C, G, g, hG => by
    show (a x * G C - La a (fun D => G (x :: D)) C).natAbs ≤ _
    have h1 : (a x * G C).natAbs ≤ u x * (g C.length * Pl u C) := by
      rw [Int.natAbs_mul]; exact Nat.mul_le_mul (ha x) (hG C)
    have h2 := La_bd ha C (fun D => G (x :: D)) (fun m => g (m + 1) * u x) (fun D => by
      have := hG (x :: D)
      show (G (x :: D)).natAbs ≤ g (D.length + 1) * u x * Pl u D
      rw [Nat.mul_assoc]; exact this)
    have h3 : (a x * G C - La a (fun D => G (x :: D)) C).natAbs ≤ (a x * G C).natAbs + (La a (fun D => G (x :: D)) C).natAbs := by omega
    refine Nat.le_trans h3 (Nat.le_trans (Nat.add_le_add h1 h2) ?_)
    show _ ≤ (C.length + 1) * (g (C.length + 1 - 1) * (u x * Pl u C))
    rw [Nat.add_sub_cancel]
    cases C with
    | nil => simp; exact Nat.le_of_eq (by grind)
    | cons y C =>
      rw [List.length_cons, Nat.add_sub_cancel]
      exact Nat.le_of_eq (by grind)
theorem Wk_bd {A : Nat → Ve} {u : Nat → Nat} : ∀ (k : Nat), (∀ i, i < k → ∀ x, (A i x).natAbs ≤ u x) → ∀ C, (Wk A k C).natAbs ≤ fac C.length * Pl u C
  | 0, _, C => by
    cases C with
    | nil => simp [Wk, fac, Pl]
    | cons x C => simp [Wk]
  | k + 1, h, C => by
    have := La_bd (h k (by omega)) C (Wk A k) fac (Wk_bd k (fun i hi => h i (by omega)))
    refine Nat.le_trans this ?_
    cases C with
    | nil => simp
    | cons x C =>
      rw [List.length_cons, Nat.add_sub_cancel, ← Nat.mul_assoc]
      exact Nat.le_refl _
theorem Pl_1 {u : Nat → Nat} : ∀ {C : List Nat}, (∀ x, x ∈ C → u x = 1) → Pl u C = 1
  | [], _ => rfl
  | x :: C, h => by
    show u x * Pl u C = 1
    rw [h x (by simp), Pl_1 (fun y hy => h y (by simp [hy]))]
theorem Rk_len : ∀ k, (Rk k).length = k
  | 0 => rfl
  | k + 1 => by show (Rk k).length + 1 = k + 1; rw [Rk_len k]
theorem fac_le : ∀ k, k ≤ 6 → fac k ≤ 720 := by decide +kernel
/-- what stands in the rows is small -/
theorem St.bd {A : Nat → Ve} {n k : Nat} {M : Nat → Ve} {e : Int} {u : Nat → Nat} (h : St A n k M e) (hn : n ≤ 6) (hk : k ≤ n) (hA : ∀ r, r < n → ∀ x, (A r x).natAbs ≤ u x) (hu : ∀ x, x < n → u x = 1) : (∀ r, r < n → ∀ w, (M r w).natAbs ≤ 720 * u w) ∧ e.natAbs ≤ 720 := by
  obtain ⟨e1, e2, e3, e4, e5, e6, e7⟩ := h
  have hW := Wk_bd (A := A) (u := u) k (fun i hi => hA i (by omega))
  constructor
  · intro r hr w
    rcases Nat.lt_or_ge r k with q | q
    · obtain ⟨s, D, h1, h2, h3, h4⟩ := e7 r q w
      have h5 := hW (w :: D)
      have h6 : Pl u (w :: D) = u w := by
        show u w * Pl u D = u w
        rw [Pl_1 (fun x hx => hu x (by have := h3 x hx; omega)), Nat.mul_one]
      have h7 : (M r w).natAbs = (Wk A k (w :: D)).natAbs := by
        rw [h4]; rcases h1 with rfl | rfl
        · simp
        · rw [Int.natAbs_mul]; simp
      rw [h7]
      rw [h6, List.length_cons, h2] at h5
      exact Nat.le_trans h5 (Nat.mul_le_mul_right _ (fac_le k (by omega)))
    · rw [e5 r q hr w]
      have h5 := La_bd (hA r hr) (w :: Rk k) (Wk A k) fac hW
      have h6 : Pl u (w :: Rk k) = u w := by
        show u w * Pl u (Rk k) = u w
        rw [Pl_1 (fun x hx => hu x (by have := Rk_lt.mp hx; omega)), Nat.mul_one]
      rw [h6, List.length_cons, Nat.add_sub_cancel, Rk_len, ← Nat.mul_assoc] at h5
      refine Nat.le_trans h5 (Nat.mul_le_mul_right _ ?_)
      exact fac_le (k + 1) (by omega)
  · rw [e1]
    have h5 := hW (Rk k)
    rw [Pl_1 (fun x hx => hu x (by have := Rk_lt.mp hx; omega)), Rk_len, Nat.mul_one] at h5
    exact Nat.le_trans h5 (fac_le k (by omega))
