/-! FRACTION-FREE ELIMINATION: exact at each step, solutions, bounds. La: an inner product, W: all minors of the rows so far -/
abbrev Ve : Type := Nat → Int
def La (a : Ve) : (List Nat → Int) → List Nat → Int
  | _, [] => 0
  | G, x :: C => a x * G C - La a (fun D => G (x :: D)) C
theorem La_sub (a : Ve) (c : Int) : ∀ (C : List Nat) (G H : List Nat → Int), La a (fun D => c * G D - H D) C = c * La a G C - La a H C
  | [], _, _ => by simp [La]
  | x :: C, G, H => by
    show a x * (c * G C - H C) - La a (fun D => c * G (x :: D) - H (x :: D)) C = c * (a x * G C - La a (fun D => G (x :: D)) C) - (a x * H C - La a (fun D => H (x :: D)) C)
    rw [La_sub a c C]
    grind
theorem La_anti (a b : Ve) : ∀ (C : List Nat) (G : List Nat → Int), La a (La b G) C = - La b (La a G) C
  | [], _ => rfl
  | x :: C, G => by
    show a x * La b G C - La a (fun D => b x * G D - La b (fun E => G (x :: E)) D) C = -(b x * La a G C - La b (fun D => a x * G D - La a (fun E => G (x :: E)) D) C)
    rw [La_sub, La_sub]
    have e := La_anti a b C (fun E => G (x :: E))
    have e1 : La a (fun D => La b (fun E => G (x :: E)) D) C = La a (La b (fun E => G (x :: E))) C := rfl
    have e2 : La b (fun D => La a (fun E => G (x :: E)) D) C = La b (La a (fun E => G (x :: E))) C := rfl
    rw [e1, e2, e]
    grind
theorem La_self (a : Ve) (G : List Nat → Int) (C : List Nat) : La a (La a G) C = 0 := by
  have := La_anti a a C G
  omega
theorem La_z (a : Ve) : ∀ (C : List Nat) (G : List Nat → Int), (∀ D, G D = 0) → La a G C = 0
  | [], _, _ => rfl
  | x :: C, G, h => by
    show a x * G C - La a (fun D => G (x :: D)) C = 0
    rw [h, La_z a C _ (fun D => h _)]
    simp
theorem La_vec (u v : Ve) (p q : Int) : ∀ (C : List Nat) (G : List Nat → Int), La (fun x => p * u x - q * v x) G C = p * La u G C - q * La v G C
  | [], _ => by simp [La]
  | x :: C, G => by
    show (p * u x - q * v x) * G C - La (fun x => p * u x - q * v x) (fun D => G (x :: D)) C = p * (u x * G C - La u (fun D => G (x :: D)) C) - q * (v x * G C - La v (fun D => G (x :: D)) C)
    rw [La_vec u v p q C]
    grind
theorem La_smul (u : Ve) (p : Int) (C : List Nat) (G : List Nat → Int) : La (fun x => p * u x) G C = p * La u G C := by
  have e := La_vec u u p 0 C G
  simp at e
  exact e
/-- a vector that is 0 at all of a list -/
theorem La_0 (a : Ve) : ∀ (C : List Nat) (G : List Nat → Int), (∀ x, x ∈ C → a x = 0) → La a G C = 0
  | [], _, _ => rfl
  | x :: C, G, h => by
    show a x * G C - La a (fun D => G (x :: D)) C = 0
    rw [h x (by simp), La_0 a C _ (fun y hy => h y (by simp [hy]))]
    simp
def Wk (A : Nat → Ve) : Nat → List Nat → Int
  | 0 => fun C => if C = [] then 1 else 0
  | k + 1 => La (A k) (Wk A k)
def Rk : Nat → List Nat
  | 0 => []
  | k + 1 => k :: Rk k
theorem Rk_lt {k x : Nat} : x ∈ Rk k ↔ x < k := by
  induction k with
  | zero => simp [Rk]
  | succ k ih => simp [Rk, ih]; omega
/-- u is a row's combination of the first k rows, as far as W shows -/
def Inn (A : Nat → Ve) (k : Nat) (u : Ve) : Prop := ∀ C, La u (Wk A k) C = 0
theorem Inn.up {A : Nat → Ve} {k : Nat} {u : Ve} (h : Inn A k u) : Inn A (k + 1) u := fun C => by
  show La u (La (A k) (Wk A k)) C = 0
  rw [La_anti, La_z _ _ _ h]
  rfl
theorem Inn.self (A : Nat → Ve) (k : Nat) : Inn A (k + 1) (A k) := fun C => La_self _ _ C
theorem Inn.lin {A : Nat → Ve} {k : Nat} {u v : Ve} (h : Inn A k u) (g : Inn A k v) (p q : Int) : Inn A k (fun x => p * u x - q * v x) := fun C => by
  rw [La_vec, h, g]; simp
theorem Inn.div {A : Nat → Ve} {k : Nat} {u : Ve} {p : Int} (hp : p ≠ 0) (h : Inn A k (fun x => p * u x)) : Inn A k u := fun C => by
  have := h C
  rw [La_smul] at this
  rcases Int.mul_eq_zero.mp this with z | z
  · exact absurd z hp
  · exact z
theorem Inn.le {A : Nat → Ve} {k n : Nat} {u : Ve} (h : Inn A k u) (hk : k ≤ n) : Inn A n u := by
  induction n with
  | zero => have : k = 0 := by omega
            subst this; exact h
  | succ n ih =>
    rcases Nat.lt_or_ge n k with q | q
    · have : k = n + 1 := by omega
      subst this; exact h
    · exact (ih q).up
theorem Inn.la {A : Nat → Ve} {k : Nat} (a : Ve) : ∀ (C : List Nat) (G : Nat → List Nat → Int), (∀ D, Inn A k (fun w => G w D)) → Inn A k (fun w => La a (G w) C)
  | [], _, _ => fun C => by
    have e : (fun _ => La a (fun _ => (0 : Int)) []) = (fun _ : Nat => (0 : Int)) := rfl
    exact La_0 _ _ _ fun _ _ => rfl
  | x :: C, G, h => by
    have e : (fun w => La a (G w) (x :: C)) = fun w => a x * G w C - 1 * La a (fun D => G w (x :: D)) C := by
      funext w
      show a x * G w C - La a (fun D => G w (x :: D)) C = _
      omega
    rw [e]
    exact (h C).lin (Inn.la a C (fun w D => G w (x :: D)) (fun D => h (x :: D))) _ _
theorem Inn.w (A : Nat → Ve) : ∀ (k : Nat) (D : List Nat), Inn A k (fun w => Wk A k (w :: D))
  | 0, D => fun C => La_0 _ _ _ fun x _ => by show (if x :: D = [] then (1 : Int) else 0) = 0; simp
  | k + 1, D => by
    have e : (fun w => Wk A (k + 1) (w :: D)) = fun w => Wk A k D * A k w - 1 * La (A k) (fun E => Wk A k (w :: E)) D := by
      funext w
      show A k w * Wk A k D - La (A k) (fun E => Wk A k (w :: E)) D = _
      rw [Int.mul_comm]; omega
    rw [e]
    exact (Inn.self A k).lin (Inn.la (A k) D (fun w E => Wk A k (w :: E)) (fun E => Inn.w A k E)).up _ _
/-- a row behind the first k ones, as elimination has it, is the row itself times the pivot, less rows ahead -/
theorem Inn.row (A : Nat → Ve) (k : Nat) (a : Ve) : Inn A k (fun w => 1 * La a (Wk A k) (w :: Rk k) - Wk A k (Rk k) * a w) := by
  have e : (fun w => 1 * La a (Wk A k) (w :: Rk k) - Wk A k (Rk k) * a w) = fun w => 0 * a w - 1 * La a (fun E => Wk A k (w :: E)) (Rk k) := by
    funext w
    show 1 * (a w * Wk A k (Rk k) - La a (fun E => Wk A k (w :: E)) (Rk k)) - Wk A k (Rk k) * a w = _
    grind
  rw [e]
  intro C
  rw [La_vec, Inn.la a (Rk k) (fun w E => Wk A k (w :: E)) (fun E => Inn.w A k E) C]
  simp
/-! STAGES -/
def St (A : Nat → Ve) (n k : Nat) (M : Nat → Ve) (e : Int) : Prop :=
  e = Wk A k (Rk k) ∧ e ≠ 0 ∧ (∀ j, j < k → Inn A k (M j)) ∧ (∀ j, j < k → ∀ i, i < k → M j i = if i = j then e else 0) ∧
  (∀ r, k ≤ r → r < n → ∀ w, M r w = La (A r) (Wk A k) (w :: Rk k)) ∧ (∀ r, k ≤ r → r < n → ∀ i, i < k → M r i = 0) ∧
  (∀ j, j < k → ∀ w, ∃ (s : Int) (D : List Nat), (s = 1 ∨ s = -1) ∧ D.length + 1 = k ∧ (∀ x, x ∈ D → x < k) ∧ M j w = s * Wk A k (w :: D))
theorem St.zero (A : Nat → Ve) (n : Nat) : St A n 0 A 1 := by
  refine ⟨rfl, by decide, fun j hj => absurd hj (by omega), fun j hj => absurd hj (by omega), fun r _ _ w => ?_, fun r _ _ i hi => absurd hi (by omega), fun j hj => absurd hj (by omega)⟩
  show A r w = A r w * (if ([] : List Nat) = [] then 1 else 0) - 0
  simp
/-- a vector that is e at j and 0 elsewhere picks one term -/
theorem La_pick (a : Ve) (e : Int) : ∀ (k j : Nat) (G : List Nat → Int), j < k → (∀ i, i < k → a i = if i = j then e else 0) → ∃ (s : Int) (D : List Nat), (s = 1 ∨ s = -1) ∧ D.length + 1 = k ∧ (∀ x, x ∈ D → x < k) ∧ La a G (Rk k) = e * (s * G D)
  | 0, j, _, h, _ => absurd h (by omega)
  | k + 1, j, G, h, ha => by
    show ∃ (s : Int) (D : List Nat), (s = 1 ∨ s = -1) ∧ D.length + 1 = k + 1 ∧ (∀ x, x ∈ D → x < k + 1) ∧ a k * G (Rk k) - La a (fun D => G (k :: D)) (Rk k) = e * (s * G D)
    by_cases hj : k = j
    · refine ⟨1, Rk k, Or.inl rfl, ?_, fun x hx => by have := Rk_lt.mp hx; omega, ?_⟩
      · have : ∀ k, (Rk k).length = k := fun k => by induction k with
          | zero => rfl
          | succ k ih => simp [Rk, ih]
        rw [this]
      · rw [ha k (by omega), if_pos hj, La_0 a (Rk k) _ (fun x hx => by have := Rk_lt.mp hx; rw [ha x (by omega), if_neg (by omega)])]
        simp
    · obtain ⟨s, D, h1, h2, h3, h4⟩ := La_pick a e k j (fun D => G (k :: D)) (by omega) (fun i hi => ha i (by omega))
      refine ⟨-s, k :: D, by rcases h1 with rfl | rfl <;> simp, by simp; omega, fun x hx => ?_, ?_⟩
      · rcases List.mem_cons.mp hx with z | z
        · omega
        · have := h3 x z; omega
      · rw [h4, ha k (by omega), if_neg hj]
        grind
def nxM (M : Nat → Ve) (k : Nat) (e : Int) : Nat → Ve := fun r => if r = k then M k else fun w => (M r w * M k k - M r k * M k w) / e
theorem nxM_eq {M : Nat → Ve} {k j : Nat} {e : Int} (h : j = k) : nxM M k e j = M k := if_pos h
theorem nxM_ne {M : Nat → Ve} {k j : Nat} {e : Int} (h : j ≠ k) : nxM M k e j = fun w => (M j w * M k k - M j k * M k w) / e := if_neg h
/-- one step: each division is exact, what comes out is the next stage -/
theorem St.step {A : Nat → Ve} {n k : Nat} {M : Nat → Ve} {e : Int} (h : St A n k M e) (hk : k < n) (hp : M k k ≠ 0) :
    (∀ r, r < n → r ≠ k → ∀ w, e ∣ M r w * M k k - M r k * M k w) ∧
    St A n (k + 1) (nxM M k e) (M k k) := by
  obtain ⟨e1, e2, e3, e4, e5, e6, e7⟩ := h
  have hW : ∀ w, Wk A (k + 1) (w :: Rk k) = M k w := fun w => (e5 k (Nat.le_refl _) hk w).symm
  have hIk : Inn A (k + 1) (M k) := by
    have q : M k = fun w => 1 * (1 * La (A k) (Wk A k) (w :: Rk k) - Wk A k (Rk k) * A k w) - (-e) * A k w := by
      funext w
      rw [e5 k (Nat.le_refl _) hk w, ← e1]
      grind
    rw [q]
    exact ((Inn.row A k (A k)).up).lin (Inn.self A k) _ _
  -- what a row u with Inn comes to at w :: k :: Rk k
  have hu : ∀ (u : Ve) (w : Nat), La u (Wk A (k + 1)) (w :: k :: Rk k) = u w * M k k - u k * M k w + La u (fun D => Wk A (k + 1) (w :: k :: D)) (Rk k) := fun u w => by
    show u w * Wk A (k + 1) (k :: Rk k) - (u k * Wk A (k + 1) (w :: Rk k) - La u (fun D => Wk A (k + 1) (w :: k :: D)) (Rk k)) = _
    rw [hW, hW]; omega
  have hlow : ∀ j, j < k → ∀ w, ∃ (s : Int) (D : List Nat), (s = 1 ∨ s = -1) ∧ D.length + 1 = k + 1 ∧ (∀ x, x ∈ D → x < k + 1) ∧ M j w * M k k - M j k * M k w = e * (s * Wk A (k + 1) (w :: D)) := fun j hj w => by
    have q := hu (M j) w
    rw [((e3 j hj).up) (w :: k :: Rk k)] at q
    obtain ⟨s, D, h1, h2, h3, h4⟩ := La_pick (M j) e k j (fun D => Wk A (k + 1) (w :: k :: D)) hj (e4 j hj)
    rw [h4] at q
    refine ⟨-s, k :: D, by rcases h1 with rfl | rfl <;> simp, by simp; omega, fun x hx => ?_, by grind⟩
    rcases List.mem_cons.mp hx with z | z
    · omega
    · have := h3 x z; omega
  have hhigh : ∀ r, k < r → r < n → ∀ w, M r w * M k k - M r k * M k w = e * La (A r) (Wk A (k + 1)) (w :: Rk (k + 1)) := fun r h1 h2 w => by
    have q := hu (M r) w
    rw [La_0 (M r) (Rk k) _ (fun x hx => e6 r (by omega) h2 x (Rk_lt.mp hx))] at q
    have i := (Inn.row A k (A r)).up (w :: k :: Rk k)
    have e9 : (fun w => 1 * La (A r) (Wk A k) (w :: Rk k) - Wk A k (Rk k) * A r w) = fun w => 1 * M r w - e * A r w := by
      funext w; rw [e5 r (by omega) h2 w, e1]
    rw [e9, La_vec] at i
    show _ = e * La (A r) (Wk A (k + 1)) (w :: k :: Rk k)
    omega
  have hdiv : ∀ r, r < n → r ≠ k → ∀ w, e ∣ M r w * M k k - M r k * M k w := fun r h1 h2 w => by
    rcases Nat.lt_or_ge r k with q | q
    · obtain ⟨s, D, -, -, -, h4⟩ := hlow r q w
      exact ⟨_, h4⟩
    · exact ⟨_, hhigh r (by omega) h1 w⟩
  refine ⟨hdiv, ?_, hp, ?_, ?_, ?_, ?_, ?_⟩
  · show M k k = Wk A (k + 1) (k :: Rk k)
    rw [hW]
  · intro j hj
    by_cases q : j = k
    · rw [nxM_eq q]; exact hIk
    · rw [nxM_ne q]
      refine Inn.div e2 ?_
      have q2 : (fun w => e * ((M j w * M k k - M j k * M k w) / e)) = fun w => M k k * M j w - M j k * M k w := by
        funext w
        rw [Int.mul_ediv_cancel' (hdiv j (by omega) q w), Int.mul_comm (M j w)]
      rw [q2]
      exact ((e3 j (by omega)).up).lin hIk _ _
  · intro j hj i hi
    by_cases q : j = k
    · rw [nxM_eq q, q]
      by_cases q2 : i = k
      · rw [if_pos q2, q2]
      · rw [if_neg q2]; exact e6 k (Nat.le_refl _) hk i (by omega)
    · rw [nxM_ne q]
      show (M j i * M k k - M j k * M k i) / e = _
      by_cases q2 : i = k
      · rw [q2, if_neg (fun z => q z.symm), Int.sub_self, Int.zero_ediv]
      · rw [e6 k (Nat.le_refl _) hk i (by omega), e4 j (by omega) i (by omega)]
        by_cases q3 : i = j
        · rw [if_pos q3, if_pos q3, Int.mul_zero, Int.sub_zero, Int.mul_ediv_cancel_left _ e2]
        · rw [if_neg q3, if_neg q3]; simp
  · intro r h1 h2 w
    rw [nxM_ne (by omega)]
    show (M r w * M k k - M r k * M k w) / e = _
    rw [hhigh r (by omega) h2 w, Int.mul_ediv_cancel_left _ e2]
  · intro r h1 h2 i hi
    rw [nxM_ne (by omega)]
    show (M r i * M k k - M r k * M k i) / e = _
    by_cases q2 : i = k
    · rw [q2, Int.sub_self, Int.zero_ediv]
    · rw [e6 k (Nat.le_refl _) hk i (by omega), e6 r (by omega) h2 i (by omega)]; simp
  · intro j hj w
    by_cases q : j = k
    · rw [nxM_eq q]
      refine ⟨1, Rk k, Or.inl rfl, ?_, fun x hx => by have := Rk_lt.mp hx; omega, ?_⟩
      · have : ∀ k, (Rk k).length = k := fun k => by induction k with
          | zero => rfl
          | succ k ih => simp [Rk, ih]
        rw [this]
      · rw [hW]; simp
    · rw [nxM_ne q]
      obtain ⟨s, D, h1, h2, h3, h4⟩ := hlow j (by omega) w
      refine ⟨s, D, h1, h2, h3, ?_⟩
      show (M j w * M k k - M j k * M k w) / e = _
      rw [h4, Int.mul_ediv_cancel_left _ e2]
