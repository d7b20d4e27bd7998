/-! SLY: the mathematics -/
abbrev noS : SumT := (0, 0, 0, 0, 0)
def trnS (T : SumT) (p : Nat) : SumT := (5, T.2.1, T.2.2.1, p, p)
def uI (U : List ATurn) (k : Nat) : Nat := (U.getD k (0, 0, 0)).1
def uP (U : List ATurn) (k : Nat) : Nat := (U.getD k (0, 0, 0)).2.1
def uC (U : List ATurn) (k : Nat) : Int := 100 * ((U.getD k (0, 0, 0)).2.2 : Nat)
def tuR (U : List ATurn) (s : Nat) (r : List SumT) : Nat → List SumT
  | 0 => r
  | n + 1 => if tb s n then (tuR U s r n).set (uI U n) (trnS ((tuR U s r n).getD (uI U n) noS) (uP U n)) else tuR U s r n
def tuC (U : List ATurn) (s : Nat) : Nat → Int
  | 0 => 0
  | n + 1 => tuC U s n + if tb s n then uC U n else 0
def chU (U : List ATurn) (s i : Nat) : Nat → Option Nat
  | 0 => none
  | n + 1 => if tb s n = true ∧ uI U n = i then some n else chU U s i n
def cT (U : List ATurn) (s : Nat) : Nat → Bool
  | 0 => true
  | n + 1 => cT U s n && (!tb s n || (chU U s (uI U n) n).isNone)
def apU (U : List ATurn) (r : List SumT) (i : Nat) : Option Nat → SumT
  | none => r.getD i noS
  | some k => trnS (r.getD i noS) (uP U k)
def prU (U : List ATurn) : Option Nat → Int
  | none => 0
  | some k => uC U k
def hV (V : Sv) (AL : Nat → ALaw) (PA : Nat → APact) (B : Int) (T : SumT) : Int := sumTo6 (takP V AL PA B T) 6
def cst (V : Sv) (AL : Nat → ALaw) (PA : Nat → APact) (r : List SumT) (U : List ATurn) (i : Nat) (o : Option Nat) : Int := hV V AL PA (sumB r : Nat) (apU U r i o) + prU U o
def slyF (V : Sv) (AL : Nat → ALaw) (PA : Nat → APact) (r : List SumT) (U : List ATurn) (s : Nat) : Int := tuC U s U.length + totG V AL PA (tuR U s r U.length)
theorem getD_set {r : List SumT} {i j : Nat} {v : SumT} (hi : i < r.length) : (r.set i v).getD j noS = if i = j then v else r.getD j noS := by
  rw [List.getD_eq_getElem?_getD, List.getD_eq_getElem?_getD, List.getElem?_set]
  by_cases e : i = j
  · rw [if_pos e, if_pos e, if_pos hi]; rfl
  · rw [if_neg e, if_neg e]
theorem tuR_len {U : List ATurn} {s : Nat} {r : List SumT} : ∀ n, (tuR U s r n).length = r.length
  | 0 => rfl
  | n + 1 => by
    unfold tuR
    split
    · rw [List.length_set]; exact tuR_len n
    · exact tuR_len n
theorem tuR_get {U : List ATurn} {s : Nat} {r : List SumT} {i : Nat} : ∀ {n : Nat}, (∀ k, k < n → uI U k < r.length) → (tuR U s r n).getD i noS = apU U r i (chU U s i n)
  | 0, _ => rfl
  | n + 1, h => by
    have ih := tuR_get (U := U) (s := s) (r := r) (i := i) (n := n) fun k hk => h k (by omega)
    have e1 : tuR U s r (n + 1) = if tb s n then (tuR U s r n).set (uI U n) (trnS ((tuR U s r n).getD (uI U n) noS) (uP U n)) else tuR U s r n := rfl
    have e2 : chU U s i (n + 1) = if tb s n = true ∧ uI U n = i then some n else chU U s i n := rfl
    rw [e1, e2]
    cases ht : tb s n
    · rw [if_neg (by decide), if_neg (by rintro ⟨z, -⟩; cases z)]; exact ih
    · rw [if_pos rfl, getD_set (by rw [tuR_len]; exact h n (by omega))]
      by_cases e : uI U n = i
      · rw [if_pos e, if_pos ⟨rfl, e⟩, e, ih]
        cases chU U s i n <;> rfl
      · rw [if_neg e, if_neg (fun z => e z.2)]; exact ih
theorem sumB_set : ∀ (l : List SumT) (i : Nat) (v : SumT), v.2.2.1 = (l.getD i noS).2.2.1 → sumB (l.set i v) = sumB l
  | [], _, _, _ => rfl
  | T :: l, 0, v, h => by
    have h : v.2.2.1 = T.2.2.1 := h
    show v.2.2.1 + sumB l = T.2.2.1 + sumB l
    rw [h]
  | T :: l, i + 1, v, h => by
    show T.2.2.1 + sumB (l.set i v) = T.2.2.1 + sumB l
    rw [sumB_set l i v h]
theorem tuR_sumB {U : List ATurn} {s : Nat} {r : List SumT} : ∀ n, sumB (tuR U s r n) = sumB r
  | 0 => rfl
  | n + 1 => by
    unfold tuR
    split
    · rw [sumB_set (tuR U s r n) (uI U n) (trnS ((tuR U s r n).getD (uI U n) noS) (uP U n)) rfl]; exact tuR_sumB n
    · exact tuR_sumB n
theorem trnS_ok {T : SumT} {p : Nat} (o : okSm T) (hp : p < 6) : okSm (trnS T p) := ⟨by show 5 < 6; omega, o.2.1, fun z => absurd rfl z, o.2.2.2.1, o.2.2.2.2.1, hp, hp⟩
theorem tuR_ok {U : List ATurn} {s : Nat} {r : List SumT} (o : okRs r) : ∀ {n : Nat}, (∀ k, k < n → uI U k < r.length ∧ uP U k < 6) → okRs (tuR U s r n)
  | 0, _ => o
  | n + 1, h => by
    have ih := tuR_ok (U := U) (s := s) o (n := n) fun k hk => h k (by omega)
    have hn := h n (by omega)
    refine ⟨by rw [tuR_len]; exact o.1, fun T hT => ?_⟩
    unfold tuR at hT
    split at hT
    · rcases List.mem_or_eq_of_mem_set hT with z | z
      · exact ih.2 T z
      · rw [z]
        exact trnS_ok (ih.2 _ (getD_mem (by rw [tuR_len]; exact hn.1)).1) hn.2
    · exact ih.2 T hT
theorem sumTo6_congr {f g : Nat → Int} : ∀ {n : Nat}, (∀ i, i < n → f i = g i) → sumTo6 f n = sumTo6 g n
  | 0, _ => rfl
  | n + 1, h => by
    show sumTo6 f n + f n = sumTo6 g n + g n
    rw [sumTo6_congr (n := n) fun i hi => h i (by omega), h n (by omega)]
theorem sumTo6_le {f g : Nat → Int} : ∀ {n : Nat}, (∀ i, i < n → f i ≤ g i) → sumTo6 f n ≤ sumTo6 g n
  | 0, _ => Int.le_refl _
  | n + 1, h => by
    have a := sumTo6_le (n := n) fun i hi => h i (by omega)
    have b := h n (by omega)
    show sumTo6 f n + f n ≤ sumTo6 g n + g n
    omega
theorem sumTo6_eq {f g : Nat → Int} : ∀ {n : Nat}, (∀ i, i < n → f i ≤ g i) → sumTo6 f n = sumTo6 g n → ∀ i, i < n → f i = g i
  | 0, _, _, i, hi => absurd hi (Nat.not_lt_zero _)
  | n + 1, h, e, i, hi => by
    have a := sumTo6_le (n := n) fun i hi => h i (by omega)
    have b := h n (by omega)
    have e : sumTo6 f n + f n = sumTo6 g n + g n := e
    by_cases z : i = n
    · rw [z]; omega
    · exact sumTo6_eq (n := n) (fun i hi => h i (by omega)) (by omega) i (by omega)
theorem sumTo6_upd {f g : Nat → Int} {a : Nat} (h : ∀ i, i ≠ a → g i = f i) : ∀ {n : Nat}, sumTo6 g n = sumTo6 f n + if a < n then g a - f a else 0
  | 0 => rfl
  | n + 1 => by
    have ih := sumTo6_upd h (n := n)
    show sumTo6 g n + g n = sumTo6 f n + f n + _
    rw [ih]
    by_cases e : a = n
    · subst e
      rw [if_neg (by omega), if_pos (by omega)]; omega
    · rw [h n (fun z => e z.symm)]
      by_cases z : a < n
      · rw [if_pos z, if_pos (by omega)]; omega
      · rw [if_neg z, if_neg (by omega)]; omega
theorem sumTo6_add {f g : Nat → Int} : ∀ {n : Nat}, sumTo6 f n + sumTo6 g n = sumTo6 (fun i => f i + g i) n
  | 0 => rfl
  | n + 1 => by
    have := sumTo6_add (f := f) (g := g) (n := n)
    show sumTo6 f n + f n + (sumTo6 g n + g n) = sumTo6 (fun i => f i + g i) n + (f n + g n)
    omega
theorem owG_sum {V : Sv} {AL : Nat → ALaw} {PA : Nat → APact} {B : Int} {r : List SumT} : ∀ n, owG V AL PA B r n = sumTo6 (fun i => hV V AL PA B (r.getD i noS)) n
  | 0 => rfl
  | n + 1 => by
    show owG V AL PA B r n + _ = sumTo6 (fun i => hV V AL PA B (r.getD i noS)) n + _
    rw [owG_sum n]; rfl
/-! which turning a SUM has -/
theorem chU_some {U : List ATurn} {s i k : Nat} : ∀ {n : Nat}, chU U s i n = some k → k < n ∧ tb s k = true ∧ uI U k = i
  | 0, h => by cases h
  | n + 1, h => by
    unfold chU at h
    split at h
    · next z => injection h with h; subst h; exact ⟨by omega, z.1, z.2⟩
    · have := chU_some h; exact ⟨by omega, this.2⟩
theorem chU_none {U : List ATurn} {s i : Nat} : ∀ {n : Nat}, (∀ k, k < n → ¬ (tb s k = true ∧ uI U k = i)) → chU U s i n = none
  | 0, _ => rfl
  | n + 1, h => by
    unfold chU
    rw [if_neg (h n (by omega))]
    exact chU_none fun k hk => h k (by omega)
theorem chU_at {U : List ATurn} {s i a : Nat} (ha : tb s a = true) (hi : uI U a = i) : ∀ {n : Nat}, a < n → (∀ k, k < n → tb s k = true → uI U k = i → k = a) → chU U s i n = some a
  | 0, h, _ => absurd h (Nat.not_lt_zero _)
  | n + 1, h, u => by
    unfold chU
    by_cases z : tb s n = true ∧ uI U n = i
    · rw [if_pos z, u n (by omega) z.1 z.2]
    · rw [if_neg z]
      refine chU_at ha hi (n := n) ?_ fun k hk => u k (by omega)
      by_cases e : a = n
      · subst e; exact absurd ⟨ha, hi⟩ z
      · omega
theorem cT_lo {U : List ATurn} {s : Nat} : ∀ {n m : Nat}, m ≤ n → cT U s n = true → cT U s m = true
  | 0, m, h, c => by
    have : m = 0 := by omega
    rw [this]; rfl
  | n + 1, m, h, c => by
    by_cases e : m = n + 1
    · rw [e]; exact c
    · unfold cT at c
      rw [Bool.and_eq_true] at c
      exact cT_lo (n := n) (by omega) c.1
theorem tuC_sum {U : List ATurn} {s len : Nat} : ∀ {n : Nat}, (∀ k, k < n → uI U k < len) → cT U s n = true → tuC U s n = sumTo6 (fun i => prU U (chU U s i n)) len
  | 0, _, _ => by
    have : ∀ m, sumTo6 (fun i => prU U (chU U s i 0)) m = 0 := fun m => by
      induction m with
      | zero => rfl
      | succ m ih => show sumTo6 _ m + 0 = 0; rw [ih]; rfl
    rw [this]; rfl
  | n + 1, h, c => by
    unfold cT at c
    rw [Bool.and_eq_true] at c
    have ih := tuC_sum (U := U) (s := s) (len := len) (n := n) (fun k hk => h k (by omega)) c.1
    show tuC U s n + (if tb s n then uC U n else 0) = _
    cases ht : tb s n
    · have e : ∀ i, chU U s i (n + 1) = chU U s i n := fun i => if_neg (by rw [ht]; rintro ⟨z, -⟩; cases z)
      rw [ih, if_neg (by decide), Int.add_zero]
      exact sumTo6_congr fun i _ => by rw [e]
    · have c2 := c.2
      rw [ht] at c2
      have c2 : chU U s (uI U n) n = none := by
        cases z : chU U s (uI U n) n
        · rfl
        · rw [z] at c2; cases c2
      have up := sumTo6_upd (f := fun i => prU U (chU U s i n)) (g := fun i => prU U (chU U s i (n + 1))) (a := uI U n) (fun i hi => by
        show prU U (chU U s i (n + 1)) = prU U (chU U s i n)
        have : chU U s i (n + 1) = chU U s i n := if_neg fun z => hi z.2.symm
        rw [this]) (n := len)
      rw [up, ← ih, if_pos (h n (by omega)), if_pos rfl]
      have e1 : chU U s (uI U n) (n + 1) = some n := if_pos ⟨ht, rfl⟩
      show tuC U s n + uC U n = tuC U s n + (prU U (chU U s (uI U n) (n + 1)) - prU U (chU U s (uI U n) n))
      rw [e1, c2]
      show tuC U s n + uC U n = tuC U s n + (uC U n - 0)
      omega
theorem slyF_sum {V : Sv} {AL : Nat → ALaw} {PA : Nat → APact} {r : List SumT} {U : List ATurn} {s : Nat} (h : ∀ k, k < U.length → uI U k < r.length) (c : cT U s U.length = true) : slyF V AL PA r U s = sumTo6 (fun i => cst V AL PA r U i (chU U s i U.length)) r.length := by
  unfold slyF totG
  rw [tuC_sum h c, owG_sum, tuR_len, tuR_sumB, Int.add_comm, sumTo6_add]
  refine sumTo6_congr fun i _ => ?_
  show hV V AL PA (sumB r : Nat) ((tuR U s r U.length).getD i noS) + _ = _
  rw [tuR_get h]; rfl
/-! the pick of each SUM, as the class has it -/
def pk (V : Sv) (AL : Nat → ALaw) (PA : Nat → APact) (r : List SumT) (U : List ATurn) (i : Nat) : Nat → Int × Option Nat
  | 0 => (cst V AL PA r U i none, none)
  | k + 1 => if uI U k = i ∧ cst V AL PA r U i (some k) < (pk V AL PA r U i k).1 then (cst V AL PA r U i (some k), some k) else pk V AL PA r U i k
section PK
variable {V : Sv} {AL : Nat → ALaw} {PA : Nat → APact} {r : List SumT} {U : List ATurn} {i : Nat}
theorem pk_val : ∀ n, (pk V AL PA r U i n).1 = cst V AL PA r U i (pk V AL PA r U i n).2
  | 0 => rfl
  | n + 1 => by
    unfold pk
    split
    · rfl
    · exact pk_val n
theorem pk_le_none : ∀ n, (pk V AL PA r U i n).1 ≤ cst V AL PA r U i none
  | 0 => Int.le_refl _
  | n + 1 => by
    have := pk_le_none n
    unfold pk
    split
    · next z => show cst V AL PA r U i (some n) ≤ _; omega
    · exact this
theorem pk_le_some {k : Nat} (hk : uI U k = i) : ∀ {n : Nat}, k < n → (pk V AL PA r U i n).1 ≤ cst V AL PA r U i (some k)
  | 0, h => absurd h (Nat.not_lt_zero _)
  | n + 1, h => by
    unfold pk
    split
    · next z =>
      show cst V AL PA r U i (some n) ≤ _
      by_cases e : k = n
      · rw [e]; exact Int.le_refl _
      · have := pk_le_some hk (n := n) (by omega); omega
    · next z =>
      by_cases e : k = n
      · subst e
        exact Int.not_lt.mp fun w => z ⟨hk, w⟩
      · exact pk_le_some hk (n := n) (by omega)
theorem pk_some {k : Nat} : ∀ {n : Nat}, (pk V AL PA r U i n).2 = some k → k < n ∧ uI U k = i ∧ cst V AL PA r U i (some k) < cst V AL PA r U i none ∧ ∀ j, j < k → uI U j = i → cst V AL PA r U i (some k) < cst V AL PA r U i (some j)
  | 0, h => by cases h
  | n + 1, h => by
    unfold pk at h
    split at h
    · next z =>
      have h : some n = some k := h
      injection h with h
      subst h
      have a := pk_le_none (V := V) (AL := AL) (PA := PA) (r := r) (U := U) (i := i) n
      exact ⟨by omega, z.1, by omega, fun j hj hi => by have := pk_le_some (V := V) (AL := AL) (PA := PA) (r := r) hi hj; omega⟩
    · have := pk_some h
      exact ⟨by omega, this.2⟩
end PK
/-- going through the sets as the model does -/
def mst (F : Nat → Int) (C : Nat → Bool) : Nat → Int × Nat
  | 0 => (F 0, 0)
  | m + 1 => if C (m + 1) = true ∧ F (m + 1) < (mst F C m).1 then (F (m + 1), m + 1) else mst F C m
theorem mst_end {F : Nat → Int} {C : Nat → Bool} {b M : Nat} (h0 : C 0 = true) (hb : C b = true) (h1 : ∀ s, s ≤ M → C s = true → F b ≤ F s) (h2 : ∀ s, s < b → C s = true → F b < F s) : ∀ m, m ≤ M → (m < b → F b < (mst F C m).1) ∧ (b ≤ m → mst F C m = (F b, b))
  | 0, _ => ⟨fun z => h2 0 z h0, fun z => by
    have : b = 0 := by omega
    rw [this]; rfl⟩
  | m + 1, hm => by
    have ih := mst_end h0 hb h1 h2 m (by omega)
    have e : mst F C (m + 1) = if C (m + 1) = true ∧ F (m + 1) < (mst F C m).1 then (F (m + 1), m + 1) else mst F C m := rfl
    rw [e]
    refine ⟨fun z => ?_, fun z => ?_⟩
    · split
      · next c => exact h2 _ z c.1
      · exact ih.1 (by omega)
    · by_cases y : b = m + 1
      · rw [if_pos ⟨by rw [← y]; exact hb, by rw [← y]; exact ih.1 (by omega)⟩, y]
      · rw [ih.2 (by omega)]
        refine if_neg fun c => ?_
        have c2 : F (m + 1) < F b := c.2
        have := h1 (m + 1) hm c.1
        omega
theorem tb_top : ∀ s, s < 64 → ∀ b, b < 64 → s < b → ∃ k, k < 6 ∧ tb s k = false ∧ tb b k = true ∧ ∀ j, j < 6 → k < j → tb s j = tb b j := by
  intro s hs b hb h
  have key : ∀ s, s < 64 → ∀ b, b < 64 → s < b → (List.range 6).any (fun k => !tb s k && tb b k && (List.range 6).all fun j => !decide (k < j) || (tb s j == tb b j)) = true := by decide +kernel
  have := key s hs b hb h
  rw [List.any_eq_true] at this
  obtain ⟨k, hk, e⟩ := this
  rw [Bool.and_eq_true, Bool.and_eq_true, List.all_eq_true] at e
  obtain ⟨⟨e1, e2⟩, e3⟩ := e
  have k0 : tb s k = false := by
    cases z : tb s k
    · rfl
    · rw [z] at e1; cases e1
  refine ⟨k, List.mem_range.mp hk, k0, e2, fun j hj hkj => ?_⟩
  have := e3 j (List.mem_range.mpr hj)
  rw [decide_eq_true hkj] at this
  cases h1 : tb s j <;> cases h2 : tb b j <;> rw [h1, h2] at this <;> first | rfl | (exact absurd this (by decide))
/-- the class's set is the model's -/
def qB (V : Sv) (AL : Nat → ALaw) (PA : Nat → APact) (r : List SumT) (U : List ATurn) (k : Nat) : Bool := decide (k < U.length ∧ (pk V AL PA r U (uI U k) U.length).2 = some k)
def slyA (V : Sv) (AL : Nat → ALaw) (PA : Nat → APact) (r : List SumT) (U : List ATurn) : Int × Nat := mst (slyF V AL PA r U) (fun s => cT U s U.length) (2 ^ U.length - 1)
theorem tb_pw : ∀ n, n ≤ 6 → ∀ s, s < 64 → (∀ k, k < 6 → n ≤ k → tb s k = false) → s < 2 ^ n := by decide +kernel
theorem tb_ge : ∀ n, n ≤ 6 → ∀ s, s < 2 ^ n → ∀ k, k < 6 → n ≤ k → tb s k = false := by decide +kernel
section SB
variable {V : Sv} {AL : Nat → ALaw} {PA : Nat → APact} {r : List SumT} {U : List ATurn}
theorem cT_0 : ∀ n, n ≤ 6 → cT U 0 n = true
  | 0, _ => rfl
  | n + 1, h => by
    have z : tb 0 n = false := bt_zero _
    unfold cT
    rw [cT_0 n (by omega), z]; rfl
theorem sly_class (h6 : U.length ≤ 6) (h : ∀ k, k < U.length → uI U k < r.length) : msk (qB V AL PA r U) 6 = Int32.ofNat (slyA V AL PA r U).2 ∧ sumTo6 (fun i => (pk V AL PA r U i U.length).1) r.length = (slyA V AL PA r U).1 := by
  obtain ⟨N, hN, eN⟩ := msk_nat (qB V AL PA r U)
  have bits : ∀ k, k < 6 → tb N k = qB V AL PA r U k := fun k hk => by
    show bt (Int32.ofNat N) k = _
    rw [← eN, bt_msk (by decide) (by omega), decide_eq_true hk, Bool.true_and]
  have on : ∀ k, tb N k = true → k < 6 → k < U.length ∧ (pk V AL PA r U (uI U k) U.length).2 = some k := fun k z hk => by
    rw [bits k hk] at z
    exact of_decide_eq_true z
  have cN : ∀ n, n ≤ U.length → cT U N n = true := fun n => by
    induction n with
    | zero => intro _; rfl
    | succ n ih =>
      intro hn
      unfold cT
      rw [ih (by omega), Bool.true_and]
      cases ht : tb N n
      · rfl
      · have a := on n ht (by omega)
        rw [chU_none fun k hk z => ?_]
        · rfl
        · have b := on k z.1 (by omega)
          rw [z.2, a.2] at b
          have := b.2
          injection this with this
          omega
  have ch : ∀ i, chU U N i U.length = (pk V AL PA r U i U.length).2 := fun i => by
    cases e : (pk V AL PA r U i U.length).2 with
    | none =>
      refine chU_none fun k hk z => ?_
      have b := on k z.1 (by omega)
      rw [z.2, e] at b
      cases b.2
    | some k =>
      have p := pk_some e
      refine chU_at ?_ p.2.1 p.1 fun j hj z1 z2 => ?_
      · rw [bits k (by omega)]
        exact decide_eq_true ⟨p.1, by rw [p.2.1]; exact e⟩
      · have b := on j z1 (by omega)
        rw [z2, e] at b
        have := b.2
        injection this with this
        exact this.symm
  have F0 : slyF V AL PA r U N = sumTo6 (fun i => (pk V AL PA r U i U.length).1) r.length := by
    rw [slyF_sum h (cN _ (Nat.le_refl _))]
    refine sumTo6_congr fun i _ => ?_
    rw [ch, pk_val]
  have le1 : ∀ s i, i < r.length → (pk V AL PA r U i U.length).1 ≤ cst V AL PA r U i (chU U s i U.length) := fun s i _ => by
    cases e : chU U s i U.length with
    | none => exact pk_le_none _
    | some k =>
      have := chU_some e
      exact pk_le_some this.2.2 this.1
  have N2 : N < 2 ^ U.length := tb_pw _ h6 N hN fun k hk hu => by
    rw [bits k hk]
    exact decide_eq_false fun z => by omega
  have p64 : 2 ^ U.length ≤ 64 := Nat.pow_le_pow_right (n := 2) (by decide) h6
  have M := mst_end (F := slyF V AL PA r U) (C := fun s => cT U s U.length) (b := N) (M := 2 ^ U.length - 1) (cT_0 _ h6) (cN _ (Nat.le_refl _)) (fun s hs c => by
    rw [F0, slyF_sum h c]
    exact sumTo6_le (le1 s)) (fun s hs c => by
    have a : slyF V AL PA r U N ≤ slyF V AL PA r U s := by
      rw [F0, slyF_sum h c]; exact sumTo6_le (le1 s)
    refine Int.lt_iff_le_and_ne.mpr ⟨a, fun z => ?_⟩
    rw [F0, slyF_sum h c] at z
    have eq := sumTo6_eq (le1 s) z
    obtain ⟨k, hk, k1, k2, k3⟩ := tb_top s (by omega) N hN hs
    obtain ⟨p1, p2⟩ := on k k2 hk
    have p := pk_some p2
    have v := pk_val (V := V) (AL := AL) (PA := PA) (r := r) (U := U) (i := uI U k) U.length
    rw [p2] at v
    have e := eq (uI U k) (h k p1)
    rw [v] at e
    cases o : chU U s (uI U k) U.length with
    | none =>
      rw [o] at e
      have := p.2.2.1
      omega
    | some j =>
      rw [o] at e
      have c := chU_some o
      have : j < k ∨ j = k ∨ k < j := by omega
      rcases this with w | w | w
      · have := p.2.2.2 j w c.2.2; omega
      · rw [w, k1] at c; cases c.2.1
      · have t := k3 j (by omega) w
        rw [c.2.1] at t
        have b := on j t.symm (by omega)
        rw [c.2.2, p2] at b
        have := b.2
        injection this with this
        omega) (2 ^ U.length - 1) (Nat.le_refl _)
  have e : slyA V AL PA r U = (slyF V AL PA r U N, N) := M.2 (by omega)
  rw [e]
  exact ⟨eN, F0.symm⟩
/-- no set of TURNINGS owes less than none: no TURNING does -/
theorem no_pays (h6 : U.length ≤ 6) (h : ∀ k, k < U.length → uI U k < r.length) : (∀ s, s < 2 ^ U.length → cT U s U.length = true → slyF V AL PA r U 0 ≤ slyF V AL PA r U s) ↔ ∀ k, k < U.length → cst V AL PA r U (uI U k) none ≤ cst V AL PA r U (uI U k) (some k) := by
  have z0 : slyF V AL PA r U 0 = sumTo6 (fun i => cst V AL PA r U i none) r.length := by
    rw [slyF_sum h (cT_0 _ h6)]
    refine sumTo6_congr fun i _ => ?_
    rw [chU_none fun k _ z => by have : tb 0 k = false := bt_zero _; rw [this] at z; cases z.1]
  constructor
  · intro a k hk
    have single : ∀ k, k < 6 → ∀ j, j < 6 → (tb (2 ^ k) j = true ↔ j = k) := by decide +kernel
    have bit : ∀ j, j < U.length → tb (2 ^ k) j = true → j = k := fun j hj z => (single k (by omega) j (by omega)).mp z
    have self : tb (2 ^ k) k = true := (single k (by omega) k (by omega)).mpr rfl
    have c : ∀ n, n ≤ U.length → cT U (2 ^ k) n = true := fun n => by
      induction n with
      | zero => intro _; rfl
      | succ n ih =>
        intro hn
        unfold cT
        rw [ih (by omega), Bool.true_and]
        cases ht : tb (2 ^ k) n
        · rfl
        · rw [chU_none fun j hj z => ?_]
          · rfl
          · have e1 := bit n (by omega) ht
            have e2 := bit j (by omega) z.1
            omega
    have lt : 2 ^ k < 2 ^ U.length := Nat.pow_lt_pow_right (by decide) hk
    have q := a _ lt (c _ (Nat.le_refl _))
    rw [z0, slyF_sum h (c _ (Nat.le_refl _))] at q
    have up := sumTo6_upd (f := fun i => cst V AL PA r U i none) (g := fun i => cst V AL PA r U i (chU U (2 ^ k) i U.length)) (a := uI U k) (fun i hi => by
      show cst V AL PA r U i (chU U (2 ^ k) i U.length) = _
      rw [chU_none fun j hj z => hi (by rw [← z.2, bit j hj z.1])]) (n := r.length)
    have e : chU U (2 ^ k) (uI U k) U.length = some k := chU_at self rfl hk fun j hj z _ => bit j hj z
    have up : sumTo6 (fun i => cst V AL PA r U i (chU U (2 ^ k) i U.length)) r.length = sumTo6 (fun i => cst V AL PA r U i none) r.length + if uI U k < r.length then cst V AL PA r U (uI U k) (chU U (2 ^ k) (uI U k) U.length) - cst V AL PA r U (uI U k) none else 0 := up
    rw [if_pos (h k hk), e] at up
    omega
  · intro a s hs c
    rw [z0, slyF_sum h c]
    refine sumTo6_le fun i _ => ?_
    cases o : chU U s i U.length with
    | none => exact Int.le_refl _
    | some k =>
      have := chU_some o
      rw [← this.2.2]
      exact a k this.1
end SB
