/-! TEXT: the pure reader: tokens -/
def isLe (c : Nat) : Bool := (decide (97 ≤ c) && decide (c ≤ 122)) || (decide (65 ≤ c) && decide (c ≤ 90))
def isDi (c : Nat) : Bool := decide (48 ≤ c) && decide (c ≤ 57)
def isBl (c : Nat) : Bool := decide (c = 32) || decide (c = 10)
def isSi (c : Nat) : Bool := (decide (40 ≤ c) && decide (c ≤ 43)) || (decide (c = 45) || (decide (c = 47) || (decide (59 ≤ c) && decide (c ≤ 62))))
def rnG (P : Nat → Bool) (T : Nat → Nat) : Nat → Nat → Nat
  | 0, p => p
  | f + 1, p => if P (T p) then rnG P T f (p + 1) else p
/-- where a run of letters, digits .. that begins at p ends -/
def rn (P : Nat → Bool) (T : Nat → Nat) (L p : Nat) : Nat := rnG P T (L - p) p
theorem rn_y {P : Nat → Bool} {T : Nat → Nat} {L p : Nat} (hp : p < L) (h : P (T p) = true) : rn P T L p = rn P T L (p + 1) := by
  have e : L - p = (L - (p + 1)) + 1 := by omega
  unfold rn
  rw [e]
  show (if P (T p) then rnG P T (L - (p + 1)) (p + 1) else p) = _
  rw [if_pos h]
theorem rn_n {P : Nat → Bool} {T : Nat → Nat} {L p : Nat} (h : p < L → P (T p) = false) : rn P T L p = p := by
  unfold rn
  cases e : L - p with
  | zero => rfl
  | succ f =>
    show (if P (T p) then rnG P T f (p + 1) else p) = p
    rw [h (by omega)]; rfl
theorem rnG_b {P : Nat → Bool} {T : Nat → Nat} : ∀ {f p : Nat}, p ≤ rnG P T f p ∧ rnG P T f p ≤ p + f
  | 0, p => ⟨Nat.le_refl _, Nat.le_refl _⟩
  | f + 1, p => by
    show p ≤ (if P (T p) then rnG P T f (p + 1) else p) ∧ (if P (T p) then rnG P T f (p + 1) else p) ≤ p + (f + 1)
    split
    · have := rnG_b (P := P) (T := T) (f := f) (p := p + 1); omega
    · omega
theorem rn_ge {P : Nat → Bool} {T : Nat → Nat} {L p : Nat} : p ≤ rn P T L p := rnG_b.1
theorem rn_le {P : Nat → Bool} {T : Nat → Nat} {L p : Nat} (h : p ≤ L) : rn P T L p ≤ L := by
  have : rn P T L p ≤ p + (L - p) := rnG_b.2
  omega
theorem rn_lt {P : Nat → Bool} {T : Nat → Nat} {L p : Nat} (hp : p < L) (h : P (T p) = true) : p < rn P T L p := by
  rw [rn_y hp h]
  have := rn_ge (P := P) (T := T) (L := L) (p := p + 1); omega
def bsN (T : Nat → Nat) (q e : Nat) : List Nat := (List.range (e - q)).map fun i => T (q + i)
def KW : List (List Nat) := [[110, 105, 103, 104, 116, 115], [104, 111, 109, 101], [98, 111, 110, 100], [98, 105, 114, 116, 104], [109, 111, 115, 116], [105, 110], [112, 97, 121, 115], [97, 109, 111, 117, 110, 116], [112, 97, 121], [108, 101, 116], [103, 97, 105, 110], [115, 104, 97, 114, 101], [112, 101, 110, 115, 105, 111, 110], [116, 104, 114, 111, 117, 103, 104], [109, 105, 110, 101], [116, 97, 107, 101], [102, 114, 101, 101], [115, 116, 101, 112], [114, 101, 108, 105, 101, 102], [119, 104, 101, 110], [110, 111], [111, 102, 102], [111, 114], [97, 110, 100], [110, 111, 116], [116, 101, 115, 116], [111, 110, 108, 121], [116, 111, 112], [108, 111, 111, 107]]
def kwF (bs : List Nat) : List (List Nat) → Nat → Nat
  | [], _ => 102
  | k :: r, j => if bs = k then j else kwF bs r (j + 1)
def kwN (bs : List Nat) : Nat := kwF bs KW 0
def nmG (T : Nat → Nat) (q : Nat) : Nat → Nat
  | 0 => 0
  | i + 1 => 10 * nmG T q i + (T (q + i) - 48)
/-- code, place, number, end of the token that comes at p -/
def tokA (T : Nat → Nat) (L p : Nat) : Nat × Nat × Nat × Nat :=
  if L ≤ rn isBl T L p then (101, rn isBl T L p, 0, rn isBl T L p)
  else if isLe (T (rn isBl T L p)) then (kwN (bsN T (rn isBl T L p) (rn isLe T L (rn isBl T L p))), rn isBl T L p, 0, rn isLe T L (rn isBl T L p))
  else if isDi (T (rn isBl T L p)) then (if rn isDi T L (rn isBl T L p) - rn isBl T L p ≤ 6 then 100 else 102, rn isBl T L p, nmG T (rn isBl T L p) (min (rn isDi T L (rn isBl T L p) - rn isBl T L p) 6), rn isDi T L (rn isBl T L p))
  else (if isSi (T (rn isBl T L p)) then T (rn isBl T L p) else 102, rn isBl T L p, 0, rn isBl T L p + 1)
def sps (T : Nat → Nat) (L : Nat) : Nat → Nat
  | 0 => 0
  | k + 1 => (tokA T L (sps T L k)).2.2.2
def tC (T : Nat → Nat) (L k : Nat) : Nat := (tokA T L (sps T L k)).1
def tP (T : Nat → Nat) (L k : Nat) : Nat := (tokA T L (sps T L k)).2.1
def tV (T : Nat → Nat) (L k : Nat) : Nat := (tokA T L (sps T L k)).2.2.1
theorem kwF_le {bs : List Nat} : ∀ {l : List (List Nat)} {j : Nat}, kwF bs l j = 102 ∨ (j ≤ kwF bs l j ∧ kwF bs l j < j + l.length)
  | [], j => Or.inl rfl
  | k :: r, j => by
    show (if bs = k then j else kwF bs r (j + 1)) = 102 ∨ (j ≤ (if bs = k then j else kwF bs r (j + 1)) ∧ (if bs = k then j else kwF bs r (j + 1)) < j + (r.length + 1))
    split
    · exact Or.inr ⟨Nat.le_refl _, by omega⟩
    · rcases kwF_le (bs := bs) (l := r) (j := j + 1) with z | z
      · exact Or.inl z
      · exact Or.inr ⟨by omega, by omega⟩
theorem kwN_le {bs : List Nat} : kwN bs = 102 ∨ kwN bs < 29 := by
  rcases kwF_le (bs := bs) (l := KW) (j := 0) with z | z
  · exact Or.inl z
  · exact Or.inr (by have e : KW.length = 29 := by decide
                     have := z.2
                     unfold kwN; omega)
theorem isSi_r {x : Nat} (h : isSi x = true) : 40 ≤ x ∧ x ≤ 62 := by
  unfold isSi at h
  simp only [Bool.or_eq_true, Bool.and_eq_true, decide_eq_true_eq] at h
  omega
theorem nmG_lt {T : Nat → Nat} (hT : ∀ k, isDi (T k) = true → T k ≤ 57) {q : Nat} : ∀ i, (∀ j, j < i → isDi (T (q + j)) = true) → nmG T q i < 10 ^ i
  | 0, _ => Nat.one_pos
  | i + 1, h => by
    have ih := nmG_lt hT (q := q) i fun j hj => h j (by omega)
    have a := hT _ (h i (by omega))
    show 10 * nmG T q i + (T (q + i) - 48) < 10 ^ (i + 1)
    have e : 10 ^ (i + 1) = 10 ^ i * 10 := Nat.pow_succ ..
    omega
theorem rnG_all {P : Nat → Bool} {T : Nat → Nat} : ∀ {f p j : Nat}, p ≤ j → j < rnG P T f p → P (T j) = true
  | 0, p, j, h1, h2 => absurd h2 (by show ¬ j < p; omega)
  | f + 1, p, j, h1, h2 => by
    have h2 : j < (if P (T p) then rnG P T f (p + 1) else p) := h2
    split at h2
    · next z =>
      by_cases e : j = p
      · rw [e]; exact z
      · exact rnG_all (by omega) h2
    · omega
theorem rn_all {P : Nat → Bool} {T : Nat → Nat} {L p j : Nat} (h1 : p ≤ j) (h2 : j < rn P T L p) : P (T j) = true := rnG_all h1 h2
theorem isDi_le {x : Nat} (h : isDi x = true) : 48 ≤ x ∧ x ≤ 57 := by
  unfold isDi at h
  rw [Bool.and_eq_true, decide_eq_true_eq, decide_eq_true_eq] at h
  exact h
theorem tk_val {T : Nat → Nat} {L p : Nat} : (tokA T L p).2.2.1 ≤ 999999 := by
  unfold tokA
  split
  · exact Nat.zero_le _
  · split
    · exact Nat.zero_le _
    · split
      · show nmG T (rn isBl T L p) (min (rn isDi T L (rn isBl T L p) - rn isBl T L p) 6) ≤ 999999
        have a := nmG_lt (T := T) (fun k h => (isDi_le h).2) (q := rn isBl T L p) (min (rn isDi T L (rn isBl T L p) - rn isBl T L p) 6) fun j hj => rn_all (P := isDi) (T := T) (L := L) (p := rn isBl T L p) (by omega) (by omega)
        have b : 10 ^ (min (rn isDi T L (rn isBl T L p) - rn isBl T L p) 6) ≤ 10 ^ 6 := Nat.pow_le_pow_right (by decide) (Nat.min_le_right _ _)
        have c : 10 ^ 6 = 1000000 := by decide
        omega
      · exact Nat.zero_le _
theorem tV_le {T : Nat → Nat} {L k : Nat} : tV T L k ≤ 999999 := tk_val
theorem tk_end {T : Nat → Nat} {L p : Nat} (h : (tokA T L p).1 = 101) : L ≤ rn isBl T L p := by
  apply Classical.byContradiction
  intro n
  unfold tokA at h
  rw [if_neg n] at h
  split at h
  · have h : kwN _ = 101 := h
    rcases kwN_le (bs := bsN T (rn isBl T L p) (rn isLe T L (rn isBl T L p))) with z | z <;> omega
  · split at h
    · have h : (if _ then 100 else 102) = 101 := h
      split at h <;> omega
    · have h : (if isSi (T (rn isBl T L p)) then T (rn isBl T L p) else 102) = 101 := h
      split at h
      · next z => have := isSi_r z; omega
      · omega
theorem tk_ne {T : Nat → Nat} {L p : Nat} (h : (tokA T L p).1 ≠ 101) : rn isBl T L p < L := Nat.lt_of_not_le fun z => h (by unfold tokA; rw [if_pos z])
theorem tk_adv {T : Nat → Nat} {L p : Nat} (h : (tokA T L p).1 ≠ 101) : p < (tokA T L p).2.2.2 ∧ (p ≤ L → (tokA T L p).2.2.2 ≤ L) := by
  have n := tk_ne h
  have g := rn_ge (P := isBl) (T := T) (L := L) (p := p)
  unfold tokA
  rw [if_neg (by omega)]
  split
  · next z =>
    have := rn_lt n z
    exact ⟨by show p < rn isLe T L (rn isBl T L p); omega, fun _ => rn_le (by omega)⟩
  · split
    · next z =>
      have := rn_lt n z
      exact ⟨by show p < rn isDi T L (rn isBl T L p); omega, fun _ => rn_le (by omega)⟩
    · exact ⟨by show p < rn isBl T L p + 1; omega, fun _ => by show rn isBl T L p + 1 ≤ L; omega⟩
theorem tC_stay {T : Nat → Nat} {L k : Nat} (h : tC T L k = 101) : tC T L (k + 1) = 101 := by
  have a := tk_end h
  have e : sps T L (k + 1) = rn isBl T L (sps T L k) := by
    show (tokA T L (sps T L k)).2.2.2 = _
    unfold tokA; rw [if_pos a]
  unfold tC tokA
  rw [e, rn_n (p := rn isBl T L (sps T L k)) (fun z => absurd z (by omega)), if_pos a]
theorem tC_bef {T : Nat → Nat} {L : Nat} : ∀ {k j : Nat}, j ≤ k → tC T L k ≠ 101 → tC T L j ≠ 101
  | 0, j, h, n => by
    have : j = 0 := by omega
    rw [this]; exact n
  | k + 1, j, h, n => by
    by_cases e : j = k + 1
    · rw [e]; exact n
    · exact tC_bef (k := k) (by omega) fun z => n (tC_stay z)
theorem sP_b {T : Nat → Nat} {L : Nat} : ∀ {k : Nat}, (∀ j, j < k → tC T L j ≠ 101) → k ≤ sps T L k ∧ sps T L k ≤ L
  | 0, _ => ⟨Nat.le_refl _, Nat.zero_le _⟩
  | k + 1, h => by
    have ih := sP_b (k := k) fun j hj => h j (by omega)
    have a := tk_adv (T := T) (L := L) (p := sps T L k) (h k (by omega))
    have e : sps T L (k + 1) = (tokA T L (sps T L k)).2.2.2 := rfl
    have := a.2 ih.2
    rw [e]; omega
/-- tokens that are not the end: fewer than the text is long -/
theorem tC_lt {T : Nat → Nat} {L k : Nat} (h : tC T L k ≠ 101) : k < L := by
  have a := sP_b (T := T) (L := L) (k := k) fun j hj => tC_bef (by omega) h
  have b := tk_ne h
  have c := rn_ge (P := isBl) (T := T) (L := L) (p := sps T L k)
  omega
/-! THE PURE READER: units, sums, conditions; each (fault or 0, token, ops) -/
abbrev PRes : Type := Nat × Nat × List Op
def bindR (r : PRes) (f : Nat → List Op → PRes) : PRes := if r.1 = 0 then f r.2.1 r.2.2 else (r.1, r.2.1, [])
theorem bindR_ok {r : PRes} {f : Nat → List Op → PRes} (h : r.1 = 0) : bindR r f = f r.2.1 r.2.2 := if_pos h
theorem bindR_no {r : PRes} {f : Nat → List Op → PRes} (h : r.1 ≠ 0) : bindR r f = (r.1, r.2.1, []) := if_neg h
theorem bindR_0 {r : PRes} {f : Nat → List Op → PRes} (h : (bindR r f).1 = 0) : r.1 = 0 := by
  apply Classical.byContradiction
  intro z
  rw [bindR_no z] at h
  exact z h
section PR
variable (c v : Nat → Nat) (N : Nat)
def pUnit (k : Nat) : PRes := if c k = 100 then (0, k + 1, [(0, Int32.ofNat (v k))]) else if c k < 8 then (0, k + 1, [(c k + 1, 0)]) else (1, k, [])
def pPL : Nat → Nat → List Op → PRes
  | 0, k, a => (0, k, a)
  | f + 1, k, a => if c k = 42 then bindR (pUnit c v (k + 1)) fun k' o => pPL f k' (a ++ o ++ [(11, 0)]) else if c k = 47 then (if c (k + 1) = 100 then (if v (k + 1) = 0 then (2, k + 1, []) else pPL f (k + 2) (a ++ [(12, Int32.ofNat (v (k + 1)))])) else (1, k + 1, [])) else (0, k, a)
def pProd (k : Nat) : PRes := bindR (pUnit c v k) fun k' o => pPL c v N k' o
def pSL : Nat → Nat → List Op → PRes
  | 0, k, a => (0, k, a)
  | f + 1, k, a => if c k = 43 ∨ c k = 45 then bindR (pProd c v N (k + 1)) fun k' o => pSL f k' (a ++ o ++ [((if c k = 43 then 9 else 10), 0)]) else (0, k, a)
def pSum (k : Nat) : PRes := bindR (pProd c v N k) fun k' o => pSL c v N N k' o
def pCmp (k : Nat) : PRes := bindR (pSum c v N k) fun k1 o1 => if 60 ≤ c k1 ∧ c k1 ≤ 62 then bindR (pSum c v N (k1 + 1)) fun k2 o2 => (0, k2, o1 ++ o2 ++ [(c k1 - 47, 0)]) else (1, k1, [])
def pLL (p : Nat → PRes) (t s : Nat) : Nat → Nat → List Op → PRes
  | 0, k, a => (0, k, a)
  | f + 1, k, a => if c k = t then bindR (p (k + 1)) fun k' o => pLL p t s f k' (a ++ o ++ [(s, 0)]) else (0, k, a)
def pEv (p : Nat → PRes) (k : Nat) : PRes := bindR (p k) fun k' o => pLL c p 23 17 N k' o
def pAn (p : Nat → PRes) (k : Nat) : PRes := bindR (pEv c N p k) fun k' o => pLL c (pEv c N p) 22 18 N k' o
def pOne : Nat → Nat → PRes
  | 0, k => if c k = 24 ∨ c k = 40 then (3, k, []) else pCmp c v N k
  | r + 1, k => if c k = 24 then bindR (pOne r (k + 1)) fun k' o => (0, k', o ++ [(16, 0)]) else if c k = 40 then bindR (pAn c N (pOne r) (k + 1)) fun k' o => if c k' = 41 then (0, k' + 1, o) else (1, k', []) else pCmp c v N k
def pAny (k : Nat) : PRes := pAn c N (pOne c v N 8) k
end PR
/-! what a success says -/
def pg : List Op → Nat → Nat → Prop
  | [], n, m => n = m
  | o :: r, n, m => okO n o ∧ pg r (nxt n o) m
theorem pg.app {b : List Op} {m l : Nat} : ∀ {a : List Op} {n : Nat}, pg a n m → pg b m l → pg (a ++ b) n l
  | [], n, h, g => by
    have h : n = m := h
    rw [h]; exact g
  | o :: a, n, h, g => ⟨h.1, pg.app h.2 g⟩
theorem pg.okS : ∀ {a : List Op} {n m : Nat}, pg a n m → 0 < m → okS a n
  | [], n, m, h, g => by
    have h : n = m := h
    rw [h]; exact g
  | o :: a, n, m, h, g => ⟨h.1, pg.okS h.2 g⟩
theorem opsC_app (a b : List Op) : opsC (a ++ b) = opsC a ++ opsC b := List.flatMap_append ..
theorem opsC_len (a b : List Op) : (opsC (a ++ b)).length = (opsC a).length + (opsC b).length := by rw [opsC_app, List.length_append]
theorem opsC_ge : ∀ a : List Op, a.length ≤ (opsC a).length
  | [] => Nat.le_refl _
  | o :: a => by
    have := opsC_ge a
    have := opC_pos o
    have e : opsC (o :: a) = opC o ++ opsC a := rfl
    rw [e, List.length_append, List.length_cons]; omega
section PF
variable {c v : Nat → Nat} {N : Nat}
def NE (c : Nat → Nat) (k : Nat) : Prop := ∀ j, j < k → c j ≠ 101
theorem NE.s {k : Nat} (h : NE c k) (n : c k ≠ 101) : NE c (k + 1) := fun j hj => by
  by_cases e : j = k
  · rw [e]; exact n
  · exact h j (by omega)
/-- from token k on a success consumed tokens, and its ops run -/
def Gd (c : Nat → Nat) (B k : Nat) (r : PRes) : Prop := r.1 = 0 → k < r.2.1 ∧ NE c r.2.1 ∧ (opsC r.2.2).length + k ≤ r.2.1 ∧ ∀ n, n + B < 60 → pg r.2.2 n (n + 1)
/-- the same for a loop that had ops a already -/
def Gl (c : Nat → Nat) (B k0 k : Nat) (r : PRes) : Prop := r.1 = 0 → k ≤ r.2.1 ∧ NE c r.2.1 ∧ (opsC r.2.2).length + k0 ≤ r.2.1 ∧ ∀ n, n + B < 60 → pg r.2.2 n (n + 1)
theorem gd_unit (hv : ∀ k, v k ≤ 999999) {k : Nat} (ne : NE c k) : Gd c 0 k (pUnit c v k) := fun h => by
  unfold pUnit at h ⊢
  by_cases e : c k = 100
  · rw [if_pos e]
    refine ⟨Nat.lt_succ_self k, ne.s (by omega), by show 1 + k ≤ k + 1; omega, fun n hn => ⟨Or.inl ⟨rfl, i_lt0 (by have := hv k; omega), by omega⟩, rfl⟩⟩
  · rw [if_neg e] at h ⊢
    by_cases e2 : c k < 8
    · rw [if_pos e2]
      refine ⟨Nat.lt_succ_self k, ne.s (by omega), ?_, fun n hn => ⟨Or.inr (Or.inl ⟨by show 1 ≤ c k + 1; omega, by show c k + 1 ≤ 8; omega, by omega⟩), ?_⟩⟩
      · show (opC (c k + 1, 0) ++ []).length + k ≤ k + 1
        unfold opC
        rw [if_neg (by show ¬ c k + 1 = 0; omega), if_neg (by show ¬ c k + 1 = 12; omega)]
        show 1 + k ≤ k + 1; omega
      · show nxt n (c k + 1, 0) = n + 1
        unfold nxt
        rw [if_pos (by show c k + 1 ≤ 8; omega)]
    · rw [if_neg e2] at h; cases h
theorem opsC_1 {s : Nat} (h0 : s ≠ 0) (h1 : s ≠ 12) : (opsC [(s, (0 : Int32))]).length = 1 := by
  show (opC (s, 0) ++ []).length = 1
  unfold opC
  rw [if_neg (by exact h0), if_neg (by exact h1)]; rfl
theorem pg_join {s n : Nat} (hs : isJ s) : pg [(s, (0 : Int32))] (n + 1 + 1) (n + 1) := by
  have : 8 < s ∧ s ≠ 12 ∧ s ≠ 16 := by rcases hs with e | e | e | e | e | e | e | e <;> omega
  refine ⟨Or.inr (Or.inr (Or.inr (Or.inr ⟨hs, by omega⟩))), ?_⟩
  show nxt (n + 1 + 1) (s, 0) = n + 1
  unfold nxt
  rw [if_neg (by show ¬ s ≤ 8; omega), if_neg (by show ¬ (s = 12 ∨ s = 16); omega)]; omega
theorem gl_PL (hv : ∀ k, v k ≤ 999999) {k0 : Nat} : ∀ {f k : Nat} {a : List Op}, k0 ≤ k → NE c k → (opsC a).length + k0 ≤ k → (∀ n, n + 1 < 60 → pg a n (n + 1)) → Gl c 1 k0 k (pPL c v f k a)
  | 0, k, a, h0, ne, hl, hp => fun _ => ⟨Nat.le_refl _, ne, hl, hp⟩
  | f + 1, k, a, h0, ne, hl, hp => fun h => by
    unfold pPL at h ⊢
    by_cases e : c k = 42
    · rw [if_pos e] at h ⊢
      have u := bindR_0 h
      rw [bindR_ok u] at h ⊢
      have g := gd_unit hv (ne.s (by omega)) u
      obtain ⟨g1, g2, g3, g4⟩ := g
      have := gl_PL hv (k0 := k0) (f := f) (k := (pUnit c v (k + 1)).2.1) (a := a ++ (pUnit c v (k + 1)).2.2 ++ [(11, 0)]) (by omega) g2 (by rw [opsC_len, opsC_len, opsC_1 (by decide) (by decide)]; omega) (fun n hn => ((hp n hn).app (g4 (n + 1) (by omega))).app (pg_join (Or.inr (Or.inr (Or.inl rfl))))) h
      exact ⟨by omega, this.2⟩
    · rw [if_neg e] at h ⊢
      by_cases e2 : c k = 47
      · rw [if_pos e2] at h ⊢
        by_cases e3 : c (k + 1) = 100
        · rw [if_pos e3] at h ⊢
          by_cases e4 : v (k + 1) = 0
          · rw [if_pos e4] at h; cases h
          · rw [if_neg e4] at h ⊢
            have v1 := hv (k + 1)
            have := gl_PL hv (k0 := k0) (f := f) (k := k + 2) (a := a ++ [(12, Int32.ofNat (v (k + 1)))]) (by omega) ((ne.s (by omega)).s (by omega)) (by rw [opsC_len]; show _ + 2 + k0 ≤ k + 2; omega) (fun n hn => (hp n hn).app ⟨Or.inr (Or.inr (Or.inl ⟨rfl, by omega, by omega, (i_lt (m := 0) (by omega) (by omega)).mpr (by omega)⟩)), rfl⟩) h
            exact ⟨by omega, this.2⟩
        · rw [if_neg e3] at h; cases h
      · rw [if_neg e2] at h ⊢
        exact ⟨Nat.le_refl _, ne, hl, hp⟩
theorem gd_prod (hv : ∀ k, v k ≤ 999999) {k : Nat} (ne : NE c k) : Gd c 1 k (pProd c v N k) := fun h => by
  unfold pProd at h ⊢
  have u := bindR_0 h
  rw [bindR_ok u] at h ⊢
  obtain ⟨g1, g2, g3, g4⟩ := gd_unit hv ne u
  have := gl_PL hv (k0 := k) (Nat.le_of_lt g1) g2 g3 (fun n hn => g4 n (by omega)) h
  exact ⟨by omega, this.2⟩
theorem gl_SL (hv : ∀ k, v k ≤ 999999) {k0 : Nat} : ∀ {f k : Nat} {a : List Op}, k0 ≤ k → NE c k → (opsC a).length + k0 ≤ k → (∀ n, n + 2 < 60 → pg a n (n + 1)) → Gl c 2 k0 k (pSL c v N f k a)
  | 0, k, a, h0, ne, hl, hp => fun _ => ⟨Nat.le_refl _, ne, hl, hp⟩
  | f + 1, k, a, h0, ne, hl, hp => fun h => by
    unfold pSL at h ⊢
    by_cases e : c k = 43 ∨ c k = 45
    · rw [if_pos e] at h ⊢
      have u := bindR_0 h
      rw [bindR_ok u] at h ⊢
      obtain ⟨g1, g2, g3, g4⟩ := gd_prod hv (ne.s (by omega)) u
      have j : isJ (if c k = 43 then 9 else 10) := by split; exact Or.inl rfl; exact Or.inr (Or.inl rfl)
      have l1 : (opsC [((if c k = 43 then 9 else 10), (0 : Int32))]).length = 1 := opsC_1 (by split <;> omega) (by split <;> omega)
      have := gl_SL hv (k0 := k0) (f := f) (k := (pProd c v N (k + 1)).2.1) (a := a ++ (pProd c v N (k + 1)).2.2 ++ [((if c k = 43 then 9 else 10), 0)]) (by omega) g2 (by rw [opsC_len, opsC_len, l1]; omega) (fun n hn => ((hp n hn).app (g4 (n + 1) (by omega))).app (pg_join j)) h
      exact ⟨by omega, this.2⟩
    · rw [if_neg e] at h ⊢
      exact ⟨Nat.le_refl _, ne, hl, hp⟩
theorem gd_sum (hv : ∀ k, v k ≤ 999999) {k : Nat} (ne : NE c k) : Gd c 2 k (pSum c v N k) := fun h => by
  unfold pSum at h ⊢
  have u := bindR_0 h
  rw [bindR_ok u] at h ⊢
  obtain ⟨g1, g2, g3, g4⟩ := gd_prod hv ne u
  have := gl_SL hv (k0 := k) (Nat.le_of_lt g1) g2 g3 (fun n hn => g4 n (by omega)) h
  exact ⟨by omega, this.2⟩
theorem gd_cmp (hv : ∀ k, v k ≤ 999999) {k : Nat} (ne : NE c k) : Gd c 3 k (pCmp c v N k) := fun h => by
  unfold pCmp at h ⊢
  have u := bindR_0 h
  rw [bindR_ok u] at h ⊢
  obtain ⟨g1, g2, g3, g4⟩ := gd_sum hv ne u
  by_cases e : 60 ≤ c (pSum c v N k).2.1 ∧ c (pSum c v N k).2.1 ≤ 62
  · rw [if_pos e] at h ⊢
    have u2 := bindR_0 h
    rw [bindR_ok u2] at h ⊢
    obtain ⟨k1, k2, k3, k4⟩ := gd_sum hv (g2.s (by omega)) u2
    have j : isJ (c (pSum c v N k).2.1 - 47) := by
      have : c (pSum c v N k).2.1 = 60 ∨ c (pSum c v N k).2.1 = 61 ∨ c (pSum c v N k).2.1 = 62 := by omega
      rcases this with z | z | z <;> rw [z]
      · exact Or.inr (Or.inr (Or.inr (Or.inl rfl)))
      · exact Or.inr (Or.inr (Or.inr (Or.inr (Or.inl rfl))))
      · exact Or.inr (Or.inr (Or.inr (Or.inr (Or.inr (Or.inl rfl)))))
    refine ⟨by show k < (pSum c v N ((pSum c v N k).2.1 + 1)).2.1; omega, k2, ?_, fun n hn => ((g4 n (by omega)).app (k4 (n + 1) (by omega))).app (pg_join j)⟩
    show (opsC ((pSum c v N k).2.2 ++ (pSum c v N ((pSum c v N k).2.1 + 1)).2.2 ++ [(c (pSum c v N k).2.1 - 47, 0)])).length + k ≤ (pSum c v N ((pSum c v N k).2.1 + 1)).2.1
    rw [opsC_len, opsC_len, opsC_1 (by omega) (by omega)]; omega
  · rw [if_neg e] at h; cases h
theorem gl_LL {p : Nat → PRes} {t s B : Nat} (ht : t ≠ 101) (hs : s = 17 ∨ s = 18) (hp : ∀ k, NE c k → Gd c B k (p k)) {k0 : Nat} : ∀ {f k : Nat} {a : List Op}, k0 ≤ k → NE c k → (opsC a).length + k0 ≤ k → (∀ n, n + (B + 1) < 60 → pg a n (n + 1)) → Gl c (B + 1) k0 k (pLL c p t s f k a)
  | 0, k, a, h0, ne, hl, ha => fun _ => ⟨Nat.le_refl _, ne, hl, ha⟩
  | f + 1, k, a, h0, ne, hl, ha => fun h => by
    unfold pLL at h ⊢
    by_cases e : c k = t
    · rw [if_pos e] at h ⊢
      have u := bindR_0 h
      rw [bindR_ok u] at h ⊢
      obtain ⟨g1, g2, g3, g4⟩ := hp (k + 1) (ne.s (by omega)) u
      have j : isJ s := by
        rcases hs with z | z <;> rw [z]
        · exact Or.inr (Or.inr (Or.inr (Or.inr (Or.inr (Or.inr (Or.inl rfl))))))
        · exact Or.inr (Or.inr (Or.inr (Or.inr (Or.inr (Or.inr (Or.inr rfl))))))
      have := gl_LL ht hs hp (k0 := k0) (f := f) (k := (p (k + 1)).2.1) (a := a ++ (p (k + 1)).2.2 ++ [(s, 0)]) (by omega) g2 (by rw [opsC_len, opsC_len, opsC_1 (by omega) (by omega)]; omega) (fun n hn => ((ha n hn).app (g4 (n + 1) (by omega))).app (pg_join j)) h
      exact ⟨by omega, this.2⟩
    · rw [if_neg e] at h ⊢
      exact ⟨Nat.le_refl _, ne, hl, ha⟩
theorem gd_ev {p : Nat → PRes} {B : Nat} (hp : ∀ k, NE c k → Gd c B k (p k)) {k : Nat} (ne : NE c k) : Gd c (B + 1) k (pEv c N p k) := fun h => by
  unfold pEv at h ⊢
  have u := bindR_0 h
  rw [bindR_ok u] at h ⊢
  obtain ⟨g1, g2, g3, g4⟩ := hp k ne u
  have := gl_LL (s := 17) (by decide) (Or.inl rfl) hp (k0 := k) (Nat.le_of_lt g1) g2 g3 (fun n hn => g4 n (by omega)) h
  exact ⟨by omega, this.2⟩
theorem gd_an {p : Nat → PRes} {B : Nat} (hp : ∀ k, NE c k → Gd c B k (p k)) {k : Nat} (ne : NE c k) : Gd c (B + 2) k (pAn c N p k) := fun h => by
  unfold pAn at h ⊢
  have u := bindR_0 h
  rw [bindR_ok u] at h ⊢
  obtain ⟨g1, g2, g3, g4⟩ := gd_ev (N := N) hp ne u
  have := gl_LL (s := 18) (B := B + 1) (by decide) (Or.inr rfl) (fun k n => gd_ev (N := N) hp n) (k0 := k) (Nat.le_of_lt g1) g2 g3 (fun n hn => g4 n (by omega)) h
  exact ⟨by omega, this.2⟩
theorem gd_one (hv : ∀ k, v k ≤ 999999) : ∀ (r k : Nat), NE c k → Gd c (3 + 2 * r) k (pOne c v N r k)
  | 0, k, ne => fun h => by
    unfold pOne at h ⊢
    by_cases e : c k = 24 ∨ c k = 40
    · rw [if_pos e] at h; cases h
    · rw [if_neg e] at h ⊢
      exact gd_cmp hv ne h
  | r + 1, k, ne => fun h => by
    unfold pOne at h ⊢
    by_cases e : c k = 24
    · rw [if_pos e] at h ⊢
      have u := bindR_0 h
      rw [bindR_ok u] at h ⊢
      obtain ⟨g1, g2, g3, g4⟩ := gd_one hv r (k + 1) (ne.s (by omega)) u
      refine ⟨by show k < (pOne c v N r (k + 1)).2.1; omega, g2, ?_, fun n hn => (g4 n (by omega)).app ⟨Or.inr (Or.inr (Or.inr (Or.inl ⟨rfl, by omega⟩))), rfl⟩⟩
      show (opsC ((pOne c v N r (k + 1)).2.2 ++ [(16, 0)])).length + k ≤ (pOne c v N r (k + 1)).2.1
      rw [opsC_len, opsC_1 (by decide) (by decide)]; omega
    · rw [if_neg e] at h ⊢
      by_cases e2 : c k = 40
      · rw [if_pos e2] at h ⊢
        have u := bindR_0 h
        rw [bindR_ok u] at h ⊢
        obtain ⟨g1, g2, g3, g4⟩ := gd_an (N := N) (fun k n => gd_one hv r k n) (ne.s (show c k ≠ 101 by omega)) u
        by_cases e3 : c (pAn c N (pOne c v N r) (k + 1)).2.1 = 41
        · rw [if_pos e3]
          exact ⟨by show k < (pAn c N (pOne c v N r) (k + 1)).2.1 + 1; omega, g2.s (by omega), by show (opsC (pAn c N (pOne c v N r) (k + 1)).2.2).length + k ≤ (pAn c N (pOne c v N r) (k + 1)).2.1 + 1; omega, fun n hn => g4 n (by omega)⟩
        · rw [if_neg e3] at h; cases h
      · rw [if_neg e2] at h ⊢
        obtain ⟨g1, g2, g3, g4⟩ := gd_cmp hv ne h
        exact ⟨g1, g2, g3, fun n hn => g4 n (by omega)⟩
theorem gd_any (hv : ∀ k, v k ≤ 999999) {k : Nat} (ne : NE c k) : Gd c 21 k (pAny c v N k) := gd_an (N := N) (fun k n => gd_one hv 8 k n) ne
end PF
