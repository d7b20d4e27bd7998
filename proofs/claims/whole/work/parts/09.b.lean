/-! THE WORLD: what a heap of the abstract machine says of the machine's heap -/
def ad (B : Nat) (aS : Nat → Nat) (k : Nat) : Nat := if k < 62 then aS k else B + (k - 62)
def tr (B : Nat) (aS : Nat → Nat) (v : Value) : Value := match v with
  | .ref k => .ref (ad B aS k)
  | v => v
theorem tr_cat (B : Nat) (aS : Nat → Nat) (v : Value) : (tr B aS v).category = v.category := by cases v <;> rfl
def fv (B : Nat) (aS : Nat → Nat) (h : Hp) (a k ty : Nat) : Value := match ty with
  | 1 => .long (hJ h a k)
  | 2 => va_rf ((hP h a k).map (ad B aS))
  | _ => .int (hI h a k)
def tyT (t : Nat) : FieldType := match t with
  | 50 => .int
  | 51 => .long
  | 52 => .boolean
  | 80 => .array .int
  | 81 => .array .long
  | t => .object (clsS (t - 60))
def tagL : List Nat := [50, 51, 52, 61, 63, 68, 69, 80, 81]
def tagOK (t : Nat) : Prop := (1 ≤ t ∧ t < 13) ∨ t ∈ tagL
def flds (B : Nat) (aS : Nat → Nat) (h : Hp) (a ci : Nat) : List Value := (List.range (nfl ci)).map fun k => fv B aS h a k (fty ci k)
def cel (B : Nat) (aS : Nat → Nat) (cT : Nat → ClassId) (h : Hp) (a : Nat) : va_E :=
  if (hS h a).1 < 13 then .inr ((hS h a).1 - 1, flds B aS h a ((hS h a).1 - 1))
  else if (hS h a).1 = 51 then .inl (cT 51, (hS h a).2, .inr (.inl (hJ h a)))
  else if (hS h a).1 = 50 ∨ (hS h a).1 = 52 then .inl (cT (hS h a).1, (hS h a).2, .inl (hI h a))
  else .inl (cT (hS h a).1, (hS h a).2, .inr (.inr (.inr (.inr fun j => (hP h a j).map (ad B aS)))))
def tysL (cT : Nat → ClassId) : List (ClassId × FieldType) := tagL.map fun t => (cT t, tyT t)
def WF (h : Hp) : Prop := 62 ≤ hN h ∧ ∀ a, hS h a ≠ (0, 0) → 62 ≤ a ∧ a < hN h ∧ tagOK (hS h a).1
def World (B : Nat) (aS : Nat → Nat) (cT : Nat → ClassId) (D : va_G) (h : Hp) (H : Heap) : Prop :=
  WF h ∧ H.size = B + (hN h - 62) ∧ ∀ a, hS h a ≠ (0, 0) → va_at D vwCl (B + (a - 62), cel B aS cT h a) H
def lenL : List Nat := strB.map List.length
def bytL : List (List Int32) := strB.map fun l => l.map fun c => Int32.ofNat c
def vx_AO (t : FieldType) (U : State) : Prop := (Cond.arrayOver (.array t)).before #[] U = true
theorem vx_AO.spec {t : FieldType} {s : State} (h : vx_AO t s) : ∃ comp c k, s.vm.findClass (FieldType.array t).toString = some comp ∧ (s.vm.classes.findIdx? fun (x : Class) => match x.kind with | .array component _ => component == comp | _ => false) = some c ∧ s.vm.classes[c]? = some k ∧ k.kind = .array comp (.array t) ∧ s.vm.findClass ("[" ++ (FieldType.array t).toString) = some c := by
  unfold vx_AO Cond.before at h
  simp only [Cond.holds, Cond.value, beq_iff_eq] at h
  cases hc : s.vm.findClass (FieldType.array t).toString with
  | none => simp [hc] at h
  | some comp =>
    simp only [hc, Option.bind_some, Option.bind_eq_some_iff, Option.map_eq_some_iff] at h
    obtain ⟨c, hi, k, hk, hb⟩ := h
    obtain ⟨hlt, hp, -⟩ := Array.findIdx?_eq_some_iff_getElem.mp hi
    have hkk : s.vm.classes[c] = k := (Array.getElem?_eq_some_iff.mp hk).2
    rw [hkk] at hp
    cases hkind : k.kind with
    | array component ty =>
      rw [hkind] at hb hp
      simp at hb hp
      exact ⟨comp, c, k, rfl, hi, hk, by rw [hkind, hp, hb.1], hb.2⟩
    | _ => rw [hkind] at hb; simp at hb
theorem vx_AO.moved {t : FieldType} {u U : State} (hvm : u.vm.Alike U.vm) (h : vx_AO t u) : vx_AO t U := by
  obtain ⟨comp, c, k, h1, h2, h3, h4, h5⟩ := h.spec
  obtain ⟨k', hk', he⟩ := hvm.2.2 _ _ h3
  have hi : (U.vm.classes.findIdx? fun (x : Class) => match x.kind with | .array component _ => component == comp | _ => false) = some c := by
    have e2 := va_idx_bare u.vm comp
    have e1 := va_idx_bare U.vm comp
    have e3 : U.vm.bare = u.vm.bare := by first | exact hvm.bare_eq | exact hvm.bare_eq.symm
    rw [e3] at e1
    exact e1.symm.trans (e2.trans h2)
  have hkind : k'.kind = .array comp (.array t) := by rw [he]; exact h4
  have f1 : U.vm.findClass (FieldType.array t).toString = some comp := by rw [hvm.findClass]; exact h1
  have f2 : U.vm.findClass ("[" ++ (FieldType.array t).toString) = some c := by rw [hvm.findClass]; exact h5
  unfold vx_AO Cond.before Cond.holds
  simp only [Cond.value]
  rw [f1, Option.bind_some]
  refine (congrArg (fun o : Option Nat => (o.bind (fun c => (U.vm.classes[c]?).map fun (k : Class) => match k.kind with | .array _ ty => decide (ty = FieldType.array t) && decide (U.vm.findClass ("[" ++ (FieldType.array t).toString) = some c) | _ => false) == some true)) hi).trans ?_
  simp [hk', hkind, f2]
def aoF (U : State) : Prop := va_AO (clsS 9) U ∧ va_AO (clsS 1) U ∧ va_AO (clsS 3) U ∧ va_AO (clsS 8) U ∧ vx_AO .int U ∧ vx_AO .long U
theorem aoF.moved {u U : State} (hvm : u.vm.Alike U.vm) (h : aoF u) : aoF U := ⟨h.1.moved hvm, h.2.1.moved hvm, h.2.2.1.moved hvm, h.2.2.2.1.moved hvm, h.2.2.2.2.1.moved hvm, h.2.2.2.2.2.moved hvm⟩
/-- the String constants, by their places -/
def vx_S (aS : Nat → Nat) (A : Nat → Prop) (U : State) (H : Heap) : Prop := ∀ i : Nat, i < 30 → va_O "java/lang/String" (aS (1 + i)) A U H ∧ va_OF "java/lang/String" "coder" "B" (.int 0) (aS (1 + i)) A U H ∧ va_OF "java/lang/String" "value" "[B" (.ref (aS (31 + i))) (aS (1 + i)) A U H ∧ va_T .byte (aS (31 + i)) (lenL.getD i 0) (fun j => .int ((bytL.getD i []).getD j 0)) A U H
theorem vx_S.moved {aS : Nat → Nat} {A : Nat → Prop} {u U : State} {H : Heap} (hvm : u.vm.Alike U.vm) (h : vx_S aS A u H) : vx_S aS A U H :=
  fun i hi => ⟨va_O.moved hvm (h i hi).1, va_OF.moved hvm (h i hi).2.1, va_OF.moved hvm (h i hi).2.2.1, va_T.moved hvm (h i hi).2.2.2⟩
theorem vx_S.kept {aS : Nat → Nat} {A : Nat → Prop} {U : State} {H H1 : Heap} (h : vx_S aS A U H) (hq : ∀ a : Nat, a < H.size → ¬ A a → H1[a]? = H[a]?) : vx_S aS A U H1 :=
  fun i hi => ⟨(h i hi).1.kept hq, (h i hi).2.1.kept hq, (h i hi).2.2.1.kept hq, (h i hi).2.2.2.kept hq⟩
def Fix (B : Nat) (aS : Nat → Nat) (cT : Nat → ClassId) (D : va_G) (X : Ctx) (U : State) (H : Heap) : Prop :=
  va_K D vwCl (tysL cT) U ∧ (∃ kA k5 : Class, U.vm.classes[cT 81]? = some kA ∧ kA.kind = .array (cT 51) (.array .long) ∧ U.vm.classes[cT 51]? = some k5) ∧
  vx_S aS (fun q => B ≤ q) U H ∧ (va_X (aS 0) X.1 X.2.1 U H ∧ aS 0 < B) ∧
  va_Z "java/lang/String" "COMPACT_STRINGS" "Z" (.int 1) (fun q => B ≤ q) U H ∧ va_Z "jdk/internal/util/Preconditions" "SIOOBE_FORMATTER" "Ljava/util/function/BiFunction;" (tr B aS X.2.2) (fun q => B ≤ q) U H ∧
  (∀ own i k q, strT own i = some (k, q) → ∃ tx, vk_R (clsS own) i tx (aS (1 + k)) U) ∧ B ≤ H.size ∧ aoF U ∧ (∀ own i y q, mthT own i = some (y, 1, q) → va_Nw (.methodLinkNest (clsS own) i (mName y) "FiveLands") U)
theorem Fix.moved {B : Nat} {aS : Nat → Nat} {cT : Nat → ClassId} {D : va_G} {X : Ctx} {s U : State} {H : Heap} (hW : s.WarmedH U.vm) (h : Fix B aS cT D X s H) : Fix B aS cT D X U H := by
  obtain ⟨h1, ⟨kA, k5, h2, h3, h4⟩, h5, h6, h7, h8, h9, h10, h12, h11⟩ := h
  obtain ⟨k', hk', he⟩ := hW.alike.2.2 _ _ h2
  obtain ⟨k5', hk5, -⟩ := hW.alike.2.2 _ _ h4
  exact ⟨va_K.moved hW.alike h1, ⟨k', k5', hk', by rw [he]; exact h3, hk5⟩, vx_S.moved hW.alike h5, ⟨va_X.moved hW.alike h6.1, h6.2⟩, va_Z.moved hW.alike h7, va_Z.moved hW.alike h8,
    fun own i k q hq => by obtain ⟨tx, hz⟩ := h9 own i k q hq; exact ⟨tx, vk_R.warm hW hz⟩, h10, h12.moved hW.alike, fun own i y q hq => va_Nw.warmM hW (h11 own i y q hq)⟩
theorem Fix.same {B : Nat} {aS : Nat → Nat} {cT : Nat → ClassId} {D : va_G} {X : Ctx} {s U : State} {H : Heap} (hv : U.vm = s.vm) (h : Fix B aS cT D X s H) : Fix B aS cT D X U H := by
  have hA : s.vm.Alike U.vm := by rw [hv]; exact Vm.Alike.refl _
  obtain ⟨h1, h2, h5, h6, h7, h8, h9, h10, h12, h11⟩ := h
  exact ⟨va_K.moved hA h1, by rw [hv]; exact h2, vx_S.moved hA h5, ⟨va_X.moved hA h6.1, h6.2⟩, va_Z.moved hA h7, va_Z.moved hA h8,
    fun own i k q hq => by obtain ⟨tx, hz⟩ := h9 own i k q hq; exact ⟨tx, vk_R.same hv hz⟩, h10, h12.moved hA, fun own i y q hq => va_tabs rfl hv.symm (h11 own i y q hq)⟩
theorem Fix.kept {B : Nat} {aS : Nat → Nat} {cT : Nat → ClassId} {D : va_G} {X : Ctx} {s : State} {H H1 : Heap} (h : Fix B aS cT D X s H) (hz : B ≤ H1.size) (hq : ∀ a : Nat, a < H.size → ¬ B ≤ a → H1[a]? = H[a]?) : Fix B aS cT D X s H1 := by
  obtain ⟨h1, h2, h5, h6, h7, h8, h9, h10, h12, h11⟩ := h
  exact ⟨h1, h2, vx_S.kept h5 hq, ⟨va_X.kept h6.1 (hq _ (by have := h6.2; omega) (by have := h6.2; omega)), h6.2⟩, va_Z.kept h7 hq, va_Z.kept h8 hq, h9, hz, h12, h11⟩
/-- locals -/
def LR (B : Nat) (aS : Nat → Nat) (ls : LV) (Ls : Array Slot) : Prop := Ls.size = ls.length ∧ lv_wf Ls ∧ ∀ (i : Nat) (v : Value), ls[i]? = some (some v) → (v.category = 2 → ls[i + 1]? = some none) → Ls[i]? = some (.val (tr B aS v))
def prs (B : Nat) (aS : Nat → Nat) (ls : LV) : List (Nat × Value) := (List.range ls.length).filterMap fun i => match ls[i]? with
  | some (some v) => if v.category = 2 then (if ls[i + 1]? = some none then some (i, tr B aS v) else none) else some (i, tr B aS v)
  | _ => none
theorem prs_in {B : Nat} {aS : Nat → Nat} {ls : LV} {i : Nat} {v : Value} (h : ls[i]? = some (some v)) (h2 : v.category = 2 → ls[i + 1]? = some none) : (i, tr B aS v) ∈ prs B aS ls := by
  refine List.mem_filterMap.mpr ⟨i, List.mem_range.mpr (List.getElem?_eq_some_iff.mp h).1, ?_⟩
  rw [h]
  by_cases hc : v.category = 2
  · simp only [hc, if_true, h2 hc]
  · simp only [hc, if_false]
theorem LR.has {B : Nat} {aS : Nat → Nat} {ls : LV} {Ls : Array Slot} (h : LR B aS ls Ls) : lv_has Ls ls.length (prs B aS ls) := by
  refine ⟨h.1, h.2.1, fun q hq => ?_⟩
  obtain ⟨i, -, hi⟩ := List.mem_filterMap.mp hq
  cases hl : ls[i]? with
  | none => rw [hl] at hi; cases hi
  | some o =>
    rw [hl] at hi
    cases o with
    | none => cases hi
    | some v =>
      by_cases hc : v.category = 2
      · simp only [hc, if_true] at hi
        by_cases h2 : ls[i + 1]? = some none
        · rw [if_pos h2] at hi
          cases hi
          exact h.2.2 i v hl (fun _ => h2)
        · rw [if_neg h2] at hi
          cases hi
      · simp only [hc, if_false] at hi
        cases hi
        exact h.2.2 i v hl (fun q => absurd q hc)
theorem LR.set1 {B : Nat} {aS : Nat → Nat} {ls : LV} {Ls : Array Slot} {i : Nat} {v : Value} (hi : i < ls.length) (hc : v.category = 1) (h : lv_has Ls ls.length ((i, tr B aS v) :: (prs B aS ls).filter (fun q => !(q.1 == i) && !(q.1 + 1 == i && q.2.category == 2)))) : LR B aS (ls.set i (some v)) Ls := by
  refine ⟨by rw [List.length_set]; exact h.1, h.2.1, fun j w hj hw => ?_⟩
  by_cases e : j = i
  · subst e
    rw [List.getElem?_set_self hi] at hj
    cases hj
    exact h.2.2 _ List.mem_cons_self
  · rw [List.getElem?_set_ne (fun q => e q.symm)] at hj
    refine h.2.2 (j, tr B aS w) (List.mem_cons_of_mem _ (List.mem_filter.mpr ⟨prs_in hj (fun hc2 => ?_), ?_⟩))
    · have h2 := hw hc2
      by_cases e2 : j + 1 = i
      · subst e2
        rw [List.getElem?_set_self hi] at h2
        cases h2
      · rw [List.getElem?_set_ne (fun q => e2 q.symm)] at h2
        exact h2
    · have e1 : (j == i) = false := beq_eq_false_iff_ne.mpr e
      show (!(j == i) && !(j + 1 == i && (tr B aS w).category == 2)) = true
      rw [e1, tr_cat]
      by_cases hc2 : w.category = 2
      · have h2 := hw hc2
        have e2 : j + 1 ≠ i := by
          intro q
          subst q
          rw [List.getElem?_set_self hi] at h2
          cases h2
        have e3 : (j + 1 == i) = false := beq_eq_false_iff_ne.mpr e2
        rw [e3]
        rfl
      · have e3 : (w.category == 2) = false := beq_eq_false_iff_ne.mpr hc2
        rw [e3, Bool.and_false]
        rfl
theorem LR.set2 {B : Nat} {aS : Nat → Nat} {ls : LV} {Ls : Array Slot} {i : Nat} {v : Value} (hi : i + 1 < ls.length) (h : lv_has Ls ls.length ((i, tr B aS v) :: (prs B aS ls).filter (fun q => !(q.1 == i) && (!(q.1 == i + 1) && !(q.1 + 1 == i && q.2.category == 2))))) : LR B aS ((ls.set i (some v)).set (i + 1) none) Ls := by
  have hi0 : i < ls.length := by omega
  have hi1 : i + 1 < (ls.set i (some v)).length := by rw [List.length_set]; exact hi
  refine ⟨by rw [List.length_set, List.length_set]; exact h.1, h.2.1, fun j w hj hw => ?_⟩
  by_cases e1 : j = i + 1
  · subst e1
    rw [List.getElem?_set_self hi1] at hj
    cases hj
  · rw [List.getElem?_set_ne (fun q => e1 q.symm)] at hj
    by_cases e : j = i
    · subst e
      rw [List.getElem?_set_self hi0] at hj
      cases hj
      exact h.2.2 _ List.mem_cons_self
    · rw [List.getElem?_set_ne (fun q => e q.symm)] at hj
      have hji : w.category = 2 → j + 1 ≠ i ∧ ls[j + 1]? = some none := by
        intro hc2
        have h2 := hw hc2
        rw [List.getElem?_set_ne (show i + 1 ≠ j + 1 by omega)] at h2
        by_cases e2 : j + 1 = i
        · subst e2
          rw [List.getElem?_set_self hi0] at h2
          cases h2
        · rw [List.getElem?_set_ne (fun q => e2 q.symm)] at h2
          exact ⟨e2, h2⟩
      refine h.2.2 (j, tr B aS w) (List.mem_cons_of_mem _ (List.mem_filter.mpr ⟨prs_in hj (fun hc2 => (hji hc2).2), ?_⟩))
      have e3 : (j == i) = false := beq_eq_false_iff_ne.mpr e
      have e4 : (j == i + 1) = false := beq_eq_false_iff_ne.mpr e1
      show (!(j == i) && (!(j == i + 1) && !(j + 1 == i && (tr B aS w).category == 2))) = true
      rw [e3, e4, tr_cat]
      by_cases hc2 : w.category = 2
      · have e5 : (j + 1 == i) = false := beq_eq_false_iff_ne.mpr (hji hc2).1
        rw [e5]
        rfl
      · have e5 : (w.category == 2) = false := beq_eq_false_iff_ne.mpr hc2
        rw [e5, Bool.and_false]
        rfl
theorem lvE_len (B : Nat) (aS : Nat → Nat) : ∀ vs : List Value, (lvE vs).length = (lg_sl (vs.map (tr B aS))).length
  | [] => rfl
  | v :: vs => by
    have ih := lvE_len B aS vs
    cases v <;> simp [lvE, lg_sl, tr, Value.category] at ih ⊢ <;> omega
theorem lvE_at (B : Nat) (aS : Nat → Nat) : ∀ (vs : List Value) (k i : Nat) (v : Value), (lvE vs)[i]? = some (some v) → (k + i, tr B aS v) ∈ lv_args k (vs.map (tr B aS))
  | [], k, i, v, h => by simp [lvE] at h
  | w :: vs, k, i, v, h => by
    have key1 : ∀ z : Value, z.category = 1 → (some z :: lvE vs)[i]? = some (some v) → (k + i, tr B aS v) ∈ lv_args k ((z :: vs).map (tr B aS)) := by
      intro z hz h
      have e : lv_args k ((z :: vs).map (tr B aS)) = (k, tr B aS z) :: lv_args (k + 1) (vs.map (tr B aS)) := by
        show (k, tr B aS z) :: lv_args (if (tr B aS z).category = 2 then k + 2 else k + 1) _ = _
        rw [tr_cat, hz]
        rfl
      rw [e]
      cases i with
      | zero => cases h; exact List.mem_cons_self
      | succ i =>
        have h2 := lvE_at B aS vs (k + 1) i v h
        rw [show k + 1 + i = k + (i + 1) by omega] at h2
        exact List.mem_cons_of_mem _ h2
    have key2 : ∀ z : Value, z.category = 2 → (some z :: none :: lvE vs)[i]? = some (some v) → (k + i, tr B aS v) ∈ lv_args k ((z :: vs).map (tr B aS)) := by
      intro z hz h
      have e : lv_args k ((z :: vs).map (tr B aS)) = (k, tr B aS z) :: lv_args (k + 2) (vs.map (tr B aS)) := by
        show (k, tr B aS z) :: lv_args (if (tr B aS z).category = 2 then k + 2 else k + 1) _ = _
        rw [tr_cat, hz]
        rfl
      rw [e]
      match i, h with
      | 0, h => cases h; exact List.mem_cons_self
      | 1, h => cases h
      | i + 2, h =>
        have h2 := lvE_at B aS vs (k + 2) i v h
        rw [show k + 2 + i = k + (i + 2) by omega] at h2
        exact List.mem_cons_of_mem _ h2
    cases w with
    | int x => exact key1 _ rfl h
    | long x => exact key2 _ rfl h
    | float x => exact key1 _ rfl h
    | double x => exact key2 _ rfl h
    | null => exact key1 _ rfl h
    | ref x => exact key1 _ rfl h
    | retAddr x => exact key1 _ rfl h
theorem LR.entry {B : Nat} {aS : Nat → Nat} {vs : List Value} {n : Nat} (hn : (lvE vs).length ≤ n) : LR B aS (lvE vs ++ List.replicate (n - (lvE vs).length) none) ((lg_sl (vs.map (tr B aS)) ++ List.replicate (n - (lg_sl (vs.map (tr B aS))).length) Slot.unset).toArray) := by
  have hl := lv_entry (vs.map (tr B aS)) (n := n) (by rw [← lvE_len]; exact hn)
  refine ⟨by rw [hl.1]; simp; omega, hl.2.1, fun i v hi _ => ?_⟩
  by_cases h : i < (lvE vs).length
  · rw [List.getElem?_append_left h] at hi
    have h2 := lvE_at B aS vs 0 i v hi
    rw [Nat.zero_add] at h2
    exact hl.2.2 _ h2
  · rw [List.getElem?_append_right (by omega)] at hi
    obtain ⟨q, hq⟩ := List.getElem?_eq_some_iff.mp hi
    rw [List.getElem_replicate] at hq
    cases hq
/-- what a change of one object does to the world -/
theorem cel_eq {B : Nat} {aS : Nat → Nat} {cT : Nat → ClassId} {h h' : Hp} {a : Nat} (e1 : hS h' a = hS h a) (e2 : hI h' a = hI h a) (e3 : hJ h' a = hJ h a) (e4 : hP h' a = hP h a) : cel B aS cT h' a = cel B aS cT h a := by
  unfold cel flds fv
  rw [e1, e2, e3, e4]
theorem World.set {B : Nat} {aS : Nat → Nat} {cT : Nat → ClassId} {D : va_G} {h h' : Hp} {H H1 : Heap} {a : Nat} (hW : World B aS cT D h H) (ha : hS h a ≠ (0, 0)) (eS : hS h' = hS h) (eN : hN h' = hN h) (he : ∀ b, b ≠ a → hI h' b = hI h b ∧ hJ h' b = hJ h b ∧ hP h' b = hP h b)
    (hc : va_at D vwCl (B + (a - 62), cel B aS cT h' a) H1) (z : H1.size = H.size) (oq : ∀ q : Nat, q ≠ B + (a - 62) → H1[q]? = H[q]?) : World B aS cT D h' H1 := by
  obtain ⟨⟨w1, w2⟩, w3, w4⟩ := hW
  refine ⟨⟨by rw [eN]; exact w1, fun b hb => by rw [eS] at hb ⊢; rw [eN]; exact w2 b hb⟩, by rw [z, eN]; exact w3, fun b hb => ?_⟩
  rw [eS] at hb
  by_cases e : b = a
  · subst e
    exact hc
  · obtain ⟨g1, g2, g3⟩ := he b e
    rw [cel_eq (congrFun eS b) g1 g2 g3]
    have k1 := (w2 b hb).1
    have k2 := (w2 a ha).1
    exact (w4 b hb).kept (oq _ (by show B + (b - 62) ≠ B + (a - 62); omega))
theorem World.add {B : Nat} {aS : Nat → Nat} {cT : Nat → ClassId} {D : va_G} {h : Hp} {H H1 : Heap} {sh : Nat × Nat} {w : Nat} (hW : World B aS cT D h H) (ht : tagOK sh.1) (hc : va_at D vwCl (H.size, cel B aS cT (alc h sh w) (hN h)) H1) (z : H1.size = H.size + 1) (oq : ∀ q : Nat, q < H.size → H1[q]? = H[q]?) : World B aS cT D (alc h sh w) H1 := by
  obtain ⟨⟨w1, w2⟩, w3, w4⟩ := hW
  have eS : ∀ b, b ≠ hN h → hS (alc h sh w) b = hS h b := fun b hb => if_neg hb
  have eS0 : hS (alc h sh w) (hN h) = sh := if_pos rfl
  have hsz : H.size = B + (hN h - 62) := w3
  refine ⟨⟨by show 62 ≤ hN h + 1; omega, fun b hb => ?_⟩, by show H1.size = B + (hN h + 1 - 62); omega, fun b hb => ?_⟩
  · by_cases e : b = hN h
    · subst e
      exact ⟨w1, Nat.lt_succ_self _, by rw [eS0]; exact ht⟩
    · rw [eS b e] at hb ⊢
      obtain ⟨g1, g2, g3⟩ := w2 b hb
      exact ⟨g1, Nat.lt_succ_of_lt g2, g3⟩
  · by_cases e : b = hN h
    · subst e
      rw [← hsz]
      exact hc
    · rw [eS b e] at hb
      rw [cel_eq (eS b e) (if_neg e) (if_neg e) (if_neg e)]
      have k1 := w2 b hb
      exact (w4 b hb).kept (oq _ (by show B + (b - 62) < H.size; omega))
/-! inversions -/
section INV
variable {α : Type}
theorem gd_inv {c : Prop} [Decidable c] {x : Option α} {o : α} (h : gd c x = some o) : c ∧ x = some o := by
  unfold gd at h
  by_cases hc : c
  · rw [if_pos hc] at h; exact ⟨hc, h⟩
  · rw [if_neg hc] at h; cases h
theorem pI_inv {st : List Value} {k : Int32 → List Value → Option α} {o : α} (h : pI st k = some o) : ∃ x r, st = .int x :: r ∧ k x r = some o := by
  unfold pI at h
  split at h
  · exact ⟨_, _, rfl, h⟩
  · cases h
theorem pJ_inv {st : List Value} {k : Int64 → List Value → Option α} {o : α} (h : pJ st k = some o) : ∃ x r, st = .long x :: r ∧ k x r = some o := by
  unfold pJ at h
  split at h
  · exact ⟨_, _, rfl, h⟩
  · cases h
theorem pR_inv {st : List Value} {k : Nat → List Value → Option α} {o : α} (h : pR st k = some o) : ∃ (x : Nat) (r : List Value), st = .ref x :: r ∧ k x r = some o := by
  unfold pR at h
  split at h
  · exact ⟨_, _, rfl, h⟩
  · cases h
theorem pV_inv {st : List Value} {k : Value → List Value → Option α} {o : α} (h : pV st k = some o) : ∃ x r, st = x :: r ∧ k x r = some o := by
  unfold pV at h
  split at h
  · exact ⟨_, _, rfl, h⟩
  · cases h
theorem lI_inv {ls : LV} {i : Nat} {k : Int32 → Option α} {o : α} (h : lI ls i k = some o) : ∃ x, ls[i]? = some (some (.int x)) ∧ k x = some o := by
  unfold lI at h
  split at h
  · next e => exact ⟨_, e, h⟩
  · cases h
theorem lR_inv {ls : LV} {i : Nat} {k : Nat → Option α} {o : α} (h : lR ls i k = some o) : ∃ x : Nat, ls[i]? = some (some (.ref x)) ∧ k x = some o := by
  unfold lR at h
  split at h
  · next e => exact ⟨_, e, h⟩
  · cases h
theorem lJ_inv {ls : LV} {i : Nat} {k : Int64 → Option α} {o : α} (h : lJ ls i k = some o) : ∃ x, ls[i]? = some (some (.long x)) ∧ ls[i + 1]? = some none ∧ k x = some o := by
  unfold lJ at h
  split at h
  · next e1 e2 => exact ⟨_, e1, e2, h⟩
  · cases h
theorem tI_inv {ls : LV} {i : Nat} {v : Value} {k : LV → Option α} {o : α} (h : tI ls i v k = some o) : i < ls.length ∧ k (ls.set i (some v)) = some o := gd_inv h
theorem tJ_inv {ls : LV} {i : Nat} {v : Value} {k : LV → Option α} {o : α} (h : tJ ls i v k = some o) : i + 1 < ls.length ∧ k ((ls.set i (some v)).set (i + 1) none) = some o := gd_inv h
theorem oR_inv {r : Option Nat} {k : Nat → Option α} {o : α} (h : oR r k = some o) : ∃ x, r = some x ∧ k x = some o := by
  cases r with
  | none => cases h
  | some x => exact ⟨x, rfl, h⟩
theorem jmp_inv {pc : Nat} {off : Int} {k : Nat → Option α} {o : α} (h : jmp pc off k = some o) : ∃ t : Nat, (pc : Int) + off = (t : Int) ∧ k t = some o := by
  obtain ⟨h1, h2⟩ := gd_inv h
  exact ⟨_, (Int.toNat_of_nonneg h1).symm, h2⟩
theorem bI_inv {q : Option (Option Value × Hp)} {k : Int32 → Hp → Option α} {o : α} (h : bI q k = some o) : ∃ x h1, q = some (some (.int x), h1) ∧ k x h1 = some o := by
  unfold bI at h
  split at h
  · exact ⟨_, _, rfl, h⟩
  · cases h
theorem bJ_inv {q : Option (Option Value × Hp)} {k : Int64 → Hp → Option α} {o : α} (h : bJ q k = some o) : ∃ x h1, q = some (some (.long x), h1) ∧ k x h1 = some o := by
  unfold bJ at h
  split at h
  · exact ⟨_, _, rfl, h⟩
  · cases h
theorem bR_inv {q : Option (Option Value × Hp)} {k : Nat → Hp → Option α} {o : α} (h : bR q k = some o) : ∃ (x : Nat) (h1 : Hp), q = some (some (.ref x), h1) ∧ k x h1 = some o := by
  unfold bR at h
  split at h
  · exact ⟨_, _, rfl, h⟩
  · cases h
theorem bV_inv {q : Option (Option Value × Hp)} {k : Hp → Option α} {o : α} (h : bV q k = some o) : ∃ h1, q = some (none, h1) ∧ k h1 = some o := by
  unfold bV at h
  split at h
  · exact ⟨_, rfl, h⟩
  · cases h
theorem bR2_inv {y pc : Nat} {ls : LV} {st : List Value} {q : Option (Option Value × Hp)} {o : MOut} (h : bR2 y q pc ls st = some o) : ∃ v h1, q = some (v, h1) ∧ o = .inl (pc, ls, v.toList ++ st, h1) := by
  unfold bR2 at h
  split at h
  · obtain ⟨h1, e, h⟩ := bV_inv h
    cases h
    exact ⟨none, h1, e, rfl⟩
  · obtain ⟨x, h1, e, h⟩ := bJ_inv h
    cases h
    exact ⟨_, h1, e, rfl⟩
  · obtain ⟨x, h1, e, h⟩ := bR_inv h
    cases h
    exact ⟨_, h1, e, rfl⟩
  · obtain ⟨x, h1, e, h⟩ := bI_inv h
    cases h
    exact ⟨_, h1, e, rfl⟩
end INV
