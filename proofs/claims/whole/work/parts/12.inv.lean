/-! SHAPES AND LINKS THAT STAND: by program (wip/whole/gen_inv.py, out of a simulation), proved of the constructors later -/
def SHL : List (Nat × Nat) := [(11, 0), (69, 2), (61, 6), (63, 15), (63, 15), (5, 0), (50, 20), (50, 20), (50, 6), (50, 6), (50, 6), (50, 6), (50, 6), (50, 6), (1, 0), (50, 10), (50, 10), (50, 10), (51, 10), (50, 600), (6, 0), (51, 29), (50, 601), (50, 601), (50, 601), (50, 64), (8, 0), (50, 6), (9, 0), (2, 0), (50, 600), (50, 20), (50, 20), (50, 20), (50, 20), (50, 20), (50, 20), (4, 0), (50, 20), (50, 6), (10, 0), (50, 360), (8, 0), (50, 6), (68, 12), (9, 0), (9, 0), (9, 0), (9, 0), (9, 0), (9, 0), (9, 0), (9, 0), (9, 0), (9, 0), (9, 0), (9, 0), (10, 0), (50, 360), (8, 0), (50, 6), (68, 12), (9, 0), (9, 0), (9, 0), (9, 0), (9, 0), (9, 0), (9, 0), (9, 0), (9, 0), (9, 0), (9, 0), (9, 0), (2, 0), (50, 600), (50, 20), (50, 20), (50, 20), (50, 20), (50, 20), (50, 20), (2, 0), (50, 600), (50, 20), (50, 20), (50, 20), (50, 20), (50, 20), (50, 20), (2, 0), (50, 600), (50, 20), (50, 20), (50, 20), (50, 20), (50, 20), (50, 20), (2, 0), (50, 600), (50, 20), (50, 20), (50, 20), (50, 20), (50, 20), (50, 20), (2, 0), (50, 600), (50, 20), (50, 20), (50, 20), (50, 20), (50, 20), (50, 20), (2, 0), (50, 600), (50, 20), (50, 20), (50, 20), (50, 20), (50, 20), (50, 20), (4, 0), (50, 20), (50, 6), (4, 0), (50, 20), (50, 6), (4, 0), (50, 20), (50, 6), (4, 0), (50, 20), (50, 6), (4, 0), (50, 20), (50, 6), (4, 0), (50, 20), (50, 6), (4, 0), (50, 20), (50, 6), (4, 0), (50, 20), (50, 6), (4, 0), (50, 20), (50, 6), (4, 0), (50, 20), (50, 6), (4, 0), (50, 20), (50, 6), (4, 0), (50, 20), (50, 6), (4, 0), (50, 20), (50, 6), (4, 0), (50, 20), (50, 6), (4, 0), (50, 20), (50, 6), (4, 0), (50, 20), (50, 6), (4, 0), (50, 20), (50, 6), (4, 0), (50, 20), (50, 6), (4, 0), (50, 20), (50, 6), (4, 0), (50, 20), (50, 6), (4, 0), (50, 20), (50, 6), (4, 0), (50, 20), (50, 6), (4, 0), (50, 20), (50, 6), (4, 0), (50, 20), (50, 6), (4, 0), (50, 20), (50, 6), (4, 0), (50, 20), (50, 6), (4, 0), (50, 20), (50, 6), (4, 0), (50, 20), (50, 6), (4, 0), (50, 20), (50, 6), (4, 0), (50, 20), (50, 6), (3, 0), (80, 6), (50, 8), (50, 8), (50, 8), (50, 8), (50, 8), (50, 8), (50, 8), (50, 64), (50, 6), (50, 6), (50, 6), (51, 6), (51, 6), (51, 6), (51, 6), (7, 0), (81, 6), (51, 7), (51, 7), (51, 7), (51, 7), (51, 7), (51, 7), (50, 6), (51, 6), (12, 0), (50, 720), (50, 2), (50, 4), (50, 2), (50, 24), (50, 24), (50, 24), (50, 24), (50, 24), (50, 7), (50, 140), (50, 140), (50, 140), (50, 140), (50, 140), (50, 8540), (50, 7), (50, 7), (50, 140), (50, 140), (50, 7), (52, 7), (52, 7), (50, 37), (50, 37), (50, 740), (50, 37), (50, 222), (50, 37), (52, 37), (50, 600), (50, 620), (50, 9), (50, 6), (50, 12), (50, 12), (50, 12), (50, 12), (50, 12), (50, 36), (50, 216), (50, 36), (52, 36), (51, 6), (51, 6), (51, 6), (51, 6), (51, 42), (50, 6), (50, 20), (50, 20), (50, 6), (50, 6), (50, 6), (50, 6), (50, 6), (50, 6), (50, 10), (50, 10), (50, 10), (51, 10)]
def SH (a : Nat) : Nat × Nat := if a < 62 then (0, 0) else SHL.getD (a - 62) (0, 0)
def LKL : List (List (Option Nat)) := [[some 63, some 64, some 65, some 66, some 67, some 76, some 81, some 82, some 274, some 88, some 90], [some 102, some 119], [], [], [some 187, some 193, some 199, some 205, some 211, some 217, some 223, some 229, some 235, some 241, some 247, some 253, some 259, some 265, some 271], [some 68, some 69, some 70, some 71, some 72, some 73, some 74, some 75], [], [], [], [], [], [], [], [], [some 77, some 78, some 79, some 80], [], [], [], [], [], [some 83, some 84, some 85, some 86, some 87], [], [], [], [], [], [some 89], [], [], [some 92, some 93, some 94, some 95, some 96, some 97, some 98], [], [], [], [], [], [], [], [some 100, some 101], [], [], [some 103, some 104, some 106], [], [some 105], [], [some 107, some 108, some 109, some 110, some 111, some 112, some 113, some 114, some 115, some 116, some 117, some 118], [], [], [], [], [], [], [], [], [], [], [], [], [some 120, some 121, some 123], [], [some 122], [], [some 124, some 125, some 126, some 127, some 128, some 129, some 130, some 131, some 132, some 133, some 134, some 135], [], [], [], [], [], [], [], [], [], [], [], [], [some 137, some 138, some 139, some 140, some 141, some 142, some 143], [], [], [], [], [], [], [], [some 145, some 146, some 147, some 148, some 149, some 150, some 151], [], [], [], [], [], [], [], [some 153, some 154, some 155, some 156, some 157, some 158, some 159], [], [], [], [], [], [], [], [some 161, some 162, some 163, some 164, some 165, some 166, some 167], [], [], [], [], [], [], [], [some 169, some 170, some 171, some 172, some 173, some 174, some 175], [], [], [], [], [], [], [], [some 177, some 178, some 179, some 180, some 181, some 182, some 183], [], [], [], [], [], [], [], [some 185, some 186], [], [], [some 188, some 189], [], [], [some 191, some 192], [], [], [some 194, some 195], [], [], [some 197, some 198], [], [], [some 200, some 201], [], [], [some 203, some 204], [], [], [some 206, some 207], [], [], [some 209, some 210], [], [], [some 212, some 213], [], [], [some 215, some 216], [], [], [some 218, some 219], [], [], [some 221, some 222], [], [], [some 224, some 225], [], [], [some 227, some 228], [], [], [some 230, some 231], [], [], [some 233, some 234], [], [], [some 236, some 237], [], [], [some 239, some 240], [], [], [some 242, some 243], [], [], [some 245, some 246], [], [], [some 248, some 249], [], [], [some 251, some 252], [], [], [some 254, some 255], [], [], [some 257, some 258], [], [], [some 260, some 261], [], [], [some 263, some 264], [], [], [some 266, some 267], [], [], [some 269, some 270], [], [], [some 272, some 273], [], [], [some 64, some 275, some 282, some 283, some 284, some 285, some 286, some 287, some 288, some 289, some 290, some 291], [some 276, some 277, some 278, some 279, some 280, some 281], [], [], [], [], [], [], [], [], [], [], [], [], [], [], [], [some 292, some 299, some 300], [], [], [], [], [], [], [], [], [], [some 302, some 303, some 304, some 305, some 306, some 307, some 308, some 309, some 310, some 311, some 312, some 313, some 314, some 315, some 316, some 317, some 318, some 319, some 320, some 321, some 322, some 323, some 324, some 325, some 326, some 327, some 328, some 329, some 330, some 331, some 332, some 333, some 334, none, none, none, none, none, none, none, none, none, none, none, none, none, some 335, some 336, some 337, some 338, some 339, some 340, none, none, none, none, none, none, some 341, some 342, some 343, some 344, none, none, some 345, some 346, some 347, some 348, some 349, some 350, none, none, none, none, some 351, some 352, none, none, some 353, some 354, some 355, some 356, some 357, some 358, none, some 359, some 360, some 361, some 362], [], [], [], [], [], [], [], [], [], [], [], [], [], [], [], [], [], [], [], [], [], [], [], [], [], [], [], [], [], [], [], [], [], [], [], [], [], [], [], [], [], [], [], [], [], [], [], [], [], [], [], [], [], [], [], [], [], [], [], [], []]
def LK (a k : Nat) : Option Nat := if a < 62 then none else (LKL.getD (a - 62) []).getD k none
def nOb : Nat := 363
def nSl : Nat := 23455
def Inv (h : Hp) : Prop := hS h = SH ∧ hN h = nOb ∧ hK h = nSl ∧ (∀ a k v, LK a k = some v → hP h a k = some v) ∧
  (∀ a ci k v, ci < 12 → SH a = (ci + 1, 0) → fty ci k = 2 → hP h a k = some v → (SH v).1 = frt ci k) ∧
  (∀ a i v, 60 ≤ (SH a).1 → (SH a).1 < 72 → hP h a i = some v → SH v = ((SH a).1 - 59, 0)) ∧ (∀ i v, hP h 292 i = some v → SH v = (51, 7))
theorem SH_hi {a : Nat} (h : SH a ≠ (0, 0)) : 62 ≤ a ∧ a < nOb := by
  unfold SH at h
  by_cases h1 : a < 62
  · rw [if_pos h1] at h; exact absurd rfl h
  · rw [if_neg h1] at h
    refine ⟨by omega, ?_⟩
    rcases Nat.lt_or_ge a nOb with q | q
    · exact q
    · rw [List.getD_eq_getElem?_getD, List.getElem?_eq_none (by show SHL.length ≤ a - 62; have e : SHL.length = 301 := (by decide +kernel); have e2 : nOb = 363 := rfl; omega)] at h
      exact absurd rfl h
theorem all_ids {P : Nat → Bool} (h : (List.range nOb).all P = true) {a : Nat} (ha : a < nOb) : P a = true := List.all_eq_true.mp h a (List.mem_range.mpr ha)
set_option maxRecDepth 100000 in
theorem lk_nonfin : (List.range nOb).all (fun a => decide (12 < (SH a).1) || decide ((SH a).1 = 0) || (List.range (nfl ((SH a).1 - 1))).all (fun k => fieldFin ((SH a).1 - 1) k || decide (LK a k = none))) = true := by decide +kernel
theorem LK_nf {a ci k : Nat} (hc : ci < 12) (hs : SH a = (ci + 1, 0)) (hk : k < nfl ci) (hf : fieldFin ci k = false) : LK a k = none := by
  have ha := SH_hi (a := a) (by rw [hs]; intro z; cases z)
  have h := all_ids lk_nonfin ha.2
  rw [hs] at h
  simp only [Bool.or_eq_true, decide_eq_true_eq] at h
  rcases h with (h | h) | h
  · exact absurd h (by show ¬ 12 < ci + 1; omega)
  · exact absurd h (Nat.succ_ne_zero ci)
  · have h2 := List.all_eq_true.mp h k (List.mem_range.mpr hk)
    rw [show ci + 1 - 1 = ci from rfl, hf] at h2
    simpa using h2
theorem Inv.sI {h : Hp} {a k : Nat} {v : Int32} (i : Inv h) : Inv (sI h a k v) := i
theorem Inv.sJ {h : Hp} {a k : Nat} {v : Int64} (i : Inv h) : Inv (sJ h a k v) := i
theorem Inv.rI {h : Hp} {a : Nat} {f : Nat → Int32} (i : Inv h) : Inv (rI h a f) := i
theorem Inv.rJ {h : Hp} {a : Nat} {f : Nat → Int64} (i : Inv h) : Inv (rJ h a f) := i
theorem hP_sP_at {h : Hp} {a b k j : Nat} {x : Option Nat} : hP (sP h a k x) b j = if b = a ∧ j = k then x else hP h b j := by
  by_cases e : b = a
  · subst e
    rw [hP_sP_self]
    unfold up1
    by_cases e2 : j = k
    · rw [if_pos e2, if_pos ⟨rfl, e2⟩]
    · rw [if_neg e2, if_neg (fun z => e2 z.2)]
  · rw [hP_sP_ne e, if_neg (fun z => e z.1)]
theorem Inv.pf {h : Hp} {a ci k x : Nat} (i : Inv h) (hc : ci < 12) (hk : k < nfl ci) (hs : hS h a = (ci + 1, 0)) (hf : fieldFin ci k = false) (hx : (hS h x).1 = frt ci k) : Inv (sP h a k (some x)) := by
  obtain ⟨e1, e2, e3, e4, e5, e6, e7⟩ := i
  rw [e1] at hs hx
  refine ⟨e1, e2, e3, fun b j v hl => ?_, fun b cj j v hcj hb hj hv => ?_, fun b j v h1 h2 hv => ?_, fun j v hv => ?_⟩
  · rw [hP_sP_at]
    by_cases e : b = a ∧ j = k
    · obtain ⟨rfl, rfl⟩ := e
      rw [LK_nf hc hs hk hf] at hl
      cases hl
    · rw [if_neg e]; exact e4 b j v hl
  · rw [hP_sP_at] at hv
    by_cases e : b = a ∧ j = k
    · obtain ⟨rfl, rfl⟩ := e
      rw [if_pos ⟨rfl, rfl⟩] at hv
      cases hv
      rw [hs] at hb
      have e9 : ci = cj := by have := congrArg Prod.fst hb; simp at this; exact this
      subst e9
      exact hx
    · rw [if_neg e] at hv; exact e5 b cj j v hcj hb hj hv
  · rw [hP_sP_at] at hv
    have hne : ¬ (b = a ∧ j = k) := fun e => by obtain ⟨rfl, -⟩ := e; rw [hs] at h1; have h1 : 60 ≤ ci + 1 := h1; omega
    rw [if_neg hne] at hv
    exact e6 b j v h1 h2 hv
  · rw [hP_sP_at] at hv
    have hne : ¬ (292 = a ∧ j = k) := fun e => by obtain ⟨rfl, -⟩ := e; have e9 : SH 292 = (81, 6) := (by decide +kernel); rw [e9] at hs; have e8 : 81 = ci + 1 := congrArg Prod.fst hs; omega
    rw [if_neg hne] at hv
    exact e7 j v hv
theorem Inv.as {h : Hp} {a i v : Nat} (I : Inv h) (ha : a = 64 ∨ a = 65 ∨ a = 292) (hg : (60 ≤ (hS h a).1 ∧ (hS h a).1 < 72 ∧ hS h v = ((hS h a).1 - 59, 0)) ∨ ((hS h a).1 = 81 ∧ hS h v = (51, 7))) : Inv (sP h a i (some v)) := by
  obtain ⟨e1, e2, e3, e4, e5, e6, e7⟩ := I
  rw [e1] at hg
  have s64 : SH 64 = (61, 6) := by decide +kernel
  have s65 : SH 65 = (63, 15) := by decide +kernel
  have s292 : SH 292 = (81, 6) := by decide +kernel
  have hno : ∀ k, LK a k = none := by rcases ha with rfl | rfl | rfl <;> intro k <;> rfl
  have h60 : 60 ≤ (SH a).1 := by rcases ha with rfl | rfl | rfl; rw [s64]; decide; rw [s65]; decide; rw [s292]; decide
  refine ⟨e1, e2, e3, fun b j w hl => ?_, fun b cj j w hcj hb hj hv => ?_, fun b j w h1 h2 hv => ?_, fun j w hv => ?_⟩
  · rw [hP_sP_at]
    by_cases e : b = a ∧ j = i
    · obtain ⟨rfl, rfl⟩ := e
      rw [hno] at hl
      cases hl
    · rw [if_neg e]; exact e4 b j w hl
  · rw [hP_sP_at] at hv
    have hne : ¬ (b = a ∧ j = i) := fun e => by obtain ⟨rfl, -⟩ := e; rw [hb] at h60; have h60 : 60 ≤ cj + 1 := h60; omega
    rw [if_neg hne] at hv
    exact e5 b cj j w hcj hb hj hv
  · rw [hP_sP_at] at hv
    by_cases e : b = a ∧ j = i
    · obtain ⟨rfl, rfl⟩ := e
      rw [if_pos ⟨rfl, rfl⟩] at hv
      cases hv
      rcases hg with g | g
      · exact g.2.2
      · omega
    · rw [if_neg e] at hv; exact e6 b j w h1 h2 hv
  · rw [hP_sP_at] at hv
    by_cases e : 292 = a ∧ j = i
    · obtain ⟨rfl, rfl⟩ := e
      rw [if_pos ⟨rfl, rfl⟩] at hv
      cases hv
      rcases hg with g | g
      · rw [s292] at g; exact absurd g.2.1 (by decide)
      · exact g.2
    · rw [if_neg e] at hv; exact e7 j w hv
set_option maxRecDepth 100000 in
theorem sh_81 : (List.range nOb).all (fun a => decide ((SH a).1 ≠ 81) || decide (a = 292)) = true := by decide +kernel
/-- which rows of references change: by links in a heap, by numbers under the invariant -/
theorem Inv.ga {h : Hp} {a : Nat} (I : Inv h) (g : GA h a) : a = 64 ∨ a = 65 ∨ a = 292 := by
  rcases g with g | g | g
  · rw [I.2.2.2.1 62 1 64 (by decide +kernel)] at g
    cases g
    exact Or.inl rfl
  · rw [I.2.2.2.1 62 2 65 (by decide +kernel)] at g
    cases g
    exact Or.inr (Or.inl rfl)
  · rw [I.1] at g
    have ha := SH_hi (a := a) (fun z => by rw [z] at g; exact absurd g (by decide))
    rcases (Bool.or_eq_true _ _).mp (all_ids sh_81 ha.2) with q | q
    · exact absurd g (of_decide_eq_true q)
    · exact Or.inr (Or.inr (of_decide_eq_true q))
theorem Inv.ag {h : Hp} {a : Nat} (I : Inv h) (g : a = 64 ∨ a = 65 ∨ a = 292) : GA h a := by
  rcases g with rfl | rfl | rfl
  · exact Or.inl (I.2.2.2.1 62 1 64 (by decide +kernel))
  · exact Or.inr (Or.inl (I.2.2.2.1 62 2 65 (by decide +kernel)))
  · exact Or.inr (Or.inr (by rw [I.1]; decide +kernel))
def PI (x : Option MOut) : Prop := ∀ o, x = some (.inl o) → Inv o.2.2.2
theorem PI_none : PI none := fun o z => (by cases z)
theorem PI_nx {pc : Nat} {ls : LV} {st : List Value} {h' : Hp} (h1 : Inv h') : PI (nx pc ls st h') := fun o z => by rw [nx_inv z]; exact h1
theorem PI_rt {v : Option Value} {h : Hp} : PI (rt v h) := fun o z => absurd (rt_inv z) id
theorem PI_gd {c : Prop} [Decidable c] {x : Option MOut} (hx : c → PI x) : PI (gd c x) := fun o z => hx (gd_inv z).1 o (gd_inv z).2
theorem PI_ite {c : Prop} [Decidable c] {x x' : Option MOut} (hx : PI x) (hx' : PI x') : PI (if c then x else x') := by
  by_cases hc : c
  · rw [if_pos hc]; exact hx
  · rw [if_neg hc]; exact hx'
theorem PI_pI {st : List Value} {k : Int32 → List Value → Option MOut} (hx : ∀ a r, PI (k a r)) : PI (pI st k) := fun o z => by obtain ⟨a, r, -, z⟩ := pI_inv z; exact (hx a r) o z
theorem PI_pJ {st : List Value} {k : Int64 → List Value → Option MOut} (hx : ∀ a r, PI (k a r)) : PI (pJ st k) := fun o z => by obtain ⟨a, r, -, z⟩ := pJ_inv z; exact (hx a r) o z
theorem PI_pR {st : List Value} {k : Nat → List Value → Option MOut} (hx : ∀ a r, PI (k a r)) : PI (pR st k) := fun o z => by obtain ⟨a, r, -, z⟩ := pR_inv z; exact (hx a r) o z
theorem PI_pV {st : List Value} {k : Value → List Value → Option MOut} (hx : ∀ a r, PI (k a r)) : PI (pV st k) := fun o z => by obtain ⟨a, r, -, z⟩ := pV_inv z; exact (hx a r) o z
theorem PI_lI {ls : LV} {n : Nat} {k : Int32 → Option MOut} (hx : ∀ a, PI (k a)) : PI (lI ls n k) := fun o z => by obtain ⟨a, -, z⟩ := lI_inv z; exact (hx a) o z
theorem PI_lR {ls : LV} {n : Nat} {k : Nat → Option MOut} (hx : ∀ a, PI (k a)) : PI (lR ls n k) := fun o z => by obtain ⟨a, -, z⟩ := lR_inv z; exact (hx a) o z
theorem PI_lJ {ls : LV} {n : Nat} {k : Int64 → Option MOut} (hx : ∀ a, PI (k a)) : PI (lJ ls n k) := fun o z => by obtain ⟨a, -, -, z⟩ := lJ_inv z; exact (hx a) o z
theorem PI_tI {ls : LV} {n : Nat} {v : Value} {k : LV → Option MOut} (hx : ∀ a, PI (k a)) : PI (tI ls n v k) := PI_gd fun _ => hx _
theorem PI_tJ {ls : LV} {n : Nat} {v : Value} {k : LV → Option MOut} (hx : ∀ a, PI (k a)) : PI (tJ ls n v k) := PI_gd fun _ => hx _
theorem PI_oR {r : Option Nat} {k : Nat → Option MOut} (hx : ∀ a, PI (k a)) : PI (oR r k) := by
  cases r with
  | none => exact PI_none
  | some a => exact hx a
theorem PI_jmp {pc : Nat} {off : Int} {k : Nat → Option MOut} (hx : ∀ a, PI (k a)) : PI (jmp pc off k) := PI_gd fun _ => hx _
/-- an oracle that keeps Inv -/
def CI (C : Orc) : Prop := ∀ (y : Nat) (vs : List Value) (h : Hp) (v : Option Value) (h' : Hp), y < 247 → mIni y = false → Inv h → C y vs h = some (v, h') → Inv h'
section PIS
variable {X : Ctx} {C : Orc} {y : Nat} {h : Hp}
theorem PI_bR2 (hC : CI C) (i : Inv h) {y' pc : Nat} {vs : List Value} {ls : LV} {st : List Value} (hy : y' < 247) (hq : mIni y' = false) : PI (bR2 y' (C y' vs h) pc ls st) := fun o z => by
    obtain ⟨v, h1, e, z⟩ := bR2_inv z
    cases z
    exact hC _ _ _ _ _ hy hq i e
theorem ini_of {y' : Nat} (hy : y' < 247) (hn : (mName y').name ≠ "<init>") : mIni y' = false := by
  unfold mIni
  rw [decide_eq_false hn, Bool.false_or]
  exact beq_eq_false_iff_ne.mpr (by omega)
theorem PI_stpC (hC : CI C) (i : Inv h) (hy : mIni y = false) {vir n pc : Nat} {ls : LV} {st : List Value} : PI (stpC (X, C) y vir n pc ls st h) := by
  unfold stpC
  split
  · exact PI_gd fun _ => PI_pR fun _ _ => PI_gd fun _ => PI_nx i
  · exact PI_gd fun _ => PI_pI fun _ _ => PI_pI fun _ _ => PI_pR fun _ _ => PI_pI fun _ _ => PI_pR fun _ _ => PI_gd fun _ => PI_ite (PI_nx i) (PI_ite (PI_nx i) PI_none)
  · next y' k q _ _ e1 =>
    have hz := (tab_in mth_all rfl e1).2
    simp only [mthOK] at hz
    refine PI_gd fun hy2 => ?_
    have hy3 : y' < 248 := hy2
    rw [if_neg (by omega), if_neg (by omega), Bool.and_eq_true] at hz
    have hy1 : y' < 247 := of_decide_eq_true hz.1
    refine PI_ite (PI_gd fun _ => ?_) (PI_ite ?_ (PI_gd fun hv => ?_))
    · unfold mop
      split
      · exact PI_pI fun _ _ => PI_gd fun _ => PI_nx i
      · exact PI_pI fun _ _ => PI_pI fun _ _ => PI_gd fun _ => PI_nx i
      · exact PI_pJ fun _ _ => PI_pJ fun _ _ => PI_gd fun _ => PI_nx i
      · exact PI_pI fun _ _ => PI_pI fun _ _ => PI_gd fun _ => PI_nx i
      · exact PI_pJ fun _ _ => PI_pJ fun _ _ => PI_gd fun _ => PI_nx i
      · exact PI_none
    · refine PI_gd fun hg => PI_bR2 hC i hy1 (ini_of hy1 fun z => ?_)
      have h9 := ((m_row hy1).2.2.2.2.2.2.2.2 z).2
      rw [h9] at hg
      exact absurd hg.1 (by decide)
    · refine PI_gd fun hg => PI_pR fun _ _ => PI_gd fun _ => PI_bR2 hC i hy1 (ini_of hy1 fun z => ?_)
      have hv2 : vir ≠ 2 := fun w => by rw [hv w] at hy; cases hy
      have h4 := hg.2.2.2
      rw [decide_eq_false hv2, decide_eq_true z] at h4
      cases h4
  · exact PI_none
theorem PI_stpF (i : Inv h) {n pc : Nat} {ls : LV} {st : List Value} : PI (stpF y n pc ls st h) := by
  unfold stpF
  refine PI_pR fun _ _ => ?_
  refine PI_ite (PI_gd fun _ => ?_) ?_
  · split
    · exact PI_nx i
    · exact PI_nx i
    · exact PI_none
  · split
    · exact PI_none
    · refine PI_gd fun _ => ?_
      split
      · exact PI_nx i
      · exact PI_nx i
      · exact PI_nx i
      · exact PI_oR fun _ => PI_nx i
      · exact PI_none
theorem PI_stpG (i : Inv h) (hy : mIni y = false) {n pc : Nat} {ls : LV} {st : List Value} : PI (stpG y n pc ls st h) := by
  unfold stpG
  split
  · exact PI_none
  · next ci k q e1 =>
    obtain ⟨c1, c2, -⟩ := fld_row e1
    refine PI_gd fun hf => ?_
    have hff : fieldFin ci k = false := by
      rcases hf with z | z
      · exact z
      · unfold mIni at hy
        rw [decide_eq_true z.2] at hy
        cases hy
    split
    · exact PI_pI fun _ _ => PI_pR fun _ _ => PI_gd fun _ => PI_nx i
    · exact PI_pI fun _ _ => PI_pR fun _ _ => PI_gd fun _ => PI_nx i
    · exact PI_pJ fun _ _ => PI_pR fun _ _ => PI_gd fun _ => PI_nx i
    · exact PI_pR fun _ _ => PI_pR fun _ _ => PI_gd fun hg => PI_nx (i.pf c1 c2 hg.2.1 hff hg.2.2)
    · exact PI_none
theorem PI_stpI (hC : CI C) (i : Inv h) (hy : mIni y = false) {ins : Instr} {len pc : Nat} {ls : LV} {st : List Value} : PI (stpI (X, C) y ins len pc ls st h) := by
  have hyt : ∀ {P : Prop}, mIni y = true → P := fun z => by rw [hy] at z; cases z
  cases ins
  case new => simp only [stpI]; exact PI_gd fun z => hyt z.2
  case newarray => simp only [stpI]; exact PI_gd fun z => hyt z.2
  case anewarray => simp only [stpI]; exact PI_gd fun z => hyt z.2
  case multianewarray => simp only [stpI]; exact PI_gd fun z => hyt z.2.2
  case aastore => simp only [stpI]; exact PI_gd fun _ => PI_pR fun _ _ => PI_pI fun _ _ => PI_pR fun _ _ => PI_gd fun z => PI_gd fun g => PI_nx (i.as (z.elim (fun w => hyt w) i.ga) g.2.2.2)
  all_goals (simp only [stpI])
  all_goals repeat' with_reducible first
    | exact PI_none
    | exact PI_stpC hC i hy
    | exact PI_stpF i
    | exact PI_stpG i hy
    | exact PI_rt
    | refine PI_gd fun _ => ?_
    | refine PI_pI fun _ _ => ?_
    | refine PI_pJ fun _ _ => ?_
    | refine PI_pR fun _ _ => ?_
    | refine PI_pV fun _ _ => ?_
    | refine PI_lI fun _ => ?_
    | refine PI_lR fun _ => ?_
    | refine PI_lJ fun _ => ?_
    | refine PI_tI fun _ => ?_
    | refine PI_tJ fun _ => ?_
    | refine PI_oR fun _ => ?_
    | refine PI_jmp fun _ => ?_
    | refine PI_ite ?_ ?_
    | refine PI_nx ?_
    | split
  all_goals exact i
theorem run_inv (hC : CI C) (hM : CM C) (hy : mIni y = false) : ∀ (n : Nat) (s : MSt) (r : Option Value × Hp), run (X, C) y n s = some r → Inv s.2.2.2 → Inv r.2
  | 0, _, _, h, _ => by cases h
  | n + 1, s, r, h, i => by
    unfold run stp at h
    cases hd : decode (mCode y) s.1 with
    | error q => rw [hd] at h; cases h
    | ok q =>
      rw [hd] at h
      obtain ⟨ins, len⟩ := q
      have hP := PI_stpI (X := X) hC i hy (ins := ins) (len := len) (pc := s.1) (ls := s.2.1) (st := s.2.2.1)
      have hN := MN_stpI (X := X) (y := y) hM (ins := ins) (len := len) (pc := s.1) (ls := s.2.1) (st := s.2.2.1) (h := s.2.2.2)
      cases hs : stpI (X, C) y ins len s.1 s.2.1 s.2.2.1 s.2.2.2 with
      | none => simp only [hs] at h; cases h
      | some o =>
        simp only [hs] at h
        cases o with
        | inl s' => exact run_inv hC hM hy n s' r h (hP s' hs)
        | inr r' =>
          cases h
          rw [(hN.2 _ hs).1]
          exact i
end PIS
theorem K_cm (X : Ctx) : ∀ d : Nat, CM (K X d)
  | 0 => fun y vs h v h' e => (by cases e)
  | d + 1 => fun y vs h v h' e0 => by
    have e0 : gd ((lvE vs).length ≤ mLoc y) (sem (X, K X d) y 0 (ent y vs) [] h) = some (v, h') := e0
    obtain ⟨n, hn⟩ := semS_iff.mp (gd_inv e0).2
    exact run_le (K_cm X d) n _ _ hn
theorem K_inv (X : Ctx) : ∀ d : Nat, CI (K X d)
  | 0 => fun y vs h v h' _ _ _ e => (by cases e)
  | d + 1 => fun y vs h v h' _ hq i e0 => by
    have e0 : gd ((lvE vs).length ≤ mLoc y) (sem (X, K X d) y 0 (ent y vs) [] h) = some (v, h') := e0
    obtain ⟨n, hn⟩ := semS_iff.mp (gd_inv e0).2
    exact run_inv (K_inv X d) (K_cm X d) hq n _ _ hn i
