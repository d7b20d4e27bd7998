/-! WHAT IS MADE IN ANOTHER ORDER: a heap read by other numbers (the parts' numbers are those of an older order of making); a method that makes nothing answers alike -/
def poL : List Nat := [62, 63, 65, 140, 141, 142, 143, 144, 145, 146, 147, 148, 149, 150, 151, 152, 153, 154, 155, 156, 157, 158, 159, 160, 161, 162, 163, 164, 165, 166, 167, 168, 169, 170, 171, 172, 173, 174, 175, 176, 177, 178, 179, 180, 181, 182, 183, 184, 185, 186, 187, 188, 189, 190, 191, 192, 193, 194, 195, 196, 197, 198, 199, 200, 201, 202, 203, 204, 205, 206, 207, 208, 209, 210, 92, 93, 94, 95, 96, 97, 98, 99, 100, 101, 102, 103, 104, 105, 106, 107, 108, 109, 110, 111, 112, 113, 114, 115, 116, 117, 118, 119, 120, 121, 122, 123, 124, 125, 126, 127, 128, 129, 130, 131, 132, 133, 134, 135, 136, 137, 138, 139, 211, 212, 213, 214, 215, 216, 217, 218, 219, 220, 221, 222, 223, 224, 225, 226, 227, 228, 229, 230, 231, 232, 233, 234, 235, 236, 237, 238, 239, 240, 241, 242, 243, 244, 245, 246, 247, 248, 249, 250, 251, 252, 253, 254, 255, 256, 257, 258, 259, 260, 261, 262, 263, 264, 265, 266, 267, 268, 269, 270, 271, 272, 273, 274, 275, 276, 277, 278, 279, 280, 281, 282, 283, 284, 285, 286, 287, 288, 289, 290, 291, 292, 293, 294, 295, 296, 297, 298, 299, 300, 64, 66, 67, 68, 69, 70, 71, 72, 73, 74, 75, 76, 77, 78, 79, 80, 81, 82, 83, 84, 85, 86, 87, 88, 89, 90, 91]
def opL : List Nat := [62, 63, 274, 64, 275, 276, 277, 278, 279, 280, 281, 282, 283, 284, 285, 286, 287, 288, 289, 290, 291, 292, 293, 294, 295, 296, 297, 298, 299, 300, 136, 137, 138, 139, 140, 141, 142, 143, 144, 145, 146, 147, 148, 149, 150, 151, 152, 153, 154, 155, 156, 157, 158, 159, 160, 161, 162, 163, 164, 165, 166, 167, 168, 169, 170, 171, 172, 173, 174, 175, 176, 177, 178, 179, 180, 181, 182, 183, 65, 66, 67, 68, 69, 70, 71, 72, 73, 74, 75, 76, 77, 78, 79, 80, 81, 82, 83, 84, 85, 86, 87, 88, 89, 90, 91, 92, 93, 94, 95, 96, 97, 98, 99, 100, 101, 102, 103, 104, 105, 106, 107, 108, 109, 110, 111, 112, 113, 114, 115, 116, 117, 118, 119, 120, 121, 122, 123, 124, 125, 126, 127, 128, 129, 130, 131, 132, 133, 134, 135, 184, 185, 186, 187, 188, 189, 190, 191, 192, 193, 194, 195, 196, 197, 198, 199, 200, 201, 202, 203, 204, 205, 206, 207, 208, 209, 210, 211, 212, 213, 214, 215, 216, 217, 218, 219, 220, 221, 222, 223, 224, 225, 226, 227, 228, 229, 230, 231, 232, 233, 234, 235, 236, 237, 238, 239, 240, 241, 242, 243, 244, 245, 246, 247, 248, 249, 250, 251, 252, 253, 254, 255, 256, 257, 258, 259, 260, 261, 262, 263, 264, 265, 266, 267, 268, 269, 270, 271, 272, 273]
/-- from the parts' number to the number of its making, and back -/
def pOn (a : Nat) : Nat := if a < 62 then a else if a < 301 then poL.getD (a - 62) 0 else a
def oPn (a : Nat) : Nat := if a < 62 then a else if a < 301 then opL.getD (a - 62) 0 else a
set_option maxRecDepth 100000 in
theorem pn_all : (List.range 301).all (fun a => decide (pOn (oPn a) = a) && decide (oPn (pOn a) = a) && decide (a < 62 ∨ (62 ≤ pOn a ∧ 62 ≤ oPn a))) = true := by decide +kernel
theorem pn_at {a : Nat} : pOn (oPn a) = a ∧ oPn (pOn a) = a ∧ (a < 62 ∨ (62 ≤ pOn a ∧ 62 ≤ oPn a)) := by
  by_cases h : a < 301
  · have t := List.all_eq_true.mp pn_all a (List.mem_range.mpr h)
    rw [Bool.and_eq_true, Bool.and_eq_true] at t
    exact ⟨of_decide_eq_true t.1.1, of_decide_eq_true t.1.2, of_decide_eq_true t.2⟩
  · have e1 : oPn a = a := by unfold oPn; rw [if_neg (by omega), if_neg h]
    have e2 : pOn a = a := by unfold pOn; rw [if_neg (by omega), if_neg h]
    exact ⟨by rw [e1, e2], by rw [e2, e1], Or.inr ⟨by rw [e2]; omega, by rw [e1]; omega⟩⟩
theorem po_op (a : Nat) : pOn (oPn a) = a := pn_at.1
theorem op_po (a : Nat) : oPn (pOn a) = a := pn_at.2.1
theorem po_iff {a b : Nat} : pOn b = a ↔ b = oPn a := ⟨fun e => by rw [← e, op_po], fun e => by rw [e, po_op]⟩
theorem op_inj {a b : Nat} (e : oPn a = oPn b) : a = b := by rw [← po_op a, e, po_op]
theorem op_lo {a : Nat} (h : a < 62) : oPn a = a := if_pos h
theorem op_hi {a : Nat} (h : 62 ≤ a) : 62 ≤ oPn a := by
  rcases (pn_at (a := a)).2.2 with z | z
  · omega
  · exact z.2
theorem op_0 {a : Nat} : oPn a = 0 ↔ a = 0 := by
  rcases Nat.lt_or_ge a 62 with z | z
  · rw [op_lo z]
  · have := op_hi z; omega
theorem op_lt61 {a : Nat} : oPn a < 61 ↔ a < 61 := by
  rcases Nat.lt_or_ge a 62 with z | z
  · rw [op_lo z]
  · have := op_hi z; omega
theorem op_ge61 {a : Nat} : 61 ≤ oPn a ↔ 61 ≤ a := by
  rcases Nat.lt_or_ge a 62 with z | z
  · rw [op_lo z]
  · have := op_hi z; omega
def qv (v : Value) : Value := match v with
  | .ref k => .ref (oPn k)
  | v => v
def qLV (ls : LV) : LV := ls.map (Option.map qv)
def qS (st : List Value) : List Value := st.map qv
/-- the heap by the parts' numbers -/
def qH (h : Hp) : Hp := (fun a => hS h (pOn a), fun a => hI h (pOn a), fun a => hJ h (pOn a), fun a k => (hP h (pOn a) k).map oPn, hN h, hK h)
theorem qv_cat (v : Value) : (qv v).category = v.category := by cases v <;> rfl
theorem qv_int {v : Value} {x : Int32} (e : qv v = .int x) : v = .int x := by
  cases v with
  | ref k => have e2 : Value.ref (oPn k) = .int x := e; cases e2
  | _ => exact e
theorem qv_long {v : Value} {x : Int64} (e : qv v = .long x) : v = .long x := by
  cases v with
  | ref k => have e2 : Value.ref (oPn k) = .long x := e; cases e2
  | _ => exact e
theorem qv_ref {v : Value} {x : Nat} (e : qv v = .ref x) : ∃ k : Nat, v = .ref k ∧ x = oPn k := by
  cases v with
  | ref k =>
    have e2 : Value.ref (oPn k) = .ref x := e
    cases e2
    exact ⟨k, rfl, rfl⟩
  | int k => have e2 : Value.int k = .ref x := e; cases e2
  | long k => have e2 : Value.long k = .ref x := e; cases e2
  | float k => have e2 : Value.float k = .ref x := e; cases e2
  | double k => have e2 : Value.double k = .ref x := e; cases e2
  | null => have e2 : Value.null = .ref x := e; cases e2
  | retAddr k => have e2 : Value.retAddr k = .ref x := e; cases e2
theorem hS_qo {h : Hp} {a : Nat} : hS (qH h) (oPn a) = hS h a := by show hS h (pOn (oPn a)) = _; rw [po_op]
theorem hI_qo {h : Hp} {a : Nat} : hI (qH h) (oPn a) = hI h a := by show hI h (pOn (oPn a)) = _; rw [po_op]
theorem hJ_qo {h : Hp} {a : Nat} : hJ (qH h) (oPn a) = hJ h a := by show hJ h (pOn (oPn a)) = _; rw [po_op]
theorem hP_qo {h : Hp} {a k : Nat} : hP (qH h) (oPn a) k = (hP h a k).map oPn := by show (hP h (pOn (oPn a)) k).map oPn = _; rw [po_op]
theorem hp_ext {h g : Hp} (e1 : h.1 = g.1) (e2 : h.2.1 = g.2.1) (e3 : h.2.2.1 = g.2.2.1) (e4 : h.2.2.2.1 = g.2.2.2.1) (e5 : h.2.2.2.2 = g.2.2.2.2) : h = g := Prod.ext e1 (Prod.ext e2 (Prod.ext e3 (Prod.ext e4 e5)))
theorem up2_q {α β : Type} {f : Nat → Nat → α} {g : α → β} {a k : Nat} {v : α} : (fun b j => g (up2 f a k v (pOn b) j)) = up2 (fun b j => g (f (pOn b) j)) (oPn a) k (g v) := by
  funext b j
  unfold up2
  by_cases e : pOn b = a
  · rw [if_pos e, if_pos (po_iff.mp e)]
    unfold up1
    by_cases e2 : j = k
    · rw [if_pos e2, if_pos e2]
    · rw [if_neg e2, if_neg e2]
      show _ = g (f (pOn (oPn a)) j)
      rw [po_op]
  · rw [if_neg e, if_neg (fun z => e (po_iff.mpr z))]
theorem up1_q {α : Type} {f : Nat → α} {a : Nat} {v : α} : (fun b => up1 f a v (pOn b)) = up1 (fun b => f (pOn b)) (oPn a) v := by
  funext b
  unfold up1
  by_cases e : pOn b = a
  · rw [if_pos e, if_pos (po_iff.mp e)]
  · rw [if_neg e, if_neg (fun z => e (po_iff.mpr z))]
theorem q_sI {h : Hp} {a k : Nat} {v : Int32} : sI (qH h) (oPn a) k v = qH (sI h a k v) := hp_ext rfl (up2_q (g := id) (f := h.2.1)).symm rfl rfl rfl
theorem q_sJ {h : Hp} {a k : Nat} {v : Int64} : sJ (qH h) (oPn a) k v = qH (sJ h a k v) := hp_ext rfl rfl (up2_q (g := id) (f := h.2.2.1)).symm rfl rfl
theorem q_sP {h : Hp} {a k x : Nat} : sP (qH h) (oPn a) k (some (oPn x)) = qH (sP h a k (some x)) := hp_ext rfl rfl rfl (up2_q (g := Option.map oPn) (f := h.2.2.2.1) (v := some x)).symm rfl
theorem q_rI {h : Hp} {a : Nat} {f : Nat → Int32} : rI (qH h) (oPn a) f = qH (rI h a f) := hp_ext rfl (up1_q (f := h.2.1)).symm rfl rfl rfl
theorem q_rJ {h : Hp} {a : Nat} {f : Nat → Int64} : rJ (qH h) (oPn a) f = qH (rJ h a f) := hp_ext rfl rfl (up1_q (f := h.2.2.1)).symm rfl rfl
def qM (o : MOut) : MOut := match o with
  | .inl s => .inl (s.1, qLV s.2.1, qS s.2.2.1, qH s.2.2.2)
  | .inr r => .inr (r.1.map qv, qH r.2)
/-- what the one makes by the parts' numbers, the other makes by its own -/
def RQ (x y : Option MOut) : Prop := ∀ o, x = some o → ∃ o', y = some o' ∧ qM o' = o
theorem RQ_none {y : Option MOut} : RQ none y := fun _ e => by cases e
theorem RQ_nx {pc : Nat} {ls ls' : LV} {st st' : List Value} {h h' : Hp} (e1 : ls' = qLV ls) (e2 : st' = qS st) (e3 : h' = qH h) : RQ (nx pc ls' st' h') (nx pc ls st h) := fun o e => by
  cases e
  exact ⟨_, rfl, by rw [e1, e2, e3]; rfl⟩
theorem RQ_rt {v v' : Option Value} {h h' : Hp} (e1 : v' = v.map qv) (e2 : h' = qH h) : RQ (rt v' h') (rt v h) := fun o e => by
  cases e
  exact ⟨_, rfl, by rw [e1, e2]; rfl⟩
theorem RQ_gd {c c' : Prop} [Decidable c] [Decidable c'] {x y : Option MOut} (hc : c → c') (k : c → RQ x y) : RQ (gd c x) (gd c' y) := fun o e => by
  obtain ⟨e1, e2⟩ := gd_inv e
  obtain ⟨o', e3, e4⟩ := k e1 o e2
  exact ⟨o', (gd_t (hc e1) _).trans e3, e4⟩
theorem RQ_ite {c c' : Prop} [Decidable c] [Decidable c'] {x x' y y' : Option MOut} (hc : c ↔ c') (k : c → RQ x y) (k' : ¬ c → RQ x' y') : RQ (if c then x else x') (if c' then y else y') := by
  by_cases z : c
  · rw [if_pos z, if_pos (hc.mp z)]; exact k z
  · rw [if_neg z, if_neg (fun w => z (hc.mpr w))]; exact k' z
theorem qS_cons {st r : List Value} {w : Value} (e : qS st = w :: r) : ∃ v t, st = v :: t ∧ qv v = w ∧ r = qS t := by
  cases st with
  | nil => cases e
  | cons v t =>
    have e : qv v :: qS t = w :: r := e
    exact ⟨v, t, rfl, (List.cons.inj e).1, (List.cons.inj e).2.symm⟩
theorem RQ_pI {st : List Value} {k k' : Int32 → List Value → Option MOut} (hx : ∀ a r, RQ (k a (qS r)) (k' a r)) : RQ (pI (qS st) k) (pI st k') := fun o e => by
  obtain ⟨a, r, e1, e2⟩ := pI_inv e
  obtain ⟨v, t, rfl, g, rfl⟩ := qS_cons e1
  cases qv_int g
  exact hx a t o e2
theorem RQ_pJ {st : List Value} {k k' : Int64 → List Value → Option MOut} (hx : ∀ a r, RQ (k a (qS r)) (k' a r)) : RQ (pJ (qS st) k) (pJ st k') := fun o e => by
  obtain ⟨a, r, e1, e2⟩ := pJ_inv e
  obtain ⟨v, t, rfl, g, rfl⟩ := qS_cons e1
  cases qv_long g
  exact hx a t o e2
theorem RQ_pR {st : List Value} {k k' : Nat → List Value → Option MOut} (hx : ∀ (a : Nat) r, RQ (k (oPn a) (qS r)) (k' a r)) : RQ (pR (qS st) k) (pR st k') := fun o e => by
  obtain ⟨a, r, e1, e2⟩ := pR_inv e
  obtain ⟨v, t, rfl, g, rfl⟩ := qS_cons e1
  obtain ⟨b, rfl, rfl⟩ := qv_ref g
  exact hx b t o e2
theorem RQ_pV {st : List Value} {k k' : Value → List Value → Option MOut} (hx : ∀ v r, RQ (k (qv v) (qS r)) (k' v r)) : RQ (pV (qS st) k) (pV st k') := fun o e => by
  obtain ⟨a, r, e1, e2⟩ := pV_inv e
  obtain ⟨v, t, rfl, rfl, rfl⟩ := qS_cons e1
  exact hx v t o e2
theorem qL_some {ls : LV} {i : Nat} {w : Value} (e : (qLV ls)[i]? = some (some w)) : ∃ v, ls[i]? = some (some v) ∧ qv v = w := by
  have e : (ls[i]?).map (Option.map qv) = some (some w) := by rw [← List.getElem?_map]; exact e
  cases g : ls[i]? with
  | none => rw [g] at e; cases e
  | some u =>
    rw [g] at e
    cases u with
    | none => cases e
    | some v => exact ⟨v, rfl, Option.some.inj (Option.some.inj e)⟩
theorem qL_none {ls : LV} {i : Nat} (e : (qLV ls)[i]? = some none) : ls[i]? = some none := by
  have e : (ls[i]?).map (Option.map qv) = some none := by rw [← List.getElem?_map]; exact e
  cases g : ls[i]? with
  | none => rw [g] at e; cases e
  | some u =>
    rw [g] at e
    cases u with
    | none => rfl
    | some v => cases e
theorem RQ_lI {ls : LV} {n : Nat} {k k' : Int32 → Option MOut} (hx : ∀ a, RQ (k a) (k' a)) : RQ (lI (qLV ls) n k) (lI ls n k') := fun o e => by
  obtain ⟨a, e1, e2⟩ := lI_inv e
  obtain ⟨v, g1, g2⟩ := qL_some e1
  cases qv_int g2
  obtain ⟨o', e3, e4⟩ := hx a o e2
  exact ⟨o', by unfold lI; rw [g1]; exact e3, e4⟩
theorem RQ_lJ {ls : LV} {n : Nat} {k k' : Int64 → Option MOut} (hx : ∀ a, RQ (k a) (k' a)) : RQ (lJ (qLV ls) n k) (lJ ls n k') := fun o e => by
  obtain ⟨a, e1, e0, e2⟩ := lJ_inv e
  obtain ⟨v, g1, g2⟩ := qL_some e1
  have g0 := qL_none e0
  cases qv_long g2
  obtain ⟨o', e3, e4⟩ := hx a o e2
  exact ⟨o', by unfold lJ; rw [g1, g0]; exact e3, e4⟩
theorem RQ_lR {ls : LV} {n : Nat} {k k' : Nat → Option MOut} (hx : ∀ a : Nat, RQ (k (oPn a)) (k' a)) : RQ (lR (qLV ls) n k) (lR ls n k') := fun o e => by
  obtain ⟨a, e1, e2⟩ := lR_inv e
  obtain ⟨v, g1, g2⟩ := qL_some e1
  obtain ⟨b, rfl, rfl⟩ := qv_ref g2
  obtain ⟨o', e3, e4⟩ := hx b o e2
  exact ⟨o', by unfold lR; rw [g1]; exact e3, e4⟩
theorem qL_len {ls : LV} : (qLV ls).length = ls.length := List.length_map _
theorem RQ_tI {ls : LV} {n : Nat} {v v' : Value} {k k' : LV → Option MOut} (ev : v' = qv v) (hx : ∀ l, RQ (k (qLV l)) (k' l)) : RQ (tI (qLV ls) n v' k) (tI ls n v k') := by
  subst ev
  refine RQ_gd (fun z => by rw [qL_len] at z; exact z) fun _ => ?_
  have e : (qLV ls).set n (some (qv v)) = qLV (ls.set n (some v)) := by unfold qLV; rw [List.map_set]; rfl
  rw [e]
  exact hx _
theorem RQ_tJ {ls : LV} {n : Nat} {v v' : Value} {k k' : LV → Option MOut} (ev : v' = qv v) (hx : ∀ l, RQ (k (qLV l)) (k' l)) : RQ (tJ (qLV ls) n v' k) (tJ ls n v k') := by
  subst ev
  refine RQ_gd (fun z => by rw [qL_len] at z; exact z) fun _ => ?_
  have e : ((qLV ls).set n (some (qv v))).set (n + 1) none = qLV ((ls.set n (some v)).set (n + 1) none) := by unfold qLV; rw [List.map_set, List.map_set]; rfl
  rw [e]
  exact hx _
theorem RQ_oR {r : Option Nat} {k k' : Nat → Option MOut} (hx : ∀ a : Nat, RQ (k (oPn a)) (k' a)) : RQ (oR (r.map oPn) k) (oR r k') := by
  cases r with
  | none => exact RQ_none
  | some a => exact hx a
theorem RQ_jmp {pc : Nat} {off : Int} {k k' : Nat → Option MOut} (hx : ∀ a, RQ (k a) (k' a)) : RQ (jmp pc off k) (jmp pc off k') := RQ_gd id fun _ => hx _
/-- a call answered on the one side, so on the other -/
def AQ (o o' : Option (Option Value × Hp)) : Prop := ∀ v h1, o = some (v, h1) → ∃ v' h', o' = some (v', h') ∧ v'.map qv = v ∧ qH h' = h1
theorem AQ_map {v' : Option Value} {w : Value} (e : v'.map qv = some w) : ∃ v, v' = some v ∧ qv v = w := by
  cases v' with
  | none => cases e
  | some v => exact ⟨v, rfl, Option.some.inj e⟩
theorem RQ_bI {o o' : Option (Option Value × Hp)} {k k' : Int32 → Hp → Option MOut} (ho : AQ o o') (hx : ∀ x h, RQ (k x (qH h)) (k' x h)) : RQ (bI o k) (bI o' k') := fun r e => by
  obtain ⟨x, h1, e1, e2⟩ := bI_inv e
  obtain ⟨v', h', e3, e4, rfl⟩ := ho _ _ e1
  obtain ⟨v, rfl, g⟩ := AQ_map e4
  cases qv_int g
  rw [e3]
  exact hx x h' r e2
theorem RQ_bJ {o o' : Option (Option Value × Hp)} {k k' : Int64 → Hp → Option MOut} (ho : AQ o o') (hx : ∀ x h, RQ (k x (qH h)) (k' x h)) : RQ (bJ o k) (bJ o' k') := fun r e => by
  obtain ⟨x, h1, e1, e2⟩ := bJ_inv e
  obtain ⟨v', h', e3, e4, rfl⟩ := ho _ _ e1
  obtain ⟨v, rfl, g⟩ := AQ_map e4
  cases qv_long g
  rw [e3]
  exact hx x h' r e2
theorem RQ_bR {o o' : Option (Option Value × Hp)} {k k' : Nat → Hp → Option MOut} (ho : AQ o o') (hx : ∀ (x : Nat) h, RQ (k (oPn x) (qH h)) (k' x h)) : RQ (bR o k) (bR o' k') := fun r e => by
  obtain ⟨x, h1, e1, e2⟩ := bR_inv e
  obtain ⟨v', h', e3, e4, rfl⟩ := ho _ _ e1
  obtain ⟨v, rfl, g⟩ := AQ_map e4
  obtain ⟨b, rfl, rfl⟩ := qv_ref g
  rw [e3]
  exact hx b h' r e2
theorem RQ_bV {o o' : Option (Option Value × Hp)} {k k' : Hp → Option MOut} (ho : AQ o o') (hx : ∀ h, RQ (k (qH h)) (k' h)) : RQ (bV o k) (bV o' k') := fun r e => by
  obtain ⟨h1, e1, e2⟩ := bV_inv e
  obtain ⟨v', h', e3, e4, rfl⟩ := ho _ _ e1
  cases v' with
  | some v => cases e4
  | none =>
    rw [e3]
    exact hx h' r e2
theorem RQ_bR2 {y pc : Nat} {o o' : Option (Option Value × Hp)} {ls : LV} {st : List Value} (ho : AQ o o') : RQ (bR2 y o pc (qLV ls) (qS st)) (bR2 y o' pc ls st) := by
  unfold bR2
  cases mRet y with
  | none => exact RQ_bV ho fun h => RQ_nx rfl rfl rfl
  | some t =>
    cases t with
    | long => exact RQ_bJ ho fun x h => RQ_nx rfl rfl rfl
    | object c => exact RQ_bR ho fun x h => RQ_nx rfl rfl rfl
    | _ => exact RQ_bI ho fun x h => RQ_nx rfl rfl rfl
/-- an oracle that answers alike -/
def CQ (C : Orc) : Prop := ∀ (y : Nat) (vs : List Value) (h : Hp), y < 247 → mIni y = false → AQ (C y (qS vs) (qH h)) (C y vs h)
theorem qS_len {st : List Value} : (qS st).length = st.length := List.length_map _
theorem qS_drop {st : List Value} {n : Nat} : (qS st).drop n = qS (st.drop n) := List.map_drop.symm
theorem qS_take {st : List Value} {n : Nat} : ((qS st).take n).reverse = qS (st.take n).reverse := by unfold qS; rw [← List.map_take, List.map_reverse]
theorem qS_cat {st : List Value} : (qS st).map Value.category = st.map Value.category := by
  unfold qS
  rw [List.map_map]
  exact List.map_congr_left fun v _ => qv_cat v
theorem rcv_q {own : Nat} {h : Hp} {a : Nat} : rcv own (qH h) (oPn a) = rcv own h a := by
  unfold rcv
  rw [hS_qo]
  by_cases z : a < 62
  · rw [op_lo z]
  · have z2 := op_hi (show 62 ≤ a by omega)
    have e : decide (own = 15 ∧ 1 ≤ oPn a ∧ oPn a < 31) = decide (own = 15 ∧ 1 ≤ a ∧ a < 31) := decide_eq_decide.mpr ⟨fun w => by omega, fun w => by omega⟩
    rw [e]
theorem alen_q {X : Ctx} {h : Hp} {a : Nat} : alen X (qH h) (oPn a) = alen X h a := by
  unfold alen
  rw [hS_qo]
  by_cases z : a < 62
  · rw [op_lo z]
  · have z2 := op_hi (show 62 ≤ a by omega)
    rw [if_neg (show ¬ oPn a = 0 by omega), if_neg (show ¬ oPn a < 31 by omega), if_neg (show ¬ oPn a < 61 by omega), if_neg (show ¬ a = 0 by omega), if_neg (show ¬ a < 31 by omega), if_neg (show ¬ a < 61 by omega)]
theorem GA_q {h : Hp} {a : Nat} (g : GA (qH h) (oPn a)) : GA h a := by
  have e62 : pOn 62 = 62 := by decide
  rcases g with g | g | g
  · have g : (hP h (pOn 62) 1).map oPn = some (oPn a) := g
    rw [e62] at g
    obtain ⟨x, g1, g2⟩ := Option.map_eq_some_iff.mp g
    exact Or.inl (by rw [g1, op_inj g2])
  · have g : (hP h (pOn 62) 2).map oPn = some (oPn a) := g
    rw [e62] at g
    obtain ⟨x, g1, g2⟩ := Option.map_eq_some_iff.mp g
    exact Or.inr (Or.inl (by rw [g1, op_inj g2]))
  · rw [hS_qo] at g
    exact Or.inr (Or.inr g)
theorem str_lt {own i k p : Nat} (e : strT own i = some (k, p)) : k < 30 := of_decide_eq_true ((Bool.and_eq_true _ _).mp (tab_in str_all rfl e).2).1
section RQS
variable {X : Ctx} {C : Orc} {y : Nat} {h : Hp}
theorem RQ_clS (hC : CQ C) {y' pc : Nat} {ls : LV} {st : List Value} (hy : y' < 247) (hq : mSta y' = true → mIni y' = false) : RQ (clS C y' pc (qLV ls) (qS st) (qH h)) (clS C y' pc ls st h) := by
  unfold clS
  rw [qS_len, qS_drop, qS_cat, qS_take]
  exact RQ_gd id fun z => RQ_bR2 (hC _ _ _ hy (hq z.1))
theorem RQ_clV (hC : CQ C) {y' pc : Nat} {ini : Bool} {ls : LV} {st : List Value} (hy : y' < 247) (hq : ini = decide ((mName y').name = "<init>") → mIni y' = false) : RQ (clV C y' ini pc (qLV ls) (qS st) (qH h)) (clV C y' ini pc ls st h) := by
  unfold clV
  rw [qS_len, qS_drop, qS_drop, qS_cat, qS_take]
  refine RQ_gd id fun z => RQ_pR fun a r => RQ_gd (fun w => by rw [rcv_q] at w; exact w) fun _ => ?_
  exact RQ_bR2 (hC y' (.ref a :: (st.take (mArg y')).reverse) h hy (hq z.2.2.2))
theorem RQ_mop {y' pc : Nat} {ls : LV} {st : List Value} : RQ (mop y' pc (qLV ls) (qS st) (qH h)) (mop y' pc ls st h) := by
  by_cases e1 : y' = 235
  · subst e1
    exact RQ_pI fun _ _ => RQ_gd (fun w => by rw [qS_cat] at w; exact w) fun _ => RQ_nx rfl rfl rfl
  by_cases e2 : y' = 236
  · subst e2
    exact RQ_pI fun _ _ => RQ_pI fun _ _ => RQ_gd (fun w => by rw [qS_cat] at w; exact w) fun _ => RQ_nx rfl rfl rfl
  by_cases e3 : y' = 237
  · subst e3
    exact RQ_pJ fun _ _ => RQ_pJ fun _ _ => RQ_gd (fun w => by rw [qS_cat] at w; exact w) fun _ => RQ_nx rfl rfl rfl
  by_cases e4 : y' = 238
  · subst e4
    exact RQ_pI fun _ _ => RQ_pI fun _ _ => RQ_gd (fun w => by rw [qS_cat] at w; exact w) fun _ => RQ_nx rfl rfl rfl
  by_cases e5 : y' = 239
  · subst e5
    exact RQ_pJ fun _ _ => RQ_pJ fun _ _ => RQ_gd (fun w => by rw [qS_cat] at w; exact w) fun _ => RQ_nx rfl rfl rfl
  intro o e
  unfold mop at e
  split at e
  · exact absurd rfl e1
  · exact absurd rfl e2
  · exact absurd rfl e3
  · exact absurd rfl e4
  · exact absurd rfl e5
  · cases e
theorem RQ_stpC (hC : CQ C) (hy : mIni y = false) {vir n pc : Nat} {ls : LV} {st : List Value} : RQ (stpC (X, C) y vir n pc (qLV ls) (qS st) (qH h)) (stpC (X, C) y vir n pc ls st h) := by
  intro o e
  unfold stpC at e
  split at e
  · next k qH' e1 =>
    have e2 := (gd_inv e).1.2
    rw [hy] at e2
    cases e2
  · next k qH' e1 =>
    unfold stpC
    rw [e1]
    revert e
    revert o
    refine RQ_gd id fun _ => RQ_pI fun n _ => RQ_pI fun dp _ => RQ_pR fun b _ => RQ_pI fun sp _ => RQ_pR fun a _ => ?_
    rw [hS_qo, hS_qo, hI_qo, hI_qo, hJ_qo, hJ_qo, qS_cat, q_rI, q_rJ]
    exact RQ_gd id fun _ => RQ_ite Iff.rfl (fun _ => RQ_nx rfl rfl rfl) fun _ => RQ_ite Iff.rfl (fun _ => RQ_nx rfl rfl rfl) fun _ => RQ_none
  · next y' k qH' x1 x2 e1 =>
    have hz := (tab_in mth_all rfl e1).2
    simp only [mthOK] at hz
    unfold stpC
    split
    · next k2 q2 e2 => rw [e1] at e2; cases e2; exact absurd rfl x1
    · next k2 q2 e2 => rw [e1] at e2; cases e2; exact absurd rfl x2
    · next y2 k2 q2 x3 x4 e2 =>
      rw [e1] at e2
      cases e2
      revert e
      revert o
      refine RQ_gd id fun hy2 => ?_
      have hy3 : y' < 248 := hy2
      rw [if_neg (by omega), if_neg (by omega), Bool.and_eq_true] at hz
      have hy1 : y' < 247 := of_decide_eq_true hz.1
      refine RQ_ite Iff.rfl (fun _ => RQ_gd id fun _ => RQ_mop) fun _ => RQ_ite Iff.rfl (fun _ => ?_) fun _ => RQ_gd id fun hv => ?_
      · refine RQ_clS hC hy1 fun hg => ini_of hy1 fun z => ?_
        have h9 := ((m_row hy1).2.2.2.2.2.2.2.2 z).2
        rw [h9] at hg
        exact absurd hg (by decide)
      · refine RQ_clV hC hy1 fun h4 => ini_of hy1 fun z => ?_
        have hv2 : vir ≠ 2 := fun w => by rw [hv w] at hy; cases hy
        rw [decide_eq_false hv2, decide_eq_true z] at h4
        cases h4
    · next e2 => rw [e1] at e2; cases e2
  · cases e
theorem RQ_stpF {n pc : Nat} {ls : LV} {st : List Value} : RQ (stpF y n pc (qLV ls) (qS st) (qH h)) (stpF y n pc ls st h) := by
  unfold stpF
  refine RQ_pR fun a r => RQ_ite op_lt61 (fun z => ?_) fun z => ?_
  · have ha : a < 61 := op_lt61.mp z
    rw [op_lo (show a < 62 by omega)]
    refine RQ_gd id fun g => ?_
    split
    · refine RQ_nx rfl ?_ rfl
      show Value.ref (a + 30) :: qS r = Value.ref (oPn (a + 30)) :: qS r
      rw [op_lo (show a + 30 < 62 by omega)]
    · exact RQ_nx rfl rfl rfl
    · exact RQ_none
  · cases fldT (mOwn y) n with
    | none => exact RQ_none
    | some f =>
      obtain ⟨ci, k, p⟩ := f
      refine RQ_gd (fun g => by rw [hS_qo] at g; exact g) fun _ => ?_
      rw [hI_qo, hJ_qo, hP_qo]
      split
      · exact RQ_nx rfl rfl rfl
      · exact RQ_nx rfl rfl rfl
      · exact RQ_nx rfl rfl rfl
      · exact RQ_oR fun _ => RQ_nx rfl rfl rfl
      · exact RQ_none
theorem RQ_stpG {n pc : Nat} {ls : LV} {st : List Value} : RQ (stpG y n pc (qLV ls) (qS st) (qH h)) (stpG y n pc ls st h) := by
  unfold stpG
  cases fldT (mOwn y) n with
  | none => exact RQ_none
  | some f =>
    obtain ⟨ci, k, p⟩ := f
    refine RQ_gd id fun _ => ?_
    split
    · exact RQ_pI fun _ _ => RQ_pR fun _ _ => RQ_gd (fun g => by rw [hS_qo, op_ge61] at g; exact g) fun _ => RQ_nx rfl rfl q_sI
    · exact RQ_pI fun _ _ => RQ_pR fun _ _ => RQ_gd (fun g => by rw [hS_qo, op_ge61] at g; exact g) fun _ => RQ_nx rfl rfl q_sI
    · exact RQ_pJ fun _ _ => RQ_pR fun _ _ => RQ_gd (fun g => by rw [hS_qo, op_ge61] at g; exact g) fun _ => RQ_nx rfl rfl q_sJ
    · exact RQ_pR fun _ _ => RQ_pR fun _ _ => RQ_gd (fun g => by rw [hS_qo, hS_qo, op_ge61] at g; exact g) fun _ => RQ_nx rfl rfl q_sP
    · exact RQ_none
theorem RQ_stpI (hC : CQ C) (hv : X.2.2 = .null ∨ X.2.2 = .ref 61) (hy : mIni y = false) {ins : Instr} {len pc : Nat} {ls : LV} {st : List Value} : RQ (stpI (X, C) y ins len pc (qLV ls) (qS st) (qH h)) (stpI (X, C) y ins len pc ls st h) := by
  have hyt : ∀ {P : Prop}, mIni y = true → P := fun z => by rw [hy] at z; cases z
  cases ins
  case new => simp only [stpI]; exact RQ_gd (fun z => hyt z.2) fun z => hyt z.2
  case newarray => simp only [stpI]; exact RQ_gd (fun z => hyt z.2) fun z => hyt z.2
  case anewarray => simp only [stpI]; exact RQ_gd (fun z => hyt z.2) fun z => hyt z.2
  case multianewarray => simp only [stpI]; exact RQ_gd (fun z => hyt z.2.2) fun z => hyt z.2.2
  case aastore =>
    simp only [stpI]
    refine RQ_gd id fun _ => RQ_pR fun v _ => RQ_pI fun i _ => RQ_pR fun a _ => RQ_gd (fun z => z.imp id GA_q) fun _ => RQ_gd (fun g => ?_) fun _ => RQ_nx rfl rfl q_sP
    rw [hS_qo, hS_qo, op_ge61, op_ge61] at g
    exact g
  case ldc i =>
    simp only [stpI]
    refine RQ_gd id fun _ => ?_
    cases cstT (mOwn y) i with
    | some c => exact RQ_nx rfl rfl rfl
    | none =>
      cases e : strT (mOwn y) i with
      | none => exact RQ_none
      | some k =>
        obtain ⟨k, p⟩ := k
        refine RQ_nx rfl ?_ rfl
        have hk := str_lt e
        show Value.ref (1 + k) :: qS st = Value.ref (oPn (1 + k)) :: qS st
        rw [op_lo (by omega)]
  case ldc_w i =>
    simp only [stpI]
    refine RQ_gd id fun _ => ?_
    cases cstT (mOwn y) i with
    | some c => exact RQ_nx rfl rfl rfl
    | none =>
      cases e : strT (mOwn y) i with
      | none => exact RQ_none
      | some k =>
        obtain ⟨k, p⟩ := k
        refine RQ_nx rfl ?_ rfl
        have hk := str_lt e
        show Value.ref (1 + k) :: qS st = Value.ref (oPn (1 + k)) :: qS st
        rw [op_lo (by omega)]
  case ldc2_w i =>
    simp only [stpI]
    refine RQ_gd id fun _ => ?_
    cases cslT (mOwn y) i with
    | some c => exact RQ_nx rfl rfl rfl
    | none => exact RQ_none
  case dup => simp only [stpI]; exact RQ_gd id fun _ => RQ_pV fun v _ => RQ_gd (fun z => by rw [qv_cat] at z; exact z) fun _ => RQ_nx rfl rfl rfl
  case dup2 => simp only [stpI]; exact RQ_gd id fun _ => RQ_pV fun v _ => RQ_pV fun w _ => RQ_gd (fun z => by rw [qv_cat, qv_cat] at z; exact z) fun _ => RQ_nx rfl rfl rfl
  case pop => simp only [stpI]; exact RQ_gd id fun _ => RQ_pV fun v _ => RQ_gd (fun z => by rw [qv_cat] at z; exact z) fun _ => RQ_nx rfl rfl rfl
  case tableswitch d lo hi offs =>
    simp only [stpI]
    refine RQ_pI fun x _ => RQ_ite Iff.rfl (fun _ => RQ_jmp fun _ => RQ_nx rfl rfl rfl) fun _ => ?_
    cases offs[(x.toInt - lo).toNat]? with
    | some off => exact RQ_jmp fun _ => RQ_nx rfl rfl rfl
    | none => exact RQ_none
  case iaload =>
    simp only [stpI]
    refine RQ_gd id fun _ => RQ_pI fun i _ => RQ_pR fun a _ => RQ_ite op_0 (fun _ => RQ_gd id fun _ => RQ_nx rfl rfl rfl) fun _ => RQ_gd (fun g => by rw [hS_qo, op_ge61] at g; exact g) fun _ => ?_
    rw [hI_qo]
    exact RQ_nx rfl rfl rfl
  case baload =>
    simp only [stpI]
    refine RQ_gd id fun _ => RQ_pI fun i _ => RQ_pR fun a _ => RQ_ite op_lt61 (fun z => ?_) fun _ => RQ_gd (fun g => by rw [hS_qo] at g; exact g) fun _ => ?_
    · rw [op_lo (show a < 62 by have := op_lt61.mp z; omega)]
      exact RQ_gd id fun _ => RQ_nx rfl rfl rfl
    · rw [hI_qo]
      exact RQ_nx rfl rfl rfl
  case laload =>
    simp only [stpI]
    refine RQ_gd id fun _ => RQ_pI fun i _ => RQ_pR fun a _ => RQ_gd (fun g => by rw [hS_qo, op_ge61] at g; exact g) fun _ => ?_
    rw [hJ_qo]
    exact RQ_nx rfl rfl rfl
  case aaload =>
    simp only [stpI]
    refine RQ_gd id fun _ => RQ_pI fun i _ => RQ_pR fun a _ => RQ_gd (fun g => by rw [hS_qo, op_ge61] at g; exact g) fun _ => ?_
    rw [hP_qo]
    exact RQ_oR fun _ => RQ_nx rfl rfl rfl
  case iastore =>
    simp only [stpI]
    exact RQ_gd id fun _ => RQ_pI fun v _ => RQ_pI fun i _ => RQ_pR fun a _ => RQ_gd (fun g => by rw [hS_qo, op_ge61] at g; exact g) fun _ => RQ_nx rfl rfl q_sI
  case bastore =>
    simp only [stpI]
    exact RQ_gd id fun _ => RQ_pI fun v _ => RQ_pI fun i _ => RQ_pR fun a _ => RQ_gd (fun g => by rw [hS_qo, op_ge61] at g; exact g) fun _ => RQ_nx rfl rfl q_sI
  case lastore =>
    simp only [stpI]
    exact RQ_gd id fun _ => RQ_pJ fun v _ => RQ_pI fun i _ => RQ_pR fun a _ => RQ_gd (fun g => by rw [hS_qo, op_ge61] at g; exact g) fun _ => RQ_nx rfl rfl q_sJ
  case arraylength =>
    simp only [stpI]
    refine RQ_gd id fun _ => RQ_pR fun a _ => ?_
    rw [alen_q]
    cases alen X h a with
    | some n => exact RQ_nx rfl rfl rfl
    | none => exact RQ_none
  case getfield => simp only [stpI]; exact RQ_gd id fun _ => RQ_stpF
  case putfield => simp only [stpI]; exact RQ_gd id fun _ => RQ_stpG
  case getstatic i =>
    simp only [stpI]
    refine RQ_gd id fun _ => ?_
    have e9 : qv X.2.2 = X.2.2 := by
      rcases hv with z | z <;> rw [z]
      · rfl
      · exact congrArg Value.ref (op_lo (by decide))
    split
    · exact RQ_nx rfl rfl rfl
    · refine RQ_nx rfl ?_ rfl
      show X.2.2 :: qS st = qv X.2.2 :: qS st
      rw [e9]
    · exact RQ_none
  case invokestatic => simp only [stpI]; exact RQ_gd id fun _ => RQ_stpC hC hy
  case invokevirtual => simp only [stpI]; exact RQ_gd id fun _ => RQ_stpC hC hy
  case invokespecial => simp only [stpI]; exact RQ_gd id fun _ => RQ_stpC hC hy
  case ireturn =>
    simp only [stpI]
    refine RQ_gd id fun _ => RQ_pI fun x r => ?_
    cases r with
    | cons v t => exact RQ_none
    | nil =>
      cases mRet y with
      | none => exact RQ_none
      | some t =>
        cases t with
        | int => exact RQ_rt rfl rfl
        | boolean => exact RQ_gd id fun _ => RQ_rt rfl rfl
        | byte => exact RQ_gd id fun _ => RQ_rt rfl rfl
        | char => exact RQ_gd id fun _ => RQ_rt rfl rfl
        | _ => exact RQ_none
  case lreturn =>
    simp only [stpI]
    refine RQ_gd id fun _ => RQ_pJ fun x r => ?_
    cases r with
    | cons v t => exact RQ_none
    | nil =>
      cases mRet y with
      | none => exact RQ_none
      | some t =>
        cases t with
        | long => exact RQ_rt rfl rfl
        | _ => exact RQ_none
  case areturn =>
    simp only [stpI]
    refine RQ_gd id fun _ => RQ_pR fun x r => ?_
    cases r with
    | cons v t => exact RQ_none
    | nil =>
      cases mRet y with
      | none => exact RQ_none
      | some t =>
        cases t with
        | object c => exact RQ_rt rfl rfl
        | _ => exact RQ_none
  case return_ =>
    simp only [stpI]
    refine RQ_gd id fun _ => ?_
    cases st with
    | cons v t => exact RQ_none
    | nil =>
      cases mRet y with
      | none => exact RQ_rt rfl rfl
      | some t => exact RQ_none
  all_goals (simp only [stpI])
  all_goals repeat' with_reducible first
    | exact RQ_none
    | exact RQ_nx rfl rfl rfl
    | refine RQ_gd id fun _ => ?_
    | refine RQ_pI fun _ _ => ?_
    | refine RQ_pJ fun _ _ => ?_
    | refine RQ_pR fun _ _ => ?_
    | refine RQ_pV fun _ _ => ?_
    | refine RQ_lI fun _ => ?_
    | refine RQ_lR fun _ => ?_
    | refine RQ_lJ fun _ => ?_
    | refine RQ_tI rfl fun _ => ?_
    | refine RQ_tJ rfl fun _ => ?_
    | refine RQ_jmp fun _ => ?_
    | refine RQ_ite Iff.rfl (fun _ => ?_) fun _ => ?_
  all_goals first
    | exact RQ_none
    | exact RQ_nx rfl rfl rfl
    | exact RQ_tI rfl fun _ => RQ_nx rfl rfl rfl
    | exact RQ_tJ rfl fun _ => RQ_nx rfl rfl rfl
theorem run_q (hC : CQ C) (hv : X.2.2 = .null ∨ X.2.2 = .ref 61) (hy : mIni y = false) : ∀ (n : Nat) (s : MSt) (r : Option Value × Hp), run (X, C) y n (s.1, qLV s.2.1, qS s.2.2.1, qH s.2.2.2) = some r → ∃ r', run (X, C) y n s = some r' ∧ (r'.1.map qv, qH r'.2) = r
  | 0, _, _, e => by cases e
  | n + 1, s, r, e => by
    unfold run stp at e ⊢
    cases hd : decode (mCode y) s.1 with
    | error z => simp only [hd] at e; cases e
    | ok z =>
      obtain ⟨ins, len⟩ := z
      simp only [hd] at e ⊢
      have hR := RQ_stpI (X := X) (h := s.2.2.2) hC hv hy (ins := ins) (len := len) (pc := s.1) (ls := s.2.1) (st := s.2.2.1)
      cases hs : stpI (X, C) y ins len s.1 (qLV s.2.1) (qS s.2.2.1) (qH s.2.2.2) with
      | none => simp only [hs] at e; cases e
      | some o =>
        simp only [hs] at e
        obtain ⟨o', e1, e2⟩ := hR o hs
        simp only [e1]
        cases o' with
        | inl s' =>
          cases e2
          exact run_q hC hv hy n s' r e
        | inr r' =>
          cases e2
          cases e
          exact ⟨r', rfl, rfl⟩
end RQS
theorem lvE_q : ∀ vs : List Value, lvE (qS vs) = qLV (lvE vs)
  | [] => rfl
  | v :: vs => by
    have ih := lvE_q vs
    cases v with
    | int x => exact congrArg (fun l => some (Value.int x) :: l) ih
    | long x => exact congrArg (fun l => some (Value.long x) :: none :: l) ih
    | float x => exact congrArg (fun l => some (Value.float x) :: l) ih
    | double x => exact congrArg (fun l => some (Value.double x) :: none :: l) ih
    | null => exact congrArg (fun l => some Value.null :: l) ih
    | ref x => exact congrArg (fun l => some (Value.ref (oPn x)) :: l) ih
    | retAddr x => exact congrArg (fun l => some (Value.retAddr x) :: l) ih
theorem ent_q {y : Nat} {vs : List Value} : ent y (qS vs) = qLV (ent y vs) := by
  unfold ent
  rw [lvE_q, qL_len]
  unfold qLV
  rw [List.map_append, List.map_replicate]
  rfl
/-- a method that makes nothing answers alike -/
theorem K_q {X : Ctx} (hv : X.2.2 = .null ∨ X.2.2 = .ref 61) : ∀ d : Nat, CQ (K X d)
  | 0 => fun y vs h _ _ v h1 e => by cases e
  | d + 1 => fun y vs h hy hq v h1 e => by
    have e : gd ((lvE (qS vs)).length ≤ mLoc y) (sem (X, K X d) y 0 (ent y (qS vs)) [] (qH h)) = some (v, h1) := e
    obtain ⟨e1, e2⟩ := gd_inv e
    obtain ⟨n, hn⟩ := semS_iff.mp e2
    rw [ent_q] at hn
    obtain ⟨r', e3, e4⟩ := run_q (K_q hv d) hv hq n (0, ent y vs, [], h) _ hn
    cases e4
    refine ⟨r'.1, r'.2, ?_, rfl, rfl⟩
    rw [lvE_q, qL_len] at e1
    show gd ((lvE vs).length ≤ mLoc y) (sem (X, K X d) y 0 (ent y vs) [] h) = _
    rw [gd_t e1]
    exact semS_iff.mpr ⟨n, e3⟩
