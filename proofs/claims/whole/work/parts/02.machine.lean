/-! THE ABSTRACT MACHINE: heaps of typed stores, one step, runs, what a method comes to -/
abbrev LV : Type := List (Option Value)
/-- shapes (tag, length), ints, longs, references, how many objects, how many slots -/
abbrev Hp : Type := (Nat → Nat × Nat) × (Nat → Nat → Int32) × (Nat → Nat → Int64) × (Nat → Nat → Option Nat) × Nat × Nat
/-- the script's length, the script, the formatter that checkIndex is handed -/
abbrev Ctx : Type := Nat × (Nat → Int32) × Value
abbrev Orc : Type := Nat → List Value → Hp → Option (Option Value × Hp)
abbrev Env2 : Type := Ctx × Orc
abbrev MSt : Type := Nat × LV × List Value × Hp
abbrev MOut : Type := MSt ⊕ (Option Value × Hp)
def hS (h : Hp) (a : Nat) : Nat × Nat := h.1 a
def hI (h : Hp) (a : Nat) : Nat → Int32 := h.2.1 a
def hJ (h : Hp) (a : Nat) : Nat → Int64 := h.2.2.1 a
def hP (h : Hp) (a : Nat) : Nat → Option Nat := h.2.2.2.1 a
def hN (h : Hp) : Nat := h.2.2.2.2.1
def hK (h : Hp) : Nat := h.2.2.2.2.2
def up1 {α : Type} (f : Nat → α) (k : Nat) (v : α) : Nat → α := fun j => if j = k then v else f j
def up2 {α : Type} (f : Nat → Nat → α) (a k : Nat) (v : α) : Nat → Nat → α := fun b => if b = a then up1 (f a) k v else f b
def sI (h : Hp) (a k : Nat) (v : Int32) : Hp := (h.1, up2 h.2.1 a k v, h.2.2.1, h.2.2.2.1, h.2.2.2.2.1, h.2.2.2.2.2)
def sJ (h : Hp) (a k : Nat) (v : Int64) : Hp := (h.1, h.2.1, up2 h.2.2.1 a k v, h.2.2.2.1, h.2.2.2.2.1, h.2.2.2.2.2)
def sP (h : Hp) (a k : Nat) (v : Option Nat) : Hp := (h.1, h.2.1, h.2.2.1, up2 h.2.2.2.1 a k v, h.2.2.2.2.1, h.2.2.2.2.2)
/-- a whole row of ints or longs anew -/
def rI (h : Hp) (a : Nat) (f : Nat → Int32) : Hp := (h.1, up1 h.2.1 a f, h.2.2.1, h.2.2.2.1, h.2.2.2.2.1, h.2.2.2.2.2)
def rJ (h : Hp) (a : Nat) (f : Nat → Int64) : Hp := (h.1, h.2.1, up1 h.2.2.1 a f, h.2.2.2.1, h.2.2.2.2.1, h.2.2.2.2.2)
/-- one object more -/
def alc (h : Hp) (sh : Nat × Nat) (w : Nat) : Hp := (up1 h.1 h.2.2.2.2.1 sh, up1 h.2.1 h.2.2.2.2.1 (fun _ => 0), up1 h.2.2.1 h.2.2.2.2.1 (fun _ => 0), up1 h.2.2.2.1 h.2.2.2.2.1 (fun _ => none), h.2.2.2.2.1 + 1, h.2.2.2.2.2 + w)
def alcs (sh : Nat × Nat) (w : Nat) : Nat → Hp → Hp
  | 0, h => h
  | n + 1, h => alcs sh w n (alc h sh w)
/-- references base, base + 1 .. into a row -/
def lnk (h : Hp) (a base : Nat) : Hp := (h.1, h.2.1, h.2.2.1, up1 h.2.2.2.1 a (fun k => if k < (h.1 a).2 then some (base + k) else none), h.2.2.2.2.1, h.2.2.2.2.2)
section MDefs
variable {α : Type}
def gd (c : Prop) [Decidable c] (x : Option α) : Option α := if c then x else none
def pI (st : List Value) (k : Int32 → List Value → Option α) : Option α := match st with
  | .int x :: r => k x r
  | _ => none
def pJ (st : List Value) (k : Int64 → List Value → Option α) : Option α := match st with
  | .long x :: r => k x r
  | _ => none
def pR (st : List Value) (k : Nat → List Value → Option α) : Option α := match st with
  | .ref x :: r => k x r
  | _ => none
def pV (st : List Value) (k : Value → List Value → Option α) : Option α := match st with
  | v :: r => k v r
  | _ => none
def lI (ls : LV) (i : Nat) (k : Int32 → Option α) : Option α := match ls[i]? with
  | some (some (.int x)) => k x
  | _ => none
def lJ (ls : LV) (i : Nat) (k : Int64 → Option α) : Option α := match ls[i]?, ls[i + 1]? with
  | some (some (.long x)), some none => k x
  | _, _ => none
def lR (ls : LV) (i : Nat) (k : Nat → Option α) : Option α := match ls[i]? with
  | some (some (.ref x)) => k x
  | _ => none
def tI (ls : LV) (i : Nat) (v : Value) (k : LV → Option α) : Option α := gd (i < ls.length) (k (ls.set i (some v)))
def tJ (ls : LV) (i : Nat) (v : Value) (k : LV → Option α) : Option α := gd (i + 1 < ls.length) (k ((ls.set i (some v)).set (i + 1) none))
def bI (o : Option (Option Value × Hp)) (k : Int32 → Hp → Option α) : Option α := match o with
  | some (some (.int x), h) => k x h
  | _ => none
def bJ (o : Option (Option Value × Hp)) (k : Int64 → Hp → Option α) : Option α := match o with
  | some (some (.long x), h) => k x h
  | _ => none
def bR (o : Option (Option Value × Hp)) (k : Nat → Hp → Option α) : Option α := match o with
  | some (some (.ref x), h) => k x h
  | _ => none
def bV (o : Option (Option Value × Hp)) (k : Hp → Option α) : Option α := match o with
  | some (none, h) => k h
  | _ => none
/-- a reference out of a store: null is stuck -/
def oR (r : Option Nat) (k : Nat → Option α) : Option α := match r with
  | some x => k x
  | none => none
def jmp (pc : Nat) (off : Int) (k : Nat → Option α) : Option α := gd (0 ≤ (pc : Int) + off) (k ((pc : Int) + off).toNat)
end MDefs
abbrev inb (i : Int32) (n : Nat) : Prop := ¬ (i < 0 ∨ n ≤ i.toNatClampNeg)
abbrev okN (ty : FieldType) (x : Int32) : Prop := narrow ty (.int x) = .int x
def nx (pc : Nat) (ls : LV) (st : List Value) (h : Hp) : Option MOut := some (.inl (pc, ls, st, h))
def rt (v : Option Value) (h : Hp) : Option MOut := some (.inr (v, h))
def cnd (c : ClassFile.Cond) (x y : Int32) : Bool := match c with
  | .eq => decide (x = y)
  | .ne => decide (¬ x = y)
  | .lt => decide (x < y)
  | .ge => decide (y ≤ x)
  | .gt => decide (y < x)
  | .le => decide (x ≤ y)
