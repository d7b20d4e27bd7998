/-! ROWS OF THE ABSTRACT MACHINE: an instruction, an equation -/
def bRI (o : Option (Option Value × Hp)) (pc : Nat) (ls : LV) (st : List Value) : Option MOut := bI o fun x h => nx pc ls (.int x :: st) h
def bRJ (o : Option (Option Value × Hp)) (pc : Nat) (ls : LV) (st : List Value) : Option MOut := bJ o fun x h => nx pc ls (.long x :: st) h
def bRR (o : Option (Option Value × Hp)) (pc : Nat) (ls : LV) (st : List Value) : Option MOut := bR o fun x h => nx pc ls (.ref x :: st) h
def bRV (o : Option (Option Value × Hp)) (pc : Nat) (ls : LV) (st : List Value) : Option MOut := bV o fun h => nx pc ls st h
section SR
variable {E : Env2} {y pc : Nat} {ls : LV} {st : List Value} {h : Hp} {b : ByteArray}
theorem goM_gd (c : Prop) [Decidable c] (o : Option MOut) (f : MSt → Option (Option Value × Hp)) : goM E y (gd c o) f = gd c (goM E y o f) := by
  unfold gd
  by_cases hc : c
  · rw [if_pos hc, if_pos hc]
  · rw [if_neg hc, if_neg hc]; rfl
theorem goM_ite (c : Prop) [Decidable c] (o o' : Option MOut) (f : MSt → Option (Option Value × Hp)) : goM E y (if c then o else o') f = if c then goM E y o f else goM E y o' f := by
  by_cases hc : c
  · rw [if_pos hc, if_pos hc]
  · rw [if_neg hc, if_neg hc]
theorem goM_nx (pc' : Nat) (f : MSt → Option (Option Value × Hp)) : goM E y (nx pc' ls st h) f = f (pc', ls, st, h) := rfl
theorem goM_rt (v : Option Value) (f : MSt → Option (Option Value × Hp)) : goM E y (rt v h) f = some (v, h) := rfl
theorem goM_bRI (o : Option (Option Value × Hp)) (pc' : Nat) (f : MSt → Option (Option Value × Hp)) : goM E y (bRI o pc' ls st) f = bI o fun x h => f (pc', ls, .int x :: st, h) := by
  unfold bRI bI
  split <;> rfl
theorem goM_bRJ (o : Option (Option Value × Hp)) (pc' : Nat) (f : MSt → Option (Option Value × Hp)) : goM E y (bRJ o pc' ls st) f = bJ o fun x h => f (pc', ls, .long x :: st, h) := by
  unfold bRJ bJ
  split <;> rfl
theorem goM_bRR (o : Option (Option Value × Hp)) (pc' : Nat) (f : MSt → Option (Option Value × Hp)) : goM E y (bRR o pc' ls st) f = bR o fun x h => f (pc', ls, .ref x :: st, h) := by
  unfold bRR bR
  split <;> rfl
theorem goM_bRV (o : Option (Option Value × Hp)) (pc' : Nat) (f : MSt → Option (Option Value × Hp)) : goM E y (bRV o pc' ls st) f = bV o fun h => f (pc', ls, st, h) := by
  unfold bRV bV
  split <;> rfl
theorem gd_T {α : Type} {i : Decidable True} (x : Option α) : @gd α True i x = x := if_pos trivial
theorem gd_t {α : Type} {c : Prop} [Decidable c] (hc : c) (x : Option α) : gd c x = x := if_pos hc
theorem s_iconst {n : Int} (pc' : Nat) (v : Int32) (hb : mCode y = b) (hd : decode b pc = .ok (.iconst n, 1)) (hp : pc + 1 = pc') (hv : Int32.ofInt n = v) : sem E y pc ls st h = sem E y pc' ls (.int v :: st) h := by
  subst hp; subst hv
  rw [sem_eq hb hd]
  rfl
theorem s_bipush {n : Int} (pc' : Nat) (v : Int32) (hb : mCode y = b) (hd : decode b pc = .ok (.bipush n, 2)) (hp : pc + 2 = pc') (hv : (Int8.ofInt n).toInt32 = v) : sem E y pc ls st h = sem E y pc' ls (.int v :: st) h := by
  subst hp; subst hv
  rw [sem_eq hb hd]
  rfl
theorem s_sipush {n : Int} (pc' : Nat) (v : Int32) (hb : mCode y = b) (hd : decode b pc = .ok (.sipush n, 3)) (hp : pc + 3 = pc') (hv : (Int16.ofInt n).toInt32 = v) : sem E y pc ls st h = sem E y pc' ls (.int v :: st) h := by
  subst hp; subst hv
  rw [sem_eq hb hd]
  rfl
theorem s_lconst {n : Fin 2} (pc' : Nat) (v : Int64) (hb : mCode y = b) (hd : decode b pc = .ok (.lconst n, 1)) (hp : pc + 1 = pc') (hv : Int64.ofNat (n : Nat) = v) : sem E y pc ls st h = sem E y pc' ls (.long v :: st) h := by
  subst hp; subst hv
  rw [sem_eq hb hd]
  rfl
theorem s_aload_n {k : Fin 4} {i : Nat} {x : Nat} (pc' : Nat) (hb : mCode y = b) (hd : decode b pc = .ok (.aload_n k, 1)) (hp : pc + 1 = pc') (hi : (k : Nat) = i) (hl : ls[i]? = some (some (.ref x))) : sem E y pc ls st h = sem E y pc' ls (.ref x :: st) h := by
  subst hi; subst hp
  rw [sem_eq hb hd]
  simp only [stpI, gd, lR, hl, if_true]
  rfl
theorem s_aload {i : Nat} {x : Nat} (pc' : Nat) (hb : mCode y = b) (hd : decode b pc = .ok (.aload i, 2)) (hp : pc + 2 = pc') (hl : ls[i]? = some (some (.ref x))) : sem E y pc ls st h = sem E y pc' ls (.ref x :: st) h := by
  subst hp
  rw [sem_eq hb hd]
  simp only [stpI, gd, lR, hl, if_true]
  rfl
theorem s_iload_n {k : Fin 4} {i : Nat} {x : Int32} (pc' : Nat) (hb : mCode y = b) (hd : decode b pc = .ok (.iload_n k, 1)) (hp : pc + 1 = pc') (hi : (k : Nat) = i) (hl : ls[i]? = some (some (.int x))) : sem E y pc ls st h = sem E y pc' ls (.int x :: st) h := by
  subst hi; subst hp
  rw [sem_eq hb hd]
  simp only [stpI, gd, lI, hl, if_true]
  rfl
theorem s_iload {i : Nat} {x : Int32} (pc' : Nat) (hb : mCode y = b) (hd : decode b pc = .ok (.iload i, 2)) (hp : pc + 2 = pc') (hl : ls[i]? = some (some (.int x))) : sem E y pc ls st h = sem E y pc' ls (.int x :: st) h := by
  subst hp
  rw [sem_eq hb hd]
  simp only [stpI, gd, lI, hl, if_true]
  rfl
theorem s_lload_n {k : Fin 4} {i : Nat} {x : Int64} (pc' : Nat) (hb : mCode y = b) (hd : decode b pc = .ok (.lload_n k, 1)) (hp : pc + 1 = pc') (hi : (k : Nat) = i) (hl : ls[i]? = some (some (.long x))) (hl2 : ls[i + 1]? = some none) : sem E y pc ls st h = sem E y pc' ls (.long x :: st) h := by
  subst hi; subst hp
  rw [sem_eq hb hd]
  simp only [stpI, gd, lJ, hl, hl2, if_true]
  rfl
theorem s_lload {i : Nat} {x : Int64} (pc' : Nat) (hb : mCode y = b) (hd : decode b pc = .ok (.lload i, 2)) (hp : pc + 2 = pc') (hl : ls[i]? = some (some (.long x))) (hl2 : ls[i + 1]? = some none) : sem E y pc ls st h = sem E y pc' ls (.long x :: st) h := by
  subst hp
  rw [sem_eq hb hd]
  simp only [stpI, gd, lJ, hl, hl2, if_true]
  rfl
theorem s_istore_n {k : Fin 4} {i : Nat} {x : Int32} {ls' : LV} (pc' : Nat) (hb : mCode y = b) (hd : decode b pc = .ok (.istore_n k, 1)) (hp : pc + 1 = pc') (hi : (k : Nat) = i) (hn : i < ls.length) (hl : ls.set i (some (.int x)) = ls') : sem E y pc ls (.int x :: st) h = sem E y pc' ls' st h := by
  subst hi; subst hp; subst hl
  rw [sem_eq hb hd]
  simp only [stpI, gd, pI, tI, if_true, if_pos hn]
  rfl
theorem s_istore {i : Nat} {x : Int32} {ls' : LV} (pc' : Nat) (hb : mCode y = b) (hd : decode b pc = .ok (.istore i, 2)) (hp : pc + 2 = pc') (hn : i < ls.length) (hl : ls.set i (some (.int x)) = ls') : sem E y pc ls (.int x :: st) h = sem E y pc' ls' st h := by
  subst hp; subst hl
  rw [sem_eq hb hd]
  simp only [stpI, gd, pI, tI, if_true, if_pos hn]
  rfl
theorem s_astore_n {k : Fin 4} {i : Nat} {x : Nat} {ls' : LV} (pc' : Nat) (hb : mCode y = b) (hd : decode b pc = .ok (.astore_n k, 1)) (hp : pc + 1 = pc') (hi : (k : Nat) = i) (hn : i < ls.length) (hl : ls.set i (some (.ref x)) = ls') : sem E y pc ls (.ref x :: st) h = sem E y pc' ls' st h := by
  subst hi; subst hp; subst hl
  rw [sem_eq hb hd]
  simp only [stpI, gd, pR, tI, if_true, if_pos hn]
  rfl
theorem s_astore {i : Nat} {x : Nat} {ls' : LV} (pc' : Nat) (hb : mCode y = b) (hd : decode b pc = .ok (.astore i, 2)) (hp : pc + 2 = pc') (hn : i < ls.length) (hl : ls.set i (some (.ref x)) = ls') : sem E y pc ls (.ref x :: st) h = sem E y pc' ls' st h := by
  subst hp; subst hl
  rw [sem_eq hb hd]
  simp only [stpI, gd, pR, tI, if_true, if_pos hn]
  rfl
theorem s_lstore_n {k : Fin 4} {i : Nat} {x : Int64} {ls' : LV} (pc' : Nat) (hb : mCode y = b) (hd : decode b pc = .ok (.lstore_n k, 1)) (hp : pc + 1 = pc') (hi : (k : Nat) = i) (hn : i + 1 < ls.length) (hl : (ls.set i (some (.long x))).set (i + 1) none = ls') : sem E y pc ls (.long x :: st) h = sem E y pc' ls' st h := by
  subst hi; subst hp; subst hl
  rw [sem_eq hb hd]
  simp only [stpI, gd, pJ, tJ, if_true, if_pos hn]
  rfl
theorem s_lstore {i : Nat} {x : Int64} {ls' : LV} (pc' : Nat) (hb : mCode y = b) (hd : decode b pc = .ok (.lstore i, 2)) (hp : pc + 2 = pc') (hn : i + 1 < ls.length) (hl : (ls.set i (some (.long x))).set (i + 1) none = ls') : sem E y pc ls (.long x :: st) h = sem E y pc' ls' st h := by
  subst hp; subst hl
  rw [sem_eq hb hd]
  simp only [stpI, gd, pJ, tJ, if_true, if_pos hn]
  rfl
theorem s_iinc {i : Nat} {n : Int} {x : Int32} {ls' : LV} (v : Int32) (pc' : Nat) (hb : mCode y = b) (hd : decode b pc = .ok (.iinc i n, 3)) (hp : pc + 3 = pc') (hg : ls[i]? = some (some (.int x))) (hn : i < ls.length) (hv : Int32.ofInt n = v) (hl : ls.set i (some (.int (x + v))) = ls') : sem E y pc ls st h = sem E y pc' ls' st h := by
  subst hp; subst hv; subst hl
  rw [sem_eq hb hd]
  simp only [stpI, gd, lI, hg, tI, if_true, if_pos hn]
  rfl
theorem s_ldc {i : Nat} {own : Nat} {w : Int} {q : Nat} (pc' : Nat) (v : Int32) (hb : mCode y = b) (hd : decode b pc = .ok (.ldc i, 2)) (hp : pc + 2 = pc') (ho : mOwn y = own) (hc : cstT own i = some (w, q)) (hv : Int32.ofInt w = v) : sem E y pc ls st h = sem E y pc' ls (.int v :: st) h := by
  subst hp; subst hv; subst ho
  rw [sem_eq hb hd]
  simp only [stpI, gd, hc, if_true]
  rfl
theorem s_ldc_w {i : Nat} {own : Nat} {w : Int} {q : Nat} (pc' : Nat) (v : Int32) (hb : mCode y = b) (hd : decode b pc = .ok (.ldc_w i, 3)) (hp : pc + 3 = pc') (ho : mOwn y = own) (hc : cstT own i = some (w, q)) (hv : Int32.ofInt w = v) : sem E y pc ls st h = sem E y pc' ls (.int v :: st) h := by
  subst hp; subst hv; subst ho
  rw [sem_eq hb hd]
  simp only [stpI, gd, hc, if_true]
  rfl
theorem s_ldcS {i : Nat} {own : Nat} {k q a : Nat} (pc' : Nat) (hb : mCode y = b) (hd : decode b pc = .ok (.ldc i, 2)) (hp : pc + 2 = pc') (ho : mOwn y = own) (hc : cstT own i = none) (hc2 : strT own i = some (k, q)) (hk : 1 + k = a) : sem E y pc ls st h = sem E y pc' ls (.ref a :: st) h := by
  subst hp; subst hk; subst ho
  rw [sem_eq hb hd]
  simp only [stpI, gd, hc, hc2, if_true]
  rfl
theorem s_ldcSw {i : Nat} {own : Nat} {k q a : Nat} (pc' : Nat) (hb : mCode y = b) (hd : decode b pc = .ok (.ldc_w i, 3)) (hp : pc + 3 = pc') (ho : mOwn y = own) (hc : cstT own i = none) (hc2 : strT own i = some (k, q)) (hk : 1 + k = a) : sem E y pc ls st h = sem E y pc' ls (.ref a :: st) h := by
  subst hp; subst hk; subst ho
  rw [sem_eq hb hd]
  simp only [stpI, gd, hc, hc2, if_true]
  rfl
theorem s_ldc2_w {i : Nat} {own : Nat} {w : Int} {q : Nat} (pc' : Nat) (v : Int64) (hb : mCode y = b) (hd : decode b pc = .ok (.ldc2_w i, 3)) (hp : pc + 3 = pc') (ho : mOwn y = own) (hc : cslT own i = some (w, q)) (hv : Int64.ofInt w = v) : sem E y pc ls st h = sem E y pc' ls (.long v :: st) h := by
  subst hp; subst hv; subst ho
  rw [sem_eq hb hd]
  simp only [stpI, gd, hc, if_true]
  rfl
theorem s_dup {v : Value} (pc' : Nat) (hb : mCode y = b) (hd : decode b pc = .ok (.dup, 1)) (hp : pc + 1 = pc') (hv : v.category = 1) : sem E y pc ls (v :: st) h = sem E y pc' ls (v :: v :: st) h := by
  subst hp
  rw [sem_eq hb hd]
  simp only [stpI, gd, pV, if_true, if_pos hv]
  rfl
theorem s_dup2 {v w : Value} (pc' : Nat) (hb : mCode y = b) (hd : decode b pc = .ok (.dup2, 1)) (hp : pc + 1 = pc') (hv : v.category = 1) (hw : w.category = 1) : sem E y pc ls (v :: w :: st) h = sem E y pc' ls (v :: w :: v :: w :: st) h := by
  subst hp
  rw [sem_eq hb hd]
  simp only [stpI, gd, pV, if_true, if_pos (And.intro hv hw)]
  rfl
theorem s_pop {v : Value} (pc' : Nat) (hb : mCode y = b) (hd : decode b pc = .ok (.pop, 1)) (hp : pc + 1 = pc') (hv : v.category = 1) : sem E y pc ls (v :: st) h = sem E y pc' ls st h := by
  subst hp
  rw [sem_eq hb hd]
  simp only [stpI, gd, pV, if_true, if_pos hv]
  rfl
theorem s_pop2 {x : Int64} (pc' : Nat) (hb : mCode y = b) (hd : decode b pc = .ok (.pop2, 1)) (hp : pc + 1 = pc') : sem E y pc ls (.long x :: st) h = sem E y pc' ls (st) h := by
  subst hp
  rw [sem_eq hb hd]
  rfl
theorem s_iadd {a c : Int32} (pc' : Nat) (hb : mCode y = b) (hd : decode b pc = .ok (.iadd, 1)) (hp : pc + 1 = pc') : sem E y pc ls (.int c :: .int a :: st) h = sem E y pc' ls (.int (a + c) :: st) h := by
  subst hp
  rw [sem_eq hb hd]
  rfl
theorem s_isub {a c : Int32} (pc' : Nat) (hb : mCode y = b) (hd : decode b pc = .ok (.isub, 1)) (hp : pc + 1 = pc') : sem E y pc ls (.int c :: .int a :: st) h = sem E y pc' ls (.int (a - c) :: st) h := by
  subst hp
  rw [sem_eq hb hd]
  rfl
theorem s_imul {a c : Int32} (pc' : Nat) (hb : mCode y = b) (hd : decode b pc = .ok (.imul, 1)) (hp : pc + 1 = pc') : sem E y pc ls (.int c :: .int a :: st) h = sem E y pc' ls (.int (a * c) :: st) h := by
  subst hp
  rw [sem_eq hb hd]
  rfl
theorem s_iand {a c : Int32} (pc' : Nat) (hb : mCode y = b) (hd : decode b pc = .ok (.iand, 1)) (hp : pc + 1 = pc') : sem E y pc ls (.int c :: .int a :: st) h = sem E y pc' ls (.int (a &&& c) :: st) h := by
  subst hp
  rw [sem_eq hb hd]
  rfl
theorem s_ior {a c : Int32} (pc' : Nat) (hb : mCode y = b) (hd : decode b pc = .ok (.ior, 1)) (hp : pc + 1 = pc') : sem E y pc ls (.int c :: .int a :: st) h = sem E y pc' ls (.int (a ||| c) :: st) h := by
  subst hp
  rw [sem_eq hb hd]
  rfl
theorem s_ixor {a c : Int32} (pc' : Nat) (hb : mCode y = b) (hd : decode b pc = .ok (.ixor, 1)) (hp : pc + 1 = pc') : sem E y pc ls (.int c :: .int a :: st) h = sem E y pc' ls (.int (a ^^^ c) :: st) h := by
  subst hp
  rw [sem_eq hb hd]
  rfl
theorem s_ishl {a c : Int32} (pc' : Nat) (hb : mCode y = b) (hd : decode b pc = .ok (.ishl, 1)) (hp : pc + 1 = pc') : sem E y pc ls (.int c :: .int a :: st) h = sem E y pc' ls (.int (a <<< (c &&& 31)) :: st) h := by
  subst hp
  rw [sem_eq hb hd]
  rfl
theorem s_ishr {a c : Int32} (pc' : Nat) (hb : mCode y = b) (hd : decode b pc = .ok (.ishr, 1)) (hp : pc + 1 = pc') : sem E y pc ls (.int c :: .int a :: st) h = sem E y pc' ls (.int (a >>> (c &&& 31)) :: st) h := by
  subst hp
  rw [sem_eq hb hd]
  rfl
theorem s_iushr {a c : Int32} (pc' : Nat) (hb : mCode y = b) (hd : decode b pc = .ok (.iushr, 1)) (hp : pc + 1 = pc') : sem E y pc ls (.int c :: .int a :: st) h = sem E y pc' ls (.int ((a.toUInt32 >>> (c.toUInt32 &&& Int32.toUInt32 31)).toInt32) :: st) h := by
  subst hp
  rw [sem_eq hb hd]
  rfl
theorem s_ladd {a c : Int64} (pc' : Nat) (hb : mCode y = b) (hd : decode b pc = .ok (.ladd, 1)) (hp : pc + 1 = pc') : sem E y pc ls (.long c :: .long a :: st) h = sem E y pc' ls (.long (a + c) :: st) h := by
  subst hp
  rw [sem_eq hb hd]
  rfl
theorem s_lsub {a c : Int64} (pc' : Nat) (hb : mCode y = b) (hd : decode b pc = .ok (.lsub, 1)) (hp : pc + 1 = pc') : sem E y pc ls (.long c :: .long a :: st) h = sem E y pc' ls (.long (a - c) :: st) h := by
  subst hp
  rw [sem_eq hb hd]
  rfl
theorem s_lmul {a c : Int64} (pc' : Nat) (hb : mCode y = b) (hd : decode b pc = .ok (.lmul, 1)) (hp : pc + 1 = pc') : sem E y pc ls (.long c :: .long a :: st) h = sem E y pc' ls (.long (a * c) :: st) h := by
  subst hp
  rw [sem_eq hb hd]
  rfl
theorem s_land {a c : Int64} (pc' : Nat) (hb : mCode y = b) (hd : decode b pc = .ok (.land, 1)) (hp : pc + 1 = pc') : sem E y pc ls (.long c :: .long a :: st) h = sem E y pc' ls (.long (a &&& c) :: st) h := by
  subst hp
  rw [sem_eq hb hd]
  rfl
theorem s_lor {a c : Int64} (pc' : Nat) (hb : mCode y = b) (hd : decode b pc = .ok (.lor, 1)) (hp : pc + 1 = pc') : sem E y pc ls (.long c :: .long a :: st) h = sem E y pc' ls (.long (a ||| c) :: st) h := by
  subst hp
  rw [sem_eq hb hd]
  rfl
theorem s_lshl {a : Int64} {c : Int32} (pc' : Nat) (hb : mCode y = b) (hd : decode b pc = .ok (.lshl, 1)) (hp : pc + 1 = pc') : sem E y pc ls (.int c :: .long a :: st) h = sem E y pc' ls (.long (a <<< (c.toInt64 &&& 63)) :: st) h := by
  subst hp
  rw [sem_eq hb hd]
  rfl
theorem s_lshr {a : Int64} {c : Int32} (pc' : Nat) (hb : mCode y = b) (hd : decode b pc = .ok (.lshr, 1)) (hp : pc + 1 = pc') : sem E y pc ls (.int c :: .long a :: st) h = sem E y pc' ls (.long (a >>> (c.toInt64 &&& 63)) :: st) h := by
  subst hp
  rw [sem_eq hb hd]
  rfl
theorem s_lcmp {a c : Int64} (pc' : Nat) (hb : mCode y = b) (hd : decode b pc = .ok (.lcmp, 1)) (hp : pc + 1 = pc') : sem E y pc ls (.long c :: .long a :: st) h = sem E y pc' ls (.int (lg_cmp a c) :: st) h := by
  subst hp
  rw [sem_eq hb hd]
  rfl
theorem s_ineg {a : Int32} (pc' : Nat) (hb : mCode y = b) (hd : decode b pc = .ok (.ineg, 1)) (hp : pc + 1 = pc') : sem E y pc ls (.int a :: st) h = sem E y pc' ls (.int (-a) :: st) h := by
  subst hp
  rw [sem_eq hb hd]
  rfl
theorem s_i2l {a : Int32} (pc' : Nat) (hb : mCode y = b) (hd : decode b pc = .ok (.i2l, 1)) (hp : pc + 1 = pc') : sem E y pc ls (.int a :: st) h = sem E y pc' ls (.long a.toInt64 :: st) h := by
  subst hp
  rw [sem_eq hb hd]
  rfl
theorem s_l2i {a : Int64} (pc' : Nat) (hb : mCode y = b) (hd : decode b pc = .ok (.l2i, 1)) (hp : pc + 1 = pc') : sem E y pc ls (.long a :: st) h = sem E y pc' ls (.int a.toInt32 :: st) h := by
  subst hp
  rw [sem_eq hb hd]
  rfl
theorem s_i2c {a : Int32} (pc' : Nat) (hb : mCode y = b) (hd : decode b pc = .ok (.i2c, 1)) (hp : pc + 1 = pc') : sem E y pc ls (.int a :: st) h = sem E y pc' ls (.int (a.toUInt32 % 65536).toInt32 :: st) h := by
  subst hp
  rw [sem_eq hb hd]
  rfl
theorem s_idiv {a c : Int32} (pc' : Nat) (hb : mCode y = b) (hd : decode b pc = .ok (.idiv, 1)) (hp : pc + 1 = pc') : sem E y pc ls (.int c :: .int a :: st) h = gd (¬ c = 0) (sem E y pc' ls (.int (a / c) :: st) h) := by
  subst hp
  rw [sem_eq hb hd]
  simp only [stpI, gd_T, pI, goM_gd] <;> rfl
theorem s_irem {a c : Int32} (pc' : Nat) (hb : mCode y = b) (hd : decode b pc = .ok (.irem, 1)) (hp : pc + 1 = pc') : sem E y pc ls (.int c :: .int a :: st) h = gd (¬ c = 0) (sem E y pc' ls (.int (a - a / c * c) :: st) h) := by
  subst hp
  rw [sem_eq hb hd]
  simp only [stpI, gd_T, pI, goM_gd] <;> rfl
theorem s_ldiv {a c : Int64} (pc' : Nat) (hb : mCode y = b) (hd : decode b pc = .ok (.ldiv, 1)) (hp : pc + 1 = pc') : sem E y pc ls (.long c :: .long a :: st) h = gd (¬ c = 0) (sem E y pc' ls (.long (a / c) :: st) h) := by
  subst hp
  rw [sem_eq hb hd]
  simp only [stpI, gd_T, pJ, goM_gd] <;> rfl
theorem jmp_at {α : Type} {off : Int} {tgt : Nat} (ht : (pc : Int) + off = (tgt : Int)) (k : Nat → Option α) : jmp pc off k = k tgt := by
  unfold jmp
  rw [ht, gd_t (Int.natCast_nonneg tgt), Int.toNat_natCast]
theorem s_goto {off : Int} (tgt : Nat) (hb : mCode y = b) (hd : decode b pc = .ok (.goto off, 3)) (ht : (pc : Int) + off = (tgt : Int)) : sem E y pc ls st h = sem E y tgt ls st h := by
  rw [sem_eq hb hd]
  simp only [stpI, gd, if_true, jmp_at ht]
  rfl
theorem s_icmp_eq {x z : Int32} {off : Int} (tgt pc' : Nat) (hb : mCode y = b) (hd : decode b pc = .ok (.if_icmp .eq off, 3)) (ht : (pc : Int) + off = (tgt : Int)) (hp : pc + 3 = pc') : sem E y pc ls (.int z :: .int x :: st) h = if x = z then sem E y tgt ls st h else sem E y pc' ls st h := by
  subst hp
  rw [sem_eq hb hd]
  simp only [stpI, gd, pI, cnd, if_true, jmp_at ht, decide_eq_true_eq]
  exact goM_ite _ _ _ _
theorem s_if_eq {x : Int32} {off : Int} (tgt pc' : Nat) (hb : mCode y = b) (hd : decode b pc = .ok (.ifCond .eq off, 3)) (ht : (pc : Int) + off = (tgt : Int)) (hp : pc + 3 = pc') : sem E y pc ls (.int x :: st) h = if x = 0 then sem E y tgt ls st h else sem E y pc' ls st h := by
  subst hp
  rw [sem_eq hb hd]
  simp only [stpI, gd, pI, cnd, if_true, jmp_at ht, decide_eq_true_eq]
  exact goM_ite _ _ _ _
theorem s_icmp_ne {x z : Int32} {off : Int} (tgt pc' : Nat) (hb : mCode y = b) (hd : decode b pc = .ok (.if_icmp .ne off, 3)) (ht : (pc : Int) + off = (tgt : Int)) (hp : pc + 3 = pc') : sem E y pc ls (.int z :: .int x :: st) h = if ¬ x = z then sem E y tgt ls st h else sem E y pc' ls st h := by
  subst hp
  rw [sem_eq hb hd]
  simp only [stpI, gd, pI, cnd, if_true, jmp_at ht, decide_eq_true_eq]
  exact goM_ite _ _ _ _
theorem s_if_ne {x : Int32} {off : Int} (tgt pc' : Nat) (hb : mCode y = b) (hd : decode b pc = .ok (.ifCond .ne off, 3)) (ht : (pc : Int) + off = (tgt : Int)) (hp : pc + 3 = pc') : sem E y pc ls (.int x :: st) h = if ¬ x = 0 then sem E y tgt ls st h else sem E y pc' ls st h := by
  subst hp
  rw [sem_eq hb hd]
  simp only [stpI, gd, pI, cnd, if_true, jmp_at ht, decide_eq_true_eq]
  exact goM_ite _ _ _ _
theorem s_icmp_lt {x z : Int32} {off : Int} (tgt pc' : Nat) (hb : mCode y = b) (hd : decode b pc = .ok (.if_icmp .lt off, 3)) (ht : (pc : Int) + off = (tgt : Int)) (hp : pc + 3 = pc') : sem E y pc ls (.int z :: .int x :: st) h = if x < z then sem E y tgt ls st h else sem E y pc' ls st h := by
  subst hp
  rw [sem_eq hb hd]
  simp only [stpI, gd, pI, cnd, if_true, jmp_at ht, decide_eq_true_eq]
  exact goM_ite _ _ _ _
theorem s_if_lt {x : Int32} {off : Int} (tgt pc' : Nat) (hb : mCode y = b) (hd : decode b pc = .ok (.ifCond .lt off, 3)) (ht : (pc : Int) + off = (tgt : Int)) (hp : pc + 3 = pc') : sem E y pc ls (.int x :: st) h = if x < 0 then sem E y tgt ls st h else sem E y pc' ls st h := by
  subst hp
  rw [sem_eq hb hd]
  simp only [stpI, gd, pI, cnd, if_true, jmp_at ht, decide_eq_true_eq]
  exact goM_ite _ _ _ _
theorem s_icmp_ge {x z : Int32} {off : Int} (tgt pc' : Nat) (hb : mCode y = b) (hd : decode b pc = .ok (.if_icmp .ge off, 3)) (ht : (pc : Int) + off = (tgt : Int)) (hp : pc + 3 = pc') : sem E y pc ls (.int z :: .int x :: st) h = if z ≤ x then sem E y tgt ls st h else sem E y pc' ls st h := by
  subst hp
  rw [sem_eq hb hd]
  simp only [stpI, gd, pI, cnd, if_true, jmp_at ht, decide_eq_true_eq]
  exact goM_ite _ _ _ _
theorem s_if_ge {x : Int32} {off : Int} (tgt pc' : Nat) (hb : mCode y = b) (hd : decode b pc = .ok (.ifCond .ge off, 3)) (ht : (pc : Int) + off = (tgt : Int)) (hp : pc + 3 = pc') : sem E y pc ls (.int x :: st) h = if 0 ≤ x then sem E y tgt ls st h else sem E y pc' ls st h := by
  subst hp
  rw [sem_eq hb hd]
  simp only [stpI, gd, pI, cnd, if_true, jmp_at ht, decide_eq_true_eq]
  exact goM_ite _ _ _ _
theorem s_icmp_gt {x z : Int32} {off : Int} (tgt pc' : Nat) (hb : mCode y = b) (hd : decode b pc = .ok (.if_icmp .gt off, 3)) (ht : (pc : Int) + off = (tgt : Int)) (hp : pc + 3 = pc') : sem E y pc ls (.int z :: .int x :: st) h = if z < x then sem E y tgt ls st h else sem E y pc' ls st h := by
  subst hp
  rw [sem_eq hb hd]
  simp only [stpI, gd, pI, cnd, if_true, jmp_at ht, decide_eq_true_eq]
  exact goM_ite _ _ _ _
theorem s_if_gt {x : Int32} {off : Int} (tgt pc' : Nat) (hb : mCode y = b) (hd : decode b pc = .ok (.ifCond .gt off, 3)) (ht : (pc : Int) + off = (tgt : Int)) (hp : pc + 3 = pc') : sem E y pc ls (.int x :: st) h = if 0 < x then sem E y tgt ls st h else sem E y pc' ls st h := by
  subst hp
  rw [sem_eq hb hd]
  simp only [stpI, gd, pI, cnd, if_true, jmp_at ht, decide_eq_true_eq]
  exact goM_ite _ _ _ _
theorem s_icmp_le {x z : Int32} {off : Int} (tgt pc' : Nat) (hb : mCode y = b) (hd : decode b pc = .ok (.if_icmp .le off, 3)) (ht : (pc : Int) + off = (tgt : Int)) (hp : pc + 3 = pc') : sem E y pc ls (.int z :: .int x :: st) h = if x ≤ z then sem E y tgt ls st h else sem E y pc' ls st h := by
  subst hp
  rw [sem_eq hb hd]
  simp only [stpI, gd, pI, cnd, if_true, jmp_at ht, decide_eq_true_eq]
  exact goM_ite _ _ _ _
theorem s_if_le {x : Int32} {off : Int} (tgt pc' : Nat) (hb : mCode y = b) (hd : decode b pc = .ok (.ifCond .le off, 3)) (ht : (pc : Int) + off = (tgt : Int)) (hp : pc + 3 = pc') : sem E y pc ls (.int x :: st) h = if x ≤ 0 then sem E y tgt ls st h else sem E y pc' ls st h := by
  subst hp
  rw [sem_eq hb hd]
  simp only [stpI, gd, pI, cnd, if_true, jmp_at ht, decide_eq_true_eq]
  exact goM_ite _ _ _ _
/-- a table's target: lo, the targets from lo on, else d -/
def tsw (lo : Int) (ts : List Nat) (d : Nat) (x : Int32) : Nat := if x.toInt < lo ∨ lo + ts.length ≤ x.toInt then d else ts.getD (x.toInt - lo).toNat d
theorem s_tsw {x : Int32} {dof lo hi : Int} {offs : Array Int} {len : Nat} (ts : List Nat) (d : Nat) (hb : mCode y = b) (hd : decode b pc = .ok (.tableswitch dof lo hi offs, len)) (h0 : (pc : Int) + dof = (d : Int)) (hh : hi + 1 = lo + ts.length) (ht : offs.toList.map (fun o => (pc : Int) + o) = ts.map (fun t : Nat => (t : Int))) : sem E y pc ls (.int x :: st) h = sem E y (tsw lo ts d x) ls st h := by
  rw [sem_eq hb hd]
  simp only [stpI, pI, tsw]
  by_cases hx : x.toInt < lo ∨ hi < x.toInt
  · rw [if_pos hx, if_pos (by omega), jmp_at h0]
    rfl
  · have hx2 : ¬ (x.toInt < lo ∨ lo + ts.length ≤ x.toInt) := by omega
    rw [if_neg hx, if_neg hx2]
    have hlt : (x.toInt - lo).toNat < ts.length := by omega
    have hk : (offs.toList.map (fun o => (pc : Int) + o))[(x.toInt - lo).toNat]? = (ts.map (fun t : Nat => (t : Int)))[(x.toInt - lo).toNat]? := by rw [ht]
    rw [List.getElem?_map, List.getElem?_map, List.getElem?_eq_getElem hlt] at hk
    cases ho : offs.toList[(x.toInt - lo).toNat]? with
    | none => rw [ho] at hk; simp at hk
    | some off =>
      rw [ho] at hk
      have hk2 : (pc : Int) + off = (ts[(x.toInt - lo).toNat] : Int) := by simpa using hk
      rw [← Array.getElem?_toList, ho]
      simp only [jmp_at hk2]
      rw [List.getD_eq_getElem?_getD, List.getElem?_eq_getElem hlt]
      rfl
theorem goM_oR {r : Option Nat} {k : Nat → Option MOut} {f : MSt → Option (Option Value × Hp)} : goM E y (oR r k) f = oR r fun x => goM E y (k x) f := by
  cases r <;> rfl
/-- reads and writes, with what they ask -/
def aI {α : Type} (X : Ctx) (h : Hp) (a : Nat) (i : Int32) (f : Int32 → Option α) : Option α := if a = 0 then gd (inb i X.1) (f (X.2.1 i.toNatClampNeg)) else gd (61 ≤ a ∧ (hS h a).1 = 50 ∧ inb i (hS h a).2) (f (hI h a i.toNatClampNeg))
def aZ {α : Type} (h : Hp) (a : Nat) (i : Int32) (f : Int32 → Option α) : Option α := if a < 61 then gd (31 ≤ a ∧ inb i (strB.getD (a - 31) []).length) (f (Int32.ofNat ((strB.getD (a - 31) []).getD i.toNatClampNeg 0))) else gd ((hS h a).1 = 52 ∧ inb i (hS h a).2) (f (hI h a i.toNatClampNeg))
def aJ {α : Type} (h : Hp) (a : Nat) (i : Int32) (f : Int64 → Option α) : Option α := gd (61 ≤ a ∧ (hS h a).1 = 51 ∧ inb i (hS h a).2) (f (hJ h a i.toNatClampNeg))
def aR {α : Type} (h : Hp) (a : Nat) (i : Int32) (f : Nat → Option α) : Option α := gd (61 ≤ a ∧ 60 ≤ (hS h a).1 ∧ (hS h a).1 < 82 ∧ inb i (hS h a).2) (oR (hP h a i.toNatClampNeg) f)
def aL {α : Type} (X : Ctx) (h : Hp) (a : Nat) (f : Int32 → Option α) : Option α := match alen X h a with
  | some n => f (Int32.ofNat n)
  | none => none
def wI {α : Type} (h : Hp) (a : Nat) (i v : Int32) (f : Hp → Option α) : Option α := gd (61 ≤ a ∧ (hS h a).1 = 50 ∧ inb i (hS h a).2) (f (sI h a i.toNatClampNeg v))
def wZ {α : Type} (h : Hp) (a : Nat) (i v : Int32) (f : Hp → Option α) : Option α := gd (61 ≤ a ∧ (hS h a).1 = 52 ∧ inb i (hS h a).2 ∧ okN .boolean v) (f (sI h a i.toNatClampNeg v))
def wJ {α : Type} (h : Hp) (a : Nat) (i : Int32) (v : Int64) (f : Hp → Option α) : Option α := gd (61 ≤ a ∧ (hS h a).1 = 51 ∧ inb i (hS h a).2) (f (sJ h a i.toNatClampNeg v))
def wR {α : Type} (h : Hp) (a : Nat) (i : Int32) (v : Nat) (f : Hp → Option α) : Option α := gd (61 ≤ a ∧ 61 ≤ v ∧ inb i (hS h a).2 ∧ ((60 ≤ (hS h a).1 ∧ (hS h a).1 < 72 ∧ hS h v = ((hS h a).1 - 59, 0)) ∨ ((hS h a).1 = 81 ∧ hS h v = (51, 7)))) (f (sP h a i.toNatClampNeg (some v)))
def gI {α : Type} (h : Hp) (ci a k : Nat) (f : Int32 → Option α) : Option α := gd (61 ≤ a ∧ hS h a = (ci + 1, 0)) (f (hI h a k))
def gJ {α : Type} (h : Hp) (ci a k : Nat) (f : Int64 → Option α) : Option α := gd (61 ≤ a ∧ hS h a = (ci + 1, 0)) (f (hJ h a k))
def gR {α : Type} (h : Hp) (ci a k : Nat) (f : Nat → Option α) : Option α := gd (61 ≤ a ∧ hS h a = (ci + 1, 0)) (oR (hP h a k) f)
def fI {α : Type} (h : Hp) (ci a k : Nat) (v : Int32) (f : Hp → Option α) : Option α := gd (61 ≤ a ∧ hS h a = (ci + 1, 0)) (f (sI h a k v))
def fZ {α : Type} (h : Hp) (ci a k : Nat) (v : Int32) (f : Hp → Option α) : Option α := gd (61 ≤ a ∧ hS h a = (ci + 1, 0) ∧ okN .boolean v) (f (sI h a k v))
def fJ {α : Type} (h : Hp) (ci a k : Nat) (v : Int64) (f : Hp → Option α) : Option α := gd (61 ≤ a ∧ hS h a = (ci + 1, 0)) (f (sJ h a k v))
def fR {α : Type} (h : Hp) (ci a k : Nat) (v : Nat) (f : Hp → Option α) : Option α := gd (61 ≤ a ∧ hS h a = (ci + 1, 0) ∧ (hS h v).1 = frt ci k) (f (sP h a k (some v)))
theorem s_laload {i : Int32} {a : Nat} (pc' : Nat) (hb : mCode y = b) (hd : decode b pc = .ok (.laload, 1)) (hp : pc + 1 = pc') : sem E y pc ls (.int i :: .ref a :: st) h = aJ h a i fun x => sem E y pc' ls (.long x :: st) h := by
  subst hp
  rw [sem_eq hb hd]
  simp only [stpI, gd_T, pI, pJ, pR]
  simp only [goM_gd] <;> rfl
theorem s_iastore {i v : Int32} {a : Nat} (pc' : Nat) (hb : mCode y = b) (hd : decode b pc = .ok (.iastore, 1)) (hp : pc + 1 = pc') : sem E y pc ls (.int v :: .int i :: .ref a :: st) h = wI h a i v fun h => sem E y pc' ls st h := by
  subst hp
  rw [sem_eq hb hd]
  simp only [stpI, gd_T, pI, pJ, pR]
  simp only [goM_gd] <;> rfl
theorem s_bastore {i v : Int32} {a : Nat} (pc' : Nat) (hb : mCode y = b) (hd : decode b pc = .ok (.bastore, 1)) (hp : pc + 1 = pc') : sem E y pc ls (.int v :: .int i :: .ref a :: st) h = wZ h a i v fun h => sem E y pc' ls st h := by
  subst hp
  rw [sem_eq hb hd]
  simp only [stpI, gd_T, pI, pJ, pR]
  simp only [goM_gd] <;> rfl
theorem s_lastore {i : Int32} {v : Int64} {a : Nat} (pc' : Nat) (hb : mCode y = b) (hd : decode b pc = .ok (.lastore, 1)) (hp : pc + 1 = pc') : sem E y pc ls (.long v :: .int i :: .ref a :: st) h = wJ h a i v fun h => sem E y pc' ls st h := by
  subst hp
  rw [sem_eq hb hd]
  simp only [stpI, gd_T, pI, pJ, pR]
  simp only [goM_gd] <;> rfl
theorem s_aastore {i : Int32} {v a : Nat} (pc' : Nat) (hb : mCode y = b) (hd : decode b pc = .ok (.aastore, 1)) (hp : pc + 1 = pc') (hq : mIni y = true) : sem E y pc ls (.ref v :: .int i :: .ref a :: st) h = wR h a i v fun h => sem E y pc' ls st h := by
  subst hp
  rw [sem_eq hb hd]
  simp only [stpI, gd_T, pI, pJ, pR, goM_gd]
  rw [gd_t (Or.inl hq)]
  rfl
theorem s_aastoreN {i : Int32} {v a : Nat} (pc' : Nat) (hb : mCode y = b) (hd : decode b pc = .ok (.aastore, 1)) (hp : pc + 1 = pc') (hq : mIni y = false) : sem E y pc ls (.ref v :: .int i :: .ref a :: st) h = gd (GA h a) (wR h a i v fun h => sem E y pc' ls st h) := by
  subst hp
  rw [sem_eq hb hd]
  simp only [stpI, gd_T, pI, pJ, pR, goM_gd]
  have e : (mIni y = true ∨ GA h a) ↔ GA h a := ⟨fun z => z.elim (fun w => by rw [hq] at w; cases w) id, Or.inr⟩
  unfold gd
  by_cases hc : GA h a
  · rw [if_pos (e.mpr hc), if_pos hc]
    rfl
  · rw [if_neg (fun z => hc (e.mp z)), if_neg hc]
theorem s_aaload {i : Int32} {a : Nat} (pc' : Nat) (hb : mCode y = b) (hd : decode b pc = .ok (.aaload, 1)) (hp : pc + 1 = pc') : sem E y pc ls (.int i :: .ref a :: st) h = aR h a i fun x => sem E y pc' ls (.ref x :: st) h := by
  subst hp
  rw [sem_eq hb hd]
  simp only [stpI, gd_T, pI, pR, goM_gd, goM_oR]
  rfl
theorem s_iaload {i : Int32} {a : Nat} (pc' : Nat) (hb : mCode y = b) (hd : decode b pc = .ok (.iaload, 1)) (hp : pc + 1 = pc') : sem E y pc ls (.int i :: .ref a :: st) h = aI E.1 h a i fun x => sem E y pc' ls (.int x :: st) h := by
  subst hp
  rw [sem_eq hb hd]
  simp only [stpI, gd_T, pI, pR, goM_ite, goM_gd, aI]
  rfl
theorem s_baload {i : Int32} {a : Nat} (pc' : Nat) (hb : mCode y = b) (hd : decode b pc = .ok (.baload, 1)) (hp : pc + 1 = pc') : sem E y pc ls (.int i :: .ref a :: st) h = aZ h a i fun x => sem E y pc' ls (.int x :: st) h := by
  subst hp
  rw [sem_eq hb hd]
  simp only [stpI, gd_T, pI, pR, goM_ite, goM_gd, aZ]
  rfl
theorem s_alen {a : Nat} (pc' : Nat) (hb : mCode y = b) (hd : decode b pc = .ok (.arraylength, 1)) (hp : pc + 1 = pc') : sem E y pc ls (.ref a :: st) h = aL E.1 h a fun x => sem E y pc' ls (.int x :: st) h := by
  subst hp
  rw [sem_eq hb hd]
  simp only [stpI, gd_T, pR, aL]
  cases alen E.1 h a <;> rfl
theorem stpF_y {i own a ci k q : Nat} (ho : mOwn y = own) (hs : stfT own i = none) (hf : fldT own i = some (ci, k, q)) : stpF y i pc ls (.ref a :: st) h = gd (61 ≤ a ∧ hS h a = (ci + 1, 0)) (match fty ci k with
        | 0 => nx (pc + 3) ls (.int (hI h a k) :: st) h
        | 3 => nx (pc + 3) ls (.int (hI h a k) :: st) h
        | 1 => nx (pc + 3) ls (.long (hJ h a k) :: st) h
        | 2 => oR (hP h a k) fun b => nx (pc + 3) ls (.ref b :: st) h
        | _ => none) := by
  subst ho
  by_cases ha : a < 61
  · have hn : ¬ (61 ≤ a ∧ hS h a = (ci + 1, 0)) := fun q => by omega
    simp only [stpF, pR, if_pos ha, hs, gd, if_neg hn]
    split <;> rfl
  · have ha2 : 61 ≤ a := by omega
    simp only [stpF, pR, if_neg ha, hf]
    unfold gd
    by_cases hc : hS h a = (ci + 1, 0)
    · rw [if_pos hc, if_pos ⟨ha2, hc⟩]
      rfl
    · rw [if_neg hc, if_neg (fun q => hc q.2)]
theorem s_getfI {i own a ci k q : Nat} (pc' : Nat) (hb : mCode y = b) (hd : decode b pc = .ok (.getfield i, 3)) (hp : pc + 3 = pc') (ho : mOwn y = own) (hs : stfT own i = none) (hf : fldT own i = some (ci, k, q)) (ht : fty ci k = 0 ∨ fty ci k = 3) : sem E y pc ls (.ref a :: st) h = gI h ci a k fun x => sem E y pc' ls (.int x :: st) h := by
  subst hp
  rw [sem_eq hb hd]
  simp only [stpI, stpF_y ho hs hf, gd_T, gI]
  rw [goM_gd]
  rcases ht with ht | ht <;> rw [ht] <;> rfl
theorem s_getfJ {i own a ci k q : Nat} (pc' : Nat) (hb : mCode y = b) (hd : decode b pc = .ok (.getfield i, 3)) (hp : pc + 3 = pc') (ho : mOwn y = own) (hs : stfT own i = none) (hf : fldT own i = some (ci, k, q)) (ht : fty ci k = 1) : sem E y pc ls (.ref a :: st) h = gJ h ci a k fun x => sem E y pc' ls (.long x :: st) h := by
  subst hp
  rw [sem_eq hb hd]
  simp only [stpI, stpF_y ho hs hf, gd_T, gJ]
  rw [goM_gd, ht]
  rfl
theorem s_getfR {i own a ci k q : Nat} (pc' : Nat) (hb : mCode y = b) (hd : decode b pc = .ok (.getfield i, 3)) (hp : pc + 3 = pc') (ho : mOwn y = own) (hs : stfT own i = none) (hf : fldT own i = some (ci, k, q)) (ht : fty ci k = 2) : sem E y pc ls (.ref a :: st) h = gR h ci a k fun x => sem E y pc' ls (.ref x :: st) h := by
  subst hp
  rw [sem_eq hb hd]
  simp only [stpI, stpF_y ho hs hf, gd_T, gR]
  rw [goM_gd, ht]
  simp only [goM_oR]
  rfl
theorem s_getfS0 {i own a q : Nat} (pc' : Nat) (hb : mCode y = b) (hd : decode b pc = .ok (.getfield i, 3)) (hp : pc + 3 = pc') (ho : mOwn y = own) (hf : stfT own i = some (0, q)) (ha : 1 ≤ a ∧ a < 31) : sem E y pc ls (.ref a :: st) h = sem E y pc' ls (.ref (a + 30) :: st) h := by
  subst hp; subst ho
  rw [sem_eq hb hd]
  have h0 : a < 61 := by omega
  simp only [stpI, stpF, gd_T, pR, if_pos h0, hf, gd_t ha]
  rfl
theorem s_getfS1 {i own a q : Nat} (pc' : Nat) (hb : mCode y = b) (hd : decode b pc = .ok (.getfield i, 3)) (hp : pc + 3 = pc') (ho : mOwn y = own) (hf : stfT own i = some (1, q)) (ha : 1 ≤ a ∧ a < 31) : sem E y pc ls (.ref a :: st) h = sem E y pc' ls (.int 0 :: st) h := by
  subst hp; subst ho
  rw [sem_eq hb hd]
  have h0 : a < 61 := by omega
  simp only [stpI, stpF, gd_T, pR, if_pos h0, hf, gd_t ha]
  rfl
theorem s_putfI {i own a ci k q : Nat} {v : Int32} (pc' : Nat) (hb : mCode y = b) (hd : decode b pc = .ok (.putfield i, 3)) (hp : pc + 3 = pc') (ho : mOwn y = own) (hf : fldT own i = some (ci, k, q)) (ht : fty ci k = 0) (hn : fieldFin ci k = false ∨ (mOwn y = ci ∧ (mName y).name = "<init>")) : sem E y pc ls (.int v :: .ref a :: st) h = fI h ci a k v fun h => sem E y pc' ls st h := by
  subst hp; subst ho
  rw [sem_eq hb hd]
  simp only [stpI, stpG, gd_T, hf]
  rw [gd_t hn, ht]
  simp only [goM_gd, pI, pJ, pR] <;> rfl
theorem s_putfZ {i own a ci k q : Nat} {v : Int32} (pc' : Nat) (hb : mCode y = b) (hd : decode b pc = .ok (.putfield i, 3)) (hp : pc + 3 = pc') (ho : mOwn y = own) (hf : fldT own i = some (ci, k, q)) (ht : fty ci k = 3) (hn : fieldFin ci k = false ∨ (mOwn y = ci ∧ (mName y).name = "<init>")) : sem E y pc ls (.int v :: .ref a :: st) h = fZ h ci a k v fun h => sem E y pc' ls st h := by
  subst hp; subst ho
  rw [sem_eq hb hd]
  simp only [stpI, stpG, gd_T, hf]
  rw [gd_t hn, ht]
  simp only [goM_gd, pI, pJ, pR] <;> rfl
theorem s_putfJ {i own a ci k q : Nat} {v : Int64} (pc' : Nat) (hb : mCode y = b) (hd : decode b pc = .ok (.putfield i, 3)) (hp : pc + 3 = pc') (ho : mOwn y = own) (hf : fldT own i = some (ci, k, q)) (ht : fty ci k = 1) (hn : fieldFin ci k = false ∨ (mOwn y = ci ∧ (mName y).name = "<init>")) : sem E y pc ls (.long v :: .ref a :: st) h = fJ h ci a k v fun h => sem E y pc' ls st h := by
  subst hp; subst ho
  rw [sem_eq hb hd]
  simp only [stpI, stpG, gd_T, hf]
  rw [gd_t hn, ht]
  simp only [goM_gd, pI, pJ, pR] <;> rfl
theorem s_putfR {i own a ci k q : Nat} {v : Nat} (pc' : Nat) (hb : mCode y = b) (hd : decode b pc = .ok (.putfield i, 3)) (hp : pc + 3 = pc') (ho : mOwn y = own) (hf : fldT own i = some (ci, k, q)) (ht : fty ci k = 2) (hn : fieldFin ci k = false ∨ (mOwn y = ci ∧ (mName y).name = "<init>")) : sem E y pc ls (.ref v :: .ref a :: st) h = fR h ci a k v fun h => sem E y pc' ls st h := by
  subst hp; subst ho
  rw [sem_eq hb hd]
  simp only [stpI, stpG, gd_T, hf]
  rw [gd_t hn, ht]
  simp only [goM_gd, pI, pJ, pR] <;> rfl
theorem s_getst0 {i own q : Nat} (pc' : Nat) (hb : mCode y = b) (hd : decode b pc = .ok (.getstatic i, 3)) (hp : pc + 3 = pc') (ho : mOwn y = own) (hf : staT own i = some (0, q)) : sem E y pc ls st h = sem E y pc' ls (.int 1 :: st) h := by
  subst hp; subst ho
  rw [sem_eq hb hd]
  simp only [stpI, gd_T, hf]
  rfl
theorem s_getst1 {i own q : Nat} (pc' : Nat) (hb : mCode y = b) (hd : decode b pc = .ok (.getstatic i, 3)) (hp : pc + 3 = pc') (ho : mOwn y = own) (hf : staT own i = some (1, q)) : sem E y pc ls st h = sem E y pc' ls (E.1.2.2 :: st) h := by
  subst hp; subst ho
  rw [sem_eq hb hd]
  simp only [stpI, gd_T, hf]
  rfl
/-- calls -/
theorem stpC_y {vir i y' : Nat} {q : Nat × Nat} {own : Nat} (ho : mOwn y = own) (hm : mthT own i = some (y', q)) (hy : y' < nMth ∧ ¬ (235 ≤ y' ∧ y' < 240)) : stpC E y vir i pc ls st h = if vir = 0 then clS E.2 y' (pc + 3) ls st h else gd (vir = 2 → mIni y = true) (clV E.2 y' (decide (vir = 2)) (pc + 3) ls st h) := by
  subst ho
  unfold stpC
  rw [hm]
  have hy2 : y' < 248 := hy.1
  split
  · next e => cases e; omega
  · next e => cases e; omega
  · next e => cases e; rw [gd_t hy.1, if_neg hy.2]
  · next e => cases e
theorem s_istI {i y' n own : Nat} {q : Nat × Nat} {As rest : List Value} (pc' : Nat) (hb : mCode y = b) (hd : decode b pc = .ok (.invokestatic i, 3)) (hp : pc + 3 = pc') (ho : mOwn y = own) (hm : mthT own i = some (y', q)) (hy : y' < nMth ∧ ¬ (235 ≤ y' ∧ y' < 240)) (hs : mSta y' = true) (hr : bR2 y' = bRI) (hn : mArg y' = n) (hl : n ≤ st.length) (hA : (st.take n).reverse = As) (hR : st.drop n = rest) (hc : (rest.map Value.category).sum ≤ 8) : sem E y pc ls st h = bI (E.2 y' As h) fun x h => sem E y pc' ls (.int x :: rest) h := by
  subst hp; subst hn; subst hA; subst hR
  rw [sem_eq hb hd]
  simp only [stpI, gd_T, stpC_y ho hm hy, if_true, clS]
  rw [gd_t ⟨hs, hl, hc⟩, hr]
  exact goM_bRI _ _ _
theorem s_iviI {i y' n own ci a : Nat} {q : Nat × Nat} {As rest : List Value} (pc' : Nat) (hb : mCode y = b) (hd : decode b pc = .ok (.invokevirtual i, 3)) (hp : pc + 3 = pc') (ho : mOwn y = own) (hm : mthT own i = some (y', q)) (hy : y' < nMth ∧ ¬ (235 ≤ y' ∧ y' < 240)) (hs : mSta y' = false) (hi : false = decide ((mName y').name = "<init>")) (hr : bR2 y' = bRI) (hn : mArg y' = n) (hoc : mOwn y' = ci) (hci : ci < 12) (hl : n ≤ st.length) (hA : (st.take n).reverse = As) (hR : st.drop n = .ref a :: rest) (hc : (rest.map Value.category).sum ≤ 8) : sem E y pc ls st h = gd (hS h a = (ci + 1, 0)) (bI (E.2 y' (.ref a :: As) h) fun x h => sem E y pc' ls (.int x :: rest) h) := by
  subst hp; subst hn; subst hA; subst hoc
  have hR1 : st.drop (mArg y' + 1) = rest := by rw [← List.drop_drop, hR]; rfl
  rw [sem_eq hb hd]
  simp only [stpI, gd_T, stpC_y ho hm hy, clV]
  rw [if_neg (by decide), gd_t (fun z => absurd z (by decide)), hR1, gd_t ⟨hs, hl, hc, hi⟩, hR]
  simp only [pR, goM_gd, rcv, if_pos hci, hr, beq_iff_eq]
  rw [goM_bRI]
theorem s_ispI {i y' n own ci a : Nat} {q : Nat × Nat} {As rest : List Value} (pc' : Nat) (hb : mCode y = b) (hd : decode b pc = .ok (.invokespecial i, 3)) (hp : pc + 3 = pc') (ho : mOwn y = own) (hm : mthT own i = some (y', q)) (hy : y' < nMth ∧ ¬ (235 ≤ y' ∧ y' < 240)) (hq : mIni y = true) (hs : mSta y' = false) (hi : true = decide ((mName y').name = "<init>")) (hr : bR2 y' = bRI) (hn : mArg y' = n) (hoc : mOwn y' = ci) (hci : ci < 12) (hl : n ≤ st.length) (hA : (st.take n).reverse = As) (hR : st.drop n = .ref a :: rest) (hc : (rest.map Value.category).sum ≤ 8) : sem E y pc ls st h = gd (hS h a = (ci + 1, 0)) (bI (E.2 y' (.ref a :: As) h) fun x h => sem E y pc' ls (.int x :: rest) h) := by
  subst hp; subst hn; subst hA; subst hoc
  have hR1 : st.drop (mArg y' + 1) = rest := by rw [← List.drop_drop, hR]; rfl
  rw [sem_eq hb hd]
  simp only [stpI, gd_T, stpC_y ho hm hy, clV]
  rw [if_neg (by decide), gd_t (fun _ => hq), hR1, gd_t ⟨hs, hl, hc, hi⟩, hR]
  simp only [pR, goM_gd, rcv, if_pos hci, hr, beq_iff_eq]
  rw [goM_bRI]
theorem s_istJ {i y' n own : Nat} {q : Nat × Nat} {As rest : List Value} (pc' : Nat) (hb : mCode y = b) (hd : decode b pc = .ok (.invokestatic i, 3)) (hp : pc + 3 = pc') (ho : mOwn y = own) (hm : mthT own i = some (y', q)) (hy : y' < nMth ∧ ¬ (235 ≤ y' ∧ y' < 240)) (hs : mSta y' = true) (hr : bR2 y' = bRJ) (hn : mArg y' = n) (hl : n ≤ st.length) (hA : (st.take n).reverse = As) (hR : st.drop n = rest) (hc : (rest.map Value.category).sum ≤ 8) : sem E y pc ls st h = bJ (E.2 y' As h) fun x h => sem E y pc' ls (.long x :: rest) h := by
  subst hp; subst hn; subst hA; subst hR
  rw [sem_eq hb hd]
  simp only [stpI, gd_T, stpC_y ho hm hy, if_true, clS]
  rw [gd_t ⟨hs, hl, hc⟩, hr]
  exact goM_bRJ _ _ _
theorem s_iviJ {i y' n own ci a : Nat} {q : Nat × Nat} {As rest : List Value} (pc' : Nat) (hb : mCode y = b) (hd : decode b pc = .ok (.invokevirtual i, 3)) (hp : pc + 3 = pc') (ho : mOwn y = own) (hm : mthT own i = some (y', q)) (hy : y' < nMth ∧ ¬ (235 ≤ y' ∧ y' < 240)) (hs : mSta y' = false) (hi : false = decide ((mName y').name = "<init>")) (hr : bR2 y' = bRJ) (hn : mArg y' = n) (hoc : mOwn y' = ci) (hci : ci < 12) (hl : n ≤ st.length) (hA : (st.take n).reverse = As) (hR : st.drop n = .ref a :: rest) (hc : (rest.map Value.category).sum ≤ 8) : sem E y pc ls st h = gd (hS h a = (ci + 1, 0)) (bJ (E.2 y' (.ref a :: As) h) fun x h => sem E y pc' ls (.long x :: rest) h) := by
  subst hp; subst hn; subst hA; subst hoc
  have hR1 : st.drop (mArg y' + 1) = rest := by rw [← List.drop_drop, hR]; rfl
  rw [sem_eq hb hd]
  simp only [stpI, gd_T, stpC_y ho hm hy, clV]
  rw [if_neg (by decide), gd_t (fun z => absurd z (by decide)), hR1, gd_t ⟨hs, hl, hc, hi⟩, hR]
  simp only [pR, goM_gd, rcv, if_pos hci, hr, beq_iff_eq]
  rw [goM_bRJ]
theorem s_ispJ {i y' n own ci a : Nat} {q : Nat × Nat} {As rest : List Value} (pc' : Nat) (hb : mCode y = b) (hd : decode b pc = .ok (.invokespecial i, 3)) (hp : pc + 3 = pc') (ho : mOwn y = own) (hm : mthT own i = some (y', q)) (hy : y' < nMth ∧ ¬ (235 ≤ y' ∧ y' < 240)) (hq : mIni y = true) (hs : mSta y' = false) (hi : true = decide ((mName y').name = "<init>")) (hr : bR2 y' = bRJ) (hn : mArg y' = n) (hoc : mOwn y' = ci) (hci : ci < 12) (hl : n ≤ st.length) (hA : (st.take n).reverse = As) (hR : st.drop n = .ref a :: rest) (hc : (rest.map Value.category).sum ≤ 8) : sem E y pc ls st h = gd (hS h a = (ci + 1, 0)) (bJ (E.2 y' (.ref a :: As) h) fun x h => sem E y pc' ls (.long x :: rest) h) := by
  subst hp; subst hn; subst hA; subst hoc
  have hR1 : st.drop (mArg y' + 1) = rest := by rw [← List.drop_drop, hR]; rfl
  rw [sem_eq hb hd]
  simp only [stpI, gd_T, stpC_y ho hm hy, clV]
  rw [if_neg (by decide), gd_t (fun _ => hq), hR1, gd_t ⟨hs, hl, hc, hi⟩, hR]
  simp only [pR, goM_gd, rcv, if_pos hci, hr, beq_iff_eq]
  rw [goM_bRJ]
theorem s_istR {i y' n own : Nat} {q : Nat × Nat} {As rest : List Value} (pc' : Nat) (hb : mCode y = b) (hd : decode b pc = .ok (.invokestatic i, 3)) (hp : pc + 3 = pc') (ho : mOwn y = own) (hm : mthT own i = some (y', q)) (hy : y' < nMth ∧ ¬ (235 ≤ y' ∧ y' < 240)) (hs : mSta y' = true) (hr : bR2 y' = bRR) (hn : mArg y' = n) (hl : n ≤ st.length) (hA : (st.take n).reverse = As) (hR : st.drop n = rest) (hc : (rest.map Value.category).sum ≤ 8) : sem E y pc ls st h = bR (E.2 y' As h) fun x h => sem E y pc' ls (.ref x :: rest) h := by
  subst hp; subst hn; subst hA; subst hR
  rw [sem_eq hb hd]
  simp only [stpI, gd_T, stpC_y ho hm hy, if_true, clS]
  rw [gd_t ⟨hs, hl, hc⟩, hr]
  exact goM_bRR _ _ _
theorem s_iviR {i y' n own ci a : Nat} {q : Nat × Nat} {As rest : List Value} (pc' : Nat) (hb : mCode y = b) (hd : decode b pc = .ok (.invokevirtual i, 3)) (hp : pc + 3 = pc') (ho : mOwn y = own) (hm : mthT own i = some (y', q)) (hy : y' < nMth ∧ ¬ (235 ≤ y' ∧ y' < 240)) (hs : mSta y' = false) (hi : false = decide ((mName y').name = "<init>")) (hr : bR2 y' = bRR) (hn : mArg y' = n) (hoc : mOwn y' = ci) (hci : ci < 12) (hl : n ≤ st.length) (hA : (st.take n).reverse = As) (hR : st.drop n = .ref a :: rest) (hc : (rest.map Value.category).sum ≤ 8) : sem E y pc ls st h = gd (hS h a = (ci + 1, 0)) (bR (E.2 y' (.ref a :: As) h) fun x h => sem E y pc' ls (.ref x :: rest) h) := by
  subst hp; subst hn; subst hA; subst hoc
  have hR1 : st.drop (mArg y' + 1) = rest := by rw [← List.drop_drop, hR]; rfl
  rw [sem_eq hb hd]
  simp only [stpI, gd_T, stpC_y ho hm hy, clV]
  rw [if_neg (by decide), gd_t (fun z => absurd z (by decide)), hR1, gd_t ⟨hs, hl, hc, hi⟩, hR]
  simp only [pR, goM_gd, rcv, if_pos hci, hr, beq_iff_eq]
  rw [goM_bRR]
theorem s_ispR {i y' n own ci a : Nat} {q : Nat × Nat} {As rest : List Value} (pc' : Nat) (hb : mCode y = b) (hd : decode b pc = .ok (.invokespecial i, 3)) (hp : pc + 3 = pc') (ho : mOwn y = own) (hm : mthT own i = some (y', q)) (hy : y' < nMth ∧ ¬ (235 ≤ y' ∧ y' < 240)) (hq : mIni y = true) (hs : mSta y' = false) (hi : true = decide ((mName y').name = "<init>")) (hr : bR2 y' = bRR) (hn : mArg y' = n) (hoc : mOwn y' = ci) (hci : ci < 12) (hl : n ≤ st.length) (hA : (st.take n).reverse = As) (hR : st.drop n = .ref a :: rest) (hc : (rest.map Value.category).sum ≤ 8) : sem E y pc ls st h = gd (hS h a = (ci + 1, 0)) (bR (E.2 y' (.ref a :: As) h) fun x h => sem E y pc' ls (.ref x :: rest) h) := by
  subst hp; subst hn; subst hA; subst hoc
  have hR1 : st.drop (mArg y' + 1) = rest := by rw [← List.drop_drop, hR]; rfl
  rw [sem_eq hb hd]
  simp only [stpI, gd_T, stpC_y ho hm hy, clV]
  rw [if_neg (by decide), gd_t (fun _ => hq), hR1, gd_t ⟨hs, hl, hc, hi⟩, hR]
  simp only [pR, goM_gd, rcv, if_pos hci, hr, beq_iff_eq]
  rw [goM_bRR]
theorem s_istV {i y' n own : Nat} {q : Nat × Nat} {As rest : List Value} (pc' : Nat) (hb : mCode y = b) (hd : decode b pc = .ok (.invokestatic i, 3)) (hp : pc + 3 = pc') (ho : mOwn y = own) (hm : mthT own i = some (y', q)) (hy : y' < nMth ∧ ¬ (235 ≤ y' ∧ y' < 240)) (hs : mSta y' = true) (hr : bR2 y' = bRV) (hn : mArg y' = n) (hl : n ≤ st.length) (hA : (st.take n).reverse = As) (hR : st.drop n = rest) (hc : (rest.map Value.category).sum ≤ 8) : sem E y pc ls st h = bV (E.2 y' As h) fun h => sem E y pc' ls rest h := by
  subst hp; subst hn; subst hA; subst hR
  rw [sem_eq hb hd]
  simp only [stpI, gd_T, stpC_y ho hm hy, if_true, clS]
  rw [gd_t ⟨hs, hl, hc⟩, hr]
  exact goM_bRV _ _ _
theorem s_iviV {i y' n own ci a : Nat} {q : Nat × Nat} {As rest : List Value} (pc' : Nat) (hb : mCode y = b) (hd : decode b pc = .ok (.invokevirtual i, 3)) (hp : pc + 3 = pc') (ho : mOwn y = own) (hm : mthT own i = some (y', q)) (hy : y' < nMth ∧ ¬ (235 ≤ y' ∧ y' < 240)) (hs : mSta y' = false) (hi : false = decide ((mName y').name = "<init>")) (hr : bR2 y' = bRV) (hn : mArg y' = n) (hoc : mOwn y' = ci) (hci : ci < 12) (hl : n ≤ st.length) (hA : (st.take n).reverse = As) (hR : st.drop n = .ref a :: rest) (hc : (rest.map Value.category).sum ≤ 8) : sem E y pc ls st h = gd (hS h a = (ci + 1, 0)) (bV (E.2 y' (.ref a :: As) h) fun h => sem E y pc' ls rest h) := by
  subst hp; subst hn; subst hA; subst hoc
  have hR1 : st.drop (mArg y' + 1) = rest := by rw [← List.drop_drop, hR]; rfl
  rw [sem_eq hb hd]
  simp only [stpI, gd_T, stpC_y ho hm hy, clV]
  rw [if_neg (by decide), gd_t (fun z => absurd z (by decide)), hR1, gd_t ⟨hs, hl, hc, hi⟩, hR]
  simp only [pR, goM_gd, rcv, if_pos hci, hr, beq_iff_eq]
  rw [goM_bRV]
theorem s_ispV {i y' n own ci a : Nat} {q : Nat × Nat} {As rest : List Value} (pc' : Nat) (hb : mCode y = b) (hd : decode b pc = .ok (.invokespecial i, 3)) (hp : pc + 3 = pc') (ho : mOwn y = own) (hm : mthT own i = some (y', q)) (hy : y' < nMth ∧ ¬ (235 ≤ y' ∧ y' < 240)) (hq : mIni y = true) (hs : mSta y' = false) (hi : true = decide ((mName y').name = "<init>")) (hr : bR2 y' = bRV) (hn : mArg y' = n) (hoc : mOwn y' = ci) (hci : ci < 12) (hl : n ≤ st.length) (hA : (st.take n).reverse = As) (hR : st.drop n = .ref a :: rest) (hc : (rest.map Value.category).sum ≤ 8) : sem E y pc ls st h = gd (hS h a = (ci + 1, 0)) (bV (E.2 y' (.ref a :: As) h) fun h => sem E y pc' ls rest h) := by
  subst hp; subst hn; subst hA; subst hoc
  have hR1 : st.drop (mArg y' + 1) = rest := by rw [← List.drop_drop, hR]; rfl
  rw [sem_eq hb hd]
  simp only [stpI, gd_T, stpC_y ho hm hy, clV]
  rw [if_neg (by decide), gd_t (fun _ => hq), hR1, gd_t ⟨hs, hl, hc, hi⟩, hR]
  simp only [pR, goM_gd, rcv, if_pos hci, hr, beq_iff_eq]
  rw [goM_bRV]
/-- a String's method -/
theorem s_iviS {i y' n own a : Nat} {q : Nat × Nat} {As rest : List Value} (pc' : Nat) (hb : mCode y = b) (hd : decode b pc = .ok (.invokevirtual i, 3)) (hp : pc + 3 = pc') (ho : mOwn y = own) (hm : mthT own i = some (y', q)) (hy : y' < nMth ∧ ¬ (235 ≤ y' ∧ y' < 240)) (hs : mSta y' = false) (hi : false = decide ((mName y').name = "<init>")) (hr : bR2 y' = bRI) (hn : mArg y' = n) (hoc : mOwn y' = 15) (hl : n ≤ st.length) (hA : (st.take n).reverse = As) (hR : st.drop n = .ref a :: rest) (hc : (rest.map Value.category).sum ≤ 8) : sem E y pc ls st h = gd (1 ≤ a ∧ a < 31) (bI (E.2 y' (.ref a :: As) h) fun x h => sem E y pc' ls (.int x :: rest) h) := by
  subst hp; subst hn; subst hA
  have hR1 : st.drop (mArg y' + 1) = rest := by rw [← List.drop_drop, hR]; rfl
  rw [sem_eq hb hd]
  simp only [stpI, gd_T, stpC_y ho hm hy, clV]
  rw [if_neg (by decide), gd_t (fun z => absurd z (by decide)), hR1, gd_t ⟨hs, hl, hc, hi⟩, hR]
  simp only [pR, rcv, hoc]
  rw [if_neg (by decide), hr, goM_gd, goM_bRI]
  simp only [decide_eq_true_eq, true_and]
theorem s_obj {i own : Nat} {a : Nat} {q : Nat × Nat} (pc' : Nat) (hb : mCode y = b) (hd : decode b pc = .ok (.invokespecial i, 3)) (hp : pc + 3 = pc') (ho : mOwn y = own) (hm : mthT own i = some (9999, q)) (hq : mIni y = true) (hc : (st.map Value.category).sum ≤ 8) : sem E y pc ls (.ref a :: st) h = sem E y pc' ls st h := by
  subst hp; subst ho
  rw [sem_eq hb hd]
  simp only [stpI, gd_T, stpC, hm, hq, and_self, pR, gd_t hc]
  rfl
theorem s_cpyI {i own : Nat} {a c : Nat} {sp dp n : Int32} {q : Nat × Nat} (pc' : Nat) (hb : mCode y = b) (hd : decode b pc = .ok (.invokestatic i, 3)) (hp : pc + 3 = pc') (ho : mOwn y = own) (hm : mthT own i = some (9998, q)) : sem E y pc ls (.int n :: .int dp :: .ref c :: .int sp :: .ref a :: st) h = gd (¬ sp < 0 ∧ ¬ dp < 0 ∧ ¬ n < 0 ∧ sp.toNatClampNeg + n.toNatClampNeg ≤ (hS h a).2 ∧ dp.toNatClampNeg + n.toNatClampNeg ≤ (hS h c).2 ∧ (st.map Value.category).sum ≤ 8)
    (if (hS h a).1 = 50 ∧ (hS h c).1 = 50 then sem E y pc' ls st (rI h c (cpy (hI h a) (hI h c) sp.toNatClampNeg dp.toNatClampNeg n.toNatClampNeg)) else if (hS h a).1 = 51 ∧ (hS h c).1 = 51 then sem E y pc' ls st (rJ h c (cpy (hJ h a) (hJ h c) sp.toNatClampNeg dp.toNatClampNeg n.toNatClampNeg)) else none) := by
  subst hp; subst ho
  rw [sem_eq hb hd]
  simp only [stpI, gd_T, stpC, hm, gd_T, pR, pI]
  rw [goM_gd]
  simp only [goM_ite]
  rfl
theorem s_mabs {i own q : Nat} {x : Int32} (pc' : Nat) (hb : mCode y = b) (hd : decode b pc = .ok (.invokestatic i, 3)) (hp : pc + 3 = pc') (ho : mOwn y = own) (hm : mthT own i = some (235, 0, q)) (hc : (st.map Value.category).sum ≤ 8) : sem E y pc ls (.int x :: st) h = sem E y pc' ls (.int (if 0 ≤ x then x else 0 - x) :: st) h := by
  subst hp; subst ho
  rw [sem_eq hb hd]
  simp only [stpI, gd_T, stpC, hm]
  rw [gd_t (show 235 < nMth by decide), if_pos (by decide), gd_t (And.intro trivial trivial)]
  simp only [mop, pI, pJ]
  rw [gd_t hc]
  rfl
theorem s_mmax {i own q : Nat} {x z : Int32} (pc' : Nat) (hb : mCode y = b) (hd : decode b pc = .ok (.invokestatic i, 3)) (hp : pc + 3 = pc') (ho : mOwn y = own) (hm : mthT own i = some (236, 0, q)) (hc : (st.map Value.category).sum ≤ 8) : sem E y pc ls (.int z :: .int x :: st) h = sem E y pc' ls (.int (if x < z then z else x) :: st) h := by
  subst hp; subst ho
  rw [sem_eq hb hd]
  simp only [stpI, gd_T, stpC, hm]
  rw [gd_t (show 236 < nMth by decide), if_pos (by decide), gd_t (And.intro trivial trivial)]
  simp only [mop, pI, pJ]
  rw [gd_t hc]
  rfl
theorem s_mmaxJ {i own q : Nat} {x z : Int64} (pc' : Nat) (hb : mCode y = b) (hd : decode b pc = .ok (.invokestatic i, 3)) (hp : pc + 3 = pc') (ho : mOwn y = own) (hm : mthT own i = some (237, 0, q)) (hc : (st.map Value.category).sum ≤ 8) : sem E y pc ls (.long z :: .long x :: st) h = sem E y pc' ls (.long (if z < x then x else z) :: st) h := by
  subst hp; subst ho
  rw [sem_eq hb hd]
  simp only [stpI, gd_T, stpC, hm]
  rw [gd_t (show 237 < nMth by decide), if_pos (by decide), gd_t (And.intro trivial trivial)]
  simp only [mop, pI, pJ]
  rw [gd_t hc]
  rfl
theorem s_mmin {i own q : Nat} {x z : Int32} (pc' : Nat) (hb : mCode y = b) (hd : decode b pc = .ok (.invokestatic i, 3)) (hp : pc + 3 = pc') (ho : mOwn y = own) (hm : mthT own i = some (238, 0, q)) (hc : (st.map Value.category).sum ≤ 8) : sem E y pc ls (.int z :: .int x :: st) h = sem E y pc' ls (.int (if z < x then z else x) :: st) h := by
  subst hp; subst ho
  rw [sem_eq hb hd]
  simp only [stpI, gd_T, stpC, hm]
  rw [gd_t (show 238 < nMth by decide), if_pos (by decide), gd_t (And.intro trivial trivial)]
  simp only [mop, pI, pJ]
  rw [gd_t hc]
  rfl
theorem s_mminJ {i own q : Nat} {x z : Int64} (pc' : Nat) (hb : mCode y = b) (hd : decode b pc = .ok (.invokestatic i, 3)) (hp : pc + 3 = pc') (ho : mOwn y = own) (hm : mthT own i = some (239, 0, q)) (hc : (st.map Value.category).sum ≤ 8) : sem E y pc ls (.long z :: .long x :: st) h = sem E y pc' ls (.long (if z < x then z else x) :: st) h := by
  subst hp; subst ho
  rw [sem_eq hb hd]
  simp only [stpI, gd_T, stpC, hm]
  rw [gd_t (show 239 < nMth by decide), if_pos (by decide), gd_t (And.intro trivial trivial)]
  simp only [mop, pI, pJ]
  rw [gd_t hc]
  rfl
theorem s_stk_invokestatic {i own : Nat} (hb : mCode y = b) (hd : decode b pc = .ok (.invokestatic i, 3)) (ho : mOwn y = own) (hm : mthT own i = none) : sem E y pc ls st h = none := by
  subst ho
  rw [sem_eq hb hd]
  simp only [stpI, gd_T, stpC, hm]
  rfl
theorem s_stk_invokevirtual {i own : Nat} (hb : mCode y = b) (hd : decode b pc = .ok (.invokevirtual i, 3)) (ho : mOwn y = own) (hm : mthT own i = none) : sem E y pc ls st h = none := by
  subst ho
  rw [sem_eq hb hd]
  simp only [stpI, gd_T, stpC, hm]
  rfl
/-- making -/
theorem s_new {i own ci q : Nat} (pc' : Nat) (hb : mCode y = b) (hd : decode b pc = .ok (.new i, 3)) (hp : pc + 3 = pc') (hq : mIni y = true) (ho : mOwn y = own) (hm : clkT own i = some (ci, q)) (hci : ci < 12) : sem E y pc ls st h = sem E y pc' ls (.ref (hN h) :: st) (alc h (ci + 1, 0) (nfl ci)) := by
  subst hp; subst ho
  rw [sem_eq hb hd]
  simp only [stpI, hq, and_self, and_true, true_and, gd_T, hm, gd_t hci]
  rfl
theorem s_newI {n : Int32} {N : Nat} (pc' : Nat) (hb : mCode y = b) (hd : decode b pc = .ok (.newarray .int, 2)) (hp : pc + 2 = pc') (hq : mIni y = true) (hn : ¬ n < 0) (hNn : n.toNatClampNeg = N) (hM : N ≤ 100000) : sem E y pc ls (.int n :: st) h = sem E y pc' ls (.ref (hN h) :: st) (alc h (50, N) N) := by
  subst hp; subst hNn
  rw [sem_eq hb hd]
  simp only [stpI, hq, and_self, and_true, true_and, gd_T, pI, gd_t (And.intro hn hM)]
  rfl
theorem s_newJ {n : Int32} {N : Nat} (pc' : Nat) (hb : mCode y = b) (hd : decode b pc = .ok (.newarray .long, 2)) (hp : pc + 2 = pc') (hq : mIni y = true) (hn : ¬ n < 0) (hNn : n.toNatClampNeg = N) (hM : N ≤ 100000) : sem E y pc ls (.int n :: st) h = sem E y pc' ls (.ref (hN h) :: st) (alc h (51, N) N) := by
  subst hp; subst hNn
  rw [sem_eq hb hd]
  simp only [stpI, hq, and_self, and_true, true_and, gd_T, pI, gd_t (And.intro hn hM)]
  rfl
theorem s_newZ {n : Int32} {N : Nat} (pc' : Nat) (hb : mCode y = b) (hd : decode b pc = .ok (.newarray .boolean, 2)) (hp : pc + 2 = pc') (hq : mIni y = true) (hn : ¬ n < 0) (hNn : n.toNatClampNeg = N) (hM : N ≤ 100000) : sem E y pc ls (.int n :: st) h = sem E y pc' ls (.ref (hN h) :: st) (alc h (52, N) N) := by
  subst hp; subst hNn
  rw [sem_eq hb hd]
  simp only [stpI, hq, and_self, and_true, true_and, gd_T, pI, gd_t (And.intro hn hM)]
  rfl
theorem s_newR {n : Int32} {N i own ci q : Nat} (pc' : Nat) (hb : mCode y = b) (hd : decode b pc = .ok (.anewarray i, 3)) (hp : pc + 3 = pc') (hq : mIni y = true) (ho : mOwn y = own) (hm : clkT own i = some (ci, q)) (hci : ci = 9 ∨ ci = 1 ∨ ci = 3 ∨ ci = 8) (hn : ¬ n < 0) (hNn : n.toNatClampNeg = N) (hM : N ≤ 100000) : sem E y pc ls (.int n :: st) h = sem E y pc' ls (.ref (hN h) :: st) (alc h (60 + ci, N) N) := by
  subst hp; subst hNn; subst ho
  rw [sem_eq hb hd]
  simp only [stpI, hq, and_self, and_true, true_and, gd_T, pI, gd_t (And.intro hn hM), hm, gd_t hci]
  rfl
theorem s_multI {n k : Int32} {N M i own q : Nat} (pc' : Nat) (hb : mCode y = b) (hd : decode b pc = .ok (.multianewarray i 2, 4)) (hp : pc + 4 = pc') (hq : mIni y = true) (ho : mOwn y = own) (hm : clkT own i = some (80, q)) (hn : ¬ n < 0) (hk : ¬ k < 0) (hNn : n.toNatClampNeg = N) (hKk : k.toNatClampNeg = M) (hb1 : N ≤ 1000) (hb2 : M ≤ 1000) : sem E y pc ls (.int k :: .int n :: st) h = sem E y pc' ls (.ref (hN h) :: st) (lnk (alcs (50, M) M N (alc h (80, N) N)) (hN h) (hN h + 1)) := by
  subst hp; subst hNn; subst ho; subst hKk
  rw [sem_eq hb hd]
  simp only [stpI, hq, and_self, and_true, true_and, gd_T, pI, hm, gd_t (And.intro hn (And.intro hb1 (And.intro hk hb2)))]
  rfl
theorem s_multJ {n k : Int32} {N M i own q : Nat} (pc' : Nat) (hb : mCode y = b) (hd : decode b pc = .ok (.multianewarray i 2, 4)) (hp : pc + 4 = pc') (hq : mIni y = true) (ho : mOwn y = own) (hm : clkT own i = some (81, q)) (hn : ¬ n < 0) (hk : ¬ k < 0) (hNn : n.toNatClampNeg = N) (hKk : k.toNatClampNeg = M) (hb1 : N ≤ 1000) (hb2 : M ≤ 1000) : sem E y pc ls (.int k :: .int n :: st) h = sem E y pc' ls (.ref (hN h) :: st) (lnk (alcs (51, M) M N (alc h (81, N) N)) (hN h) (hN h + 1)) := by
  subst hp; subst hNn; subst ho; subst hKk
  rw [sem_eq hb hd]
  simp only [stpI, hq, and_self, and_true, true_and, gd_T, pI, hm, gd_t (And.intro hn (And.intro hb1 (And.intro hk hb2)))]
  rfl
/-- ends -/
theorem s_iret {x : Int32} (hb : mCode y = b) (hd : decode b pc = .ok (.ireturn, 1)) (hr : mRet y = some .int) : sem E y pc ls [.int x] h = some (some (.int x), h) := by
  rw [sem_eq hb hd]
  simp only [stpI, gd_T, pI, hr]
  rfl
theorem s_zret {x : Int32} (hb : mCode y = b) (hd : decode b pc = .ok (.ireturn, 1)) (hr : mRet y = some .boolean) : sem E y pc ls [.int x] h = gd (okN .boolean x) (some (some (.int x), h)) := by
  rw [sem_eq hb hd]
  simp only [stpI, gd_T, pI, hr]
  simp only [goM_gd] <;> rfl
theorem s_zret1 (hb : mCode y = b) (hd : decode b pc = .ok (.ireturn, 1)) (hr : mRet y = some .boolean) : sem E y pc ls [.int 1] h = some (some (.int 1), h) := by
  rw [s_zret hb hd hr, gd_t (show okN .boolean 1 from rfl)]
theorem s_zret0 (hb : mCode y = b) (hd : decode b pc = .ok (.ireturn, 1)) (hr : mRet y = some .boolean) : sem E y pc ls [.int 0] h = some (some (.int 0), h) := by
  rw [s_zret hb hd hr, gd_t (show okN .boolean 0 from rfl)]
theorem s_bret {x : Int32} (hb : mCode y = b) (hd : decode b pc = .ok (.ireturn, 1)) (hr : mRet y = some .byte) : sem E y pc ls [.int x] h = gd (okN .byte x) (some (some (.int x), h)) := by
  rw [sem_eq hb hd]
  simp only [stpI, gd_T, pI, hr]
  simp only [goM_gd] <;> rfl
theorem s_cret {x : Int32} (hb : mCode y = b) (hd : decode b pc = .ok (.ireturn, 1)) (hr : mRet y = some .char) : sem E y pc ls [.int x] h = gd (okN .char x) (some (some (.int x), h)) := by
  rw [sem_eq hb hd]
  simp only [stpI, gd_T, pI, hr]
  simp only [goM_gd] <;> rfl
theorem s_lret {x : Int64} (hb : mCode y = b) (hd : decode b pc = .ok (.lreturn, 1)) (hr : mRet y = some .long) : sem E y pc ls [.long x] h = some (some (.long x), h) := by
  rw [sem_eq hb hd]
  simp only [stpI, gd_T, pJ, hr]
  rfl
theorem s_aret {x : Nat} {C : String} (hb : mCode y = b) (hd : decode b pc = .ok (.areturn, 1)) (hr : mRet y = some (.object C)) : sem E y pc ls [.ref x] h = some (some (.ref x), h) := by
  rw [sem_eq hb hd]
  simp only [stpI, gd_T, pR, hr]
  rfl
theorem s_vret (hb : mCode y = b) (hd : decode b pc = .ok (.return_, 1)) (hr : mRet y = none) : sem E y pc ls [] h = some (none, h) := by
  rw [sem_eq hb hd]
  simp only [stpI, gd_T, hr]
  rfl
end SR
