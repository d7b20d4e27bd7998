/-! ONE STEP, RUNS, MEANINGS -/
/-- what a method of class ci is called on: the tag of its receiver -/
def rcv (own : Nat) (h : Hp) (a : Nat) : Bool := if own < 12 then hS h a == (own + 1, 0) else decide (own = 15 ∧ 1 ≤ a ∧ a < 31)
def alen (X : Ctx) (h : Hp) (a : Nat) : Option Nat :=
  if a = 0 then some X.1 else if a < 31 then none else if a < 61 then some (strB.getD (a - 31) []).length else if 50 ≤ (hS h a).1 then some (hS h a).2 else none
/-- the meaning of a call: the arguments off the stack, the callee's answer on it -/
def bR2 (y : Nat) (o : Option (Option Value × Hp)) (pc : Nat) (ls : LV) (st : List Value) : Option MOut :=
  match mRet y with
  | none => bV o fun h => nx pc ls st h
  | some .long => bJ o fun x h => nx pc ls (.long x :: st) h
  | some (.object _) => bR o fun x h => nx pc ls (.ref x :: st) h
  | some _ => bI o fun x h => nx pc ls (.int x :: st) h
def clS (C : Orc) (y : Nat) (pc : Nat) (ls : LV) (st : List Value) (h : Hp) : Option MOut :=
  gd (mSta y = true ∧ mArg y ≤ st.length ∧ ((st.drop (mArg y)).map Value.category).sum ≤ 8) (bR2 y (C y (st.take (mArg y)).reverse h) pc ls (st.drop (mArg y)))
def clV (C : Orc) (y : Nat) (ini : Bool) (pc : Nat) (ls : LV) (st : List Value) (h : Hp) : Option MOut :=
  gd (mSta y = false ∧ mArg y ≤ st.length ∧ ((st.drop (mArg y + 1)).map Value.category).sum ≤ 8 ∧ ini = decide ((mName y).name = "<init>")) (pR (st.drop (mArg y)) fun a _ => gd (rcv (mOwn y) h a = true) (bR2 y (C y (.ref a :: (st.take (mArg y)).reverse) h) pc ls (st.drop (mArg y + 1))))
def cpy {α : Type} (f g : Nat → α) (sp dp n : Nat) : Nat → α := fun k => if dp ≤ k ∧ k < dp + n then f (sp + (k - dp)) else g k
/-- Math's own: abs, max, min -/
def mop (y : Nat) (pc : Nat) (ls : LV) (st : List Value) (h : Hp) : Option MOut := match y with
  | 235 => pI st fun x st => gd ((st.map Value.category).sum ≤ 8) (nx pc ls (.int (if 0 ≤ x then x else 0 - x) :: st) h)
  | 236 => pI st fun z st => pI st fun x st => gd ((st.map Value.category).sum ≤ 8) (nx pc ls (.int (if x < z then z else x) :: st) h)
  | 237 => pJ st fun z st => pJ st fun x st => gd ((st.map Value.category).sum ≤ 8) (nx pc ls (.long (if z < x then x else z) :: st) h)
  | 238 => pI st fun z st => pI st fun x st => gd ((st.map Value.category).sum ≤ 8) (nx pc ls (.int (if z < x then z else x) :: st) h)
  | 239 => pJ st fun z st => pJ st fun x st => gd ((st.map Value.category).sum ≤ 8) (nx pc ls (.long (if z < x then z else x) :: st) h)
  | _ => none
def stpC (E : Env2) (y : Nat) (vir : Nat) (i : Nat) (pc : Nat) (ls : LV) (st : List Value) (h : Hp) : Option MOut :=
  match mthT (mOwn y) i with
  | some (9999, _, _) => gd (vir = 2 ∧ mIni y = true) (pR st fun _ st => gd ((st.map Value.category).sum ≤ 8) (nx (pc + 3) ls st h))
  | some (9998, _, _) => gd (vir = 0) (pI st fun n st => pI st fun dp st => pR st fun b st => pI st fun sp st => pR st fun a st =>
      gd (¬ sp < 0 ∧ ¬ dp < 0 ∧ ¬ n < 0 ∧ sp.toNatClampNeg + n.toNatClampNeg ≤ (hS h a).2 ∧ dp.toNatClampNeg + n.toNatClampNeg ≤ (hS h b).2 ∧ (st.map Value.category).sum ≤ 8)
        (if (hS h a).1 = 50 ∧ (hS h b).1 = 50 then nx (pc + 3) ls st (rI h b (cpy (hI h a) (hI h b) sp.toNatClampNeg dp.toNatClampNeg n.toNatClampNeg))
         else if (hS h a).1 = 51 ∧ (hS h b).1 = 51 then nx (pc + 3) ls st (rJ h b (cpy (hJ h a) (hJ h b) sp.toNatClampNeg dp.toNatClampNeg n.toNatClampNeg)) else none))
  | some (y', k, _) => gd (y' < nMth) (if 235 ≤ y' ∧ y' < 240 then gd (vir = 0 ∧ k = 0) (mop y' (pc + 3) ls st h) else if vir = 0 then clS E.2 y' (pc + 3) ls st h else gd (vir = 2 → mIni y = true) (clV E.2 y' (decide (vir = 2)) (pc + 3) ls st h))
  | none => none
def stpF (y : Nat) (i : Nat) (pc : Nat) (ls : LV) (st : List Value) (h : Hp) : Option MOut :=
  pR st fun a st =>
    if a < 61 then gd (1 ≤ a ∧ a < 31) (match stfT (mOwn y) i with
      | some (0, _) => nx (pc + 3) ls (.ref (a + 30) :: st) h
      | some (1, _) => nx (pc + 3) ls (.int 0 :: st) h
      | _ => none)
    else match fldT (mOwn y) i with
      | none => none
      | some (ci, k, _) => gd ((hS h a) = (ci + 1, 0)) (match fty ci k with
        | 0 => nx (pc + 3) ls (.int (hI h a k) :: st) h
        | 3 => nx (pc + 3) ls (.int (hI h a k) :: st) h
        | 1 => nx (pc + 3) ls (.long (hJ h a k) :: st) h
        | 2 => oR (hP h a k) fun b => nx (pc + 3) ls (.ref b :: st) h
        | _ => none)
def fieldFin (ci k : Nat) : Bool := match vwCl[ci]? with
  | some r => (r.2.1 k).2.2.2
  | none => true
def stpG (y : Nat) (i : Nat) (pc : Nat) (ls : LV) (st : List Value) (h : Hp) : Option MOut :=
  match fldT (mOwn y) i with
  | none => none
  | some (ci, k, _) => gd (fieldFin ci k = false ∨ (mOwn y = ci ∧ (mName y).name = "<init>")) (match fty ci k with
    | 0 => pI st fun x st => pR st fun a st => gd (61 ≤ a ∧ (hS h a) = (ci + 1, 0)) (nx (pc + 3) ls st (sI h a k x))
    | 3 => pI st fun x st => pR st fun a st => gd (61 ≤ a ∧ (hS h a) = (ci + 1, 0) ∧ okN .boolean x) (nx (pc + 3) ls st (sI h a k x))
    | 1 => pJ st fun x st => pR st fun a st => gd (61 ≤ a ∧ (hS h a) = (ci + 1, 0)) (nx (pc + 3) ls st (sJ h a k x))
    | 2 => pR st fun x st => pR st fun a st => gd (61 ≤ a ∧ (hS h a) = (ci + 1, 0) ∧ (hS h x).1 = frt ci k) (nx (pc + 3) ls st (sP h a k (some x)))
    | _ => none)
/-- the rows of references that change: FiveLands' laws and pacts, the ring's rows -/
abbrev GA (h : Hp) (a : Nat) : Prop := hP h 62 1 = some a ∨ hP h 62 2 = some a ∨ (hS h a).1 = 81
def stpI (E : Env2) (y : Nat) (ins : Instr) (len : Nat) (pc : Nat) (ls : LV) (st : List Value) (h : Hp) : Option MOut :=
  match ins with
  | .aload_n k => gd (len = 1) (lR ls k fun x => nx (pc + 1) ls (.ref x :: st) h)
  | .aload i => gd (len = 2) (lR ls i fun x => nx (pc + 2) ls (.ref x :: st) h)
  | .iload_n k => gd (len = 1) (lI ls k fun x => nx (pc + 1) ls (.int x :: st) h)
  | .iload i => gd (len = 2) (lI ls i fun x => nx (pc + 2) ls (.int x :: st) h)
  | .lload_n k => gd (len = 1) (lJ ls k fun x => nx (pc + 1) ls (.long x :: st) h)
  | .lload i => gd (len = 2) (lJ ls i fun x => nx (pc + 2) ls (.long x :: st) h)
  | .istore_n k => gd (len = 1) (pI st fun x st => tI ls k (.int x) fun ls => nx (pc + 1) ls st h)
  | .istore i => gd (len = 2) (pI st fun x st => tI ls i (.int x) fun ls => nx (pc + 2) ls st h)
  | .lstore_n k => gd (len = 1) (pJ st fun x st => tJ ls k (.long x) fun ls => nx (pc + 1) ls st h)
  | .lstore i => gd (len = 2) (pJ st fun x st => tJ ls i (.long x) fun ls => nx (pc + 2) ls st h)
  | .astore_n k => gd (len = 1) (pR st fun x st => tI ls k (.ref x) fun ls => nx (pc + 1) ls st h)
  | .astore i => gd (len = 2) (pR st fun x st => tI ls i (.ref x) fun ls => nx (pc + 2) ls st h)
  | .iinc i n => gd (len = 3) (lI ls i fun x => tI ls i (.int (x + Int32.ofInt n)) fun ls => nx (pc + 3) ls st h)
  | .iconst n => gd (len = 1) (nx (pc + 1) ls (.int (Int32.ofInt n) :: st) h)
  | .bipush n => gd (len = 2) (nx (pc + 2) ls (.int (Int8.ofInt n).toInt32 :: st) h)
  | .sipush n => gd (len = 3) (nx (pc + 3) ls (.int (Int16.ofInt n).toInt32 :: st) h)
  | .lconst n => gd (len = 1) (nx (pc + 1) ls (.long (Int64.ofNat (n : Nat)) :: st) h)
  | .ldc i => gd (len = 2) (match cstT (mOwn y) i, strT (mOwn y) i with
    | some (v, _), _ => nx (pc + 2) ls (.int (Int32.ofInt v) :: st) h
    | none, some (k, _) => nx (pc + 2) ls (.ref (1 + k) :: st) h
    | _, _ => none)
  | .ldc_w i => gd (len = 3) (match cstT (mOwn y) i, strT (mOwn y) i with
    | some (v, _), _ => nx (pc + 3) ls (.int (Int32.ofInt v) :: st) h
    | none, some (k, _) => nx (pc + 3) ls (.ref (1 + k) :: st) h
    | _, _ => none)
  | .ldc2_w i => gd (len = 3) (match cslT (mOwn y) i with
    | some (v, _) => nx (pc + 3) ls (.long (Int64.ofInt v) :: st) h
    | _ => none)
  | .dup => gd (len = 1) (pV st fun v st => gd (v.category = 1) (nx (pc + 1) ls (v :: v :: st) h))
  | .dup2 => gd (len = 1) (pV st fun v st => pV st fun w st => gd (v.category = 1 ∧ w.category = 1) (nx (pc + 1) ls (v :: w :: v :: w :: st) h))
  | .pop => gd (len = 1) (pV st fun v st => gd (v.category = 1) (nx (pc + 1) ls st h))
  | .pop2 => gd (len = 1) (pJ st fun _ st => nx (pc + 1) ls st h)
  | .iadd => gd (len = 1) (pI st fun b st => pI st fun a st => nx (pc + 1) ls (.int (a + b) :: st) h)
  | .isub => gd (len = 1) (pI st fun b st => pI st fun a st => nx (pc + 1) ls (.int (a - b) :: st) h)
  | .imul => gd (len = 1) (pI st fun b st => pI st fun a st => nx (pc + 1) ls (.int (a * b) :: st) h)
  | .idiv => gd (len = 1) (pI st fun b st => pI st fun a st => gd (¬ b = 0) (nx (pc + 1) ls (.int (a / b) :: st) h))
  | .irem => gd (len = 1) (pI st fun b st => pI st fun a st => gd (¬ b = 0) (nx (pc + 1) ls (.int (a - a / b * b) :: st) h))
  | .ineg => gd (len = 1) (pI st fun a st => nx (pc + 1) ls (.int (-a) :: st) h)
  | .iand => gd (len = 1) (pI st fun b st => pI st fun a st => nx (pc + 1) ls (.int (a &&& b) :: st) h)
  | .ior => gd (len = 1) (pI st fun b st => pI st fun a st => nx (pc + 1) ls (.int (a ||| b) :: st) h)
  | .ixor => gd (len = 1) (pI st fun b st => pI st fun a st => nx (pc + 1) ls (.int (a ^^^ b) :: st) h)
  | .ishl => gd (len = 1) (pI st fun b st => pI st fun a st => nx (pc + 1) ls (.int (a <<< (b &&& 31)) :: st) h)
  | .ishr => gd (len = 1) (pI st fun b st => pI st fun a st => nx (pc + 1) ls (.int (a >>> (b &&& 31)) :: st) h)
  | .iushr => gd (len = 1) (pI st fun b st => pI st fun a st => nx (pc + 1) ls (.int ((a.toUInt32 >>> (b.toUInt32 &&& Int32.toUInt32 31)).toInt32) :: st) h)
  | .ladd => gd (len = 1) (pJ st fun b st => pJ st fun a st => nx (pc + 1) ls (.long (a + b) :: st) h)
  | .lsub => gd (len = 1) (pJ st fun b st => pJ st fun a st => nx (pc + 1) ls (.long (a - b) :: st) h)
  | .lmul => gd (len = 1) (pJ st fun b st => pJ st fun a st => nx (pc + 1) ls (.long (a * b) :: st) h)
  | .ldiv => gd (len = 1) (pJ st fun b st => pJ st fun a st => gd (¬ b = 0) (nx (pc + 1) ls (.long (a / b) :: st) h))
  | .land => gd (len = 1) (pJ st fun b st => pJ st fun a st => nx (pc + 1) ls (.long (a &&& b) :: st) h)
  | .lor => gd (len = 1) (pJ st fun b st => pJ st fun a st => nx (pc + 1) ls (.long (a ||| b) :: st) h)
  | .lshl => gd (len = 1) (pI st fun b st => pJ st fun a st => nx (pc + 1) ls (.long (a <<< (b.toInt64 &&& 63)) :: st) h)
  | .lshr => gd (len = 1) (pI st fun b st => pJ st fun a st => nx (pc + 1) ls (.long (a >>> (b.toInt64 &&& 63)) :: st) h)
  | .lcmp => gd (len = 1) (pJ st fun b st => pJ st fun a st => nx (pc + 1) ls (.int (lg_cmp a b) :: st) h)
  | .i2l => gd (len = 1) (pI st fun a st => nx (pc + 1) ls (.long a.toInt64 :: st) h)
  | .l2i => gd (len = 1) (pJ st fun a st => nx (pc + 1) ls (.int a.toInt32 :: st) h)
  | .i2c => gd (len = 1) (pI st fun a st => nx (pc + 1) ls (.int (a.toUInt32 % 65536).toInt32 :: st) h)
  | .goto off => gd (len = 3) (jmp pc off fun t => nx t ls st h)
  | .ifCond c off => gd (len = 3) (pI st fun a st => jmp pc off fun t => if cnd c a 0 = true then nx t ls st h else nx (pc + 3) ls st h)
  | .if_icmp c off => gd (len = 3) (pI st fun b st => pI st fun a st => jmp pc off fun t => if cnd c a b = true then nx t ls st h else nx (pc + 3) ls st h)
  | .tableswitch d lo hi offs => pI st fun x st => if x.toInt < lo ∨ hi < x.toInt then jmp pc d fun t => nx t ls st h else match offs[(x.toInt - lo).toNat]? with
    | some off => jmp pc off fun t => nx t ls st h
    | none => none
  | .iaload => gd (len = 1) (pI st fun i st => pR st fun a st => if a = 0 then gd (inb i E.1.1) (nx (pc + 1) ls (.int (E.1.2.1 i.toNatClampNeg) :: st) h)
      else gd (61 ≤ a ∧ (hS h a).1 = 50 ∧ inb i (hS h a).2) (nx (pc + 1) ls (.int (hI h a i.toNatClampNeg) :: st) h))
  | .baload => gd (len = 1) (pI st fun i st => pR st fun a st => if a < 61 then gd (31 ≤ a ∧ inb i (strB.getD (a - 31) []).length) (nx (pc + 1) ls (.int (Int32.ofNat ((strB.getD (a - 31) []).getD i.toNatClampNeg 0)) :: st) h)
      else gd ((hS h a).1 = 52 ∧ inb i (hS h a).2) (nx (pc + 1) ls (.int (hI h a i.toNatClampNeg) :: st) h))
  | .laload => gd (len = 1) (pI st fun i st => pR st fun a st => gd (61 ≤ a ∧ (hS h a).1 = 51 ∧ inb i (hS h a).2) (nx (pc + 1) ls (.long (hJ h a i.toNatClampNeg) :: st) h))
  | .aaload => gd (len = 1) (pI st fun i st => pR st fun a st => gd (61 ≤ a ∧ 60 ≤ (hS h a).1 ∧ (hS h a).1 < 82 ∧ inb i (hS h a).2) (oR (hP h a i.toNatClampNeg) fun b => nx (pc + 1) ls (.ref b :: st) h))
  | .iastore => gd (len = 1) (pI st fun v st => pI st fun i st => pR st fun a st => gd (61 ≤ a ∧ (hS h a).1 = 50 ∧ inb i (hS h a).2) (nx (pc + 1) ls st (sI h a i.toNatClampNeg v)))
  | .bastore => gd (len = 1) (pI st fun v st => pI st fun i st => pR st fun a st => gd (61 ≤ a ∧ (hS h a).1 = 52 ∧ inb i (hS h a).2 ∧ okN .boolean v) (nx (pc + 1) ls st (sI h a i.toNatClampNeg v)))
  | .lastore => gd (len = 1) (pJ st fun v st => pI st fun i st => pR st fun a st => gd (61 ≤ a ∧ (hS h a).1 = 51 ∧ inb i (hS h a).2) (nx (pc + 1) ls st (sJ h a i.toNatClampNeg v)))
  | .aastore => gd (len = 1) (pR st fun v st => pI st fun i st => pR st fun a st => gd (mIni y = true ∨ GA h a) (gd (61 ≤ a ∧ 61 ≤ v ∧ inb i (hS h a).2 ∧ ((60 ≤ (hS h a).1 ∧ (hS h a).1 < 72 ∧ hS h v = ((hS h a).1 - 59, 0)) ∨ ((hS h a).1 = 81 ∧ hS h v = (51, 7)))) (nx (pc + 1) ls st (sP h a i.toNatClampNeg (some v)))))
  | .arraylength => gd (len = 1) (pR st fun a st => match alen E.1 h a with
    | some n => nx (pc + 1) ls (.int (Int32.ofNat n) :: st) h
    | none => none)
  | .getfield i => gd (len = 3) (stpF y i pc ls st h)
  | .putfield i => gd (len = 3) (stpG y i pc ls st h)
  | .getstatic i => gd (len = 3) (match staT (mOwn y) i with
    | some (0, _) => nx (pc + 3) ls (.int 1 :: st) h
    | some (1, _) => nx (pc + 3) ls (E.1.2.2 :: st) h
    | _ => none)
  | .invokestatic i => gd (len = 3) (stpC E y 0 i pc ls st h)
  | .invokevirtual i => gd (len = 3) (stpC E y 1 i pc ls st h)
  | .invokespecial i => gd (len = 3) (stpC E y 2 i pc ls st h)
  | .new i => gd (len = 3 ∧ mIni y = true) (match clkT (mOwn y) i with
    | some (ci, _) => gd (ci < 12) (nx (pc + 3) ls (.ref (hN h) :: st) (alc h (ci + 1, 0) (nfl ci)))
    | none => none)
  | .newarray t => gd (len = 2 ∧ mIni y = true) (pI st fun n st => gd (¬ n < 0 ∧ n.toNatClampNeg ≤ 100000) (match t with
    | .int => nx (pc + 2) ls (.ref (hN h) :: st) (alc h (50, n.toNatClampNeg) n.toNatClampNeg)
    | .long => nx (pc + 2) ls (.ref (hN h) :: st) (alc h (51, n.toNatClampNeg) n.toNatClampNeg)
    | .boolean => nx (pc + 2) ls (.ref (hN h) :: st) (alc h (52, n.toNatClampNeg) n.toNatClampNeg)
    | _ => none))
  | .anewarray i => gd (len = 3 ∧ mIni y = true) (pI st fun n st => gd (¬ n < 0 ∧ n.toNatClampNeg ≤ 100000) (match clkT (mOwn y) i with
    | some (ci, _) => gd (ci = 9 ∨ ci = 1 ∨ ci = 3 ∨ ci = 8) (nx (pc + 3) ls (.ref (hN h) :: st) (alc h (60 + ci, n.toNatClampNeg) n.toNatClampNeg))
    | none => none))
  | .multianewarray i d => gd (len = 4 ∧ d = 2 ∧ mIni y = true) (pI st fun k st => pI st fun n st => gd (¬ n < 0 ∧ n.toNatClampNeg ≤ 1000 ∧ ¬ k < 0 ∧ k.toNatClampNeg ≤ 1000) (match clkT (mOwn y) i with
    | some (80, _) => nx (pc + 4) ls (.ref (hN h) :: st) (lnk (alcs (50, k.toNatClampNeg) k.toNatClampNeg n.toNatClampNeg (alc h (80, n.toNatClampNeg) n.toNatClampNeg)) (hN h) (hN h + 1))
    | some (81, _) => nx (pc + 4) ls (.ref (hN h) :: st) (lnk (alcs (51, k.toNatClampNeg) k.toNatClampNeg n.toNatClampNeg (alc h (81, n.toNatClampNeg) n.toNatClampNeg)) (hN h) (hN h + 1))
    | _ => none))
  | .ireturn => gd (len = 1) (pI st fun x st => match st, mRet y with
    | [], some .int => rt (some (.int x)) h
    | [], some .boolean => gd (okN .boolean x) (rt (some (.int x)) h)
    | [], some .byte => gd (okN .byte x) (rt (some (.int x)) h)
    | [], some .char => gd (okN .char x) (rt (some (.int x)) h)
    | _, _ => none)
  | .lreturn => gd (len = 1) (pJ st fun x st => match st, mRet y with
    | [], some .long => rt (some (.long x)) h
    | _, _ => none)
  | .areturn => gd (len = 1) (pR st fun x st => match st, mRet y with
    | [], some (.object _) => rt (some (.ref x)) h
    | _, _ => none)
  | .return_ => gd (len = 1) (match st, mRet y with
    | [], none => rt none h
    | _, _ => none)
  | _ => none
def stp (E : Env2) (y : Nat) (s : MSt) : Option MOut := match decode (mCode y) s.1 with
  | .ok (ins, len) => stpI E y ins len s.1 s.2.1 s.2.2.1 s.2.2.2
  | .error _ => none
def run (E : Env2) (y : Nat) : Nat → MSt → Option (Option Value × Hp)
  | 0, _ => none
  | n + 1, s => match stp E y s with
    | none => none
    | some (.inl s') => run E y n s'
    | some (.inr r) => some r
theorem run_mono {E : Env2} {y : Nat} : ∀ {n m : Nat} {s : MSt} {r : Option Value × Hp}, run E y n s = some r → n ≤ m → run E y m s = some r
  | 0, _, _, _, h, _ => by cases h
  | n + 1, 0, _, _, _, hm => absurd hm (by omega)
  | n + 1, m + 1, s, r, h, hm => by
    unfold run at h ⊢
    cases hs : stp E y s with
    | none => rw [hs] at h; cases h
    | some o =>
      rw [hs] at h
      cases o with
      | inl s' => exact run_mono h (Nat.le_of_succ_le_succ hm)
      | inr q => exact h
noncomputable def semS (E : Env2) (y : Nat) (s : MSt) : Option (Option Value × Hp) :=
  @dite _ (∃ r, ∃ n, run E y n s = some r) (Classical.propDecidable _) (fun hx => some (Classical.choose hx)) (fun _ => none)
theorem semS_iff {E : Env2} {y : Nat} {s : MSt} {r : Option Value × Hp} : semS E y s = some r ↔ ∃ n, run E y n s = some r := by
  unfold semS
  by_cases hx : ∃ r, ∃ n, run E y n s = some r
  · rw [dif_pos hx]
    have hc := Classical.choose_spec hx
    constructor
    · intro h
      cases h
      exact hc
    · rintro ⟨n, hn⟩
      obtain ⟨m, hm⟩ := hc
      have h1 := run_mono hn (Nat.le_max_left n m)
      have h2 := run_mono hm (Nat.le_max_right n m)
      rw [h1] at h2
      rw [← Option.some.inj h2]
  · rw [dif_neg hx]
    constructor
    · intro h; cases h
    · rintro ⟨n, hn⟩
      exact absurd ⟨r, n, hn⟩ hx
theorem semS_eq (E : Env2) (y : Nat) (s : MSt) : semS E y s = match stp E y s with
    | none => none
    | some (.inl s') => semS E y s'
    | some (.inr r) => some r := by
  apply Option.ext
  intro r
  rw [semS_iff]
  constructor
  · rintro ⟨n, hn⟩
    cases n with
    | zero => cases hn
    | succ n =>
      unfold run at hn
      cases hs : stp E y s with
      | none => rw [hs] at hn; cases hn
      | some o =>
        rw [hs] at hn
        cases o with
        | inl s' => exact semS_iff.mpr ⟨n, hn⟩
        | inr q => exact hn
  · intro h
    cases hs : stp E y s with
    | none => rw [hs] at h; cases h
    | some o =>
      rw [hs] at h
      cases o with
      | inl s' =>
        obtain ⟨n, hn⟩ := semS_iff.mp h
        exact ⟨n + 1, by unfold run; rw [hs]; exact hn⟩
      | inr q => exact ⟨1, by unfold run; rw [hs]; exact h⟩
noncomputable def sem (E : Env2) (y pc : Nat) (ls : LV) (st : List Value) (h : Hp) : Option (Option Value × Hp) := semS E y (pc, ls, st, h)
/-- the locals at a method's entry -/
def lvE : List Value → LV
  | [] => []
  | .long x :: r => some (.long x) :: none :: lvE r
  | .double x :: r => some (.double x) :: none :: lvE r
  | v :: r => some v :: lvE r
def ent (y : Nat) (args : List Value) : LV := lvE args ++ List.replicate (mLoc y - (lvE args).length) none
noncomputable def K (X : Ctx) : Nat → Orc
  | 0 => fun _ _ _ => none
  | d + 1 => fun y args h => gd ((lvE args).length ≤ mLoc y) (sem (X, K X d) y 0 (ent y args) [] h)
/-- what one step makes of a meaning -/
def goM (E : Env2) (y : Nat) (o : Option MOut) (f : MSt → Option (Option Value × Hp)) : Option (Option Value × Hp) := match o with
  | none => none
  | some (.inl s') => f s'
  | some (.inr r) => some r
theorem sem_eq {E : Env2} {y pc : Nat} {ls : LV} {st : List Value} {h : Hp} {b : ByteArray} {ins : Instr} {len : Nat} (hb : mCode y = b) (hd : decode b pc = .ok (ins, len)) :
    sem E y pc ls st h = goM E y (stpI E y ins len pc ls st h) (fun s => sem E y s.1 s.2.1 s.2.2.1 s.2.2.2) := by
  unfold sem
  rw [semS_eq]
  unfold stp
  rw [hb]
  simp only [hd]
  rfl
