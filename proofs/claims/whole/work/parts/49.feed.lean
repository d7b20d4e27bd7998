/-! feed -/
def byt (x : Int32) (s : Nat) : Nat := ((x >>> (Int32.ofNat s &&& 31)) &&& 255).toBitVec.toNat
theorem byt_v (x : Int32) (s : Nat) : (x >>> (Int32.ofNat s &&& 31)) &&& 255 = Int32.ofNat (byt x s) := by
  apply Int32.toBitVec_inj.1
  show _ = BitVec.ofNat 32 _
  unfold byt
  rw [BitVec.ofNat_toNat, BitVec.setWidth_eq]
theorem byt_lt (x : Int32) (s : Nat) : byt x s < 256 := by
  unfold byt
  rw [Int32.toBitVec_and, BitVec.toNat_and]
  exact Nat.lt_succ_of_le (Nat.and_le_right)
theorem bt255 : ∀ i, i < 32 → bt 255 i = decide (i < 8) := by decide +kernel
theorem and255 {a b : Int32} (h : ∀ i, i < 8 → bt a i = bt b i) : a &&& 255 = b &&& 255 := by
  apply bt_ext
  intro k hk
  rw [bt_and, bt_and, bt255 k hk]
  by_cases z : k < 8
  · rw [h k z]
  · rw [decide_eq_false z, Bool.and_false, Bool.and_false]
theorem bt_sar {x : Int32} {s i : Nat} (hs : s < 32) (hi : s + i < 32) : bt (x >>> (Int32.ofNat s &&& 31)) i = bt x (s + i) := by
  unfold bt
  rw [Int32.toBitVec_shiftRight, BitVec.sshiftRight_eq', smod32 s hs, BitVec.getLsbD_sshiftRight, if_pos hi, decide_eq_false (by omega)]
  rfl
theorem bt_shrU {x : Int32} {s i : Nat} (c : UInt32) (hc : (c.toBitVec % 32).toNat = s) : bt ((x.toUInt32 >>> c).toInt32) i = bt x (s + i) := by
  unfold bt
  show ((x.toUInt32 >>> c).toBitVec).getLsbD i = _
  rw [UInt32.toBitVec_shiftRight]
  show (x.toBitVec >>> (c.toBitVec % 32)).getLsbD i = _
  rw [BitVec.ushiftRight_eq', BitVec.getLsbD_ushiftRight, hc]
theorem byt_c {x : Int32} {s : Nat} (hs : s = 24 ∨ s = 16 ∨ s = 8 ∨ s = 0) : (((x).toUInt32 >>> ((Int32.ofNat s).toUInt32 &&& Int32.toUInt32 31)).toInt32 &&& 255) = Int32.ofNat (byt x s) := by
  rw [← byt_v]
  apply and255
  intro i hi
  rw [bt_sar (by omega) (by omega)]
  refine bt_shrU _ ?_
  rcases hs with rfl | rfl | rfl | rfl <;> decide
abbrev Tp : Type := (Nat → Nat) × Nat
def pushB (t : Tp) (b : Nat) : Tp := (updW t.1 t.2 b, t.2 + 1)
def push4 (t : Tp) (x : Int32) : Tp := pushB (pushB (pushB (pushB t (byt x 24)) (byt x 16)) (byt x 8)) (byt x 0)
def push20 (t : Tp) (a b c d e : Int32) : Tp := push4 (push4 (push4 (push4 (push4 t a) b) c) d) e
def okTp (t : Tp) : Prop := ∀ k, t.1 k < 256
theorem okTp.p {t : Tp} (o : okTp t) {b : Nat} (hb : b < 256) : okTp (pushB t b) := fun k => by
  show (if k = t.2 then b else t.1 k) < 256
  split
  · exact hb
  · exact o k
theorem okTp.p4 {t : Tp} (o : okTp t) {x : Int32} : okTp (push4 t x) := (((o.p (byt_lt _ _)).p (byt_lt _ _)).p (byt_lt _ _)).p (byt_lt _ _)
/-- a tape in a row, its length in a field -/
def tpAt (h : Hp) (a k b : Nat) (t : Tp) : Prop := hI h a k = Int32.ofNat t.2 ∧ ∀ j, j < t.2 → hI h b j = Int32.ofNat (t.1 j)
theorem tpAt.push {h h' : Hp} {a k b : Nat} {t : Tp} {v : Nat} (q : tpAt h a k b t) (e1 : hI h' a k = Int32.ofNat (t.2 + 1)) (e2 : hI h' b = up1 (hI h b) t.2 (Int32.ofNat v)) : tpAt h' a k b (pushB t v) := by
  refine ⟨e1, fun j hj => ?_⟩
  have hj : j < t.2 + 1 := hj
  rw [e2, up1]
  show _ = Int32.ofNat (if j = t.2 then v else t.1 j)
  by_cases z : j = t.2
  · rw [if_pos z, if_pos z]
  · rw [if_neg z, if_neg z]; exact q.2 j (by omega)
section FD
variable {X : Ctx} {d : Nat} {h : Hp} {S : AS} {Q : Option Value → Hp → Prop}
theorem put_step {x : Int32} {s : Nat} {t : Tp} {h : Hp} (I : Inv h) (hs : s = 24 ∨ s = 16 ∨ s = 8 ∨ s = 0) (ht : t.2 < 600) (q : tpAt h 62 13 81 t)
    (k : ∀ h', Inv h' → Eo (fun a => a = 62 ∨ a = 81) h h' → hP h' = hP h → hJ h' = hJ h → tpAt h' 62 13 81 (pushB t (byt x s)) → Wp (sem (X, K X d) 102 3 [some (.ref 62), some (.int x), some (.int (Int32.ofNat s + (-8)))] [] h') Q) :
    Wp (sem (X, K X d) 102 3 [some (.ref 62), some (.int x), some (.int (Int32.ofNat s))] [] h) Q := by
  rw [b_102_3]
  refine w_iff (i_lt0 (by omega)) ?_
  refine w_gI I s_62 ?_
  rw [q.1]
  refine w_iff (fun z => absurd ((i_le (m := 600) (by omega) (by omega)).mp z) (by omega)) ?_
  refine w_gL I s_62 l_62_6 ?_
  refine w_gI I s_62 ?_
  rw [q.1, byt_c hs]
  refine w_wIn I s_81 ht (by decide) fun I => ?_
  refine w_gI I s_62 ?_
  rw [sI_other (b := 62) (by decide), q.1, i32_ofNat_succ]
  refine w_fI I s_62 fun I => ?_
  refine k _ I ((Eo.rf.kI (Or.inr rfl)).kI (Or.inl rfl)) rfl rfl (q.push ?_ ?_)
  · rw [hI_sI_self, up1, if_pos rfl]
  · rw [sI_other (by decide), hI_sI_self]
theorem m_102 {x : Int32} {t : Tp} {h : Hp} (I : Inv h) (ht : t.2 + 4 ≤ 600) (q : tpAt h 62 13 81 t) :
    Wp (K X (d + 1) 102 [.ref 62, .int x] h) (VV fun h' => Eo (fun a => a = 62 ∨ a = 81) h h' ∧ hP h' = hP h ∧ hJ h' = hJ h ∧ tpAt h' 62 13 81 (push4 t x)) := by
  rw [k_102]
  refine put_step (s := 24) I (by omega) (by omega) q fun h1 I1 E1 P1 J1 q1 => ?_
  refine put_step (s := 16) I1 (by omega) (by show t.2 + 1 < 600; omega) q1 fun h2 I2 E2 P2 J2 q2 => ?_
  refine put_step (s := 8) I2 (by omega) (by show t.2 + 1 + 1 < 600; omega) q2 fun h3 I3 E3 P3 J3 q3 => ?_
  refine put_step (s := 0) I3 (by omega) (by show t.2 + 1 + 1 + 1 < 600; omega) q3 fun h4 I4 E4 P4 J4 q4 => ?_
  rw [b_102_3]
  refine w_ift (by decide) ?_
  exact Wp.retv ⟨((E1.tr E2).tr E3).tr E4, P4.trans (P3.trans (P2.trans P1)), J4.trans (J3.trans (J2.trans J1)), q4⟩
def okFeed (S : AS) : Prop := (sT S).2 + 20 ≤ 600
def feedS (S : AS) (a b c d e : Int32) : AS := putT S (push20 (sT S) a b c d e)
theorem okA_feed {a b c d e : Int32} (o : okA S) (k : okFeed S) : okA (feedS S a b c d e) := by
  obtain ⟨o1, o2, o3, o4, o5⟩ := o
  have ot : okTp (sT S) := o4.2
  exact ⟨o1, o2, o3, ⟨k, (((((ot.p4).p4).p4).p4).p4 : okTp (push20 (sT S) a b c d e))⟩, o5⟩
theorem c_feed {a b c e f : Int32} (I : Inv h) (q : RC h S) (o : okA S) :
    Wp (K X (d + 4) 101 [.ref 62, .int a, .int b, .int c, .int e, .int f] h) (VI fun v h' => (okFeed S → (v = Int32.ofNat ((sT S).2 + 20) ∧ Cl h h' ∧ RC h' (feedS S a b c e f))) ∧ (¬ okFeed S → v = -1 ∧ h' = h)) := by
  have t0 : tpAt h 62 13 81 (sT S) := q.1.2.2.2.1
  have h6 := o.2.2.2.1.1
  rw [k_101]
  refine w_gI I s_62 ?_
  have x1 : Int32.ofNat (sT S).2 + 20 = Int32.ofNat ((sT S).2 + 20) := i_add _ 20
  rw [t0.1, x1]
  refine w_if (fun c0 => ?_) (fun c0 => failI fun z => c0 ((i_le (n := 600) (by omega) (by omega)).mpr z))
  have ok : (sT S).2 + 20 ≤ 600 := (i_le (n := 600) (by omega) (by omega)).mp c0
  refine passI ok ?_
  refine w_gS I s_62 ?_
  refine w_bV I (m_102 I (by omega) t0) (by decide) rfl fun h1 I1 p => ?_
  obtain ⟨E1, P1, J1, t1⟩ := p
  refine w_gS I1 s_62 ?_
  refine w_bV I1 (m_102 I1 (by show (sT S).2 + 1 + 1 + 1 + 1 + 4 ≤ 600; omega) t1) (by decide) rfl fun h2 I2 p => ?_
  obtain ⟨E2, P2, J2, t2⟩ := p
  refine w_gS I2 s_62 ?_
  refine w_bV I2 (m_102 I2 (by show (sT S).2 + 1 + 1 + 1 + 1 + 1 + 1 + 1 + 1 + 4 ≤ 600; omega) t2) (by decide) rfl fun h3 I3 p => ?_
  obtain ⟨E3, P3, J3, t3⟩ := p
  refine w_gS I3 s_62 ?_
  refine w_bV I3 (m_102 I3 (by show (sT S).2 + 1 + 1 + 1 + 1 + 1 + 1 + 1 + 1 + 1 + 1 + 1 + 1 + 4 ≤ 600; omega) t3) (by decide) rfl fun h4 I4 p => ?_
  obtain ⟨E4, P4, J4, t4⟩ := p
  refine w_gS I4 s_62 ?_
  refine w_bV I4 (m_102 I4 (by show (sT S).2 + 1 + 1 + 1 + 1 + 1 + 1 + 1 + 1 + 1 + 1 + 1 + 1 + 1 + 1 + 1 + 1 + 4 ≤ 600; omega) t4) (by decide) rfl fun h5 I5 p => ?_
  obtain ⟨E5, P5, J5, t5⟩ := p
  refine w_gI I5 s_62 ?_
  have E := (((E1.tr E2).tr E3).tr E4).tr E5
  refine Wp.reti ⟨t5.1, E.wk (fun a z => by omega), q.tape o E (fun a z => z) ?_ t5⟩
  rw [P5, P4, P3, P2, P1]
/-! the model -/
def selF (a b c e f : Int32) (k : Nat) : Int32 := if 4 ≤ k then (if 8 ≤ k then (if 12 ≤ k then (if 16 ≤ k then f else e) else c) else b) else a
theorem sh_all : ∀ k, k < 20 → (24 - (8 * (Int32.ofNat k - Int32.ofNat k / 4 * 4))) = Int32.ofNat (24 - 8 * (k % 4)) := by decide +kernel
def FT (h0 h : Hp) (t : Tp) : Prop := Eo (fun a => a = 301 ∨ a = 332) h0 h ∧ (∀ k, k ≠ 35 → hI h 301 k = hI h0 301 k) ∧ tpAt h 301 35 332 t
theorem feed_step {a b c e f : Int32} {k : Nat} {t : Tp} {h0 h : Hp} {v7 : Option Value} (I : Inv h) (hk : k < 20) (ht : t.2 < 600) (u : FT h0 h t)
    (q : ∀ h' v7, Inv h' → FT h0 h' (pushB t (byt (selF a b c e f k) (24 - 8 * (k % 4)))) → Wp (sem (X, K X d) 151 18 [some (.ref 301), some (.int a), some (.int b), some (.int c), some (.int e), some (.int f), some (.int (Int32.ofNat (k + 1))), v7] [] h') Q) :
    Wp (sem (X, K X d) 151 18 [some (.ref 301), some (.int a), some (.int b), some (.int c), some (.int e), some (.int f), some (.int (Int32.ofNat k)), v7] [] h) Q := by
  have go : Wp (sem (X, K X d) 151 71 [some (.ref 301), some (.int a), some (.int b), some (.int c), some (.int e), some (.int f), some (.int (Int32.ofNat k)), v7] [.int (selF a b c e f k)] h) Q := by
    obtain ⟨u1, u2, u3⟩ := u
    rw [b_151_71]
    refine w_gL I s_301 l_301_30 ?_
    refine w_gI I s_301 ?_
    refine w_gd (by decide) ?_
    rw [u3.1, sh_all k hk, byt_v, i32_ofNat_succ]
    refine w_wIn I s_332 ht (by decide) fun I => ?_
    refine w_gI I s_301 ?_
    rw [sI_other (b := 301) (by decide), u3.1, i32_ofNat_succ]
    refine w_fI I s_301 fun I => ?_
    refine q _ _ I ⟨(u1.kI (Or.inr rfl)).kI (Or.inl rfl), fun j hj => ?_, u3.push ?_ ?_⟩
    · rw [hI_sI_self, up1, if_neg hj, sI_other (by decide)]; exact u2 j hj
    · rw [hI_sI_self, up1, if_pos rfl]
    · rw [sI_other (by decide), hI_sI_self]
  rw [b_151_18]
  refine w_iff (fun z => absurd ((i_le (m := 20) (by omega) (by omega)).mp z) (by omega)) ?_
  unfold selF at go
  refine w_if (fun c4 => ?_) (fun c4 => ?_)
  · rw [if_pos ((i_le (m := 4) (by omega) (by omega)).mp c4)] at go
    refine w_if (fun c8 => ?_) (fun c8 => ?_)
    · rw [if_pos ((i_le (m := 8) (by omega) (by omega)).mp c8)] at go
      refine w_if (fun c12 => ?_) (fun c12 => ?_)
      · rw [if_pos ((i_le (m := 12) (by omega) (by omega)).mp c12)] at go
        refine w_if (fun c16 => ?_) (fun c16 => ?_)
        · rw [if_pos ((i_le (m := 16) (by omega) (by omega)).mp c16)] at go; exact go
        · rw [if_neg (fun z => c16 ((i_le (m := 16) (by omega) (by omega)).mpr z))] at go; exact go
      · rw [if_neg (fun z => c12 ((i_le (m := 12) (by omega) (by omega)).mpr z))] at go; exact go
    · rw [if_neg (fun z => c8 ((i_le (m := 8) (by omega) (by omega)).mpr z))] at go; exact go
  · rw [if_neg (fun z => c4 ((i_le (m := 4) (by omega) (by omega)).mpr z))] at go; exact go
theorem feed_4 {a b c e f x : Int32} {k : Nat} {t : Tp} {h0 h : Hp} {v7 : Option Value} (I : Inv h) (hk : k % 4 = 0) (hk2 : k < 20) (hx : ∀ j, j < 4 → selF a b c e f (k + j) = x) (ht : t.2 + 4 ≤ 600) (u : FT h0 h t)
    (q : ∀ h' v7, Inv h' → FT h0 h' (push4 t x) → Wp (sem (X, K X d) 151 18 [some (.ref 301), some (.int a), some (.int b), some (.int c), some (.int e), some (.int f), some (.int (Int32.ofNat (k + 4))), v7] [] h') Q) :
    Wp (sem (X, K X d) 151 18 [some (.ref 301), some (.int a), some (.int b), some (.int c), some (.int e), some (.int f), some (.int (Int32.ofNat k)), v7] [] h) Q := by
  refine feed_step I (by omega) (by omega) u fun h1 v1 I1 u1 => ?_
  refine feed_step I1 (by omega) (by show t.2 + 1 < 600; omega) u1 fun h2 v2 I2 u2 => ?_
  refine feed_step I2 (by omega) (by show t.2 + 1 + 1 < 600; omega) u2 fun h3 v3 I3 u3 => ?_
  refine feed_step I3 (by omega) (by show t.2 + 1 + 1 + 1 < 600; omega) u3 fun h4 v4 I4 u4 => ?_
  refine q h4 v4 I4 ?_
  have e0 : 24 - 8 * (k % 4) = 24 := by omega
  have e1 : 24 - 8 * ((k + 1) % 4) = 16 := by omega
  have e2 : 24 - 8 * ((k + 1 + 1) % 4) = 8 := by omega
  have e3 : 24 - 8 * ((k + 1 + 1 + 1) % 4) = 0 := by omega
  have x0 : selF a b c e f k = x := hx 0 (by decide)
  have x1 : selF a b c e f (k + 1) = x := hx 1 (by decide)
  have x2 : selF a b c e f (k + 1 + 1) = x := hx 2 (by decide)
  have x3 : selF a b c e f (k + 1 + 1 + 1) = x := hx 3 (by decide)
  rw [e0, e1, e2, e3, x0, x1, x2, x3] at u4
  exact u4
theorem sel_c {a b c e f : Int32} {m : Nat} (hm : m < 5) : ∀ j, j < 4 → selF a b c e f (4 * m + j) = (if 4 ≤ 4 * m then (if 8 ≤ 4 * m then (if 12 ≤ 4 * m then (if 16 ≤ 4 * m then f else e) else c) else b) else a) := by
  intro j hj
  have h1 : m = 0 ∨ m = 1 ∨ m = 2 ∨ m = 3 ∨ m = 4 := by omega
  have h2 : j = 0 ∨ j = 1 ∨ j = 2 ∨ j = 3 := by omega
  rcases h1 with rfl | rfl | rfl | rfl | rfl <;> rcases h2 with rfl | rfl | rfl | rfl <;> rfl
theorem m_feed {a b c e f : Int32} (I : Inv h) (q : RM h S) (o : okA S) :
    Wp (K X (d + 4) 151 [.ref 301, .int a, .int b, .int c, .int e, .int f] h) (VI fun v h' => (okFeed S → (v = Int32.ofNat ((sT S).2 + 20) ∧ Mo h h' ∧ RM h' (feedS S a b c e f))) ∧ (¬ okFeed S → v = -1 ∧ h' = h)) := by
  have t0 : tpAt h 301 35 332 (sT S) := q.2.2.2.1
  have h6 := o.2.2.2.1.1
  rw [k_151]
  refine w_gI I s_301 ?_
  have x1 : Int32.ofNat (sT S).2 + 20 = Int32.ofNat ((sT S).2 + 20) := i_add _ 20
  rw [t0.1, x1]
  refine w_if (fun c0 => ?_) (fun c0 => failI fun z => c0 ((i_le (n := 600) (by omega) (by omega)).mpr z))
  have ok : (sT S).2 + 20 ≤ 600 := (i_le (n := 600) (by omega) (by omega)).mp c0
  refine passI ok ?_
  refine feed_4 (k := 0) (x := a) (h0 := h) I (by decide) (by decide) (sel_c (m := 0) (by decide)) (by omega) ⟨Eo.rf, fun _ _ => rfl, t0⟩ fun h1 v1 I1 u1 => ?_
  refine feed_4 (k := 4) (x := b) I1 (by decide) (by decide) (sel_c (m := 1) (by decide)) (by show (sT S).2 + 1 + 1 + 1 + 1 + 4 ≤ 600; omega) u1 fun h2 v2 I2 u2 => ?_
  refine feed_4 (k := 8) (x := c) I2 (by decide) (by decide) (sel_c (m := 2) (by decide)) (by show (sT S).2 + 1 + 1 + 1 + 1 + 1 + 1 + 1 + 1 + 4 ≤ 600; omega) u2 fun h3 v3 I3 u3 => ?_
  refine feed_4 (k := 12) (x := e) I3 (by decide) (by decide) (sel_c (m := 3) (by decide)) (by show (sT S).2 + 1 + 1 + 1 + 1 + 1 + 1 + 1 + 1 + 1 + 1 + 1 + 1 + 4 ≤ 600; omega) u3 fun h4 v4 I4 u4 => ?_
  refine feed_4 (k := 16) (x := f) I4 (by decide) (by decide) (sel_c (m := 4) (by decide)) (by show (sT S).2 + 1 + 1 + 1 + 1 + 1 + 1 + 1 + 1 + 1 + 1 + 1 + 1 + 1 + 1 + 1 + 1 + 4 ≤ 600; omega) u4 fun h5 v5 I5 u5 => ?_
  obtain ⟨u51, u52, u53⟩ := u5
  rw [b_151_18]
  refine w_ift (by decide) ?_
  refine w_gI I5 s_301 ?_
  exact Wp.reti ⟨u53.1, u51.wk (fun a z => by omega), q.tape u51 (fun a z => z) u52 u53⟩
end FD
