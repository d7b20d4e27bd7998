/-! TEXT: the model reads units, sums, conditions -/
def vld (c : Nat) : Prop := c < 29 ∨ (40 ≤ c ∧ c ≤ 62) ∨ (100 ≤ c ∧ c ≤ 102)
theorem tk_vld {T : Nat → Nat} {L p : Nat} : vld (tokA T L p).1 := by
  unfold tokA
  split
  · exact show vld 101 from Or.inr (Or.inr ⟨by decide, by decide⟩)
  · split
    · show vld (kwN _)
      rcases kwN_le (bs := bsN T (rn isBl T L p) (rn isLe T L (rn isBl T L p))) with z | z
      · rw [z]; exact Or.inr (Or.inr ⟨by decide, by decide⟩)
      · exact Or.inl z
    · split
      · show vld (if _ then 100 else 102)
        split
        · exact Or.inr (Or.inr ⟨by decide, by decide⟩)
        · exact Or.inr (Or.inr ⟨by decide, by decide⟩)
      · show vld (if isSi (T (rn isBl T L p)) then T (rn isBl T L p) else 102)
        split
        · next z => exact Or.inr (Or.inl (isSi_r z))
        · exact Or.inr (Or.inr ⟨by decide, by decide⟩)
theorem tC_vld {T : Nat → Nat} {L k : Nat} : vld (tC T L k) := tk_vld
theorem vld_lt {c : Nat} (h : vld c) : c < 103 := by unfold vld at h; omega
def vldB (c : Nat) : Bool := decide (c < 29) || ((decide (40 ≤ c) && decide (c ≤ 62)) || (decide (100 ≤ c) && decide (c ≤ 102)))
theorem vldB_t {c : Nat} (h : vld c) : vldB c = true := by
  unfold vldB
  simp only [Bool.or_eq_true, Bool.and_eq_true, decide_eq_true_eq]
  exact h
theorem mt_inj0 : ((List.range 103).all fun c => (List.range 103).all fun e => !vldB c || (!vldB e || (!(mt c == mt e) || (c == e)))) = true := by decide +kernel
theorem mt_inj (c : Nat) (hc : c < 103) (vc : vld c) (e : Nat) (he : e < 103) (ve : vld e) (h : mt c = mt e) : c = e := by
  have a := List.all_eq_true.mp (List.all_eq_true.mp mt_inj0 c (List.mem_range.mpr hc)) e (List.mem_range.mpr he)
  rw [vldB_t vc, vldB_t ve, h, beq_self_eq_true] at a
  exact beq_iff_eq.mp a
theorem mt_lt : ∀ c, c < 103 → mt c < 300 := by decide +kernel
theorem mt_rng0 : ∀ c, c < 103 → (¬ (c < 29 ∨ (40 ≤ c ∧ c ≤ 62) ∨ (100 ≤ c ∧ c ≤ 102)) ∨ (((61 ≤ mt c ∧ mt c ≤ 68) ↔ c < 8) ∧ ((40 ≤ mt c ∧ mt c ≤ 45) ↔ (8 ≤ c ∧ c ≤ 13)) ∧ ((20 ≤ mt c ∧ mt c ≤ 24) ↔ (14 ≤ c ∧ c ≤ 18)) ∧ ((24 ≤ mt c ∧ mt c ≤ 28) ↔ (c = 18 ∨ (25 ≤ c ∧ c ≤ 28))) ∧ ((61 ≤ mt c ∧ mt c ≤ 64) ↔ c ≤ 3))) := by decide +kernel
theorem mt_rng (c : Nat) (hc : c < 103) (vc : vld c) : ((61 ≤ mt c ∧ mt c ≤ 68) ↔ c < 8) ∧ ((40 ≤ mt c ∧ mt c ≤ 45) ↔ (8 ≤ c ∧ c ≤ 13)) ∧ ((20 ≤ mt c ∧ mt c ≤ 24) ↔ (14 ≤ c ∧ c ≤ 18)) ∧ ((24 ≤ mt c ∧ mt c ≤ 28) ↔ (c = 18 ∨ (25 ≤ c ∧ c ≤ 28))) ∧ ((61 ≤ mt c ∧ mt c ≤ 64) ↔ c ≤ 3) := (mt_rng0 c hc).resolve_left fun z => z vc
theorem tok_is {c e m : Nat} (hc : vld c) (he : vld e) (hm : mt e = m) : Int32.ofNat (mt c) = Int32.ofNat m ↔ c = e := by
  have a := mt_lt c (vld_lt hc)
  have b := mt_lt e (vld_lt he)
  rw [i_eq (by omega) (by omega), ← hm]
  exact ⟨mt_inj c (vld_lt hc) hc e (vld_lt he) he, fun z => by rw [z]⟩
theorem tok_in {c lo hi : Nat} (hc : vld c) (hl : lo < 300) (hh : hi < 300) : (¬ Int32.ofNat (mt c) < Int32.ofNat lo ∧ ¬ Int32.ofNat hi < Int32.ofNat (mt c)) ↔ (lo ≤ mt c ∧ mt c ≤ hi) := by
  have a := mt_lt c (vld_lt hc)
  rw [i_lt (by omega) (by omega), i_lt (by omega) (by omega)]
  omega
def pNum (c v : Nat → Nat) (lo hi k : Nat) : PRes := if c k = 100 then (if lo ≤ v k ∧ v k ≤ hi then (0, k + 1, []) else (2, k, [])) else (1, k, [])
/-- what the reader of the model changes -/
def MFr (h h' : Hp) : Prop := Eo (fun a => a = 301 ∨ a = 317) h h' ∧ (∀ k, ¬ (k = 33 ∨ (36 ≤ k ∧ k ≤ 41) ∨ k = 43) → hI h' 301 k = hI h 301 k) ∧ ∀ j, j < 7320 → hI h' 317 j = hI h 317 j
theorem MFr.rf {h : Hp} : MFr h h := ⟨Eo.rf, fun _ _ => rfl, fun _ _ => rfl⟩
theorem MFr.tr {h h' h'' : Hp} (a : MFr h h') (b : MFr h' h'') : MFr h h'' := ⟨a.1.tr b.1, fun k hk => (b.2.1 k hk).trans (a.2.1 k hk), fun j hj => (b.2.2 j hj).trans (a.2.2 j hj)⟩
theorem LF.mf {h h' : Hp} (a : LF h h') : MFr h h' := ⟨a.1.wk fun _ z => Or.inl z, fun k hk => a.2 k (by omega), fun j _ => by rw [a.1.i (show ¬ (317 = 301) by decide)]⟩
theorem MFr.set {h h' : Hp} {k : Nat} {v : Int32} (a : MFr h h') (hk : k = 33 ∨ (36 ≤ k ∧ k ≤ 41) ∨ k = 43) : MFr h (sI h' 301 k v) := ⟨a.1.kI (Or.inl rfl), fun j hj => by rw [hI_sI_self, up1, if_neg (by omega)]; exact a.2.1 j hj, fun j hj => by rw [sI_other (by decide)]; exact a.2.2 j hj⟩
theorem Tm.mf {T : Nat → Nat} {L : Nat} {h h' : Hp} (q : Tm T L h) (e : MFr h h') : Tm T L h' := ⟨by rw [e.2.1 35 (by omega)]; exact q.1, fun k hk => by rw [e.1.i (by decide)]; exact q.2.1 k hk, q.2.2⟩
/-- the model's reader at token k, having laid st, dd open, with slack e -/
def MP (T : Nat → Nat) (L : Nat) (h : Hp) (k : Nat) (st : List Op) (dd e : Nat) : Prop := Tm T L h ∧ LX T L h k ∧ NE (tC T L) k ∧ hI h 301 33 = Int32.ofNat st.length ∧ stepsAt h 6 0 st ∧ st.length + e ≤ k ∧ (hI h 301 43 = Int32.ofNat dd ∧ hI h 301 40 = 0)
def SimM (T : Nat → Nat) (L dd e : Nat) (h0 : Hp) (st0 : List Op) (r : PRes) (v : Int32) (h' : Hp) : Prop := MFr h0 h' ∧ (r.1 = 0 → v = 1 ∧ MP T L h' r.2.1 (st0 ++ r.2.2) dd e) ∧ (r.1 ≠ 0 → v = 0 ∧ hI h' 301 40 = Int32.ofNat r.1 ∧ hI h' 301 41 = Int32.ofNat (tP T L r.2.1))
theorem SimM.val {T : Nat → Nat} {L dd e : Nat} {h0 h' : Hp} {st0 : List Op} {r : PRes} {v : Int32} (s : SimM T L dd e h0 st0 r v h') : okN .boolean v := by
  by_cases z : r.1 = 0
  · rw [(s.2.1 z).1]; decide
  · rw [(s.2.2 z).1]; decide
section MX
variable {X : Ctx} {d : Nat} {Q : Option Value → Hp → Prop} {T : Nat → Nat} {L : Nat} {h : Hp}
theorem MP.k {k dd e : Nat} {st : List Op} (q : MP T L h k st dd e) : k ≤ L ∧ L ≤ 600 ∧ st.length ≤ 600 := by
  have a := sP_b q.2.2.1
  have b := q.1.2.2.1
  have c := q.2.2.2.2.2.1
  omega
theorem m_bad {k w dd e : Nat} {st : List Op} {h0 : Hp} {st0 : List Op} (I : Inv h) (q : MP T L h k st dd e) (M : MFr h0 h) (hw : w ≠ 0) : Wp (K X (d + 1) 160 [.ref 301, .int (Int32.ofNat w)] h) (VI fun v h' => SimM T L dd e h0 st0 (w, k, []) v h') := by
  rw [k_160]
  refine w_fI I s_301 fun I2 => ?_
  refine w_gI I2 s_301 ?_
  have a38 : hI (sI h 301 40 (Int32.ofNat w)) 301 38 = Int32.ofNat (tP T L k) := by
    rw [hI_sI_self, up1, if_neg (by decide)]; exact q.2.1.2.1
  rw [a38]
  refine w_fI I2 s_301 fun I3 => ?_
  refine Wp.reti ⟨(M.set (Or.inr (Or.inl ⟨by decide, by decide⟩))).set (Or.inr (Or.inl ⟨by decide, by decide⟩)), fun z => absurd z hw, fun _ => ⟨rfl, ?_, ?_⟩⟩
  · rw [hI_sI_self, up1, if_neg (by decide), hI_sI_self, up1, if_pos rfl]
  · rw [hI_sI_self, up1, if_pos rfl]
/-- a fault, answered with false -/
theorem w_bad {k w dd e : Nat} {st : List Op} {h0 : Hp} {st0 : List Op} {r : PRes} (I : Inv h) (q : MP T L h k st dd e) (M : MFr h0 h) (hw : w ≠ 0) (hr : r = (w, k, [])) : Wp (gd (hS h 301 = (12, 0)) (bI (K X (d + 1) 160 [.ref 301, .int (Int32.ofNat w)] h) fun r2 h2 => gd (okN .boolean r2) (some (some (.int r2), h2)))) (VI fun v h' => SimM T L dd e h0 st0 r v h') := by
  rw [hr]
  refine w_gS I s_301 ?_
  refine w_bI I (m_bad (h0 := h0) (st0 := st0) I q M hw) (by decide) rfl fun x h1 I1 s => ?_
  exact w_gd s.val (Wp.reti s)
/-- next -/
theorem w_next {k dd e : Nat} {st : List Op} {h0 : Hp} {f : Hp → Option (Option Value × Hp)} (hv : X.2.2 = .null ∨ X.2.2 = .ref 61) (I : Inv h) (q : MP T L h k st dd e) (M : MFr h0 h) (n : tC T L k ≠ 101) (kk : ∀ h', Inv h' → MP T L h' (k + 1) st dd (e + 1) → MFr h0 h' → LF h h' → Wp (f h') Q) : Wp (gd (hS h 301 = (12, 0)) (bV (K X (d + 8) 159 [.ref 301] h) f)) Q := by
  obtain ⟨q1, q2, q3, q4, q5, q6, q7⟩ := q
  refine w_gS I s_301 ?_
  refine w_bV I (m_next (d := d) hv I q1 (q3.s n) q2) (by decide) rfl fun h1 I1 p => ?_
  obtain ⟨E, lx⟩ := p
  exact kk h1 I1 ⟨q1.lf E, lx, q3.s n, by rw [E.2 33 (by omega)]; exact q4, q5.eo (E.1.i (by decide)), by omega, by rw [E.2 43 (by omega), E.2 40 (by omega)]; exact q7⟩ (M.tr E.mf) E
/-- lay -/
theorem w_lay {k s dd e : Nat} {v w : Int32} {st : List Op} {h0 : Hp} {f : Hp → Option (Option Value × Hp)} (I : Inv h) (q : MP T L h k st dd (e + 1)) (M : MFr h0 h) (hs : s < 100) (hw : s = 0 ∨ s = 12 → v = w) (kk : ∀ h', Inv h' → MP T L h' k (st ++ [(s, w)]) dd e → MFr h0 h' → Wp (f h') Q) : Wp (gd (hS h 301 = (12, 0)) (bV (K X (d + 1) 163 [.ref 301, .int (Int32.ofNat s), .int v] h) f)) Q := by
  have b := q.k
  obtain ⟨q1, q2, q3, q4, q5, q6, q7⟩ := q
  have e2 : ∀ n : Nat, (7320 : Int32) + 2 * Int32.ofNat n = Int32.ofNat (7320 + 2 * n) := fun n => by
    rw [show (2 : Int32) = Int32.ofNat 2 from rfl, i_mul]; exact i_add 7320 _
  refine w_gS I s_301 ?_
  refine w_bV (P := fun h' => h' = sI (sI (sI h 317 (7320 + 2 * st.length) (Int32.ofNat s)) 317 (7320 + 2 * st.length + 1) v) 301 33 (Int32.ofNat (st.length + 1))) I ?_ (by decide) rfl fun h1 I1 p => ?_
  · rw [k_163]
    refine w_gL I s_301 l_301_15 ?_
    refine w_gI I s_301 ?_
    rw [q4, e2]
    refine w_wIn I s_317 (by omega) (by decide) fun I2 => ?_
    refine w_gL I2 s_301 l_301_15 ?_
    refine w_gI I2 s_301 ?_
    rw [sI_other (show 301 ≠ 317 by decide), q4, e2, i32_ofNat_succ]
    refine w_wIn I2 s_317 (by omega) (by decide) fun I3 => ?_
    refine w_gI I3 s_301 ?_
    rw [sI_other (show 301 ≠ 317 by decide), sI_other (show 301 ≠ 317 by decide), q4, i32_ofNat_succ]
    refine w_fI I3 s_301 fun I4 => ?_
    exact Wp.retv rfl
  · have f301 : ∀ j, j ≠ 33 → hI h1 301 j = hI h 301 j := fun j hj => by
      rw [p, hI_sI_self, up1, if_neg hj, sI_other (by decide), sI_other (by decide)]
    have E : Eo (fun a => a = 301 ∨ a = 317) h h1 := by
      rw [p]; exact ((Eo.rf.kI (Or.inr rfl)).kI (Or.inr rfl)).kI (Or.inl rfl)
    have g317 : hI h1 317 = up1 (up1 (hI h 317) (7320 + 2 * st.length) (Int32.ofNat s)) (7320 + 2 * st.length + 1) v := by
      rw [p, sI_other (by decide), hI_sI_self, hI_sI_self]
    refine kk h1 I1 ⟨⟨by rw [f301 35 (by decide)]; exact q1.1, fun j hj => by rw [E.i (show ¬ (332 = 301 ∨ 332 = 317) by decide)]; exact q1.2.1 j hj, q1.2.2⟩, ⟨by rw [f301 37 (by decide)]; exact q2.1, by rw [f301 38 (by decide)]; exact q2.2.1, fun z => by rw [f301 39 (by decide)]; exact q2.2.2.1 z, by rw [f301 36 (by decide)]; exact q2.2.2.2⟩, q3, ?_, ?_, ?_, by rw [f301 43 (by decide), f301 40 (by decide)]; exact q7⟩ (M.tr ⟨E, fun j hj => f301 j (by omega), fun j hj => by rw [g317, up1, if_neg (by omega), up1, if_neg (by omega)]⟩)
    · rw [p, hI_sI_self, up1, if_pos rfl, List.length_append]; rfl
    · intro j hj
      rw [List.length_append] at hj
      have hj : j < st.length + 1 := hj
      rw [g317]
      by_cases z : j = st.length
      · subst z
        rw [List.getD_eq_getElem?_getD, List.getElem?_append_right (Nat.le_refl _), Nat.sub_self]
        refine ⟨?_, fun y => ?_⟩
        · rw [up1, if_neg (by omega), up1, if_pos (by omega)]; rfl
        · rw [up1, if_pos (by omega)]; exact hw y
      · have t := q5 j (by omega)
        rw [List.getD_eq_getElem?_getD, List.getElem?_append_left (by omega), ← List.getD_eq_getElem?_getD]
        rw [up1, if_neg (by omega), up1, if_neg (by omega), up1, if_neg (by omega), up1, if_neg (by omega)]
        exact t
    · rw [List.length_append]; show st.length + 1 + e ≤ k; omega
theorem MP.wk {k dd e e' : Nat} {st : List Op} (q : MP T L h k st dd e) (he : e' ≤ e) : MP T L h k st dd e' := ⟨q.1, q.2.1, q.2.2.1, q.2.2.2.1, q.2.2.2.2.1, by have := q.2.2.2.2.2.1; omega, q.2.2.2.2.2.2⟩
theorem MP.tok {k dd e : Nat} {st : List Op} (q : MP T L h k st dd e) : hI h 301 37 = Int32.ofNat (mt (tC T L k)) := q.2.1.1
theorem MP.num {k dd e : Nat} {st : List Op} (q : MP T L h k st dd e) (z : tC T L k = 100) : hI h 301 39 = Int32.ofNat (tV T L k) := q.2.1.2.2.1 z
theorem v100 : vld 100 := Or.inr (Or.inr ⟨by decide, by decide⟩)
theorem vsg {c : Nat} (h : 40 ≤ c ∧ c ≤ 62) : vld c := Or.inr (Or.inl h)
theorem vkw {c : Nat} (h : c < 29) : vld c := Or.inl h
/-- number -/
theorem m_162 {k lo hi dd e : Nat} {st : List Op} {h0 : Hp} (hv : X.2.2 = .null ∨ X.2.2 = .ref 61) (I : Inv h) (q : MP T L h k st dd e) (M : MFr h0 h) (hl : lo < 2147483648) (hh : hi < 2147483648) : Wp (K X (d + 9) 162 [.ref 301, .int (Int32.ofNat lo), .int (Int32.ofNat hi)] h) (VI fun v h' => SimM T L dd e h0 st (pNum (tC T L) (tV T L) lo hi k) v h') := by
  have vl := tV_le (T := T) (L := L) (k := k)
  rw [k_162]
  refine w_gI I s_301 ?_
  rw [q.tok]
  unfold pNum
  refine w_if (fun c => ?_) (fun c => ?_)
  · have e1 : tC T L k = 100 := (tok_is tC_vld v100 rfl).mp c
    rw [if_pos e1]
    refine w_gI I s_301 ?_
    rw [q.num e1]
    refine w_eI m_142 ?_
    have cc : (¬ Int32.ofNat (tV T L k) < Int32.ofNat lo ∧ ¬ Int32.ofNat hi < Int32.ofNat (tV T L k)) ↔ (lo ≤ tV T L k ∧ tV T L k ≤ hi) := by
      rw [i_lt (by omega) hl, i_lt hh (by omega)]; omega
    refine w_if (fun c1 => ?_) (fun c1 => ?_)
    · rw [if_pos (cc.mp (Classical.byContradiction fun z => c1 (bi_dec.mpr z)))]
      refine w_next (d := d) hv I q M (by omega) fun h1 I1 q1 M1 _ => ?_
      exact Wp.reti ⟨M1, fun _ => ⟨rfl, by rw [List.append_nil]; exact q1.wk (by omega)⟩, fun z => absurd rfl z⟩
    · rw [if_neg fun z => bi_dec.mp (Classical.byContradiction c1) (cc.mpr z)]
      exact w_bad (w := 2) (d := d + 7) I q M (by decide) rfl
  · have e1 : tC T L k ≠ 100 := fun z => c ((tok_is tC_vld v100 rfl).mpr z)
    rw [if_neg e1]
    exact w_bad (w := 1) (d := d + 7) I q M (by decide) rfl
/-- unit -/
theorem m_167 {k dd e : Nat} {st : List Op} {h0 : Hp} (hv : X.2.2 = .null ∨ X.2.2 = .ref 61) (I : Inv h) (q : MP T L h k st dd e) (M : MFr h0 h) : Wp (K X (d + 9) 167 [.ref 301] h) (VI fun v h' => SimM T L dd e h0 st (pUnit (tC T L) (tV T L) k) v h') := by
  have vv := tC_vld (T := T) (L := L) (k := k)
  have rg := mt_rng _ (vld_lt vv) vv
  have ml := mt_lt _ (vld_lt vv)
  rw [k_167]
  refine w_gI I s_301 ?_
  rw [q.tok]
  refine w_eI m_142 ?_
  have cc : (¬ Int32.ofNat (mt (tC T L k)) < 61 ∧ ¬ (68 : Int32) < Int32.ofNat (mt (tC T L k))) ↔ tC T L k < 8 := (tok_in (lo := 61) (hi := 68) vv (by decide) (by decide)).trans rg.1
  refine w_gI I s_301 ?_
  rw [q.tok]
  unfold pUnit
  have n30 : tC T L k ≠ 101 → (tC T L k = 100 ∨ tC T L k < 8) → Wp (sem (X, K X (d + 8)) 167 30 [some (.ref 301), some (.int (bi (decide (¬ Int32.ofNat (mt (tC T L k)) < 61 ∧ ¬ (68 : Int32) < Int32.ofNat (mt (tC T L k))))))] [] h) (VI fun v h' => SimM T L dd e h0 st (if tC T L k = 100 then (0, k + 1, [(0, Int32.ofNat (tV T L k))]) else if tC T L k < 8 then (0, k + 1, [(tC T L k + 1, 0)]) else (1, k, [])) v h') := fun n1 n2 => by
    obtain ⟨q1, q2, q3, q4, q5, q6, q7⟩ := q
    have shift : ∀ {s : Nat} {v w : Int32}, s < 100 → (s = 0 ∨ s = 12 → v = w) → Wp (gd (hS h 301 = (12, 0)) (bV (K X (d + 8) 163 [.ref 301, .int (Int32.ofNat s), .int v] h) fun h1 => gd (hS h1 301 = (12, 0)) (bV (K X (d + 8) 159 [.ref 301] h1) fun h2 => some (some (.int 1), h2)))) (VI fun v h' => SimM T L dd e h0 st (0, k + 1, [(s, w)]) v h') := fun {s v w} hs hw => by
      -- the token is consumed behind the op: lay at token k, slack by the token
      have b6 : st.length ≤ 600 := (MP.k (h := h) (k := k) (dd := dd) (e := e) ⟨q1, q2, q3, q4, q5, q6, q7⟩).2.2
      have e2 : ∀ n : Nat, (7320 : Int32) + 2 * Int32.ofNat n = Int32.ofNat (7320 + 2 * n) := fun n => by
        rw [show (2 : Int32) = Int32.ofNat 2 from rfl, i_mul]; exact i_add 7320 _
      refine w_gS I s_301 ?_
      refine w_bV (P := fun h' => h' = sI (sI (sI h 317 (7320 + 2 * st.length) (Int32.ofNat s)) 317 (7320 + 2 * st.length + 1) v) 301 33 (Int32.ofNat (st.length + 1))) I ?_ (by decide) rfl fun h1 I1 p => ?_
      · rw [k_163]
        refine w_gL I s_301 l_301_15 ?_
        refine w_gI I s_301 ?_
        rw [q4, e2]
        refine w_wIn I s_317 (by omega) (by decide) fun I2 => ?_
        refine w_gL I2 s_301 l_301_15 ?_
        refine w_gI I2 s_301 ?_
        rw [sI_other (show 301 ≠ 317 by decide), q4, e2, i32_ofNat_succ]
        refine w_wIn I2 s_317 (by omega) (by decide) fun I3 => ?_
        refine w_gI I3 s_301 ?_
        rw [sI_other (show 301 ≠ 317 by decide), sI_other (show 301 ≠ 317 by decide), q4, i32_ofNat_succ]
        refine w_fI I3 s_301 fun I4 => ?_
        exact Wp.retv rfl
      · have f301 : ∀ j, j ≠ 33 → hI h1 301 j = hI h 301 j := fun j hj => by
          rw [p, hI_sI_self, up1, if_neg hj, sI_other (by decide), sI_other (by decide)]
        have E : Eo (fun a => a = 301 ∨ a = 317) h h1 := by
          rw [p]; exact ((Eo.rf.kI (Or.inr rfl)).kI (Or.inr rfl)).kI (Or.inl rfl)
        have g317 : hI h1 317 = up1 (up1 (hI h 317) (7320 + 2 * st.length) (Int32.ofNat s)) (7320 + 2 * st.length + 1) v := by
          rw [p, sI_other (by decide), hI_sI_self, hI_sI_self]
        have M1 : MFr h0 h1 := M.tr ⟨E, fun j hj => f301 j (by omega), fun j hj => by rw [g317, up1, if_neg (by omega), up1, if_neg (by omega)]⟩
        have t1 : Tm T L h1 := ⟨by rw [f301 35 (by decide)]; exact q1.1, fun j hj => by rw [E.i (show ¬ (332 = 301 ∨ 332 = 317) by decide)]; exact q1.2.1 j hj, q1.2.2⟩
        have lx1 : LX T L h1 k := ⟨by rw [f301 37 (by decide)]; exact q2.1, by rw [f301 38 (by decide)]; exact q2.2.1, fun z => by rw [f301 39 (by decide)]; exact q2.2.2.1 z, by rw [f301 36 (by decide)]; exact q2.2.2.2⟩
        refine w_gS I1 s_301 ?_
        refine w_bV I1 (m_next (d := d) hv I1 t1 (q3.s n1) lx1) (by decide) rfl fun h2 I2 p2 => ?_
        obtain ⟨E2, lx2⟩ := p2
        have i317 : hI h2 317 = hI h1 317 := E2.1.i (by decide)
        refine Wp.reti ⟨M1.tr E2.mf, fun _ => ⟨rfl, t1.lf E2, lx2, q3.s n1, ?_, ?_, ?_, ?_⟩, fun z => absurd rfl z⟩
        · rw [E2.2 33 (by omega), p, hI_sI_self, up1, if_pos rfl, List.length_append]; rfl
        · intro j hj
          rw [List.length_append] at hj
          have hj : j < st.length + 1 := hj
          rw [i317, g317]
          by_cases z : j = st.length
          · subst z
            rw [List.getD_eq_getElem?_getD, List.getElem?_append_right (Nat.le_refl _), Nat.sub_self]
            refine ⟨?_, fun y => ?_⟩
            · rw [up1, if_neg (by omega), up1, if_pos (by omega)]; rfl
            · rw [up1, if_pos (by omega)]; exact hw y
          · have t := q5 j (by omega)
            rw [List.getD_eq_getElem?_getD, List.getElem?_append_left (by omega), ← List.getD_eq_getElem?_getD]
            rw [up1, if_neg (by omega), up1, if_neg (by omega), up1, if_neg (by omega), up1, if_neg (by omega)]
            exact t
        · rw [List.length_append]; show st.length + 1 + e ≤ k + 1; omega
        · rw [E2.2 43 (by omega), f301 43 (by decide), E2.2 40 (by omega), f301 40 (by decide)]; exact q7
    rw [b_167_30]
    by_cases e8 : tC T L k < 8
    · have e100 : tC T L k ≠ 100 := by omega
      rw [if_neg e100, if_pos e8, decide_eq_true (cc.mpr e8)]
      refine w_iff (by decide) ?_
      refine w_gI I s_301 ?_
      refine w_gI I s_301 ?_
      have t37 : hI h 301 37 = Int32.ofNat (mt (tC T L k)) := q2.1
      have em : mt (tC T L k) = 61 + tC T L k := by unfold mt; rw [if_pos e8]
      have sb : Int32.ofNat (mt (tC T L k)) - 60 = Int32.ofNat (tC T L k + 1) := by
        rw [em]
        show Int32.ofNat (61 + tC T L k) - Int32.ofNat 60 = _
        rw [i_sub (by omega)]; congr 1; omega
      rw [t37, sb]
      exact shift (by omega) (fun z => by omega)
    · have e100 : tC T L k = 100 := n2.resolve_right e8
      rw [if_pos e100, decide_eq_false (fun z => e8 (cc.mp z))]
      refine w_ift (by decide) ?_
      refine w_gI I s_301 ?_
      have t39 : hI h 301 39 = Int32.ofNat (tV T L k) := q2.2.2.1 e100
      rw [t39]
      exact shift (s := 0) (by decide) (fun _ => rfl)
  refine w_if (fun c => ?_) (fun c => ?_)
  · have e1 : tC T L k = 100 := (tok_is vv v100 rfl).mp c
    exact n30 (by omega) (Or.inl e1)
  · have e1 : tC T L k ≠ 100 := fun z => c ((tok_is vv v100 rfl).mpr z)
    refine w_if (fun c1 => ?_) (fun c1 => ?_)
    · have e8 : tC T L k < 8 := cc.mp (Classical.byContradiction fun z => c1 (bi_dec.mpr z))
      exact n30 (by omega) (Or.inr e8)
    · have e8 : ¬ tC T L k < 8 := fun z => bi_dec.mp (Classical.byContradiction c1) (cc.mpr z)
      rw [if_neg e1, if_neg e8]
      exact w_bad (w := 1) (d := d + 7) I q M (by decide) rfl
/-- a call of a reader below: on a fault it is passed up -/
theorem w_sub {y dd e k : Nat} {h0 : Hp} {st : List Op} {r : PRes} {g : Nat → List Op → PRes} {B : Int32 → Hp → Option (Option Value × Hp)} {st0 : List Op} {e0 : Nat} (I : Inv h) (hy : y < 247) (hq : mIni y = false) (w : Wp (K X d y [.ref 301] h) (VI fun v h' => SimM T L dd e h0 st r v h'))
    (ok : ∀ h', Inv h' → MFr h0 h' → r.1 = 0 → MP T L h' r.2.1 (st ++ r.2.2) dd e → Wp (B 1 h') (VI fun v h' => SimM T L k e0 h0 st0 (g r.2.1 r.2.2) v h'))
    (no : ∀ h', Inv h' → MFr h0 h' → r.1 ≠ 0 → hI h' 301 40 = Int32.ofNat r.1 → hI h' 301 41 = Int32.ofNat (tP T L r.2.1) → Wp (B 0 h') (VI fun v h' => SimM T L k e0 h0 st0 (r.1, r.2.1, []) v h')) :
    Wp (gd (hS h 301 = (12, 0)) (bI (K X d y [.ref 301] h) B)) (VI fun v h' => SimM T L k e0 h0 st0 (bindR r g) v h') := by
  refine w_gS I s_301 ?_
  refine w_bI I w hy hq fun x h1 I1 s => ?_
  obtain ⟨s1, s2, s3⟩ := s
  by_cases z : r.1 = 0
  · rw [bindR_ok z]
    obtain ⟨rfl, q⟩ := s2 z
    exact ok h1 I1 s1 z q
  · rw [bindR_no z]
    obtain ⟨rfl, t1, t2⟩ := s3 z
    exact no h1 I1 s1 z t1 t2
theorem sim_no {dd e w k : Nat} {h0 : Hp} {st0 : List Op} (M : MFr h0 h) (z : w ≠ 0) (t1 : hI h 301 40 = Int32.ofNat w) (t2 : hI h 301 41 = Int32.ofNat (tP T L k)) : Wp (some (some (.int 0), h)) (VI fun v h' => SimM T L dd e h0 st0 (w, k, []) v h') := Wp.reti ⟨M, fun y => absurd y z, fun _ => ⟨rfl, t1, t2⟩⟩
/-- product -/
theorem c166_9 {dd e : Nat} {h0 : Hp} {st0 : List Op} (hv : X.2.2 = .null ∨ X.2.2 = .ref 61) : ∀ (f k : Nat) (a : List Op) (h : Hp) (v1 v2 : Option Value), L - k ≤ f → Inv h → MFr h0 h → MP T L h k (st0 ++ a) dd e →
    Wp (sem (X, K X (d + 9)) 166 9 [some (.ref 301), v1, v2] [] h) (VI fun v h' => SimM T L dd e h0 st0 (pPL (tC T L) (tV T L) f k a) v h') := fun f => by
  have vv : ∀ k, vld (tC T L k) := fun k => tC_vld
  have done : ∀ (k : Nat) (a : List Op) (h : Hp) (v1 v2 : Option Value), tC T L k ≠ 42 → tC T L k ≠ 47 → Inv h → MFr h0 h → MP T L h k (st0 ++ a) dd e → Wp (sem (X, K X (d + 9)) 166 9 [some (.ref 301), v1, v2] [] h) (VI fun v h' => SimM T L dd e h0 st0 (0, k, a) v h') := fun k a h v1 v2 n1 n2 I M q => by
    rw [b_166_9]
    refine w_gI I s_301 ?_
    rw [q.tok]
    refine w_iff (fun z => n1 ((tok_is (vv k) (vsg (c := 42) ⟨by decide, by decide⟩) rfl).mp z)) ?_
    refine w_gI I s_301 ?_
    rw [q.tok]
    refine w_ift (fun z => n2 ((tok_is (vv k) (vsg (c := 47) ⟨by decide, by decide⟩) rfl).mp z)) ?_
    exact Wp.reti ⟨M, fun _ => ⟨rfl, q⟩, fun z => absurd rfl z⟩
  induction f with
  | zero =>
    intro k a h v1 v2 hf I M q
    have n : tC T L k = 101 := Classical.byContradiction fun z => by have := tC_lt z; omega
    exact done k a h v1 v2 (by omega) (by omega) I M q
  | succ f ih =>
    intro k a h v1 v2 hf I M q
    show Wp _ (VI fun v h' => SimM T L dd e h0 st0 (if tC T L k = 42 then bindR (pUnit (tC T L) (tV T L) (k + 1)) fun k' o => pPL (tC T L) (tV T L) f k' (a ++ o ++ [(11, 0)]) else if tC T L k = 47 then (if tC T L (k + 1) = 100 then (if tV T L (k + 1) = 0 then (2, k + 1, []) else pPL (tC T L) (tV T L) f (k + 2) (a ++ [(12, Int32.ofNat (tV T L (k + 1)))])) else (1, k + 1, [])) else (0, k, a)) v h')
    by_cases e1 : tC T L k = 42
    · rw [if_pos e1, b_166_9]
      have kl := tC_lt (T := T) (L := L) (k := k) (by omega)
      refine w_gI I s_301 ?_
      rw [q.tok]
      refine w_ift ((tok_is (vv k) (vsg (c := 42) ⟨by decide, by decide⟩) rfl).mpr e1) ?_
      refine w_gI I s_301 ?_
      rw [q.tok]
      refine w_ift (fun z => by have := (tok_is (vv k) (vsg (c := 47) ⟨by decide, by decide⟩) rfl).mp z; omega) ?_
      rw [b_166_44]
      refine w_next (d := d + 1) hv I q M (by omega) fun h1 I1 q1 M1 _ => ?_
      refine w_ift rfl ?_
      refine w_sub (g := fun k' o => pPL (tC T L) (tV T L) f k' (a ++ o ++ [(11, 0)])) I1 (by decide) rfl (m_167 (d := d) hv I1 q1 M1) (fun h2 I2 M2 z q2 => ?_) (fun h2 I2 M2 z t1 t2 => ?_)
      · refine w_ift (by decide) ?_
        refine w_lay (s := 11) (w := 0) (d := d + 8) I2 q2 M2 (by decide) (fun _ => rfl) fun h3 I3 q3 M3 => ?_
        have adv : k < (pUnit (tC T L) (tV T L) (k + 1)).2.1 := by
          have := (gd_unit (v := tV T L) (fun k => tV_le) q1.2.2.1 z).1; omega
        refine ih _ (a ++ (pUnit (tC T L) (tV T L) (k + 1)).2.2 ++ [(11, 0)]) h3 _ _ (by omega) I3 M3 ?_
        rw [List.append_assoc, List.append_assoc] at q3
        rw [List.append_assoc]; exact q3
      · exact w_iff (by decide) (sim_no M2 z t1 t2)
    · rw [if_neg e1]
      by_cases e2 : tC T L k = 47
      · rw [if_pos e2, b_166_9]
        have kl := tC_lt (T := T) (L := L) (k := k) (by omega)
        have vb := tV_le (T := T) (L := L) (k := k + 1)
        refine w_gI I s_301 ?_
        rw [q.tok]
        refine w_iff (fun z => e1 ((tok_is (vv k) (vsg (c := 42) ⟨by decide, by decide⟩) rfl).mp z)) ?_
        refine w_gI I s_301 ?_
        rw [q.tok]
        refine w_iff (fun z => z ((tok_is (vv k) (vsg (c := 47) ⟨by decide, by decide⟩) rfl).mpr e2)) ?_
        refine w_gI I s_301 ?_
        rw [q.tok]
        refine w_iff (fun z => z ((tok_is (vv k) (vsg (c := 47) ⟨by decide, by decide⟩) rfl).mpr e2)) ?_
        rw [b_166_44]
        refine w_next (d := d + 1) hv I q M (by omega) fun h1 I1 q1 M1 _ => ?_
        refine w_iff (by decide) ?_
        refine w_gI I1 s_301 ?_
        refine w_gS I1 s_301 ?_
        refine w_bI I1 (m_162 (d := d) (lo := 1) (hi := 999999) (h0 := h0) hv I1 q1 M1 (by decide) (by decide)) (by decide) rfl fun x h2 I2 s => ?_
        obtain ⟨s1, s2, s3⟩ := s
        have pe : pNum (tC T L) (tV T L) 1 999999 (k + 1) = if tC T L (k + 1) = 100 then (if 1 ≤ tV T L (k + 1) ∧ tV T L (k + 1) ≤ 999999 then (0, k + 1 + 1, []) else (2, k + 1, [])) else (1, k + 1, []) := rfl
        rw [pe] at s2 s3
        by_cases e3 : tC T L (k + 1) = 100
        · rw [if_pos e3] at s2 s3 ⊢
          by_cases e4 : tV T L (k + 1) = 0
          · rw [if_neg (by omega)] at s2 s3
            rw [if_pos e4]
            obtain ⟨rfl, t1, t2⟩ := s3 (Nat.succ_ne_zero _)
            exact w_iff (by decide) (sim_no s1 (by decide) t1 t2)
          · rw [if_pos (by omega)] at s2 s3
            rw [if_neg e4]
            obtain ⟨rfl, q2⟩ := s2 rfl
            rw [List.append_nil] at q2
            refine w_ift (by decide) ?_
            refine w_lay (s := 12) (w := Int32.ofNat (tV T L (k + 1))) (d := d + 8) I2 q2 s1 (by decide) (fun _ => q1.num e3) fun h3 I3 q3 M3 => ?_
            refine ih (k + 2) (a ++ [(12, Int32.ofNat (tV T L (k + 1)))]) h3 _ _ (by omega) I3 M3 ?_
            rw [List.append_assoc] at q3
            exact q3
        · rw [if_neg e3] at s2 s3 ⊢
          obtain ⟨rfl, t1, t2⟩ := s3 (Nat.succ_ne_zero _)
          exact w_iff (by decide) (sim_no s1 (by decide) t1 t2)
      · rw [if_neg e2]
        exact done k a h v1 v2 e1 e2 I M q
theorem m_166 {k dd e : Nat} {st : List Op} {h0 : Hp} (hv : X.2.2 = .null ∨ X.2.2 = .ref 61) (I : Inv h) (q : MP T L h k st dd e) (M : MFr h0 h) : Wp (K X (d + 10) 166 [.ref 301] h) (VI fun v h' => SimM T L dd e h0 st (pProd (tC T L) (tV T L) L k) v h') := by
  rw [k_166]
  refine w_sub (g := fun k' o => pPL (tC T L) (tV T L) L k' o) I (by decide) rfl (m_167 (d := d) hv I q M) (fun h2 I2 M2 z q2 => ?_) (fun h2 I2 M2 z t1 t2 => ?_)
  · refine w_ift (by decide) ?_
    exact c166_9 (d := d) hv L _ _ h2 _ _ (by omega) I2 M2 q2
  · exact w_iff (by decide) (sim_no M2 z t1 t2)
/-- sum -/
theorem c165_9 {dd e : Nat} {h0 : Hp} {st0 : List Op} (hv : X.2.2 = .null ∨ X.2.2 = .ref 61) : ∀ (f k : Nat) (a : List Op) (h : Hp) (v1 : Option Value), L - k ≤ f → Inv h → MFr h0 h → MP T L h k (st0 ++ a) dd e →
    Wp (sem (X, K X (d + 10)) 165 9 [some (.ref 301), v1] [] h) (VI fun v h' => SimM T L dd e h0 st0 (pSL (tC T L) (tV T L) L f k a) v h') := fun f => by
  have vv : ∀ k, vld (tC T L k) := fun k => tC_vld
  have t43 : ∀ k, Int32.ofNat (mt (tC T L k)) = 143 ↔ tC T L k = 43 := fun k => tok_is (vv k) (vsg (c := 43) ⟨by decide, by decide⟩) rfl
  have t45 : ∀ k, Int32.ofNat (mt (tC T L k)) = 145 ↔ tC T L k = 45 := fun k => tok_is (vv k) (vsg (c := 45) ⟨by decide, by decide⟩) rfl
  have done : ∀ (k : Nat) (a : List Op) (h : Hp) (v1 : Option Value), tC T L k ≠ 43 → tC T L k ≠ 45 → Inv h → MFr h0 h → MP T L h k (st0 ++ a) dd e → Wp (sem (X, K X (d + 10)) 165 9 [some (.ref 301), v1] [] h) (VI fun v h' => SimM T L dd e h0 st0 (0, k, a) v h') := fun k a h v1 n1 n2 I M q => by
    rw [b_165_9]
    refine w_gI I s_301 ?_
    rw [q.tok]
    refine w_iff (fun z => n1 ((t43 k).mp z)) ?_
    refine w_gI I s_301 ?_
    rw [q.tok]
    refine w_ift (fun z => n2 ((t45 k).mp z)) ?_
    exact Wp.reti ⟨M, fun _ => ⟨rfl, q⟩, fun z => absurd rfl z⟩
  induction f with
  | zero =>
    intro k a h v1 hf I M q
    have n : tC T L k = 101 := Classical.byContradiction fun z => by have := tC_lt z; omega
    exact done k a h v1 (by omega) (by omega) I M q
  | succ f ih =>
    intro k a h v1 hf I M q
    show Wp _ (VI fun v h' => SimM T L dd e h0 st0 (if tC T L k = 43 ∨ tC T L k = 45 then bindR (pProd (tC T L) (tV T L) L (k + 1)) fun k' o => pSL (tC T L) (tV T L) L f k' (a ++ o ++ [((if tC T L k = 43 then 9 else 10), 0)]) else (0, k, a)) v h')
    by_cases e0 : tC T L k = 43 ∨ tC T L k = 45
    · rw [if_pos e0]
      have kl := tC_lt (T := T) (L := L) (k := k) (by omega)
      have body : ∀ s : Nat, (s = 9 ∨ s = 10) → s = (if tC T L k = 43 then 9 else 10) → Wp (sem (X, K X (d + 10)) 165 46 [some (.ref 301), v1] [.int (Int32.ofNat s)] h) (VI fun v h' => SimM T L dd e h0 st0 (bindR (pProd (tC T L) (tV T L) L (k + 1)) fun k' o => pSL (tC T L) (tV T L) L f k' (a ++ o ++ [((if tC T L k = 43 then 9 else 10), 0)])) v h') := fun s hs es => by
        rw [b_165_46]
        refine w_next (d := d + 2) hv I q M (by omega) fun h1 I1 q1 M1 _ => ?_
        refine w_sub (g := fun k' o => pSL (tC T L) (tV T L) L f k' (a ++ o ++ [((if tC T L k = 43 then 9 else 10), 0)])) I1 (by decide) rfl (m_166 (d := d) hv I1 q1 M1) (fun h2 I2 M2 z q2 => ?_) (fun h2 I2 M2 z t1 t2 => ?_)
        · refine w_ift (by decide) ?_
          refine w_lay (s := s) (w := 0) (d := d + 9) I2 q2 M2 (by omega) (fun _ => rfl) fun h3 I3 q3 M3 => ?_
          have adv : k < (pProd (tC T L) (tV T L) L (k + 1)).2.1 := by
            have := (gd_prod (v := tV T L) (fun k => tV_le) q1.2.2.1 z).1; omega
          refine ih _ (a ++ (pProd (tC T L) (tV T L) L (k + 1)).2.2 ++ [((if tC T L k = 43 then 9 else 10), 0)]) h3 _ (by omega) I3 M3 ?_
          rw [List.append_assoc, List.append_assoc, es] at q3
          rw [List.append_assoc]; exact q3
        · exact w_iff (by decide) (sim_no M2 z t1 t2)
      rw [b_165_9]
      refine w_gI I s_301 ?_
      rw [q.tok]
      by_cases e1 : tC T L k = 43
      · refine w_ift ((t43 k).mpr e1) ?_
        refine w_gI I s_301 ?_
        rw [q.tok]
        refine w_iff (fun z => z ((t43 k).mpr e1)) ?_
        exact body 9 (Or.inl rfl) (by rw [if_pos e1])
      · refine w_iff (fun z => e1 ((t43 k).mp z)) ?_
        refine w_gI I s_301 ?_
        rw [q.tok]
        refine w_iff (fun z => z ((t45 k).mpr (e0.resolve_left e1))) ?_
        refine w_gI I s_301 ?_
        rw [q.tok]
        refine w_ift (fun z => e1 ((t43 k).mp z)) ?_
        exact body 10 (Or.inr rfl) (by rw [if_neg e1])
    · rw [if_neg e0]
      exact done k a h v1 (fun z => e0 (Or.inl z)) (fun z => e0 (Or.inr z)) I M q
theorem m_165 {k dd e : Nat} {st : List Op} {h0 : Hp} (hv : X.2.2 = .null ∨ X.2.2 = .ref 61) (I : Inv h) (q : MP T L h k st dd e) (M : MFr h0 h) : Wp (K X (d + 11) 165 [.ref 301] h) (VI fun v h' => SimM T L dd e h0 st (pSum (tC T L) (tV T L) L k) v h') := by
  rw [k_165]
  refine w_sub (g := fun k' o => pSL (tC T L) (tV T L) L L k' o) I (by decide) rfl (m_166 (d := d) hv I q M) (fun h2 I2 M2 z q2 => ?_) (fun h2 I2 M2 z t1 t2 => ?_)
  · refine w_ift (by decide) ?_
    exact c165_9 (d := d) hv L _ _ h2 _ (by omega) I2 M2 q2
  · exact w_iff (by decide) (sim_no M2 z t1 t2)
end MX
