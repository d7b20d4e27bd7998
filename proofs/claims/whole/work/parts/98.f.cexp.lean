/-! TEXT: the class reads units and sums -/
/-- the class's reader at token k of n + 1 -/
def CB (T : Nat → Nat) (L n : Nat) (h : Hp) (k : Nat) : Prop := Tkc T L h (n + 1) ∧ hI h 82 7 = Int32.ofNat (n + 1) ∧ tC T L n = 101 ∧ NE (tC T L) n ∧ NE (tC T L) k ∧ hI h 82 8 = Int32.ofNat k ∧ hI h 82 11 = 0 ∧ hI h 82 12 = -1 ∧ L ≤ 600
/-- the LAW that it fills: codes so far -/
def CL (Lw : Nat) (h : Hp) (cs : List Int32) : Prop := hP h 82 5 = some Lw ∧ IsLaw Lw ∧ hI h Lw 7 = Int32.ofNat cs.length ∧ codeAt h (Lw + 1) 0 cs
def CFe (Lw : Nat) (h0 h : Hp) : Prop := Eo (fun a => a = 82 ∨ a = Lw ∨ a = Lw + 1) h0 h ∧ (∀ k, k ≠ 8 → k ≠ 11 → k ≠ 12 → hI h 82 k = hI h0 82 k) ∧ (∀ k, k ≠ 7 → hI h Lw k = hI h0 Lw k) ∧ hP h 82 = hP h0 82
theorem CFe.rf {Lw : Nat} {h : Hp} : CFe Lw h h := ⟨Eo.rf, fun _ _ _ _ => rfl, fun _ _ => rfl, rfl⟩
theorem CFe.tr {Lw : Nat} {h h' h'' : Hp} (a : CFe Lw h h') (b : CFe Lw h' h'') : CFe Lw h h'' := ⟨a.1.tr b.1, fun k h1 h2 h3 => (b.2.1 k h1 h2 h3).trans (a.2.1 k h1 h2 h3), fun k hk => (b.2.2.1 k hk).trans (a.2.2.1 k hk), b.2.2.2.trans a.2.2.2⟩
theorem CFe.s82 {Lw : Nat} {h h' : Hp} {k : Nat} {v : Int32} (a : CFe Lw h h') (hL : IsLaw Lw) (hk : k = 8 ∨ k = 11 ∨ k = 12) : CFe Lw h (sI h' 82 k v) := by
  have := hL.rg
  exact ⟨a.1.kI (Or.inl rfl), fun j h1 h2 h3 => by rw [hI_sI_self, up1, if_neg (by omega)]; exact a.2.1 j h1 h2 h3, fun j hj => by rw [sI_other (by omega)]; exact a.2.2.1 j hj, a.2.2.2⟩
def BadC (T : Nat → Nat) (L : Nat) (r : PRes) (v : Int32) (h : Hp) : Prop := v = 0 ∧ hI h 82 11 = Int32.ofNat r.1 ∧ hI h 82 12 = Int32.ofNat (tP T L r.2.1)
def SimC (T : Nat → Nat) (L n Lw e : Nat) (h0 : Hp) (cs0 : List Int32) (r : PRes) (v : Int32) (h : Hp) : Prop := CFe Lw h0 h ∧ (r.1 = 0 → v = 1 ∧ CB T L n h r.2.1 ∧ CL Lw h (cs0 ++ opsC r.2.2) ∧ (cs0 ++ opsC r.2.2).length + e ≤ r.2.1) ∧ (r.1 ≠ 0 → BadC T L r v h)
theorem SimC.val {T : Nat → Nat} {L n Lw e : Nat} {h0 h' : Hp} {cs0 : List Int32} {r : PRes} {v : Int32} (s : SimC T L n Lw e h0 cs0 r v h') : okN .boolean v := by
  by_cases z : r.1 = 0
  · rw [(s.2.1 z).1]; decide
  · rw [(s.2.2 z).1]; decide
theorem bindR_as {r : PRes} {f g : Nat → List Op → PRes} : bindR (bindR r f) g = bindR r fun k o => bindR (f k o) g := by
  by_cases z : r.1 = 0
  · rw [bindR_ok z, bindR_ok z]
  · rw [bindR_no z, bindR_no z, bindR_no (by exact z)]
section CX
variable {X : Ctx} {d : Nat} {Q : Option Value → Hp → Prop} {T : Nat → Nat} {L n Lw : Nat} {h : Hp}
theorem CB.k {k : Nat} (q : CB T L n h k) : k ≤ n ∧ n ≤ L ∧ L ≤ 600 ∧ (tC T L k ≠ 101 → k < n) := by
  obtain ⟨q1, q2, q3, q4, q5, q6, q7, q8, q9⟩ := q
  have a : k ≤ n := Nat.le_of_not_lt fun z => q5 n z q3
  have b := sP_b q4
  refine ⟨a, by omega, q9, fun z => ?_⟩
  by_cases e : k = n
  · rw [e] at z; exact absurd q3 z
  · omega
theorem CB.to {h' : Hp} {k : Nat} (q : CB T L n h k) (e1 : hI h' 84 = hI h 84) (e2 : hI h' 85 = hI h 85) (e3 : hI h' 86 = hI h 86) (e4 : ∀ k, (k = 7 ∨ k = 8 ∨ k = 11 ∨ k = 12) → hI h' 82 k = hI h 82 k) : CB T L n h' k := by
  obtain ⟨q1, q2, q3, q4, q5, q6, q7, q8, q9⟩ := q
  exact ⟨fun i hi => by rw [e1, e2, e3]; exact q1 i hi, by rw [e4 7 (by omega)]; exact q2, q3, q4, q5, by rw [e4 8 (by omega)]; exact q6, by rw [e4 11 (by omega)]; exact q7, by rw [e4 12 (by omega)]; exact q8, q9⟩
theorem m_68 {k : Nat} (I : Inv h) (q : CB T L n h k) : K X (d + 1) 68 [.ref 82] h = some (some (.int (Int32.ofNat (tC T L k))), h) := by
  have b := q.k
  obtain ⟨q1, q2, q3, q4, q5, q6, q7, q8, q9⟩ := q
  refine Wp.eqI ?_
  rw [k_68]
  refine w_gI I s_82 ?_
  rw [q6]
  refine w_iff (i_lt0 (by omega)) ?_
  refine w_gI I s_82 ?_
  refine w_gI I s_82 ?_
  rw [q6, q2]
  refine w_iff (fun z => absurd ((i_le (by omega) (by omega)).mp z) (by omega)) ?_
  refine w_gL I s_82 l_82_1 ?_
  refine w_gI I s_82 ?_
  rw [q6]
  refine w_aIn I s_84 (by omega) (by decide) ?_
  exact Wp.reti ⟨(q1 k (by omega)).1, rfl⟩
theorem w_sign {k : Nat} {f : Int32 → Hp → Option (Option Value × Hp)} (I : Inv h) (q : CB T L n h k) (kk : Wp (f (Int32.ofNat (tC T L k)) h) Q) : Wp (gd (hS h 82 = (6, 0)) (bI (K X (d + 1) 68 [.ref 82] h) f)) Q := w_gS I s_82 (w_eI (m_68 I q) kk)
theorem m_69 {k w : Nat} (I : Inv h) (q : CB T L n h k) : Wp (K X (d + 1) 69 [.ref 82, .int (Int32.ofNat w)] h) (VI fun v h' => h' = sI (sI h 82 11 (Int32.ofNat w)) 82 12 (Int32.ofNat (tP T L k)) ∧ v = 0) := by
  have b := q.k
  obtain ⟨q1, q2, q3, q4, q5, q6, q7, q8, q9⟩ := q
  rw [k_69]
  refine w_fI I s_82 fun I1 => ?_
  have f : ∀ j, j ≠ 11 → hI (sI h 82 11 (Int32.ofNat w)) 82 j = hI h 82 j := fun j hj => by rw [hI_sI_self, up1, if_neg hj]
  refine w_gI I1 s_82 ?_
  rw [f 8 (by decide), q6]
  refine w_iff (i_lt0 (by omega)) ?_
  refine w_gI I1 s_82 ?_
  refine w_gI I1 s_82 ?_
  rw [f 8 (by decide), f 7 (by decide), q6, q2]
  refine w_iff (fun z => absurd ((i_le (by omega) (by omega)).mp z) (by omega)) ?_
  refine w_gL I1 s_82 l_82_3 ?_
  refine w_gI I1 s_82 ?_
  rw [f 8 (by decide), q6]
  refine w_aIn I1 s_86 (by omega) (by decide) ?_
  rw [sI_other (show 86 ≠ 82 by decide), (q1 k (by omega)).2.1]
  refine w_fI I1 s_82 fun I2 => ?_
  exact Wp.reti ⟨rfl, rfl⟩
theorem bad_at {k w e : Nat} {h0 : Hp} {cs0 : List Int32} (hL : IsLaw Lw) (F : CFe Lw h0 h) (hw : w ≠ 0) : SimC T L n Lw e h0 cs0 (w, k, []) 0 (sI (sI h 82 11 (Int32.ofNat w)) 82 12 (Int32.ofNat (tP T L k))) := ⟨(F.s82 hL (Or.inr (Or.inl rfl))).s82 hL (Or.inr (Or.inr rfl)), fun z => absurd z hw, fun _ => ⟨rfl, by rw [hI_sI_self, up1, if_neg (by decide), hI_sI_self, up1, if_pos rfl], by rw [hI_sI_self, up1, if_pos rfl]⟩⟩
theorem w_wrong {k w e : Nat} {h0 : Hp} {cs0 : List Int32} {r : PRes} (hL : IsLaw Lw) (I : Inv h) (q : CB T L n h k) (F : CFe Lw h0 h) (hw : w ≠ 0) (hr : r = (w, k, [])) : Wp (gd (hS h 82 = (6, 0)) (bI (K X (d + 1) 69 [.ref 82, .int (Int32.ofNat w)] h) fun r2 h2 => gd (okN .boolean r2) (some (some (.int r2), h2)))) (VI fun v h' => SimC T L n Lw e h0 cs0 r v h') := by
  rw [hr]
  refine w_gS I s_82 ?_
  refine w_bI I (m_69 I q) (by decide) rfl ?_
  rintro x h1 I1 ⟨rfl, rfl⟩
  exact w_gd (by decide) (Wp.reti (bad_at hL F hw))
theorem w_at {k : Nat} {f : Hp → Option (Option Value × Hp)} (I : Inv h) (q : CB T L n h k) (nn : tC T L k ≠ 101) (kk : Inv (sI h 82 8 (Int32.ofNat (k + 1))) → CB T L n (sI h 82 8 (Int32.ofNat (k + 1))) (k + 1) → Wp (f (sI h 82 8 (Int32.ofNat (k + 1)))) Q) : Wp (gI h 5 82 8 fun g1 => fI h 5 82 8 (g1 + 1) f) Q := by
  obtain ⟨q1, q2, q3, q4, q5, q6, q7, q8, q9⟩ := q
  refine w_gI I s_82 ?_
  rw [q6, i32_ofNat_succ]
  refine w_fI I s_82 fun I1 => ?_
  have f : ∀ j, j ≠ 8 → hI (sI h 82 8 (Int32.ofNat (k + 1))) 82 j = hI h 82 j := fun j hj => by rw [hI_sI_self, up1, if_neg hj]
  refine kk I1 ⟨fun i hi => by rw [sI_other (by decide), sI_other (by decide), sI_other (by decide)]; exact q1 i hi, by rw [f 7 (by decide)]; exact q2, q3, q4, q5.s nn, by rw [hI_sI_self, up1, if_pos rfl], by rw [f 11 (by decide)]; exact q7, by rw [f 12 (by decide)]; exact q8, q9⟩
theorem CL.s82 {k : Nat} {v : Int32} {cs : List Int32} (q : CL Lw h cs) : CL Lw (sI h 82 k v) cs := by
  have := q.2.1.rg
  exact ⟨q.1, q.2.1, by rw [sI_other (by omega)]; exact q.2.2.1, q.2.2.2.eo (sI_other (by omega))⟩
/-- emit -/
theorem w_emit {k : Nat} {x : Int32} {cs : List Int32} {h0 : Hp} {f : Hp → Option (Option Value × Hp)} (I : Inv h) (q : CB T L n h k) (c : CL Lw h cs) (F : CFe Lw h0 h) (hc : cs.length < 600) (kk : ∀ h', Inv h' → CB T L n h' k → CL Lw h' (cs ++ [x]) → CFe Lw h0 h' → Wp (f h') Q) : Wp (gd (hS h Lw = (2, 0)) (bV (K X (d + 1) 3 [.ref Lw, .int x] h) f)) Q := by
  obtain ⟨c1, hL, c3, c4⟩ := c
  have rg := hL.rg
  refine w_gS I hL.s ?_
  refine w_bV (P := fun h' => h' = sI (sI h (Lw + 1) cs.length x) Lw 7 (Int32.ofNat (cs.length + 1))) I ?_ (by decide) rfl fun h1 I1 p => ?_
  · rw [k_3]
    refine w_gI I hL.s ?_
    rw [c3]
    refine w_gL I hL.s hL.l0 ?_
    refine w_aL I hL.s1 (by decide) ?_
    refine w_iff (fun z => absurd ((i_le (by omega) (by omega)).mp z) (by omega)) ?_
    refine w_gL I hL.s hL.l0 ?_
    refine w_gI I hL.s ?_
    rw [c3]
    refine w_wIn I hL.s1 hc (by decide) fun I1 => ?_
    refine w_gI I1 hL.s ?_
    rw [sI_other (show Lw ≠ Lw + 1 by omega), c3, i32_ofNat_succ]
    refine w_fI I1 hL.s fun I2 => ?_
    exact Wp.retv rfl
  · have E : Eo (fun a => a = 82 ∨ a = Lw ∨ a = Lw + 1) h h1 := by rw [p]; exact (Eo.rf.kI (Or.inr (Or.inr rfl))).kI (Or.inr (Or.inl rfl))
    have i : ∀ a, a ≠ Lw → a ≠ Lw + 1 → hI h1 a = hI h a := fun a z1 z2 => by rw [p, sI_other z1, sI_other z2]
    have g1 : hI h1 (Lw + 1) = up1 (hI h (Lw + 1)) cs.length x := by rw [p, sI_other (by omega), hI_sI_self]
    have g2 : ∀ j, j ≠ 7 → hI h1 Lw j = hI h Lw j := fun j hj => by rw [p, hI_sI_self, up1, if_neg hj, sI_other (by omega)]
    refine kk h1 I1 (q.to (i _ (by omega) (by omega)) (i _ (by omega) (by omega)) (i _ (by omega) (by omega)) fun j _ => by rw [i 82 (by omega) (by omega)]) ⟨by rw [p]; exact c1, hL, ?_, fun j hj => ?_⟩ (F.tr ⟨E, fun j _ _ _ => by rw [i 82 (by omega) (by omega)], g2, by rw [p]; rfl⟩)
    · rw [p, hI_sI_self, up1, if_pos rfl, List.length_append]; rfl
    · rw [List.length_append] at hj
      have hj : j < cs.length + 1 := hj
      rw [g1, Nat.zero_add, up1]
      by_cases z : j = cs.length
      · rw [if_pos z, z, List.getD_eq_getElem?_getD, List.getElem?_append_right (Nat.le_refl _), Nat.sub_self]; rfl
      · have := c4 j (by omega)
        rw [Nat.zero_add] at this
        rw [if_neg z, this, List.getD_eq_getElem?_getD, List.getD_eq_getElem?_getD, List.getElem?_append_left (by omega)]
theorem vI (k : Nat) : tC T L k < 103 := vld_lt tC_vld
theorem c_is {c m : Nat} (hc : c < 103) (hm : m < 1000) : Int32.ofNat c = Int32.ofNat m ↔ c = m := i_eq (by omega) (by omega)
theorem cod_k : ∀ c, c < 8 → (-1 : Int32) - Int32.ofNat c = cod (c + 1) := by decide
/-- unit -/
theorem m_62 {k e : Nat} {cs : List Int32} {h0 : Hp} (I : Inv h) (q : CB T L n h k) (c : CL Lw h cs) (F : CFe Lw h0 h) (hb : cs.length + e ≤ k) : Wp (K X (d + 2) 62 [.ref 82] h) (VI fun v h' => SimC T L n Lw e h0 cs (pUnit (tC T L) (tV T L) k) v h') := by
  have b := q.k
  have hL := c.2.1
  have rg := hL.rg
  have vk := vI (T := T) (L := L) k
  rw [k_62]
  refine w_sign I q ?_
  unfold pUnit
  refine w_if (fun c0 => ?_) (fun c0 => ?_)
  · have n100 : tC T L k ≠ 100 := fun z => c0 (by rw [z]; rfl)
    rw [if_neg n100]
    refine w_iff (i_lt0 (by omega)) ?_
    refine w_if (fun c1 => ?_) (fun c1 => ?_)
    · have := (i_le (m := 8) (by omega) (by omega)).mp c1
      rw [if_neg (by omega)]
      exact w_wrong (w := 1) hL I q F (by decide) rfl
    · have k8 : tC T L k < 8 := Nat.lt_of_not_le fun z => c1 ((i_le (m := 8) (by omega) (by omega)).mpr z)
      rw [if_pos k8]
      have kn := b.2.2.2 (by omega)
      refine w_gR I s_82 c.1 ?_
      rw [cod_k _ k8]
      refine w_emit I q c F (by omega) fun h1 I1 q1 c1 F1 => ?_
      refine w_at I1 q1 (by omega) fun I2 q2 => ?_
      have eo : opsC [((tC T L k) + 1, (0 : Int32))] = [cod (tC T L k + 1)] := by
        show opC (tC T L k + 1, 0) ++ [] = _
        unfold opC
        rw [if_neg (by show ¬ tC T L k + 1 = 0; omega), if_neg (by show ¬ tC T L k + 1 = 12; omega)]; rfl
      refine Wp.reti ⟨F1.s82 hL (Or.inl rfl), fun _ => ⟨rfl, q2, by rw [eo]; exact c1.s82, ?_⟩, fun z => absurd rfl z⟩
      rw [eo, List.length_append]; show cs.length + 1 + e ≤ k + 1; omega
  · have e100 : tC T L k = 100 := (c_is vk (by decide)).mp (Classical.byContradiction c0)
    rw [if_pos e100]
    have kn := b.2.2.2 (by omega)
    refine w_gR I s_82 c.1 ?_
    refine w_gL I s_82 l_82_2 ?_
    refine w_gI I s_82 ?_
    rw [q.2.2.2.2.2.1]
    refine w_aIn I s_85 (by omega) (by decide) ?_
    rw [(q.1 k (by omega)).2.2 e100]
    refine w_emit I q c F (by omega) fun h1 I1 q1 c1 F1 => ?_
    refine w_at I1 q1 (by omega) fun I2 q2 => ?_
    refine Wp.reti ⟨F1.s82 hL (Or.inl rfl), fun _ => ⟨rfl, q2, c1.s82, ?_⟩, fun z => absurd rfl z⟩
    show (cs ++ [Int32.ofNat (tV T L k)]).length + e ≤ k + 1
    rw [List.length_append]; show cs.length + 1 + e ≤ k + 1; omega
def pcd : Option Nat → Int32
  | none => 0
  | some s => cod s
def pnd : Option Nat → List Int32
  | none => []
  | some s => [cod s]
def jnS (a : List Op) (s : Option Nat) (o : List Op) : List Op := match s with | none => a ++ o | some s => a ++ o ++ [(s, 0)]
theorem jnS_C {a o : List Op} {s : Option Nat} (hs : ∀ x, s = some x → x ≠ 0 ∧ x ≠ 12) : opsC (jnS a s o) = opsC a ++ opsC o ++ pnd s := by
  cases s with
  | none => show opsC (a ++ o) = _; rw [opsC_app]; show _ = _ ++ []; rw [List.append_nil]
  | some x =>
    show opsC (a ++ o ++ [(x, 0)]) = _
    rw [opsC_app, opsC_app]
    congr 1
    show opC (x, 0) ++ [] = [cod x]
    unfold opC
    rw [if_neg (hs x rfl).1, if_neg (hs x rfl).2]; rfl
/-- emitPending -/
theorem w_pend {k : Nat} {s : Option Nat} {cs : List Int32} {h0 : Hp} {f : Hp → Option (Option Value × Hp)} (I : Inv h) (q : CB T L n h k) (c : CL Lw h cs) (F : CFe Lw h0 h) (hs : s = none ∨ s = some 9 ∨ s = some 10) (hc : cs.length + (pnd s).length ≤ 600) (kk : ∀ h', Inv h' → CB T L n h' k → CL Lw h' (cs ++ pnd s) → CFe Lw h0 h' → Wp (f h') Q) : Wp (gd (hS h 82 = (6, 0)) (bV (K X (d + 2) 61 [.ref 82, .int (pcd s)] h) f)) Q := by
  refine w_gS I s_82 ?_
  refine w_bV (P := fun h' => CB T L n h' k ∧ CL Lw h' (cs ++ pnd s) ∧ CFe Lw h0 h') I ?_ (by decide) rfl fun h1 I1 p => kk h1 I1 p.1 p.2.1 p.2.2
  rw [k_61]
  rcases hs with rfl | rfl | rfl
  · refine w_ift rfl (Wp.retv ⟨q, ?_, F⟩)
    show CL Lw h (cs ++ [])
    rw [List.append_nil]; exact c
  all_goals
    refine w_iff (by decide) ?_
    refine w_gR I s_82 c.1 ?_
    have hc : cs.length + 1 ≤ 600 := hc
    refine w_emit (h0 := h0) I q c F (by omega) fun h1 I1 q1 c1 F1 => ?_
    exact Wp.retv ⟨q1, c1, F1⟩
theorem c60_13 {e : Nat} {h0 : Hp} {cs0 : List Int32} {i0 : Nat} : ∀ (m k i f g : Nat) (a b : List Op) (s : Option Nat) (h : Hp) (v3 : Option Value), L - k ≤ m → L - k ≤ f → L - k ≤ g → i ≤ k → (s = none ∨ s = some 9 ∨ s = some 10) → Inv h → CB T L n h k → CL Lw h (cs0 ++ opsC a ++ opsC b) → CFe Lw h0 h → (cs0 ++ opsC a ++ opsC b).length + (pnd s).length + e ≤ k →
    Wp (sem (X, K X (d + 2)) 60 13 [some (.ref 82), some (.int (pcd s)), some (.int (Int32.ofNat i)), v3] [] h) (VI fun v h' => SimC T L n Lw e h0 cs0 (bindR (pPL (tC T L) (tV T L) f k b) fun k' o => pSL (tC T L) (tV T L) L g k' (jnS a s o)) v h') := fun m => by
  have hsx : ∀ s : Option Nat, (s = none ∨ s = some 9 ∨ s = some 10) → ∀ x, s = some x → x ≠ 0 ∧ x ≠ 12 := fun s hs x e => by
    rcases hs with z | z | z <;> rw [z] at e
    · cases e
    · injection e with e; omega
    · injection e with e; omega
  have done : ∀ (k i f g : Nat) (a b : List Op) (s : Option Nat) (h : Hp) (v3 : Option Value), i ≤ k → (s = none ∨ s = some 9 ∨ s = some 10) → Inv h → CB T L n h k → CL Lw h (cs0 ++ opsC a ++ opsC b) → CFe Lw h0 h → (cs0 ++ opsC a ++ opsC b).length + (pnd s).length + e ≤ k → tC T L k ≠ 42 → tC T L k ≠ 47 → tC T L k ≠ 43 → tC T L k ≠ 45 → Wp (sem (X, K X (d + 2)) 60 13 [some (.ref 82), some (.int (pcd s)), some (.int (Int32.ofNat i)), v3] [] h) (VI fun v h' => SimC T L n Lw e h0 cs0 (bindR (pPL (tC T L) (tV T L) f k b) fun k' o => pSL (tC T L) (tV T L) L g k' (jnS a s o)) v h') := fun k i f g a b s h v3 hi hs I q c F hb n1 n2 n3 n4 => by
    have bd := q.k
    have vk := vI (T := T) (L := L) k
    have e1 : pPL (tC T L) (tV T L) f k b = (0, k, b) := by
      cases f with
      | zero => rfl
      | succ f => unfold pPL; rw [if_neg n1, if_neg n2]
    have e2 : ∀ a, pSL (tC T L) (tV T L) L g k a = (0, k, a) := fun a => by
      cases g with
      | zero => rfl
      | succ g => unfold pSL; rw [if_neg (by omega)]
    rw [e1, bindR_ok rfl, e2, b_60_13]
    refine w_gI I s_82 ?_
    rw [q.2.1]
    refine w_iff (fun z => absurd ((i_lt (by omega) (by omega)).mp z) (by omega)) ?_
    refine w_sign I q ?_
    refine w_iff (fun z => n3 ((c_is (m := 43) vk (by decide)).mp z)) ?_
    refine w_ift (fun z => n4 ((c_is (m := 45) vk (by decide)).mp z)) ?_
    refine w_iff (fun z => n1 ((c_is (m := 42) vk (by decide)).mp z)) ?_
    refine w_iff (fun z => n2 ((c_is (m := 47) vk (by decide)).mp z)) ?_
    refine w_pend I q c F hs (by omega) fun h1 I1 q1 c1 F1 => ?_
    refine Wp.reti ⟨F1, fun _ => ⟨rfl, q1, ?_, ?_⟩, fun z => absurd rfl z⟩
    · show CL Lw h1 (cs0 ++ opsC (jnS a s b))
      rw [jnS_C (hsx s hs), ← List.append_assoc, ← List.append_assoc]; exact c1
    · show (cs0 ++ opsC (jnS a s b)).length + e ≤ k
      rw [jnS_C (hsx s hs), ← List.append_assoc, ← List.append_assoc, List.length_append]; omega
  induction m with
  | zero =>
    intro k i f g a b s h v3 hm hf hg hi hs I q c F hb
    have z : tC T L k = 101 := Classical.byContradiction fun z => by have := tC_lt z; omega
    exact done k i f g a b s h v3 hi hs I q c F hb (by omega) (by omega) (by omega) (by omega)
  | succ m ih =>
    intro k i f g a b s h v3 hm hf hg hi hs I q c F hb
    have bd := q.k
    have vk := vI (T := T) (L := L) k
    have hL := c.2.1
    have rg := hL.rg
    by_cases n0 : tC T L k ≠ 42 ∧ tC T L k ≠ 47 ∧ tC T L k ≠ 43 ∧ tC T L k ≠ 45
    · exact done k i f g a b s h v3 hi hs I q c F hb n0.1 n0.2.1 n0.2.2.1 n0.2.2.2
    · have kl := tC_lt (T := T) (L := L) (k := k) (by omega)
      have kn := bd.2.2.2 (by omega)
      rw [b_60_13]
      refine w_gI I s_82 ?_
      rw [q.2.1]
      refine w_iff (fun z => absurd ((i_lt (by omega) (by omega)).mp z) (by omega)) ?_
      refine w_sign I q ?_
      by_cases e43 : tC T L k = 43 ∨ tC T L k = 45
      · -- a T is whole: what waited comes out
        have e1 : pPL (tC T L) (tV T L) f k b = (0, k, b) := by
          cases f with
          | zero => rfl
          | succ f => unfold pPL; rw [if_neg (by omega), if_neg (by omega)]
        obtain ⟨g', rfl⟩ : ∃ g', g = g' + 1 := ⟨g - 1, by omega⟩
        have e2 : ∀ a, pSL (tC T L) (tV T L) L (g' + 1) k a = bindR (pUnit (tC T L) (tV T L) (k + 1)) fun k1 o1 => bindR (pPL (tC T L) (tV T L) L k1 o1) fun k' o => pSL (tC T L) (tV T L) L g' k' (a ++ o ++ [((if tC T L k = 43 then 9 else 10), 0)]) := fun a => by
          have : pSL (tC T L) (tV T L) L (g' + 1) k a = bindR (pProd (tC T L) (tV T L) L (k + 1)) fun k' o => pSL (tC T L) (tV T L) L g' k' (a ++ o ++ [((if tC T L k = 43 then 9 else 10), 0)]) := by
            show (if tC T L k = 43 ∨ tC T L k = 45 then _ else _) = _
            rw [if_pos e43]
          rw [this]
          unfold pProd
          rw [bindR_as]
        rw [e1, bindR_ok rfl, e2]
        have body : Wp (sem (X, K X (d + 2)) 60 38 [some (.ref 82), some (.int (pcd s)), some (.int (Int32.ofNat i)), some (.int (Int32.ofNat (tC T L k)))] [] h) (VI fun v h' => SimC T L n Lw e h0 cs0 (bindR (pUnit (tC T L) (tV T L) (k + 1)) fun k1 o1 => bindR (pPL (tC T L) (tV T L) L k1 o1) fun k' o => pSL (tC T L) (tV T L) L g' k' (jnS a s b ++ o ++ [((if tC T L k = 43 then 9 else 10), 0)])) v h') := by
          rw [b_60_38]
          refine w_pend I q c F hs (by omega) fun h1 I1 q1 c1 F1 => ?_
          have go : ∀ s', s' = (if tC T L k = 43 then 9 else 10) → Wp (sem (X, K X (d + 2)) 60 75 [some (.ref 82), some (.int (pcd (some s'))), some (.int (Int32.ofNat i)), some (.int (Int32.ofNat (tC T L k)))] [] h1) (VI fun v h' => SimC T L n Lw e h0 cs0 (bindR (pUnit (tC T L) (tV T L) (k + 1)) fun k1 o1 => bindR (pPL (tC T L) (tV T L) L k1 o1) fun k' o => pSL (tC T L) (tV T L) L g' k' (jnS a s b ++ o ++ [((if tC T L k = 43 then 9 else 10), 0)])) v h') := fun s' es => by
            rw [b_60_75]
            refine w_at I1 q1 (by omega) fun I2 q2 => ?_
            refine w_ift (fun z => by have := (c_is (m := 47) vk (by decide)).mp z; omega) ?_
            rw [b_60_98]
            have c2 : CL Lw (sI h1 82 8 (Int32.ofNat (k + 1))) (cs0 ++ opsC (jnS a s b)) := by
              rw [jnS_C (hsx s hs), ← List.append_assoc, ← List.append_assoc]; exact c1.s82
            have l2 : (cs0 ++ opsC (jnS a s b)).length + e ≤ k := by
              rw [jnS_C (hsx s hs), ← List.append_assoc, ← List.append_assoc, List.length_append]; omega
            have F2 : CFe Lw h0 (sI h1 82 8 (Int32.ofNat (k + 1))) := F1.s82 hL (Or.inl rfl)
            generalize sI h1 82 8 (Int32.ofNat (k + 1)) = g2 at I2 q2 c2 F2 ⊢
            refine w_gS I2 s_82 ?_
            refine w_bI I2 (m_62 (d := d) (e := e + 1) (h0 := h0) I2 q2 c2 F2 (by omega)) (by decide) rfl fun x h3 I3 u => ?_
            obtain ⟨u1, u2, u3⟩ := u
            by_cases z : (pUnit (tC T L) (tV T L) (k + 1)).1 = 0
            · obtain ⟨rfl, q3, c3, l3⟩ := u2 z
              have adv := (gd_unit (v := tV T L) (fun k => tV_le) q2.2.2.2.2.1 z).1
              rw [bindR_ok z]
              refine w_ift (by decide) ?_
              refine w_iff (fun z => by have := (c_is (m := 42) vk (by decide)).mp z; omega) ?_
              refine w_ift (fun z => by have := (c_is (m := 47) vk (by decide)).mp z; omega) ?_
              rw [i32_ofNat_succ]
              have := ih (pUnit (tC T L) (tV T L) (k + 1)).2.1 (i + 1) L g' (jnS a s b) (pUnit (tC T L) (tV T L) (k + 1)).2.2 (some s') h3 (some (.int (Int32.ofNat (tC T L k)))) (by omega) (by omega) (by omega) (by omega) (by rw [es]; split; exact Or.inr (Or.inl rfl); exact Or.inr (Or.inr rfl)) I3 q3 c3 u1 (by show _ + 1 + e ≤ _; omega)
              rw [es] at this ⊢
              exact this
            · rw [bindR_no z]
              obtain ⟨rfl, t1, t2⟩ := u3 z
              exact w_iff (by decide) (Wp.reti ⟨u1, fun y => absurd y z, fun _ => ⟨rfl, t1, t2⟩⟩)
          refine w_if (fun z => ?_) (fun z => ?_)
          · have n43 : tC T L k ≠ 43 := fun y => z (by rw [y]; rfl)
            exact go 10 (by rw [if_neg n43])
          · have y43 : tC T L k = 43 := (c_is (m := 43) vk (by decide)).mp (Classical.byContradiction z)
            exact go 9 (by rw [if_pos y43])
        by_cases e1 : tC T L k = 43
        · exact w_ift (by rw [e1]; rfl) body
        · refine w_iff (fun z => e1 ((c_is (m := 43) vk (by decide)).mp z)) ?_
          exact w_iff (fun z => z (by rw [e43.resolve_left e1]; rfl)) body
      · refine w_iff (fun z => e43 (Or.inl ((c_is (m := 43) vk (by decide)).mp z))) ?_
        refine w_ift (fun z => e43 (Or.inr ((c_is (m := 45) vk (by decide)).mp z))) ?_
        obtain ⟨f', rfl⟩ : ∃ f', f = f' + 1 := ⟨f - 1, by omega⟩
        by_cases e42 : tC T L k = 42
        · have e1 : pPL (tC T L) (tV T L) (f' + 1) k b = bindR (pUnit (tC T L) (tV T L) (k + 1)) fun k' o => pPL (tC T L) (tV T L) f' k' (b ++ o ++ [(11, 0)]) := by
            show (if tC T L k = 42 then _ else _) = _
            rw [if_pos e42]
          rw [e1, bindR_as]
          refine w_ift (by rw [e42]; rfl) ?_
          rw [b_60_75]
          refine w_at I q (by omega) fun I2 q2 => ?_
          refine w_ift (fun z => by have := (c_is (m := 47) vk (by decide)).mp z; omega) ?_
          rw [b_60_98]
          have c2 : CL Lw (sI h 82 8 (Int32.ofNat (k + 1))) (cs0 ++ opsC a ++ opsC b) := c.s82
          have F2 : CFe Lw h0 (sI h 82 8 (Int32.ofNat (k + 1))) := F.s82 hL (Or.inl rfl)
          generalize sI h 82 8 (Int32.ofNat (k + 1)) = g2 at I2 q2 c2 F2 ⊢
          refine w_gS I2 s_82 ?_
          refine w_bI I2 (m_62 (d := d) (e := (pnd s).length + e + 1) (h0 := h0) I2 q2 c2 F2 (by omega)) (by decide) rfl fun x h3 I3 u => ?_
          obtain ⟨u1, u2, u3⟩ := u
          by_cases z : (pUnit (tC T L) (tV T L) (k + 1)).1 = 0
          · obtain ⟨rfl, q3, c3, l3⟩ := u2 z
            have adv := (gd_unit (v := tV T L) (fun k => tV_le) q2.2.2.2.2.1 z).1
            have bd3 := q3.k
            rw [bindR_ok z]
            refine w_ift (by decide) ?_
            refine w_ift (by rw [e42]; rfl) ?_
            rw [b_60_119]
            refine w_gR I3 s_82 c3.1 ?_
            refine w_iff (fun z => z (by rw [e42]; rfl)) ?_
            refine w_emit (d := d + 1) I3 q3 c3 u1 (by omega) fun h4 I4 q4 c4 F4 => ?_
            rw [i32_ofNat_succ]
            have eo : cs0 ++ opsC a ++ opsC (b ++ (pUnit (tC T L) (tV T L) (k + 1)).2.2 ++ [(11, 0)]) = cs0 ++ opsC a ++ opsC b ++ opsC (pUnit (tC T L) (tV T L) (k + 1)).2.2 ++ [-11] := by
              rw [opsC_app, opsC_app, ← List.append_assoc, ← List.append_assoc]; rfl
            refine ih _ (i + 1) f' g a _ s h4 _ (by omega) (by omega) (by omega) (by omega) hs I4 q4 (by rw [eo]; exact c4) F4 ?_
            rw [eo, List.length_append]; show _ + 1 + _ + e ≤ _; omega
          · rw [bindR_no z]
            obtain ⟨rfl, t1, t2⟩ := u3 z
            exact w_iff (by decide) (Wp.reti ⟨u1, fun y => absurd y z, fun _ => ⟨rfl, t1, t2⟩⟩)
        · have e47 : tC T L k = 47 := by omega
          have e1 : pPL (tC T L) (tV T L) (f' + 1) k b = if tC T L (k + 1) = 100 then (if tV T L (k + 1) = 0 then (2, k + 1, []) else pPL (tC T L) (tV T L) f' (k + 2) (b ++ [(12, Int32.ofNat (tV T L (k + 1)))])) else (1, k + 1, []) := by
            show (if tC T L k = 42 then _ else if tC T L k = 47 then _ else _) = _
            rw [if_neg e42, if_pos e47]
          have vk1 := vI (T := T) (L := L) (k + 1)
          have vb := tV_le (T := T) (L := L) (k := k + 1)
          rw [e1]
          refine w_iff (fun z => e42 ((c_is (m := 42) vk (by decide)).mp z)) ?_
          refine w_ift (by rw [e47]; rfl) ?_
          rw [b_60_75]
          refine w_at I q (by omega) fun I2 q2 => ?_
          refine w_iff (fun z => z (by rw [e47]; rfl)) ?_
          have c2 : CL Lw (sI h 82 8 (Int32.ofNat (k + 1))) (cs0 ++ opsC a ++ opsC b) := c.s82
          have F2 : CFe Lw h0 (sI h 82 8 (Int32.ofNat (k + 1))) := F.s82 hL (Or.inl rfl)
          generalize sI h 82 8 (Int32.ofNat (k + 1)) = g2 at I2 q2 c2 F2 ⊢
          have bd2 := q2.k
          -- isDivisor
          have dv : Wp (K X (d + 2) 63 [.ref 82] g2) (VI fun v h' => (tC T L (k + 1) = 100 ∧ tV T L (k + 1) ≠ 0 → v = 1 ∧ h' = g2) ∧ (¬ (tC T L (k + 1) = 100 ∧ tV T L (k + 1) ≠ 0) → v = 0 ∧ h' = sI (sI g2 82 11 (Int32.ofNat (if tC T L (k + 1) = 100 then 2 else 1))) 82 12 (Int32.ofNat (tP T L (k + 1))))) := by
            rw [k_63]
            refine w_sign I2 q2 ?_
            refine w_if (fun y => ?_) (fun y => ?_)
            · have e100 : tC T L (k + 1) = 100 := (c_is (m := 100) vk1 (by decide)).mp y
              refine w_gL I2 s_82 l_82_2 ?_
              refine w_gI I2 s_82 ?_
              rw [q2.2.2.2.2.2.1]
              refine w_aIn I2 s_85 (by omega) (by decide) ?_
              rw [(q2.1 (k + 1) (by omega)).2.2 e100]
              refine w_if (fun z => ?_) (fun z => ?_)
              · have nz : tV T L (k + 1) ≠ 0 := fun y => z (by rw [y]; rfl)
                exact Wp.reti ⟨fun _ => ⟨rfl, rfl⟩, fun y => absurd ⟨e100, nz⟩ y⟩
              · have ez : tV T L (k + 1) = 0 := (i_eq (n := 0) (by omega) (by omega)).mp (Classical.byContradiction z)
                refine w_gS I2 s_82 ?_
                refine w_bI I2 (m_69 (w := 2) I2 q2) (by decide) rfl ?_
                rintro x h3 I3 ⟨rfl, rfl⟩
                exact w_ift rfl (Wp.reti ⟨fun y => absurd ez y.2, fun _ => ⟨rfl, by rw [if_pos e100]⟩⟩)
            · have n100 : tC T L (k + 1) ≠ 100 := fun z => y (by rw [z]; rfl)
              refine w_gS I2 s_82 ?_
              refine w_bI I2 (m_69 (w := 1) I2 q2) (by decide) rfl ?_
              rintro x h3 I3 ⟨rfl, rfl⟩
              exact w_gd (by decide) (Wp.reti ⟨fun y => absurd y.1 n100, fun _ => ⟨rfl, by rw [if_neg n100]⟩⟩)
          refine w_gS I2 s_82 ?_
          refine w_bI I2 dv (by decide) rfl fun x h3 I3 u => ?_
          obtain ⟨u1, u2⟩ := u
          by_cases ok : tC T L (k + 1) = 100 ∧ tV T L (k + 1) ≠ 0
          · obtain ⟨rfl, rfl⟩ := u1 ok
            rw [if_pos ok.1, if_neg ok.2]
            refine w_iff (by decide) ?_
            rw [b_60_98]
            refine w_gS I3 s_82 ?_
            refine w_bI I3 (m_62 (d := d) (e := (pnd s).length + e + 1) (h0 := h0) I3 q2 c2 F2 (by omega)) (by decide) rfl fun x h4 I4 u => ?_
            obtain ⟨t1, t2, t3⟩ := u
            have pu : pUnit (tC T L) (tV T L) (k + 1) = (0, k + 1 + 1, [(0, Int32.ofNat (tV T L (k + 1)))]) := by unfold pUnit; rw [if_pos ok.1]
            rw [pu] at t2
            obtain ⟨rfl, q4, c4, l4⟩ := t2 rfl
            have bd4 := q4.k
            refine w_ift (by decide) ?_
            refine w_iff (fun z => e42 ((c_is (m := 42) vk (by decide)).mp z)) ?_
            refine w_iff (fun z => z (by rw [e47]; rfl)) ?_
            rw [b_60_119]
            refine w_gR I4 s_82 c4.1 ?_
            refine w_ift (fun z => e42 ((c_is (m := 42) vk (by decide)).mp z)) ?_
            have l4 : (cs0 ++ opsC a ++ opsC b ++ opsC [(0, Int32.ofNat (tV T L (k + 1)))]).length + ((pnd s).length + e + 1) ≤ k + 1 + 1 := l4
            refine w_emit (d := d + 1) I4 q4 c4 t1 (by show (cs0 ++ opsC a ++ opsC b ++ opsC [(0, Int32.ofNat (tV T L (k + 1)))]).length < 600; have := bd4.1; omega) fun h5 I5 q5 c5 F5 => ?_
            rw [i32_ofNat_succ]
            have eo : cs0 ++ opsC a ++ opsC (b ++ [(12, Int32.ofNat (tV T L (k + 1)))]) = cs0 ++ opsC a ++ opsC b ++ opsC [(0, Int32.ofNat (tV T L (k + 1)))] ++ [-12] := by
              rw [opsC_app]
              show cs0 ++ opsC a ++ (opsC b ++ [Int32.ofNat (tV T L (k + 1)), -12]) = cs0 ++ opsC a ++ opsC b ++ [Int32.ofNat (tV T L (k + 1))] ++ [-12]
              simp only [List.append_assoc, List.cons_append, List.nil_append]
            refine ih (k + 2) (i + 1) f' g a (b ++ [(12, Int32.ofNat (tV T L (k + 1)))]) s h5 _ (by omega) (by omega) (by omega) (by omega) hs I5 q5 (by rw [eo]; exact c5) F5 ?_
            rw [eo, List.length_append]; show _ + 1 + _ + e ≤ _; omega
          · obtain ⟨rfl, rfl⟩ := u2 ok
            refine w_ift rfl ?_
            by_cases e100 : tC T L (k + 1) = 100
            · have ez : tV T L (k + 1) = 0 := Classical.byContradiction fun z => ok ⟨e100, z⟩
              rw [if_pos e100, if_pos e100, if_pos ez, bindR_no (Nat.succ_ne_zero _)]
              exact Wp.reti (bad_at (w := 2) hL F2 (by decide))
            · rw [if_neg e100, if_neg e100, bindR_no (Nat.succ_ne_zero _)]
              exact Wp.reti (bad_at (w := 1) hL F2 (by decide))
/-- expression -/
theorem m_60 {k e : Nat} {cs : List Int32} {h0 : Hp} (I : Inv h) (q : CB T L n h k) (c : CL Lw h cs) (F : CFe Lw h0 h) (hb : cs.length + e ≤ k) : Wp (K X (d + 3) 60 [.ref 82] h) (VI fun v h' => SimC T L n Lw e h0 cs (pSum (tC T L) (tV T L) L k) v h') := by
  have hL := c.2.1
  have ps : pSum (tC T L) (tV T L) L k = bindR (pUnit (tC T L) (tV T L) k) fun k1 o1 => bindR (pPL (tC T L) (tV T L) L k1 o1) fun k' o => pSL (tC T L) (tV T L) L L k' (jnS [] none o) := by
    unfold pSum pProd
    rw [bindR_as]; rfl
  rw [ps, k_60]
  refine w_gS I s_82 ?_
  refine w_bI I (m_62 (d := d) (h0 := h0) I q c F hb) (by decide) rfl fun x h3 I3 u => ?_
  obtain ⟨u1, u2, u3⟩ := u
  by_cases z : (pUnit (tC T L) (tV T L) k).1 = 0
  · obtain ⟨rfl, q3, c3, l3⟩ := u2 z
    rw [bindR_ok z]
    refine w_ift (by decide) ?_
    have e0 : cs ++ opsC [] ++ opsC (pUnit (tC T L) (tV T L) k).2.2 = cs ++ opsC (pUnit (tC T L) (tV T L) k).2.2 := by show cs ++ [] ++ _ = _; rw [List.append_nil]
    exact c60_13 (d := d) (i0 := 0) L _ 0 L L [] _ none h3 none (by omega) (by omega) (by omega) (Nat.zero_le _) (Or.inl rfl) I3 q3 (by rw [e0]; exact c3) u1 (by rw [e0]; show _ + 0 + e ≤ _; omega)
  · rw [bindR_no z]
    obtain ⟨rfl, t1, t2⟩ := u3 z
    exact w_iff (by decide) (Wp.reti ⟨u1, fun y => absurd y z, fun _ => ⟨rfl, t1, t2⟩⟩)
end CX
