/-! MEND: the mathematics; the class amends -/
def pcN (s : Nat) : Nat → Nat
  | 0 => 0
  | n + 1 => pcN s n + if tb s n then 1 else 0
def pc (s : Nat) : Nat := pcN s 12
def payB (V : Sv) (AL : Nat → ALaw) (PA : Nat → APact) (r : List SumT) (U : List ATurn) : Bool := (List.range (2 ^ U.length)).all fun s => !cT U s U.length || decide (slyF V AL PA r U 0 ≤ slyF V AL PA r U s)
def clsB (V : Sv) (AL : Nat → ALaw) (PA : Nat → APact) (r : List SumT) (U : List ATurn) : Bool := (List.range U.length).all fun k => decide (cst V AL PA r U (uI U k) none ≤ cst V AL PA r U (uI U k) (some k))
theorem pay_cls {V : Sv} {AL : Nat → ALaw} {PA : Nat → APact} {r : List SumT} {U : List ATurn} (h6 : U.length ≤ 6) (h : ∀ k, k < U.length → uI U k < r.length) : payB V AL PA r U = clsB V AL PA r U := by
  rw [Bool.eq_iff_iff]
  unfold payB clsB
  rw [List.all_eq_true, List.all_eq_true]
  have np := no_pays (V := V) (AL := AL) (PA := PA) h6 h
  constructor
  · intro a k hk
    refine decide_eq_true (np.mp (fun s hs c => ?_) k (List.mem_range.mp hk))
    have := a s (List.mem_range.mpr hs)
    rw [c] at this
    exact of_decide_eq_true this
  · intro a s hs
    cases c : cT U s U.length
    · rfl
    · exact decide_eq_true (np.mpr (fun k hk => of_decide_eq_true (a k (List.mem_range.mpr hk))) s (List.mem_range.mp hs) c)
def honB (S : AS) (w : Nat) : Bool := decide (totG (vY S 1) (sL S) (wdP S w) (sY S 1).2.2.2.2 ≤ totG (vY S 1) (sL S) (sPc S) (sY S 1).2.2.2.2)
def fitB (S : AS) (w : Nat) : Bool := honB S w && payB (vY S 0) (sL S) (wdP S w) (sY S 0).2.2.2.2 (sU S)
def mdM (f : Nat → Bool) : Nat → Option Nat
  | 0 => none
  | s + 1 => match mdM f s with
    | none => if f s then some s else none
    | some b => if f s = true ∧ pc s < pc b then some s else some b
def mendV (S : AS) : Int32 := decI (mdM (fitB S) (2 ^ (sW S).length))
def mdS (f : Nat → Bool) (m : Nat) : Option Nat → Prop
  | none => ∀ s, s < m → f s = false
  | some b => b < m ∧ f b = true ∧ ∀ s, s < m → f s = true → pc b < pc s ∨ (pc b = pc s ∧ b ≤ s)
theorem mdM_spec {f : Nat → Bool} : ∀ m, mdS f m (mdM f m)
  | 0 => fun s hs => absurd hs (Nat.not_lt_zero _)
  | m + 1 => by
    have ih := mdM_spec (f := f) m
    unfold mdM
    cases e : mdM f m with
    | none =>
      rw [e] at ih
      show mdS f (m + 1) (if f m = true then some m else none)
      cases hf : f m
      · rw [if_neg (by decide)]
        intro s hs
        by_cases z : s = m
        · rw [z]; exact hf
        · exact ih s (by omega)
      · rw [if_pos rfl]
        refine ⟨by omega, hf, fun s hs fs => ?_⟩
        by_cases z : s = m
        · rw [z]; exact Or.inr ⟨rfl, Nat.le_refl _⟩
        · have := ih s (by omega); rw [this] at fs; cases fs
    | some b =>
      rw [e] at ih
      obtain ⟨i1, i2, i3⟩ := ih
      show mdS f (m + 1) (if f m = true ∧ pc m < pc b then some m else some b)
      by_cases c : f m = true ∧ pc m < pc b
      · rw [if_pos c]
        refine ⟨by omega, c.1, fun s hs fs => ?_⟩
        by_cases z : s = m
        · rw [z]; exact Or.inr ⟨rfl, Nat.le_refl _⟩
        · have := i3 s (by omega) fs; exact Or.inl (by omega)
      · rw [if_neg c]
        refine ⟨by omega, i2, fun s hs fs => ?_⟩
        by_cases z : s = m
        · have : ¬ pc m < pc b := fun w => c ⟨by rw [← z]; exact fs, w⟩
          rw [z]
          by_cases w : pc b = pc m
          · exact Or.inr ⟨w, by omega⟩
          · exact Or.inl (by omega)
        · exact i3 s (by omega) fs
theorem mdM_found {f : Nat → Bool} {M b : Nat} (hb : b < M) (fb : f b = true) (h : ∀ s, s < M → f s = true → pc b < pc s ∨ (pc s = pc b ∧ b ≤ s)) : mdM f M = some b := by
  have sp := mdM_spec (f := f) M
  cases e : mdM f M with
  | none => rw [e] at sp; have := sp b hb; rw [this] at fb; cases fb
  | some c =>
    rw [e] at sp
    obtain ⟨i1, i2, i3⟩ := sp
    have a := i3 b hb fb
    have d := h c i1 i2
    congr 1
    omega
theorem mdM_none {f : Nat → Bool} {M : Nat} (h : ∀ s, s < M → f s = false) : mdM f M = none := by
  have sp := mdM_spec (f := f) M
  cases e : mdM f M with
  | none => rfl
  | some c =>
    rw [e] at sp
    have := h c sp.1
    rw [sp.2.1] at this; cases this
theorem pc_le : ∀ n, n ≤ 6 → ∀ s, s < 2 ^ n → pc s ≤ n := by decide +kernel
theorem hisP_tests {V : Sv} {AL : Nat → ALaw} {PA PA' : Nat → APact} (t : ∀ p, (PA' p).1 = (PA p).1) : hisP V AL PA' = hisP V AL PA := by
  funext x
  unfold hisP GP
  simp only [t]
theorem whoP_tests {V : Sv} {AL : Nat → ALaw} {PA PA' : Nat → APact} {B : Int} (t : ∀ p, (PA' p).1 = (PA p).1) : whoP V AL PA' B = whoP V AL PA B := by
  funext x
  unfold whoP
  rw [hisP_tests t]
def WAm (a : Nat) : Prop := 187 ≤ a ∧ a ≤ 273 ∧ 3 ≤ (a - 184) % 6
theorem amP : ∀ p, p < 15 → IsPact (187 + 6 * p) := by
  have : ∀ p, p < 15 → 187 + 6 * p ∈ [99, 184, 190, 196, 202, 208, 214, 220, 226, 232, 238, 244, 250, 256, 262, 268, 187, 193, 199, 205, 211, 217, 223, 229, 235, 241, 247, 253, 259, 265, 271] := by decide
  exact this
section AM
variable {X : Ctx} {d : Nat} {Q : Option Value → Hp → Prop} {h : Hp} {S : AS} {V : Sv} {PA : Nat → APact}
/-- copyTerms -/
theorem m_31 {P P' : Nat} {A : APact} (I : Inv h) (hP : IsPact P) (hP' : IsPact P') (hn : P ≠ P') (h2 : P ≠ P' + 2) (h3 : P + 2 ≠ P') (c : cTerms h P A) : Wp (K X (d + 1) 31 [.ref P', .ref P] h) (VV fun h' => cTerms h' P' A ∧ Eo (fun a => a = P' ∨ a = P' + 2) h h') := by
  obtain ⟨c1, c2, c3, c4⟩ := c
  rw [k_31]
  refine w_gI I hP.s ?_
  refine w_fI I hP'.s fun I1 => ?_
  refine w_gI I1 hP.s ?_
  rw [sI_other hn]
  refine w_fI I1 hP'.s fun I2 => ?_
  refine w_gI I2 hP.s ?_
  rw [sI_other hn, sI_other hn]
  refine w_fZ I2 hP'.s (by rw [c4]; unfold bi; split <;> decide) fun I3 => ?_
  refine w_gL I3 hP.s hP.l1 ?_
  refine w_gL I3 hP'.s hP'.l1 ?_
  refine w_acpI (n := 0) (m := 6) I3 hP.s2 hP'.s2 (by decide) (by decide) (by decide) fun I4 => ?_
  have n2 : P' + 2 ≠ P' := by omega
  have far : hI (rI (sI (sI (sI h P' 3 (hI h P 3)) P' 5 (hI h P 5)) P' 6 (hI h P 6)) (P' + 2) (cpy (hI (sI (sI (sI h P' 3 (hI h P 3)) P' 5 (hI h P 5)) P' 6 (hI h P 6)) (P + 2)) (hI (sI (sI (sI h P' 3 (hI h P 3)) P' 5 (hI h P 5)) P' 6 (hI h P 6)) (P' + 2)) 0 0 6)) P' = hI (sI (sI (sI h P' 3 (hI h P 3)) P' 5 (hI h P 5)) P' 6 (hI h P 6)) P' := hI_rI_ne (by omega)
  refine Wp.retv ⟨⟨fun k hk => ?_, fun k hk => ?_, ?_, ?_⟩, ?_⟩
  · rw [far]
    simp only [hI_sI_self]
    exact c1 k hk
  · rw [show hI (rI (sI (sI (sI h P' 3 (hI h P 3)) P' 5 (hI h P 5)) P' 6 (hI h P 6)) (P' + 2) (cpy (hI (sI (sI (sI h P' 3 (hI h P 3)) P' 5 (hI h P 5)) P' 6 (hI h P 6)) (P + 2)) (hI (sI (sI (sI h P' 3 (hI h P 3)) P' 5 (hI h P 5)) P' 6 (hI h P 6)) (P' + 2)) 0 0 6)) (P' + 2) = cpy (hI (sI (sI (sI h P' 3 (hI h P 3)) P' 5 (hI h P 5)) P' 6 (hI h P 6)) (P + 2)) (hI (sI (sI (sI h P' 3 (hI h P 3)) P' 5 (hI h P 5)) P' 6 (hI h P 6)) (P' + 2)) 0 0 6 from hI_rI_self]
    unfold cpy
    rw [if_pos (show 0 ≤ k ∧ k < 0 + 6 by omega), Nat.zero_add, Nat.sub_zero, sI_other h3, sI_other h3, sI_other h3]
    exact c2 k hk
  · rw [far]
    simp only [hI_sI_self]
    exact c3
  · rw [far]
    simp only [hI_sI_self]
    exact c4
  · exact (((Eo.rf.kI (Or.inl rfl)).kI (Or.inl rfl)).kI (Or.inl rfl)).kRI (Or.inr rfl)
/-- tell -/
theorem m_33 {P s : Nat} {k : Int32} {A : APact} (I : Inv h) (hP : IsPact P) (hs : s ≤ 4) (hk : s = 1 ∨ s = 2 → ∃ j, j < 6 ∧ k = Int32.ofNat j) (c : cTerms h P A) : Wp (K X (d + 1) 33 [.ref P, .int (Int32.ofNat s), .int k] h) (VV fun h' => cTerms h' P (wordA A s (kd k)) ∧ Eo (fun a => a = P ∨ a = P + 2) h h') := by
  obtain ⟨c1, c2, c3, c4⟩ := c
  have n2 : P + 2 ≠ P := by omega
  have n3 : P ≠ P + 2 := by omega
  have fld : ∀ (x : Nat) (v : Int32) (B : APact), (∀ j, j < 6 → bt (if (3 : Nat) = x then v else hI h P 3) j = B.2.1 j) → B.2.2.1 = A.2.2.1 → (if (5 : Nat) = x then v else hI h P 5) = Int32.ofNat B.2.2.2.1 → (if (6 : Nat) = x then v else hI h P 6) = bi B.2.2.2.2 → cTerms (sI h P x v) P B ∧ Eo (fun a => a = P ∨ a = P + 2) h (sI h P x v) := fun x v B b1 b2 b3 b4 => by
    refine ⟨⟨fun j hj => ?_, fun j hj => ?_, ?_, ?_⟩, Eo.rf.kI (Or.inl rfl)⟩
    · rw [hI_sI_self]; exact b1 j hj
    · rw [sI_other n2, b2]; exact c2 j hj
    · rw [hI_sI_self]; exact b3
    · rw [hI_sI_self]; exact b4
  have s5 : s = 0 ∨ s = 1 ∨ s = 2 ∨ s = 3 ∨ s = 4 := by omega
  rw [k_33]
  rcases s5 with rfl | rfl | rfl | rfl | rfl
  · refine w_iff (by decide) ?_
    refine w_fZ I hP.s (by decide) fun _ => ?_
    exact Wp.retv (fld 6 1 _ c1 rfl c3 rfl)
  · refine w_ift (by decide) ?_
    refine w_iff (by decide) ?_
    obtain ⟨j, j6, rfl⟩ := hk (Or.inl rfl)
    refine w_gI I hP.s ?_
    refine w_fI I hP.s fun _ => ?_
    refine Wp.retv (fld 3 _ _ (fun i hi => ?_) rfl c3 c4)
    rw [if_pos rfl, bt_set (by omega) (by omega), c1 i hi, kd_of j6]
    rfl
  · refine w_ift (by decide) ?_
    refine w_ift (by decide) ?_
    refine w_iff (by decide) ?_
    obtain ⟨j, j6, rfl⟩ := hk (Or.inr rfl)
    refine w_gL I hP.s hP.l1 ?_
    refine w_wIn I hP.s2 j6 (by decide) fun _ => ?_
    refine Wp.retv ⟨⟨fun i hi => ?_, fun i hi => ?_, ?_, ?_⟩, Eo.rf.kI (Or.inr rfl)⟩
    · rw [sI_other n3]; exact c1 i hi
    · rw [hI_sI_self, up1, kd_of j6]
      show _ = Int32.ofNat (if i = j then 0 else A.2.2.1 i)
      by_cases z : i = j
      · rw [if_pos z, if_pos z]; rfl
      · rw [if_neg z, if_neg z]; exact c2 i hi
    · rw [sI_other n3]; exact c3
    · rw [sI_other n3]; exact c4
  · refine w_ift (by decide) ?_
    refine w_ift (by decide) ?_
    refine w_ift (by decide) ?_
    refine w_iff (by decide) ?_
    refine w_fI I hP.s fun _ => ?_
    exact Wp.retv (fld 5 1 _ c1 rfl rfl c4)
  · refine w_ift (by decide) ?_
    refine w_ift (by decide) ?_
    refine w_ift (by decide) ?_
    refine w_ift (by decide) ?_
    refine w_fI I hP.s fun _ => ?_
    exact Wp.retv (fld 5 2 _ c1 rfl rfl c4)
/-- the first loop: as told -/
theorem c129_2 {v1 : Option Value} {h0 : Hp} (ok : okA S) (q0 : RC h0 S) (kk : ∀ h', Inv h' → Eo WAm h0 h' → (∀ p, p < 15 → cTerms h' (187 + 6 * p) (sPc S p)) → Wp (sem (X, K X (d + 1)) 129 31 [some (.ref 62), v1, some (.int 0)] [] h') Q) : ∀ (c p : Nat) (h : Hp), p + c = 15 → Inv h → Eo WAm h0 h → (∀ j, j < p → cTerms h (187 + 6 * j) (sPc S j)) →
    Wp (sem (X, K X (d + 1)) 129 2 [some (.ref 62), v1, some (.int (Int32.ofNat p))] [] h) Q
  | 0, p, h, e, I, E, T => by
    have e : p = 15 := by omega
    subst e
    rw [b_129_2]
    exact w_ift (by decide) (kk h I E T)
  | c + 1, p, h, e, I, E, T => by
    have hp : p < 15 := by omega
    obtain ⟨PO, r1, r2, r3, r4, r5⟩ := q0.1.2.2.1
    have rg := r3 p (by omega)
    have ip := rg.pact
    unfold IsPT at rg
    have nW : ∀ a, a = PO p ∨ a = PO p + 2 → ¬ WAm a := fun a h1 => by unfold WAm; omega
    have c0 : cTerms h (PO p) (sPc S p) := (r5 p hp).2.2.eo (E.i (nW _ (Or.inl rfl))) (E.i (nW _ (Or.inr rfl)))
    rw [b_129_2]
    refine w_iff (fun z => absurd ((i_le (m := 15) (by omega) (by omega)).mp z) (by omega)) ?_
    rw [i32_ofNat_succ]
    refine w_gL I s_62 l_62_3 ?_
    refine w_aLn I s_66 (by decide) (by decide) hp (by decide) (lk_amended p hp) ?_
    refine w_gL I s_62 l_62_2 ?_
    refine w_aRn I s_65 (by decide) (by decide) hp (by decide) (by rw [E.p (show ¬ WAm 65 by unfold WAm; omega)]; exact r1 p hp) ?_
    refine w_gS I (amP p hp).s ?_
    refine w_bV I (m_31 I ip (amP p hp) (by omega) (by omega) (by omega) c0) (by decide) rfl fun h1 I1 t => ?_
    obtain ⟨t1, E1⟩ := t
    refine c129_2 ok q0 kk c (p + 1) h1 (by omega) I1 (E.tr (E1.wk fun a z => by unfold WAm; omega)) fun j hj => ?_
    by_cases z : j = p
    · rw [z]; exact t1
    · exact (T j (by omega)).eo (E1.i (show ¬ (187 + 6 * j = 187 + 6 * p ∨ 187 + 6 * j = 187 + 6 * p + 2) by omega)) (E1.i (show ¬ (187 + 6 * j + 2 = 187 + 6 * p ∨ 187 + 6 * j + 2 = 187 + 6 * p + 2) by omega))
/-- the second: WORDS -/
theorem c129_31 {w : Nat} {h0 : Hp} (hw : w < 64) (q0 : RC h0 S) (kk : ∀ h' PA', Inv h' → Eo WAm h0 h' → PA' = wdP S w → (∀ p, p < 15 → cTerms h' (187 + 6 * p) (PA' p)) → Wp (gR h' 10 62 8 fun g3 => gR h' 10 62 3 fun g4 => gd (hS h' g3 = (3, 0)) (bV (K X (d + 1) 16 [.ref g3, .ref g4] h') fun h1 => some (none, h1))) Q) : ∀ (ws : List AWord) (j : Nat) (h : Hp) (PA : Nat → APact), j + ws.length = (sW S).length → (sW S).length ≤ 6 → worded (Int32.ofNat w) ws j PA = wdP S w → rW h0 73 74 75 id j ws → (∀ w, w ∈ ws → okW w) → Inv h → Eo WAm h0 h → (∀ p, p < 15 → cTerms h (187 + 6 * p) (PA p)) →
    Wp (sem (X, K X (d + 1)) 129 31 [some (.ref 62), some (.int (Int32.ofNat w)), some (.int (Int32.ofNat j))] [] h) Q
  | [], j, h, PA, e, l6, ew, rw', ow, I, E, T => by
    have e : j = (sW S).length := by simpa using e
    obtain ⟨p1, p2, p3, p4, p5, p6⟩ := q0.1.2.2.2.2.2.1
    rw [b_129_31]
    refine w_gL I s_62 l_62_4 ?_
    refine w_gI I s_67 ?_
    rw [E.i (show ¬ WAm 67 by unfold WAm; omega), p5, e]
    refine w_ift (Int32.le_refl _) ?_
    exact kk h PA I E ew T
  | wd :: ws, j, h, PA, e, l6, ew, rw', ow, I, E, T => by
    have e' : j + 1 + ws.length = (sW S).length := by rw [← e, List.length_cons]; omega
    have hj : j < (sW S).length := by omega
    obtain ⟨⟨x1, x2, x3⟩, rt⟩ := rw'
    have o := ow wd (by simp)
    have ow' : ∀ w, w ∈ ws → okW w := fun v hv => ow v (by simp [hv])
    obtain ⟨p1, p2, p3, p4, p5, p6⟩ := q0.1.2.2.2.2.2.1
    have e67 : ∀ a, (a < 187 ∨ 273 < a) → hI h a = hI h0 a := fun a ha => E.i (show ¬ WAm a by unfold WAm; omega)
    have st : worded (Int32.ofNat w) (wd :: ws) j PA = worded (Int32.ofNat w) ws (j + 1) (if bt (Int32.ofNat w) j then updP PA wd.1 (wordA (PA wd.1) wd.2.1 (kd wd.2.2)) else PA) := rfl
    rw [b_129_31]
    refine w_gL I s_62 l_62_4 ?_
    refine w_gI I s_67 ?_
    rw [e67 67 (by omega), p5]
    refine w_iff (fun z => absurd ((i_le (by omega) (by omega)).mp z) (by omega)) ?_
    refine w_eI (m_has (by omega)) ?_
    rw [i32_ofNat_succ]
    refine w_if (fun c0 => ?_) (fun c0 => ?_)
    · have ht : bt (Int32.ofNat w) j = false := bi_0.mp c0
      rw [st, ht] at ew
      exact c129_31 hw q0 kk ws (j + 1) h PA e' l6 ew rt ow' I E T
    · have ht : bt (Int32.ofNat w) j = true := by cases z : bt (Int32.ofNat w) j; rw [z] at c0; exact absurd rfl c0; rfl
      rw [st, ht] at ew
      refine w_gL I s_62 l_62_3 ?_
      refine w_gL I s_62 l_62_4 ?_
      refine w_gL I s_67 l_67_5 ?_
      refine w_aIn I s_73 (by omega) (by decide) ?_
      rw [e67 73 (by omega), x1]
      refine w_aLn (m := wd.1) I s_66 (by decide) (by decide) o.1 (by decide) (lk_amended _ o.1) ?_
      refine w_gL I s_62 l_62_4 ?_
      refine w_gL I s_67 l_67_6 ?_
      refine w_aIn I s_74 (by omega) (by decide) ?_
      rw [e67 74 (by omega), x2]
      refine w_gL I s_62 l_62_4 ?_
      refine w_gL I s_67 l_67_7 ?_
      refine w_aIn I s_75 (by omega) (by decide) ?_
      rw [e67 75 (by omega), x3]
      refine w_gS I (amP _ o.1).s ?_
      refine w_bV I (m_33 I (amP _ o.1) o.2.1 o.2.2 (T _ o.1)) (by decide) rfl fun h1 I1 t => ?_
      obtain ⟨t1, E1⟩ := t
      have w15 := o.1
      refine c129_31 hw q0 kk ws (j + 1) h1 _ e' l6 ew rt ow' I1 (E.tr (E1.wk fun a z => by unfold WAm; omega)) fun p hp => ?_
      show cTerms h1 (187 + 6 * p) (if p = wd.1 then _ else PA p)
      by_cases z : p = wd.1
      · rw [if_pos z, z]; exact t1
      · rw [if_neg z]
        exact (T p hp).eo (E1.i (show ¬ (187 + 6 * p = 187 + 6 * wd.1 ∨ 187 + 6 * p = 187 + 6 * wd.1 + 2) by omega)) (E1.i (show ¬ (187 + 6 * p + 2 = 187 + 6 * wd.1 ∨ 187 + 6 * p + 2 = 187 + 6 * wd.1 + 2) by omega))
theorem wdP_tests {w : Nat} : ∀ p, (wdP S w p).1 = (sPc S p).1 := fun p => worded_tests _ _ _ _
/-- amend: what the levy heard stays, but for the PACTS -/
theorem m_129 {w : Nat} {B : Int} (I : Inv h) (q : RC h S) (ok : okA S) (hw : w < 64) (t : ∀ p, (PA p).1 = (sPc S p).1) (L : LvC h V (sL S) PA B) :
    Wp (K X (d + 5) 129 [.ref 62, .int (Int32.ofNat w)] h) (VV fun h' => RC h' S ∧ Cl h h' ∧ LvC h' V (sL S) (wdP S w) B) := by
  obtain ⟨p1, p2, p3, p4, p5, p6⟩ := q.1.2.2.2.2.2.1
  rw [k_129]
  refine c129_2 (d := d + 3) ok q (fun h1 I1 E1 T1 => ?_) 15 0 h (by omega) I Eo.rf fun j hj => absurd hj (Nat.not_lt_zero _)
  refine c129_31 (d := d + 3) (w := w) (j := 0) hw q (fun h2 PA' I2 E2 e2 T2 => ?_) (sW S) h1 (sPc S) (by omega) ok.2.2.2.2.2.2.1.1 rfl p6 ok.2.2.2.2.2.2.1.2 I1 E1 T1
  subst e2
  have q2 : RC h2 S := q.scr ok E2 fun a z => Or.inr (Or.inl z)
  have C2 : Cl h h2 := E2.wk fun a z => by unfold WAm at z; omega
  have oP := worded_ok (set := Int32.ofNat w) (sW S) 0 (sPc S) ok.2.2.1
  have nn : ∀ a, (a < 187 ∨ 273 < a) → ¬ WAm a := fun a ha z => by unfold WAm at z; omega
  obtain ⟨q1, qq2, q3, q4, q5, q6, q7, ⟨po, r1, r2, r3⟩, q9⟩ := L
  have hh : hisP V (sL S) (wdP S w) = hisP V (sL S) PA := (hisP_tests wdP_tests).trans (hisP_tests t).symm
  have wh : whoP V (sL S) (wdP S w) B = whoP V (sL S) PA B := (whoP_tests wdP_tests).trans (whoP_tests t).symm
  have h15 : hI h2 274 15 = msk (hisP V (sL S) PA) 6 := by rw [E2.i (nn 274 (by omega))]; exact qq2
  refine w_gL I2 s_62 l_62_8 ?_
  refine w_gL I2 s_62 l_62_3 ?_
  refine w_gS I2 s_274 ?_
  have Tm : Terms h2 66 (wdP S w) := fun p hp => ⟨187 + 6 * p, I2.lk (lk_amended p hp), amP p hp, T2 p hp, (oP p hp).2.2⟩
  refine w_bV I2 (m_16 (d := d + 1) (T := 66) (PA := wdP S w) (AL := sL S) (his := hisP V (sL S) PA) I2 s_66 (by decide) Tm (q2.laws ok).rels (fun k hk => by rw [h15, bt_msk (by decide) (by omega), decide_eq_true hk, Bool.true_and])) (by decide) rfl fun h3 I3 u => ?_
  obtain ⟨u1, u2, u3, u4, u5, u6, u7, u8⟩ := u
  have q3' : RC h3 S := q2.scr ok u1 fun a z => by unfold W3 at z; unfold WX WS; omega
  have n3 : ∀ a, a ≠ 274 → a ≠ 285 → a ≠ 286 → ¬ W3 a := fun a z1 z2 z3 z => by unfold W3 at z; omega
  refine Wp.retv ⟨q3', C2.tr (u1.wk fun a z => by unfold W3 at z; omega), ⟨fun l hl k hk => ?_, ?_, ?_, fun l hl => ?_, ?_, ?_, ?_, ⟨66, Or.inr rfl, u2, fun p hp => ⟨187 + 6 * p, I3.lk (lk_amended p hp), amP p hp, (T2 p hp).eo (u1.i (n3 _ (by omega) (by omega) (by omega))) (u1.i (n3 _ (by omega) (by omega) (by omega))), oP p hp⟩⟩, q3'.laws ok⟩⟩
  · rw [u1.i (n3 _ (by omega) (by omega) (by omega)), E2.i (nn _ (by omega))]; exact q1 l hl k hk
  · rw [u5 15 (by decide), h15, hh]
  · rw [u4, E2.j (nn 274 (by omega))]; exact q3
  · rw [u4, E2.j (nn 287 (by omega)), wh]; exact q4 l hl
  · rw [hh]; exact u6
  · rw [hh]; exact u7
  · rw [hh]; exact u8
end AM
