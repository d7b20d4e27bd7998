/-! MEND, of the model -/
section MD
variable {X : Ctx} {d : Nat} {Q : Option Value → Hp → Prop} {h : Hp} {S : AS}
theorem c145 {s : Nat} : ∀ (c k : Nat), k + c = 12 →
    sem (X, K X d) 145 4 [some (.int (Int32.ofNat s)), some (.int (Int32.ofNat (pcN s k))), some (.int (Int32.ofNat k))] [] h = some (some (.int (Int32.ofNat (pc s))), h)
  | 0, k, e => by
    have e : k = 12 := by omega
    subst e
    rw [b_145_4]
    exact if_pos (by decide)
  | c + 1, k, e => by
    have ih := c145 (s := s) c (k + 1) (by omega)
    rw [b_145_4, if_neg (show ¬ (12 : Int32) ≤ Int32.ofNat k from fun z => absurd ((i_le (m := 12) (by omega) (by omega)).mp z) (by omega)), shr_bt (by omega), i32_ofNat_succ]
    have st : Int32.ofNat (pcN s (k + 1)) = Int32.ofNat (pcN s k) + bi (bt (Int32.ofNat s) k) := by
      show Int32.ofNat (pcN s k + if tb s k then 1 else 0) = _
      rw [← i_add]
      congr 1
      show _ = bi (tb s k)
      cases tb s k <;> rfl
    rw [st] at ih
    exact ih
theorem m_145 {s : Nat} : K X (d + 1) 145 [.int (Int32.ofNat s)] h = some (some (.int (Int32.ofNat (pc s))), h) := by
  rw [k_145]
  exact c145 12 0 rfl
theorem c227_37 {w : Nat} {h0 : Hp} {v2 v3 : Option Value} (ok : okA S) (hon : honB S w = true) : ∀ (c m : Nat) (h : Hp), m + c = 2 ^ (sU S).length → Inv h → RM h S → Mo h0 h → (∀ s, s < m → cT (sU S) s (sU S).length = true → slyF (vY S 0) (sL S) (wdP S w) (sY S 0).2.2.2.2 (sU S) 0 ≤ slyF (vY S 0) (sL S) (wdP S w) (sY S 0).2.2.2.2 (sU S) s) →
    Wp (sem (X, K X (d + 8)) 227 37 [some (.ref 301), some (.int (Int32.ofNat w)), v2, v3, some (.long (Int64.ofInt (slyF (vY S 0) (sL S) (wdP S w) (sY S 0).2.2.2.2 (sU S) 0))), none, some (.int (Int32.ofNat m))] [] h) (VI fun v h' => v = bi (fitB S w) ∧ RM h' S ∧ Mo h0 h')
  | 0, m, h, e, I, q, M, b => by
    have u6 := u6 ok
    have p64 : 2 ^ (sU S).length ≤ 64 := Nat.pow_le_pow_right (n := 2) (by decide) u6
    rw [b_227_37]
    refine w_gI I s_301 ?_
    rw [q.2.2.2.2.2.2.1.1, one_shl _ u6]
    refine w_ift ((i_le (by omega) (by omega)).mpr (by omega)) (Wp.reti ⟨?_, q, M⟩)
    have : payB (vY S 0) (sL S) (wdP S w) (sY S 0).2.2.2.2 (sU S) = true := List.all_eq_true.mpr fun s hs => by
      cases c : cT (sU S) s (sU S).length
      · rfl
      · exact decide_eq_true (b s (by have := List.mem_range.mp hs; omega) c)
    unfold fitB
    rw [hon, this]; rfl
  | c + 1, m, h, e, I, q, M, b => by
    have u6 := u6 ok
    have p64 : 2 ^ (sU S).length ≤ 64 := Nat.pow_le_pow_right (n := 2) (by decide) u6
    rw [b_227_37]
    refine w_gI I s_301 ?_
    rw [q.2.2.2.2.2.2.1.1, one_shl _ u6]
    refine w_iff (fun z => absurd ((i_le (by omega) (by omega)).mp z) (by omega)) ?_
    refine w_gS I s_301 ?_
    refine w_eI (m_223 (d := d + 7) I q ok) ?_
    rw [i32_ofNat_succ]
    refine w_if (fun c0 => ?_) (fun c0 => ?_)
    · have ht : cT (sU S) m (sU S).length = false := bi_0.mp c0
      refine c227_37 ok hon c (m + 1) h (by omega) I q M fun s hs cs => ?_
      by_cases z : s = m
      · rw [z, ht] at cs; cases cs
      · exact b s (by omega) cs
    · have ht : cT (sU S) m (sU S).length = true := by cases z : cT (sU S) m (sU S).length; rw [z] at c0; exact absurd rfl c0; rfl
      refine w_gS I s_301 ?_
      refine w_bJ I (m_224 (d := d) (s := m) (w := w) I q ok) (by decide) rfl ?_
      rintro x h1 I1 ⟨rfl, q1, M1⟩
      have j1 : jr (slyF (vY S 0) (sL S) (wdP S w) (sY S 0).2.2.2.2 (sU S) m) := slyF_jr ok
      have j2 : jr (slyF (vY S 0) (sL S) (wdP S w) (sY S 0).2.2.2.2 (sU S) 0) := slyF_jr ok
      refine w_if (fun c1 => ?_) (fun c1 => ?_)
      · have a := (j_le j2 j1).mp ((lg_cmp_ge _ _).mp c1)
        refine c227_37 ok hon c (m + 1) h1 (by omega) I1 q1 (M.tr M1) fun s hs cs => ?_
        by_cases z : s = m
        · rw [z]; exact a
        · exact b s (by omega) cs
      · refine Wp.reti ⟨?_, q1, M.tr M1⟩
        have : payB (vY S 0) (sL S) (wdP S w) (sY S 0).2.2.2.2 (sU S) = false := by
          cases z : payB (vY S 0) (sL S) (wdP S w) (sY S 0).2.2.2.2 (sU S)
          · rfl
          · have a := List.all_eq_true.mp z m (List.mem_range.mpr (by omega))
            rw [ht] at a
            exact absurd ((lg_cmp_ge _ _).mpr ((j_le j2 j1).mpr (of_decide_eq_true a))) c1
        unfold fitB
        rw [hon, this]; rfl
theorem m_227 {w : Nat} (I : Inv h) (q : RM h S) (ok : okA S) :
    Wp (K X (d + 9) 227 [.ref 301, .int (Int32.ofNat w)] h) (VI fun v h' => v = bi (fitB S w) ∧ RM h' S ∧ Mo h h') := by
  have u6 := u6 ok
  have y1 : 1 < 2 := by decide
  have oR := ok.r y1
  rw [k_227]
  refine w_lays (d := d + 6) (y := 1) I q ok y1 fun h1 I1 q1 M1 p => ?_
  have L1 := p.laid q1 ok
  refine w_gS I1 s_301 ?_
  refine w_bJ I1 (g215 (d := d + 1) I1 oR L1) (by decide) rfl ?_
  rintro x h2 I2 ⟨rfl, M2⟩
  have R2 := M2.rm q1
  refine w_words (d := d + 7) (w := w) I2 R2.1 ok (L1.mv M2) fun h3 I3 q3 M3 L3 => ?_
  refine w_gS I3 s_301 ?_
  refine w_bJ I3 (g215 (d := d + 1) I3 oR L3) (by decide) rfl ?_
  rintro x h4 I4 ⟨rfl, M4⟩
  have R4 := M4.rm q3
  have M5 : Mo h h4 := ((M1.tr R2.2).tr M3).tr R4.2
  have j1 : jr (totG (vY S 1) (sL S) (sPc S) (sY S 1).2.2.2.2) := totG_jr oR ok.2.1
  have j2 : jr (totG (vY S 1) (sL S) (wdP S w) (sY S 1).2.2.2.2) := totG_jr oR ok.2.1
  refine w_if (fun c => ?_) (fun c => ?_)
  · have hon : honB S w = true := decide_eq_true ((j_le j2 j1).mp ((lg_cmp_le _ _).mp c))
    refine w_gS I4 s_301 ?_
    refine w_bJ I4 (m_224 (d := d) (s := 0) (w := w) I4 R4.1 ok) (by decide) rfl ?_
    rintro x h5 I5 ⟨rfl, q5, M6⟩
    exact c227_37 (d := d) (h0 := h) ok hon (2 ^ (sU S).length - 1) 1 h5 (by have := Nat.one_le_two_pow (n := (sU S).length); omega) I5 q5 (M5.tr M6) fun s hs _ => by
      have : s = 0 := by omega
      rw [this]; exact Int.le_refl _
  · have hon : honB S w = false := decide_eq_false fun z => c ((lg_cmp_le _ _).mpr ((j_le j2 j1).mpr z))
    refine Wp.reti ⟨?_, R4.1, M5⟩
    unfold fitB
    rw [hon]; rfl
theorem c228_4 {h0 : Hp} (ok : okA S) : ∀ (c s : Nat) (h : Hp), s + c = 2 ^ (sW S).length → Inv h → RM h S → Mo h0 h →
    Wp (sem (X, K X (d + 9)) 228 4 [some (.ref 301), some (.int (decI (mdM (fitB S) s))), some (.int (Int32.ofNat s))] [] h) (VI fun v h' => v = mendV S ∧ Mo h0 h' ∧ RM h' S)
  | 0, s, h, e, I, q, M => by
    have w6 := w6 ok
    have w64 := w64 ok
    have e : s = 2 ^ (sW S).length := by omega
    rw [b_228_4]
    refine w_gI I s_301 ?_
    rw [q.2.2.2.2.2.2.2.1.1, one_shl _ w6]
    refine w_ift ((i_le (by omega) (by omega)).mpr (by omega)) (Wp.reti ⟨?_, M, q⟩)
    unfold mendV
    rw [e]
  | c + 1, s, h, e, I, q, M => by
    have w6 := w6 ok
    have w64 := w64 ok
    have st : mdM (fitB S) (s + 1) = (match mdM (fitB S) s with | none => if fitB S s then some s else none | some b => if fitB S s = true ∧ pc s < pc b then some s else some b) := rfl
    rw [b_228_4]
    refine w_gI I s_301 ?_
    rw [q.2.2.2.2.2.2.2.1.1, one_shl _ w6]
    refine w_iff (fun z => absurd ((i_le (by omega) (by omega)).mp z) (by omega)) ?_
    rw [i32_ofNat_succ]
    have sp := mdM_spec (f := fitB S) s
    cases em : mdM (fitB S) s with
    | none =>
      rw [em] at st
      refine w_ift rfl ?_
      refine w_gS I s_301 ?_
      refine w_bI I (m_227 (d := d) (w := s) I q ok) (by decide) rfl ?_
      rintro x h1 I1 ⟨rfl, q1, M1⟩
      have ih := c228_4 (h0 := h0) ok c (s + 1) h1 (by omega) I1 q1 (M.tr M1)
      rw [st] at ih
      refine w_if (fun c0 => ?_) (fun c0 => ?_)
      · rw [bi_0.mp c0] at ih
        exact ih
      · have ht : fitB S s = true := by cases z : fitB S s; rw [z] at c0; exact absurd rfl c0; rfl
        rw [ht] at ih
        exact ih
    | some b =>
      rw [em] at st sp
      obtain ⟨b1, b2, b3⟩ := sp
      have pb := pc_le _ w6 b (by omega)
      have ps := pc_le _ w6 s (by omega)
      refine w_iff (i_nm1 (by omega)) ?_
      refine w_eI m_145 ?_
      refine w_eI m_145 ?_
      refine w_if (fun c0 => ?_) (fun c0 => ?_)
      · have : ¬ pc s < pc b := by have := (i_le (by omega) (by omega)).mp c0; omega
        have ih := c228_4 (h0 := h0) ok c (s + 1) h (by omega) I q M
        rw [st] at ih
        have e2 : (if fitB S s = true ∧ pc s < pc b then some s else some b) = some b := if_neg fun z => this z.2
        have ih : Wp (sem (X, K X (d + 9)) 228 4 [some (.ref 301), some (.int (decI (if fitB S s = true ∧ pc s < pc b then some s else some b))), some (.int (Int32.ofNat (s + 1)))] [] h) (VI fun v h' => v = mendV S ∧ Mo h0 h' ∧ RM h' S) := ih
        rw [e2] at ih
        exact ih
      · have lt : pc s < pc b := Nat.lt_of_not_le fun z => c0 ((i_le (by omega) (by omega)).mpr z)
        refine w_gS I s_301 ?_
        refine w_bI I (m_227 (d := d) (w := s) I q ok) (by decide) rfl ?_
        rintro x h1 I1 ⟨rfl, q1, M1⟩
        have ih := c228_4 (h0 := h0) ok c (s + 1) h1 (by omega) I1 q1 (M.tr M1)
        rw [st] at ih
        have ih : Wp (sem (X, K X (d + 9)) 228 4 [some (.ref 301), some (.int (decI (if fitB S s = true ∧ pc s < pc b then some s else some b))), some (.int (Int32.ofNat (s + 1)))] [] h1) (VI fun v h' => v = mendV S ∧ Mo h0 h' ∧ RM h' S) := ih
        refine w_if (fun c1 => ?_) (fun c1 => ?_)
        · have hf := bi_0.mp c1
          have e2 : (if fitB S s = true ∧ pc s < pc b then some s else some b) = some b := if_neg fun z => by rw [hf] at z; cases z.1
          rw [e2] at ih
          exact ih
        · have ht : fitB S s = true := by cases z : fitB S s; rw [z] at c1; exact absurd rfl c1; rfl
          have e2 : (if fitB S s = true ∧ pc s < pc b then some s else some b) = some s := if_pos ⟨ht, lt⟩
          rw [e2] at ih
          exact ih
theorem m_mend (I : Inv h) (q : RM h S) (ok : okA S) :
    Wp (K X (d + 10) 228 [.ref 301] h) (VI fun v h' => v = mendV S ∧ Mo h h' ∧ RM h' S) := by
  rw [k_228]
  exact c228_4 (d := d) (h0 := h) ok (2 ^ (sW S).length) 0 h (by omega) I q Eo.rf
end MD
