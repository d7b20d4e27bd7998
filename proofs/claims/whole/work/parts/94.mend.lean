/-! MEND, of the class (the second class: set by set) -/
section MC
variable {X : Ctx} {d : Nat} {Q : Option Value → Hp → Prop} {h : Hp} {S : AS} {V : Sv} {PA : Nat → APact}
theorem w6 (ok : okA S) : (sW S).length ≤ 6 := ok.2.2.2.2.2.2.1.1
theorem w64 (ok : okA S) : 2 ^ (sW S).length ≤ 64 := Nat.pow_le_pow_right (n := 2) (by decide) (w6 ok)
/-- closes, its loop -/
theorem c126_12 {h0 : Hp} {v1 : Option Value} (ok : okA S) : ∀ (c k : Nat) (h : Hp) (v3 v4 : Option Value), k + c = (sU S).length → Inv h → RC h S → Cl h0 h → LvC h V (sL S) PA (sumB (sY S 0).2.2.2.2 : Nat) → (∀ j, j < k → cst V (sL S) PA (sY S 0).2.2.2.2 (sU S) (uI (sU S) j) none ≤ cst V (sL S) PA (sY S 0).2.2.2.2 (sU S) (uI (sU S) j) (some j)) →
    Wp (sem (X, K X (d + 6)) 126 12 [some (.ref 62), v1, some (.int (Int32.ofNat k)), v3, v4] [] h) (VI fun v h' => v = bi (clsB V (sL S) PA (sY S 0).2.2.2.2 (sU S)) ∧ RC h' S ∧ Cl h0 h')
  | 0, k, h, v3, v4, e, I, q, C, L, b => by
    have u6 := u6 ok
    have e : k = (sU S).length := by omega
    obtain ⟨p1, p2, p3, -⟩ := q.1.2.2.2.2.2.1
    rw [b_126_12]
    refine w_gL I s_62 l_62_4 ?_
    refine w_gI I s_67 ?_
    rw [p3, e]
    refine w_ift (Int32.le_refl _) (Wp.reti ⟨?_, q, C⟩)
    have : clsB V (sL S) PA (sY S 0).2.2.2.2 (sU S) = true := List.all_eq_true.mpr fun j hj => decide_eq_true (b j (by rw [e]; exact List.mem_range.mp hj))
    rw [this]; rfl
  | c + 1, k, h, v3, v4, e, I, q, C, L, b => by
    have u6 := u6 ok
    have hk : k < (sU S).length := by omega
    have u := uOk ok hk
    have y0 : 0 < 2 := by decide
    have ys := year_s y0
    have oR := ok.r y0
    have n12 : (sY S 0).2.2.2.2.length ≤ 12 := (ok.1 0 y0).2.1
    have i12 : uI (sU S) k < 12 := by omega
    have hB := baseG oR u.1
    obtain ⟨p1, p2, p3, -⟩ := q.1.2.2.2.2.2.1
    have t := turn_c q ok hk
    rw [b_126_12]
    refine w_gL I s_62 l_62_4 ?_
    refine w_gI I s_67 ?_
    rw [p3]
    refine w_iff (fun z => absurd ((i_le (by omega) (by omega)).mp z) (by omega)) ?_
    refine w_gL I s_62 l_62_8 ?_
    refine w_gL I s_62 l_62_0 ?_
    refine w_aLn (m := 0) I s_63 (by decide) (by decide) y0 (by decide) (lk_years 0 y0) ?_
    refine w_gL I ys.1 ys.2.2.2.2.2.2.2.1 ?_
    refine w_gL I s_62 l_62_4 ?_
    refine w_gL I s_67 l_67_2 ?_
    refine w_aIn I s_70 (by omega) (by decide) ?_
    rw [t.1, i32_ofNat_succ]
    refine w_aLn I ys.2.2.2.2.1 (by decide) (by decide) i12 (by decide) (lk_sums 0 y0 _ i12) ?_
    refine w_gS I s_274 ?_
    have hT : cSum h (107 + 17 * 0 + uI (sU S) k) ((sY S 0).2.2.2.2.getD (uI (sU S) k) noS) := by
      have := (q.1.1 0 y0).2.2.2.2.at u.1
      rw [(getD_mem u.1).2] at this
      exact this
    refine w_bJ I (m_stl (d := d) I q ok (sum_s y0 i12) (by omega) L hT (oR.2 _ (getD_mem u.1).1) (by omega)) (by decide) rfl ?_
    rintro x h1 I1 ⟨rfl, q1, C1, L1, -⟩
    have p0 : Int64.ofInt (hV V (sL S) PA (sumB (sY S 0).2.2.2.2 : Nat) ((sY S 0).2.2.2.2.getD (uI (sU S) k) noS)) = Int64.ofInt (cst V (sL S) PA (sY S 0).2.2.2.2 (sU S) (uI (sU S) k) none) := by
      congr 1
      show _ = hV V (sL S) PA (sumB (sY S 0).2.2.2.2 : Nat) ((sY S 0).2.2.2.2.getD (uI (sU S) k) noS) + 0
      omega
    rw [p0]
    refine m_turned (d := d) (f := fun v h4 => if 0 ≤ (lg_cmp v (Int64.ofInt (cst V (sL S) PA (sY S 0).2.2.2.2 (sU S) (uI (sU S) k) none))) then sem (X, K X (d + 6)) 126 12 [some (.ref 62), v1, some (.int (Int32.ofNat (k + 1))), some (.long (Int64.ofInt (cst V (sL S) PA (sY S 0).2.2.2.2 (sU S) (uI (sU S) k) none))), none] [] h4 else some (some (.int 0), h4)) I1 q1 ok hk L1 fun h2 I2 q2 C2 L2 => ?_
    have j1 : jr (cst V (sL S) PA (sY S 0).2.2.2.2 (sU S) (uI (sU S) k) none) := cst_jr oR ok.2.1 u.1 fun k z => by cases z
    have j2 : jr (cst V (sL S) PA (sY S 0).2.2.2.2 (sU S) (uI (sU S) k) (some k)) := cst_jr oR ok.2.1 u.1 fun j z => by injection z with z; subst z; exact ⟨u.2.1, u.2.2.1⟩
    refine w_if (fun c0 => ?_) (fun c0 => ?_)
    · have := (j_le j1 j2).mp ((lg_cmp_ge _ _).mp c0)
      refine c126_12 ok c (k + 1) h2 _ _ (by omega) I2 q2 ((C.tr C1).tr C2) L2 fun j hj => ?_
      by_cases z : j = k
      · rw [z]; exact this
      · exact b j (by omega)
    · refine Wp.reti ⟨?_, q2, (C.tr C1).tr C2⟩
      have : clsB V (sL S) PA (sY S 0).2.2.2.2 (sU S) = false := by
        cases z : clsB V (sL S) PA (sY S 0).2.2.2.2 (sU S)
        · rfl
        · have a := of_decide_eq_true (List.all_eq_true.mp z k (List.mem_range.mpr hk))
          exact absurd ((lg_cmp_ge _ _).mpr ((j_le j1 j2).mpr a)) c0
      rw [this]; rfl
def clW (S : AS) (w : Nat) : Bool := clsB (vY S 0) (sL S) (wdP S w) (sY S 0).2.2.2.2 (sU S)
/-- closes -/
theorem m_126 {w : Nat} (I : Inv h) (q : RC h S) (ok : okA S) (hw : w < 64) :
    Wp (K X (d + 8) 126 [.ref 62, .int (Int32.ofNat w)] h) (VI fun v h' => v = bi (clW S w) ∧ RC h' S ∧ Cl h h') := by
  rw [k_126]
  refine w_hear (d := d + 1) (y := 0) I q ok (by decide) fun h1 I1 q1 C1 p => ?_
  have L1 := p.lv q1 ok
  refine w_gS I1 s_62 ?_
  refine w_bV I1 (m_129 (d := d + 2) (w := w) I1 q1 ok hw (fun _ => rfl) L1) (by decide) rfl fun h2 I2 r => ?_
  obtain ⟨q2, C2, L2⟩ := r
  exact c126_12 (d := d + 1) ok (sU S).length 0 h2 none none (by omega) I2 q2 (C1.tr C2) L2 fun j hj => absurd hj (Nat.not_lt_zero _)
/-- owesUnder -/
theorem m_128 {w : Nat} (I : Inv h) (q : RC h S) (ok : okA S) (hw : w < 64) :
    Wp (K X (d + 8) 128 [.ref 62, .int (Int32.ofNat w)] h) (VJ fun v h' => v = Int64.ofInt (totG (vY S 1) (sL S) (wdP S w) (sY S 1).2.2.2.2) ∧ RC h' S ∧ Cl h h') := by
  have y1 : 1 < 2 := by decide
  rw [k_128]
  refine w_hear (d := d + 1) (y := 1) I q ok y1 fun h3 I3 q3 C3 p => ?_
  have L3 := p.lv q3 ok
  refine w_gS I3 s_62 ?_
  refine w_bV I3 (m_129 (d := d + 2) (w := w) I3 q3 ok hw (fun _ => rfl) L3) (by decide) rfl fun h1 I1 r => ?_
  obtain ⟨q1, C1, L1⟩ := r
  refine w_gL I1 s_62 l_62_8 ?_
  refine w_gL I1 s_62 l_62_0 ?_
  refine w_aLn (m := 1) I1 s_63 (by decide) (by decide) y1 (by decide) (lk_years 1 y1) ?_
  refine w_gS I1 s_274 ?_
  refine w_bJ I1 (g20 (d := d) (y := 1) I1 y1 (ok.r y1) ok.2.1 L1 (q1.1.1 1 y1).2.2.2.1 (q1.1.1 1 y1).2.2.2.2 q1.2) (by decide) rfl ?_
  rintro x h2 I2 ⟨rfl, e1, e2⟩
  have R := q1.lv ok e1 e2
  exact Wp.retj ⟨rfl, R.1, (C3.tr C1).tr R.2⟩
theorem m_234 : ∀ {s : Nat}, s < 64 → K X (d + 1) 234 [.int (Int32.ofNat s)] h = some (some (.int (Int32.ofNat (pc s))), h) := by
  intro s hs
  rw [k_234]
  refine congrArg (fun x => some (some (Value.int x), h)) ?_
  revert s
  decide +kernel
theorem c125_35 {h0 : Hp} {m : Nat} (ok : okA S) (hm : m ≤ (sW S).length)
    (kk : ∀ h' v4, Inv h' → RC h' S → Cl h0 h' → (∀ s, s < 2 ^ (sW S).length → fitB S s = true → m < pc s ∨ (pc s = m ∧ 2 ^ (sW S).length ≤ s)) →
      Wp (sem (X, K X (d + 8)) 125 21 [some (.ref 62), some (.long (Int64.ofInt (totG (vY S 1) (sL S) (sPc S) (sY S 1).2.2.2.2))), none, some (.int (Int32.ofNat (m + 1))), v4] [] h') Q)
    (kf : ∀ h' s, s < 2 ^ (sW S).length → RC h' S → Cl h0 h' → mdM (fitB S) (2 ^ (sW S).length) = some s → Q (some (.int (Int32.ofNat s))) h') : ∀ (c s : Nat) (h : Hp), s + c = 2 ^ (sW S).length → Inv h → RC h S → Cl h0 h → (∀ j, j < 2 ^ (sW S).length → fitB S j = true → m < pc j ∨ (pc j = m ∧ s ≤ j)) →
    Wp (sem (X, K X (d + 8)) 125 35 [some (.ref 62), some (.long (Int64.ofInt (totG (vY S 1) (sL S) (sPc S) (sY S 1).2.2.2.2))), none, some (.int (Int32.ofNat m)), some (.int (Int32.ofNat s))] [] h) Q
  | 0, s, h, e, I, q, C, b => by
    have w6 := w6 ok
    have w64 := w64 ok
    have e : s = 2 ^ (sW S).length := by omega
    obtain ⟨p1, p2, p3, p4, p5, p6⟩ := q.1.2.2.2.2.2.1
    rw [b_125_35]
    refine w_gL I s_62 l_62_4 ?_
    refine w_gI I s_67 ?_
    rw [p5, one_shl _ w6, i32_ofNat_succ]
    refine w_ift ((i_le (by omega) (by omega)).mpr (by omega)) ?_
    rw [← e] at kk
    rw [← e] at b
    exact kk h _ I q C b
  | c + 1, s, h, e, I, q, C, b => by
    have w6 := w6 ok
    have w64 := w64 ok
    have hs : s < 2 ^ (sW S).length := by omega
    obtain ⟨p1, p2, p3, p4, p5, p6⟩ := q.1.2.2.2.2.2.1
    have pl := pc_le _ w6 s hs
    have fe : fitB S s = (honB S s && clW S s) := by
      unfold fitB
      rw [pay_cls (u6 ok) fun k hk => (uOk ok hk).1]; rfl
    have next : fitB S s = false ∨ pc s ≠ m → ∀ h', Inv h' → RC h' S → Cl h0 h' → Wp (sem (X, K X (d + 8)) 125 35 [some (.ref 62), some (.long (Int64.ofInt (totG (vY S 1) (sL S) (sPc S) (sY S 1).2.2.2.2))), none, some (.int (Int32.ofNat m)), some (.int (Int32.ofNat (s + 1)))] [] h') Q := fun no h' I' q' C' => by
      refine c125_35 ok hm kk kf c (s + 1) h' (by omega) I' q' C' fun j hj fj => ?_
      have := b j hj fj
      by_cases z : j = s
      · subst z
        rcases no with n | n
        · rw [n] at fj; cases fj
        · omega
      · omega
    rw [b_125_35]
    refine w_gL I s_62 l_62_4 ?_
    refine w_gI I s_67 ?_
    rw [p5, one_shl _ w6, i32_ofNat_succ, i32_ofNat_succ]
    refine w_iff (fun z => absurd ((i_le (by omega) (by omega)).mp z) (by omega)) ?_
    refine w_eI (m_234 (by omega)) ?_
    refine w_if (fun c0 => next (Or.inr fun z => c0 (by rw [z])) h I q C) (fun c0 => ?_)
    have em : pc s = m := (i_eq (by omega) (by omega)).mp (Classical.byContradiction c0)
    refine w_gS I s_62 ?_
    refine w_bI I (m_126 (d := d) (w := s) I q ok (by omega)) (by decide) rfl ?_
    rintro x h2 I2 ⟨rfl, q2, C2⟩
    refine w_if (fun c1 => next (Or.inl (by rw [fe, bi_0.mp c1, Bool.and_false])) h2 I2 q2 (C.tr C2)) (fun c1 => ?_)
    have hc : clW S s = true := by cases z : clW S s; rw [z] at c1; exact absurd rfl c1; rfl
    refine w_gS I2 s_62 ?_
    refine w_bJ I2 (m_128 (d := d) (w := s) I2 q2 ok (by omega)) (by decide) rfl ?_
    rintro x h1 I1 ⟨rfl, q1, C1⟩
    have oR := ok.r (y := 1) (by decide)
    have j1 : jr (totG (vY S 1) (sL S) (sPc S) (sY S 1).2.2.2.2) := totG_jr oR ok.2.1
    have j2 : jr (totG (vY S 1) (sL S) (wdP S s) (sY S 1).2.2.2.2) := totG_jr oR ok.2.1
    refine w_if (fun c2 => ?_) (fun c2 => ?_)
    · have a := (j_lt j1 j2).mp ((lg_cmp_gt _ _).mp c2)
      have : honB S s = false := decide_eq_false (by omega)
      exact next (Or.inl (by rw [fe, this, Bool.false_and])) h1 I1 q1 ((C.tr C2).tr C1)
    · have a : honB S s = true := decide_eq_true (Int.not_lt.mp fun z => c2 ((lg_cmp_gt _ _).mpr ((j_lt j1 j2).mpr z)))
      refine Wp.ret (kf h1 s hs q1 ((C.tr C2).tr C1) (mdM_found hs (by rw [fe, a, hc]; rfl) fun j hj fj => ?_))
      have := b j hj fj
      omega
theorem c125_21 {h0 : Hp} (ok : okA S) : ∀ (c m : Nat) (h : Hp) (v4 : Option Value), m + c = (sW S).length + 1 → Inv h → RC h S → Cl h0 h → (∀ j, j < 2 ^ (sW S).length → fitB S j = true → m ≤ pc j) →
    Wp (sem (X, K X (d + 8)) 125 21 [some (.ref 62), some (.long (Int64.ofInt (totG (vY S 1) (sL S) (sPc S) (sY S 1).2.2.2.2))), none, some (.int (Int32.ofNat m)), v4] [] h) (VI fun v h' => v = mendV S ∧ Cl h0 h' ∧ RC h' S)
  | 0, m, h, v4, e, I, q, C, b => by
    have w6 := w6 ok
    have e : m = (sW S).length + 1 := by omega
    obtain ⟨p1, p2, p3, p4, p5, p6⟩ := q.1.2.2.2.2.2.1
    rw [b_125_21]
    refine w_gL I s_62 l_62_4 ?_
    refine w_gI I s_67 ?_
    rw [p5]
    refine w_ift ((i_lt (by omega) (by omega)).mpr (by omega)) (Wp.reti ⟨?_, C, q⟩)
    unfold mendV
    rw [mdM_none fun j hj => ?_]
    · rfl
    · cases z : fitB S j
      · rfl
      · have a := b j hj z
        have := pc_le _ w6 j hj
        omega
  | c + 1, m, h, v4, e, I, q, C, b => by
    have w6 := w6 ok
    obtain ⟨p1, p2, p3, p4, p5, p6⟩ := q.1.2.2.2.2.2.1
    rw [b_125_21]
    refine w_gL I s_62 l_62_4 ?_
    refine w_gI I s_67 ?_
    rw [p5]
    refine w_iff (fun z => absurd ((i_lt (by omega) (by omega)).mp z) (by omega)) ?_
    refine c125_35 (d := d) (h0 := h0) (m := m) ok (by omega) (fun h' v4 I' q' C' b' => ?_) (fun h' s hs q' C' em => ?_) (2 ^ (sW S).length) 0 h (by omega) I q C fun j hj fj => ?_
    · refine c125_21 ok c (m + 1) h' v4 (by omega) I' q' C' fun j hj fj => ?_
      have := b' j hj fj
      omega
    · refine ⟨_, rfl, ?_, C', q'⟩
      unfold mendV
      rw [em]; rfl
    · have := b j hj fj
      omega
theorem c_mend (I : Inv h) (q : RC h S) (ok : okA S) :
    Wp (K X (d + 9) 125 [.ref 62] h) (VI fun v h' => v = mendV S ∧ Cl h h' ∧ RC h' S) := by
  have y1 : 1 < 2 := by decide
  rw [k_125]
  refine w_hear (d := d + 2) (y := 1) I q ok y1 fun h2 I2 q2 C2 p => ?_
  have L2 := p.lv q2 ok
  refine w_gL I2 s_62 l_62_8 ?_
  refine w_gL I2 s_62 l_62_0 ?_
  refine w_aLn (m := 1) I2 s_63 (by decide) (by decide) y1 (by decide) (lk_years 1 y1) ?_
  refine w_gS I2 s_274 ?_
  refine w_bJ I2 (m_20 (d := d + 1) I2 q2 ok y1 L2) (by decide) rfl ?_
  rintro x h3 I3 ⟨rfl, q3, C3, L3⟩
  exact c125_21 (d := d) (h0 := h) ok ((sW S).length + 1) 0 h3 none (by omega) I3 q3 (C2.tr C3) fun j _ _ => Nat.zero_le _
end MC
