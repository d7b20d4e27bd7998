/-! TEXT: the class reads conditions: clauses, and, or, brackets -/
def flu (P : List Nat) : List Int32 := P.map fun w => if w = 23 then -16 else -17
theorem flJ_stop {b : Bool} {W : List Nat} (h3 : W.headD 102 ≠ 23) (h2 : b = true → W.headD 102 ≠ 22) : flJ b W = ([], W) := by
  cases W with
  | nil => rfl
  | cons w r =>
    have h3 : w ≠ 23 := h3
    show (if w = 23 then _ else if w = 22 ∧ b = true then _ else ([], w :: r)) = _
    rw [if_neg h3, if_neg fun z => h2 z.2 z.1]
theorem flJ_23 {b : Bool} {W : List Nat} : flJ b (23 :: W) = (-16 :: (flJ b W).1, (flJ b W).2) := rfl
theorem flJ_22 {W : List Nat} : flJ true (22 :: W) = (-17 :: (flJ true W).1, (flJ true W).2) := rfl
theorem CSt.fe {T : Nat → Nat} {L n Lw e o : Nat} {h0 h h' : Hp} {k k' : Nat} {cs cs' : List Int32} {W : List Nat} (q : CSt T L n Lw e h0 h k cs W o) (F : CFe Lw h h') (b : CB T L n h' k') (c : CL Lw h' cs') (hb : cs'.length + (W.length + e) ≤ k') : CSt T L n Lw e h0 h' k' cs' W o := by
  obtain ⟨q1, q2, q3, q4, q5, q6, q7⟩ := q
  have rg := q2.2.1.rg
  exact ⟨b, c, q3.tr F.c, q4.to (F.1.i (show ¬ (87 = 82 ∨ 87 = Lw ∨ 87 = Lw + 1) by omega)) (F.2.1 9 (by decide) (by decide) (by decide)) (F.2.1 10 (by decide) (by decide) (by decide)), by omega, q6, q7⟩
/-- what it is to read p from the loop of conditions on -/
def RdC (X : Ctx) (T : Nat → Nat) (L n Lw d o : Nat) (p : Nat → PRes) (hyp Ps : List Nat → Prop) (stop : Nat → Prop) : Prop := ∀ (k i e : Nat) (cs : List Int32) (W : List Nat) (h h0 : Hp) (v2 : Option Value) (Q : Option Value → Hp → Prop), Inv h → hyp W → i ≤ k → CSt T L n Lw e h0 h k cs W o →
  ((p k).1 = 0 → ∀ (i' x : Nat) (c7 : Int32) (h' : Hp) (P : List Nat) (cs' : List Int32), i' ≤ (p k).2.1 → x + o ≤ 8 → Ps P → cs' ++ flu P = cs ++ opsC (p k).2.2 → stop (tC T L (p k).2.1) → Inv h' → CSt T L n Lw e h0 h' (p k).2.1 cs' (P ++ W) o → PtA X (d + 2) i' c7 x h' Q) →
  ((p k).1 ≠ 0 → ∀ h', CFc Lw h0 h' → BadC T L (p k) 0 h' → Q (some (.int 0)) h') →
  Wp (sem (X, K X (d + 3)) 53 12 [some (.ref 82), some (.int (Int32.ofNat i)), v2] [] h) Q
section CD
variable {X : Ctx} {d : Nat} {Q : Option Value → Hp → Prop} {T : Nat → Nat} {L n Lw e o : Nat} {h0 h : Hp}
theorem w_close {i k : Nat} {c7 : Int32} (I : Inv h) (kk : PtA X (d + 2) i c7 0 h Q) : Wp (gd (hS h 82 = (6, 0)) (bV (K X (d + 3) 56 [.ref 82] h) fun h10 => F53 X (d + 3) (Int32.ofNat i) c7 h10)) Q := by
  refine w_gS I s_82 ?_
  refine w_bV I (P := fun g => Wp (F53 X (d + 3) (Int32.ofNat i) c7 g) Q) ?_ (by decide) rfl fun h1 I1 p => p
  rw [k_56]
  exact kk
/-- fault at a token, in the loop of conditions -/
theorem w_bad53 {k w : Nat} {r : PRes} {cs : List Int32} {W : List Nat} (I : Inv h) (q : CSt T L n Lw e h0 h k cs W o) (hw : w = 1 ∨ w = 3) (hr : r = (w, k, [])) (kk : ∀ h', CFc Lw h0 h' → BadC T L r 0 h' → Q (some (.int 0)) h') : Wp (gd (hS h 82 = (6, 0)) (bI (K X (d + 1) 69 [.ref 82, .int (Int32.ofNat w)] h) fun r2 h2 => gd (okN .boolean r2) (some (some (.int r2), h2)))) Q := by
  have hL := q.2.1.2.1
  refine w_gS I s_82 ?_
  refine w_bI I (m_69 (w := w) (d := d) I q.1) (by decide) rfl ?_
  rintro x h2 I2 ⟨rfl, rfl⟩
  refine w_gd (by decide) (Wp.ret (kk _ ((q.2.2.1.s82 hL (Or.inr (Or.inr (Or.inr (Or.inl rfl))))).s82 hL (Or.inr (Or.inr (Or.inr (Or.inr rfl))))) ⟨rfl, ?_, ?_⟩))
  · rw [hI_sI_self, up1, if_neg (by decide), hI_sI_self, up1, if_pos rfl, hr]
  · rw [hI_sI_self, up1, if_pos rfl, hr]
theorem q_60 : ∀ s : Nat, 60 ≤ s → s ≤ 62 → K X (d + 1) 59 [.int (Int32.ofNat s)] h = some (some (.int (cod (s - 47))), h) := fun s h1 h2 => by
  have : s = 60 ∨ s = 61 ∨ s = 62 := by omega
  rcases this with z | z | z <;> subst z <;> rw [k_59] <;> rfl
theorem q_60n {s : Nat} (hs : s < 103) (h : ¬ (60 ≤ s ∧ s ≤ 62)) {g : Hp} : K X (d + 1) 59 [.int (Int32.ofNat s)] g = some (some (.int 0), g) := by
  rw [k_59]
  rw [if_pos (fun z => h (by have := (c_is (m := 60) hs (by decide)).mp z; omega)), if_pos (fun z => h (by have := (c_is (m := 61) hs (by decide)).mp z; omega)), if_pos (fun z => h (by have := (c_is (m := 62) hs (by decide)).mp z; omega))]
/-- a comparison -/
theorem rd_cmp {hyp : List Nat → Prop} (ho : o ≤ 8) : ∀ (k i e : Nat) (cs : List Int32) (W : List Nat) (h h0 : Hp) (v2 : Option Value) (Q : Option Value → Hp → Prop), Inv h → i ≤ k → tC T L k ≠ 24 → tC T L k ≠ 40 → CSt T L n Lw e h0 h k cs W o →
  ((pCmp (tC T L) (tV T L) L k).1 = 0 → ∀ (c7 : Int32) (h' : Hp), i ≤ (pCmp (tC T L) (tV T L) L k).2.1 → Inv h' → CSt T L n Lw e h0 h' (pCmp (tC T L) (tV T L) L k).2.1 (cs ++ opsC (pCmp (tC T L) (tV T L) L k).2.2) W o → PtA X (d + 2) i c7 0 h' Q) →
  ((pCmp (tC T L) (tV T L) L k).1 ≠ 0 → ∀ h', CFc Lw h0 h' → BadC T L (pCmp (tC T L) (tV T L) L k) 0 h' → Q (some (.int 0)) h') →
  Wp (sem (X, K X (d + 3)) 53 12 [some (.ref 82), some (.int (Int32.ofNat i)), v2] [] h) Q := by
  intro k i e cs W h h0 v2 Q I hi n24 n40 q ok no
  have b := q.1.k
  have vk := vI (T := T) (L := L) k
  have q' := q
  obtain ⟨q1, q2, q3, q4, q5, q6, q7⟩ := q'
  have hL := q2.2.1
  rw [b_53_12]
  refine w_gI I s_82 ?_
  rw [q1.2.1]
  refine w_iff (fun z => absurd ((i_lt (by omega) (by omega)).mp z) (by omega)) ?_
  refine w_sign (d := d + 2) I q1 ?_
  refine w_iff (fun z => n40 ((c_is (m := 40) vk (by decide)).mp z)) ?_
  refine w_sign (d := d + 2) I q1 ?_
  refine w_ift (fun z => n24 ((c_is (m := 24) vk (by decide)).mp z)) ?_
  refine w_gS I s_82 ?_
  refine w_bI I (m_60 (d := d) (e := W.length + e) (h0 := h) I q1 q2 CFe.rf (by omega)) (by decide) rfl fun x h1 I1 s => ?_
  obtain ⟨s1, s2, s3⟩ := s
  have gs := gd_sum (c := tC T L) (v := tV T L) (N := L) (fun k => tV_le) q1.2.2.2.2.1
  by_cases z : (pSum (tC T L) (tV T L) L k).1 = 0
  · obtain ⟨rfl, u1, u2, u3⟩ := s2 z
    have g1 := (gs z).1
    have pc : pCmp (tC T L) (tV T L) L k = if 60 ≤ tC T L (pSum (tC T L) (tV T L) L k).2.1 ∧ tC T L (pSum (tC T L) (tV T L) L k).2.1 ≤ 62 then bindR (pSum (tC T L) (tV T L) L ((pSum (tC T L) (tV T L) L k).2.1 + 1)) fun k2 o2 => (0, k2, (pSum (tC T L) (tV T L) L k).2.2 ++ o2 ++ [(tC T L (pSum (tC T L) (tV T L) L k).2.1 - 47, 0)]) else (1, (pSum (tC T L) (tV T L) L k).2.1, []) := by unfold pCmp; rw [bindR_ok z]
    rw [pc] at ok no
    generalize (pSum (tC T L) (tV T L) L k).2.1 = k1 at *
    generalize (pSum (tC T L) (tV T L) L k).2.2 = o1 at *
    refine w_ift (by decide) ?_
    have vk1 := vI (T := T) (L := L) k1
    refine w_sign (d := d + 2) I1 u1 ?_
    have t1 : CSt T L n Lw e h0 h1 k1 (cs ++ opsC o1) W o := q.fe s1 u1 u2 (by omega)
    by_cases z1 : 60 ≤ tC T L k1 ∧ tC T L k1 ≤ 62
    · rw [if_pos z1] at ok no
      refine w_eI (q_60 (d := d + 2) _ z1.1 z1.2) ?_
      have cn : cod (tC T L k1 - 47) ≠ 0 := by
        have : tC T L k1 = 60 ∨ tC T L k1 = 61 ∨ tC T L k1 = 62 := by omega
        rcases this with y | y | y <;> rw [y] <;> decide
      refine w_ift cn ?_
      refine w_at I1 u1 (by omega) fun I2 u1' => ?_
      have b1 := u1.k.2.2.2 (by omega)
      have F2 : CFe Lw h1 (sI h1 82 8 (Int32.ofNat (k1 + 1))) := CFe.rf.s82 hL (Or.inl rfl)
      refine w_gS I2 s_82 ?_
      refine w_bI I2 (m_60 (d := d) (e := W.length + e + 1) (h0 := h1) I2 u1' u2.s82 F2 (by omega)) (by decide) rfl fun x h3 I3 s => ?_
      obtain ⟨r1, r2, r3⟩ := s
      have gs2 := gd_sum (c := tC T L) (v := tV T L) (N := L) (fun k => tV_le) u1'.2.2.2.2.1
      by_cases y : (pSum (tC T L) (tV T L) L (k1 + 1)).1 = 0
      · obtain ⟨rfl, w1, w2, w3⟩ := r2 y
        have g2 := (gs2 y).1
        rw [bindR_ok y] at ok no
        generalize (pSum (tC T L) (tV T L) L (k1 + 1)).2.1 = k2 at *
        generalize (pSum (tC T L) (tV T L) L (k1 + 1)).2.2 = o2 at *
        refine w_ift (by decide) ?_
        refine w_gR I3 s_82 w2.1 ?_
        have b2 := w1.k
        refine w_emit (d := d + 2) (h0 := h1) I3 w1 w2 r1 (by omega) fun h4 I4 p1 p2 p3 => ?_
        have eC : cs ++ opsC (o1 ++ o2 ++ [(tC T L k1 - 47, 0)]) = cs ++ opsC o1 ++ opsC o2 ++ [cod (tC T L k1 - 47)] := by
          rw [opsC_app, opsC_app, ← List.append_assoc, ← List.append_assoc]
          show _ ++ (opC (tC T L k1 - 47, 0) ++ []) = _
          unfold opC
          rw [if_neg (by show ¬ tC T L k1 - 47 = 0; omega), if_neg (by show ¬ tC T L k1 - 47 = 12; omega)]; rfl
        refine w_close (k := k2) I4 (ok rfl _ h4 (by show i ≤ k2; omega) I4 ?_)
        show CSt T L n Lw e h0 h4 k2 (cs ++ opsC (o1 ++ o2 ++ [(tC T L k1 - 47, 0)])) W o
        rw [eC]
        exact t1.fe p3 p1 p2 (by rw [List.length_append]; show (cs ++ opsC o1 ++ opsC o2).length + 1 + (W.length + e) ≤ k2; omega)
      · obtain ⟨rfl, w1, w2⟩ := r3 y
        rw [bindR_no y] at ok no
        exact w_iff (by decide) (Wp.ret (no y h3 (q3.tr (s1.tr r1).c) ⟨rfl, w1, w2⟩))
    · rw [if_neg z1] at ok no
      refine w_eI (q_60n (d := d + 2) vk1 z1) ?_
      refine w_iff (by decide) ?_
      exact w_bad53 (w := 1) (d := d + 2) I1 t1 (Or.inl rfl) rfl (no (Nat.succ_ne_zero _))
  · obtain ⟨rfl, u1, u2⟩ := s3 z
    have pc : pCmp (tC T L) (tV T L) L k = ((pSum (tC T L) (tV T L) L k).1, (pSum (tC T L) (tV T L) L k).2.1, []) := by unfold pCmp; rw [bindR_no z]
    rw [pc] at no
    exact w_iff (by decide) (Wp.ret (no z h1 (q3.tr s1.c) ⟨rfl, u1, u2⟩))
/-- not, or a bracket opens -/
theorem w_open {k i : Nat} {cs : List Int32} {W : List Nat} {v2 : Option Value} (I : Inv h) (q : CSt T L n Lw e h0 h k cs W o) (hi : i ≤ k) (hc : tC T L k = 24 ∨ tC T L k = 40) (hW : W.length ≤ 3 * o + 2) (ho : o ≤ 8)
    (ok : o < 8 → ∀ h', Inv h' → CSt T L n Lw e h0 h' (k + 1) cs (tC T L k :: W) (o + 1) → Wp (sem (X, K X (d + 3)) 53 12 [some (.ref 82), some (.int (Int32.ofNat (i + 1))), v2] [] h') Q)
    (no : o = 8 → ∀ h', CFc Lw h0 h' → BadC T L (3, k, []) 0 h' → Q (some (.int 0)) h') : Wp (sem (X, K X (d + 3)) 53 12 [some (.ref 82), some (.int (Int32.ofNat i)), v2] [] h) Q := by
  have b := q.1.k
  have vk := vI (T := T) (L := L) k
  have body : Wp (sem (X, K X (d + 3)) 53 38 [some (.ref 82), some (.int (Int32.ofNat i)), v2] [] h) Q := by
    have q' := q
    obtain ⟨q1, q2, q3, q4, q5, q6, q7⟩ := q'
    have hL := q2.2.1
    have rg := hL.rg
    rw [b_53_38]
    refine w_gI I s_82 ?_
    rw [q4.2.1]
    by_cases z : o < 8
    · refine w_ift ((i_lt (m := o) (n := 8) (by omega) (by omega)).mpr z) ?_
      refine w_gI I s_82 ?_
      rw [q4.2.1, i32_ofNat_succ]
      refine w_fI I s_82 fun I1 => ?_
      have o82 : ∀ a, a ≠ 82 → hI (sI h 82 10 (Int32.ofNat (o + 1))) a = hI h a := fun a ha => sI_other ha
      have f82 : ∀ j, j ≠ 10 → hI (sI h 82 10 (Int32.ofNat (o + 1))) 82 j = hI h 82 j := fun j hj => by rw [hI_sI_self, up1, if_neg hj]
      have t1 : CSt T L n Lw e h0 (sI h 82 10 (Int32.ofNat (o + 1))) k cs W (o + 1) := ⟨q1.to (o82 _ (by decide)) (o82 _ (by decide)) (o82 _ (by decide)) (fun j hj => f82 j (by omega)), q2.s82, q3.s82 hL (Or.inr (Or.inr (Or.inl rfl))), ⟨by rw [f82 9 (by decide)]; exact q4.1, by rw [hI_sI_self, up1, if_pos rfl], fun j hj => by rw [o82 87 (by decide)]; exact q4.2.2 j hj⟩, q5, q6, q7⟩
      refine w_sign (d := d + 2) I1 t1.1 ?_
      refine w_await (d := d + 2) I1 t1 (by omega) (by omega) fun h2 I2 t2 => ?_
      rw [i32_ofNat_succ]
      exact ok z h2 I2 t2
    · have z : o = 8 := by omega
      refine w_iff (fun y => absurd ((i_lt (m := o) (n := 8) (by omega) (by omega)).mp y) (by omega)) ?_
      exact w_bad53 (w := 3) (d := d + 2) I q (Or.inr rfl) rfl (no z)
  rw [b_53_12]
  refine w_gI I s_82 ?_
  rw [q.1.2.1]
  refine w_iff (fun z => absurd ((i_lt (by omega) (by omega)).mp z) (by omega)) ?_
  refine w_sign (d := d + 2) I q.1 ?_
  rcases hc with z | z
  · refine w_iff (fun y => absurd ((c_is (m := 40) vk (by decide)).mp y) (by omega)) ?_
    refine w_sign (d := d + 2) I q.1 ?_
    refine w_iff (fun y => y (by rw [z]; rfl)) ?_
    exact body
  · refine w_ift (by rw [z]; rfl) ?_
    exact body
def Y1 (o : Nat) (W : List Nat) : Prop := W.length ≤ 3 * o + 2
def Y2 (o : Nat) (W : List Nat) : Prop := W.headD 102 ≠ 23 ∧ W.headD 102 ≠ 24 ∧ W.length ≤ 3 * o + 1
def Y3 (o : Nat) (W : List Nat) : Prop := W.headD 102 ≠ 22 ∧ W.headD 102 ≠ 23 ∧ W.headD 102 ≠ 24 ∧ W.length ≤ 3 * o
def Pp1 (P : List Nat) : Prop := P = []
def Pp2 (P : List Nat) : Prop := P = [] ∨ P = [23]
def Pp3 (P : List Nat) : Prop := P = [] ∨ P = [23] ∨ P = [22] ∨ P = [23, 22]
abbrev RdC1 (X : Ctx) (T : Nat → Nat) (L n Lw d o : Nat) (p : Nat → PRes) : Prop := RdC X T L n Lw d o p (Y1 o) Pp1 (fun _ => True)
abbrev RdC2 (X : Ctx) (T : Nat → Nat) (L n Lw d o : Nat) (p : Nat → PRes) : Prop := RdC X T L n Lw d o p (Y2 o) Pp2 (fun c => c ≠ 23)
abbrev RdC3 (X : Ctx) (T : Nat → Nat) (L n Lw d o : Nat) (p : Nat → PRes) : Prop := RdC X T L n Lw d o p (Y3 o) Pp3 (fun c => c ≠ 22 ∧ c ≠ 23)
theorem flu_app (P R : List Nat) : flu (P ++ R) = flu P ++ flu R := List.map_append ..
theorem Pp2.fl {P W : List Nat} (p : Pp2 P) (h3 : W.headD 102 ≠ 23) : flJ false (P ++ W) = (flu P, W) := by
  have z := flJ_stop (b := false) h3 (fun z => Bool.noConfusion z)
  rcases p with e | e <;> subst e
  · exact z
  · show flJ false (23 :: W) = _
    rw [flJ_23, z]; rfl
theorem Pp3.fl {P W : List Nat} (p : Pp3 P) (h2 : W.headD 102 ≠ 22) (h3 : W.headD 102 ≠ 23) : flJ true (P ++ W) = (flu P, W) := by
  have z := flJ_stop (b := true) h3 (fun _ => h2)
  rcases p with e | e | e | e <;> subst e
  · exact z
  · show flJ true (23 :: W) = _
    rw [flJ_23, z]; rfl
  · show flJ true (22 :: W) = _
    rw [flJ_22, z]; rfl
  · show flJ true (23 :: 22 :: W) = _
    rw [flJ_23, flJ_22, z]; rfl
theorem Pp3.hd {P W : List Nat} (p : Pp3 P) (h : W.headD 102 ≠ 24) : (P ++ W).headD 102 ≠ 24 := by
  rcases p with e | e | e | e <;> subst e
  · exact h
  · show (23 : Nat) ≠ 24; decide
  · show (22 : Nat) ≠ 24; decide
  · show (23 : Nat) ≠ 24; decide
theorem Pp2.p3 {P : List Nat} (p : Pp2 P) : Pp3 P := p.elim Or.inl fun z => Or.inr (Or.inl z)
/-- and, and .. -/
theorem rd_evl {p : Nat → PRes} (ho : o ≤ 8) (hp : RdC1 X T L n Lw d o p) (gp : ∀ k, NE (tC T L) k → (p k).1 = 0 → k < (p k).2.1) {W : List Nat} (hW : Y2 o W) {cs : List Int32} : ∀ (f k i x : Nat) (c7 : Int32) (a : List Op) (cs' : List Int32) (P : List Nat) (h : Hp), L - k ≤ f → i ≤ k → x + o ≤ 8 → Inv h → Pp2 P → cs' ++ flu P = cs ++ opsC a → CSt T L n Lw e h0 h k cs' (P ++ W) o →
    ((pLL (tC T L) p 23 17 f k a).1 = 0 → ∀ (i' x : Nat) (c7 : Int32) (h' : Hp) (P : List Nat) (cs' : List Int32), i' ≤ (pLL (tC T L) p 23 17 f k a).2.1 → x + o ≤ 8 → Pp2 P → cs' ++ flu P = cs ++ opsC (pLL (tC T L) p 23 17 f k a).2.2 → tC T L (pLL (tC T L) p 23 17 f k a).2.1 ≠ 23 → Inv h' → CSt T L n Lw e h0 h' (pLL (tC T L) p 23 17 f k a).2.1 cs' (P ++ W) o → PtA X (d + 2) i' c7 x h' Q) →
    ((pLL (tC T L) p 23 17 f k a).1 ≠ 0 → ∀ h', CFc Lw h0 h' → BadC T L (pLL (tC T L) p 23 17 f k a) 0 h' → Q (some (.int 0)) h') →
    PtA X (d + 2) i c7 x h Q
  | 0, k, i, x, c7, a, cs', P, h, hf, hi, hx, I, hP, eC, q, ok, no => by
    have z : tC T L k = 101 := Classical.byContradiction fun z => by have := tC_lt z; omega
    exact ok rfl i x c7 h P cs' hi hx hP eC (by show tC T L k ≠ 23; omega) I q
  | f + 1, k, i, x, c7, a, cs', P, h, hf, hi, hx, I, hP, eC, q, ok, no => by
    have st : pLL (tC T L) p 23 17 (f + 1) k a = if tC T L k = 23 then bindR (p (k + 1)) fun k' o => pLL (tC T L) p 23 17 f k' (a ++ o ++ [(17, 0)]) else (0, k, a) := rfl
    rw [st] at ok no
    by_cases e1 : tC T L k = 23
    · rw [if_pos e1] at ok no
      have fl := hP.fl hW.1
      have b := q.1.k
      have ne := q.1.2.2.2.2.1.s (show tC T L k ≠ 101 by omega)
      have kl := tC_lt (T := T) (L := L) (k := k) (by omega)
      refine PtA.ret I q (by omega) (hP.p3.hd hW.2.1) (by omega) ?_
      refine F53.and I q e1 (by rw [fl]; have := hW.2.2; show W.length < 26; omega) fun h1 I1 q1 => ?_
      rw [fl, eC] at q1
      refine hp (k + 1) (i + 1) e (cs ++ opsC a) (23 :: W) h1 h0 _ Q I1 (by have := hW.2.2; show W.length + 1 ≤ 3 * o + 2; omega) (by omega) q1 (fun z i' x' c' h' P' cs2 a1 a2 a3 a4 a5 a6 a7 => ?_) (fun z => ?_)
      · rw [bindR_ok z] at ok no
        have a3 : P' = [] := a3
        subst a3
        have adv := gp _ ne z
        rw [show flu [] = [] from rfl, List.append_nil] at a4
        refine rd_evl ho hp gp hW f _ i' x' c' (a ++ (p (k + 1)).2.2 ++ [(17, 0)]) cs2 [23] h' (by omega) a1 a2 a6 (Or.inr rfl) ?_ a7 ok no
        rw [a4, opsC_app, opsC_app, ← List.append_assoc, ← List.append_assoc]; rfl
      · rw [bindR_no z] at no
        exact no z
    · rw [if_neg e1] at ok no
      exact ok rfl i x c7 h P cs' hi hx hP eC e1 I q
theorem rd_ev {p : Nat → PRes} (ho : o ≤ 8) (hp : RdC1 X T L n Lw d o p) (gp : ∀ k, NE (tC T L) k → (p k).1 = 0 → k < (p k).2.1) : RdC2 X T L n Lw d o (pEv (tC T L) L p) := by
  intro k i e cs W h h0 v2 Q I hW hi q ok no
  have st : pEv (tC T L) L p k = bindR (p k) fun k' o => pLL (tC T L) p 23 17 L k' o := rfl
  rw [st] at ok no
  refine hp k i e cs W h h0 v2 Q I (by have := hW.2.2; show W.length ≤ 3 * o + 2; omega) hi q (fun z i' x' c' h' P' cs2 a1 a2 a3 a4 a5 a6 a7 => ?_) (fun z => ?_)
  · rw [bindR_ok z] at ok no
    exact rd_evl ho hp gp hW L _ i' x' c' (p k).2.2 cs2 P' h' (by omega) a1 a2 a6 (Or.inl a3) a4 a7 ok no
  · rw [bindR_no z] at no
    exact no z
theorem rd_anl {p : Nat → PRes} (ho : o ≤ 8) (hp : RdC2 X T L n Lw d o p) (gp : ∀ k, NE (tC T L) k → (p k).1 = 0 → k < (p k).2.1) {W : List Nat} (hW : Y3 o W) {cs : List Int32} : ∀ (f k i x : Nat) (c7 : Int32) (a : List Op) (cs' : List Int32) (P : List Nat) (h : Hp), L - k ≤ f → i ≤ k → x + o ≤ 8 → Inv h → Pp3 P → cs' ++ flu P = cs ++ opsC a → tC T L k ≠ 23 → CSt T L n Lw e h0 h k cs' (P ++ W) o →
    ((pLL (tC T L) p 22 18 f k a).1 = 0 → ∀ (i' x : Nat) (c7 : Int32) (h' : Hp) (P : List Nat) (cs' : List Int32), i' ≤ (pLL (tC T L) p 22 18 f k a).2.1 → x + o ≤ 8 → Pp3 P → cs' ++ flu P = cs ++ opsC (pLL (tC T L) p 22 18 f k a).2.2 → (tC T L (pLL (tC T L) p 22 18 f k a).2.1 ≠ 22 ∧ tC T L (pLL (tC T L) p 22 18 f k a).2.1 ≠ 23) → Inv h' → CSt T L n Lw e h0 h' (pLL (tC T L) p 22 18 f k a).2.1 cs' (P ++ W) o → PtA X (d + 2) i' c7 x h' Q) →
    ((pLL (tC T L) p 22 18 f k a).1 ≠ 0 → ∀ h', CFc Lw h0 h' → BadC T L (pLL (tC T L) p 22 18 f k a) 0 h' → Q (some (.int 0)) h') →
    PtA X (d + 2) i c7 x h Q
  | 0, k, i, x, c7, a, cs', P, h, hf, hi, hx, I, hP, eC, n23, q, ok, no => by
    have z : tC T L k = 101 := Classical.byContradiction fun z => by have := tC_lt z; omega
    exact ok rfl i x c7 h P cs' hi hx hP eC ⟨by show tC T L k ≠ 22; omega, n23⟩ I q
  | f + 1, k, i, x, c7, a, cs', P, h, hf, hi, hx, I, hP, eC, n23, q, ok, no => by
    have st : pLL (tC T L) p 22 18 (f + 1) k a = if tC T L k = 22 then bindR (p (k + 1)) fun k' o => pLL (tC T L) p 22 18 f k' (a ++ o ++ [(18, 0)]) else (0, k, a) := rfl
    rw [st] at ok no
    by_cases e1 : tC T L k = 22
    · rw [if_pos e1] at ok no
      have fl := hP.fl hW.1 hW.2.1
      have b := q.1.k
      have ne := q.1.2.2.2.2.1.s (show tC T L k ≠ 101 by omega)
      have kl := tC_lt (T := T) (L := L) (k := k) (by omega)
      refine PtA.ret I q (by omega) (hP.hd hW.2.2.1) (by omega) ?_
      refine F53.or I q e1 (by rw [fl]; have := hW.2.2.2; show W.length < 26; omega) fun h1 I1 q1 => ?_
      rw [fl, eC] at q1
      refine hp (k + 1) (i + 1) e (cs ++ opsC a) (22 :: W) h1 h0 _ Q I1 ⟨by show (22 : Nat) ≠ 23; decide, by show (22 : Nat) ≠ 24; decide, by have := hW.2.2.2; show W.length + 1 ≤ 3 * o + 1; omega⟩ (by omega) q1 (fun z i' x' c' h' P' cs2 a1 a2 a3 a4 a5 a6 a7 => ?_) (fun z => ?_)
      · rw [bindR_ok z] at ok no
        have adv := gp _ ne z
        refine rd_anl ho hp gp hW f _ i' x' c' (a ++ (p (k + 1)).2.2 ++ [(18, 0)]) cs2 (P' ++ [22]) h' (by omega) a1 a2 a6 ?_ ?_ a5 ?_ ok no
        · rcases a3 with y | y <;> rw [y]
          · exact Or.inr (Or.inr (Or.inl rfl))
          · exact Or.inr (Or.inr (Or.inr rfl))
        · rw [flu_app, ← List.append_assoc, a4, opsC_app, opsC_app, ← List.append_assoc, ← List.append_assoc]; rfl
        · rw [List.append_assoc]; exact a7
      · rw [bindR_no z] at no
        exact no z
    · rw [if_neg e1] at ok no
      exact ok rfl i x c7 h P cs' hi hx hP eC ⟨e1, n23⟩ I q
theorem rd_an {p : Nat → PRes} {B : Nat} (ho : o ≤ 8) (hp : RdC1 X T L n Lw d o p) (gp : ∀ k, NE (tC T L) k → Gd (tC T L) B k (p k)) : RdC3 X T L n Lw d o (pAn (tC T L) L p) := by
  intro k i e cs W h h0 v2 Q I hW hi q ok no
  have st : pAn (tC T L) L p k = bindR (pEv (tC T L) L p k) fun k' o => pLL (tC T L) (pEv (tC T L) L p) 22 18 L k' o := rfl
  rw [st] at ok no
  have h2 := rd_ev ho hp fun k n z => (gp k n z).1
  refine h2 k i e cs W h h0 v2 Q I ⟨hW.2.1, hW.2.2.1, by have := hW.2.2.2; omega⟩ hi q (fun z i' x' c' h' P' cs2 a1 a2 a3 a4 a5 a6 a7 => ?_) (fun z => ?_)
  · rw [bindR_ok z] at ok no
    exact rd_anl ho h2 (fun k n z => (gd_ev (N := L) gp n z).1) hW L _ i' x' c' (pEv (tC T L) L p k).2.2 cs2 P' h' (by omega) a1 a2 a6 a3.p3 a4 a5 a7 ok no
  · rw [bindR_no z] at no
    exact no z
theorem rd_one : ∀ (r o : Nat), o + r = 8 → RdC1 X T L n Lw d o (pOne (tC T L) (tV T L) L r)
  | 0, o, er => by
    intro k i e cs W h h0 v2 Q I hW hi q ok no
    have p0 : pOne (tC T L) (tV T L) L 0 k = if tC T L k = 24 ∨ tC T L k = 40 then (3, k, []) else pCmp (tC T L) (tV T L) L k := rfl
    rw [p0] at ok no
    by_cases z : tC T L k = 24 ∨ tC T L k = 40
    · rw [if_pos z] at ok no
      exact w_open I q hi z hW (by omega) (fun y => absurd y (by omega)) (fun _ => no (Nat.succ_ne_zero _))
    · rw [if_neg z] at ok no
      refine rd_cmp (hyp := fun _ => True) (by omega) k i e cs W h h0 v2 Q I hi (fun y => z (Or.inl y)) (fun y => z (Or.inr y)) q (fun y c7 h' a1 a2 a3 => ?_) no
      exact ok y i 0 c7 h' [] _ a1 (by omega) rfl (List.append_nil _) trivial a2 a3
  | r + 1, o, er => by
    intro k i e cs W h h0 v2 Q I hW hi q ok no
    have hW' : W.length ≤ 3 * o + 2 := hW
    have ih : RdC1 X T L n Lw d (o + 1) (pOne (tC T L) (tV T L) L r) := rd_one r (o + 1) (by omega)
    have p0 : pOne (tC T L) (tV T L) L (r + 1) k = if tC T L k = 24 then bindR (pOne (tC T L) (tV T L) L r (k + 1)) fun k' o => (0, k', o ++ [(16, 0)]) else if tC T L k = 40 then bindR (pAn (tC T L) L (pOne (tC T L) (tV T L) L r) (k + 1)) fun k' o => if tC T L k' = 41 then (0, k' + 1, o) else (1, k', []) else pCmp (tC T L) (tV T L) L k := rfl
    rw [p0] at ok no
    by_cases z : tC T L k = 24
    · rw [if_pos z] at ok no
      refine w_open I q hi (Or.inl z) hW (by omega) (fun y h1 I1 q1 => ?_) (fun y => absurd y (by omega))
      rw [z] at q1
      refine ih (k + 1) (i + 1) e cs (24 :: W) h1 h0 _ Q I1 (by show W.length + 1 ≤ 3 * (o + 1) + 2; omega) (by omega) q1 (fun y i' x' c' h' P' cs2 a1 a2 a3 a4 a5 a6 a7 => ?_) (fun y => ?_)
      · rw [bindR_ok y] at ok no
        have a3 : P' = [] := a3
        subst a3
        rw [show flu [] = [] from rfl, List.append_nil] at a4
        refine PtA.not a6 a7 (by omega) (by omega) fun h2 I2 q2 => ?_
        refine ok rfl i' (x' + 1) c' h2 [] _ a1 (by omega) rfl (List.append_nil _) trivial I2 ?_
        show CSt T L n Lw e h0 h2 _ (cs ++ opsC ((pOne (tC T L) (tV T L) L r (k + 1)).2.2 ++ [(16, 0)])) W o
        rw [opsC_app, ← List.append_assoc, ← a4]; exact q2
      · rw [bindR_no y] at no
        exact no y
    · rw [if_neg z] at ok no
      by_cases z2 : tC T L k = 40
      · rw [if_pos z2] at ok no
        have h3 := rd_an (d := d) (o := o + 1) (B := 3 + 2 * r) (by omega) ih fun k n => gd_one (v := tV T L) (fun k => tV_le) r k n
        have g3 := fun ne => gd_an (N := L) (B := 3 + 2 * r) (fun k n => gd_one (c := tC T L) (v := tV T L) (N := L) (fun k => tV_le) r k n) (k := k + 1) ne
        refine w_open I q hi (Or.inr z2) hW (by omega) (fun y h1 I1 q1 => ?_) (fun y => absurd y (by omega))
        rw [z2] at q1
        refine h3 (k + 1) (i + 1) e cs (40 :: W) h1 h0 _ Q I1 ⟨by show (40 : Nat) ≠ 22; decide, by show (40 : Nat) ≠ 23; decide, by show (40 : Nat) ≠ 24; decide, by show W.length + 1 ≤ 3 * (o + 1); omega⟩ (by omega) q1 (fun y i' x' c' h' P' cs2 a1 a2 a3 a4 a5 a6 a7 => ?_) (fun y => ?_)
        · rw [bindR_ok y] at ok no
          have adv := (g3 (q.1.2.2.2.2.1.s (show tC T L k ≠ 101 by omega)) y).1
          generalize (pAn (tC T L) L (pOne (tC T L) (tV T L) L r) (k + 1)).2.1 = k1 at *
          generalize (pAn (tC T L) L (pOne (tC T L) (tV T L) L r) (k + 1)).2.2 = o1 at *
          have fl := Pp3.fl (W := 40 :: W) a3 (by show (40 : Nat) ≠ 22; decide) (by show (40 : Nat) ≠ 23; decide)
          have hd := Pp3.hd (W := 40 :: W) a3 (by show (40 : Nat) ≠ 24; decide)
          by_cases z3 : tC T L k1 = 41
          · rw [if_pos z3] at ok no
            refine PtA.shut a6 a7 (by omega) (by omega) hd z3 (by rw [fl]) fun h2 I2 q2 => ?_
            rw [fl, a4] at q2
            exact ok rfl i' (x' + 1) c' h2 [] _ (by show i' ≤ k1 + 1; omega) (by omega) rfl (List.append_nil _) trivial I2 q2
          · rw [if_neg z3] at ok no
            refine PtA.ret a6 a7 (by omega) hd z3 ?_
            exact F53.end a6 a7 a5.2 a5.1 (fun y => absurd y (by rw [fl]; exact List.cons_ne_nil _ _)) (fun _ => no (Nat.succ_ne_zero _))
        · rw [bindR_no y] at no
          exact no y
      · rw [if_neg z2] at ok no
        refine rd_cmp (hyp := fun _ => True) (by omega) k i e cs W h h0 v2 Q I hi z z2 q (fun y c7 h' a1 a2 a3 => ?_) no
        exact ok y i 0 c7 h' [] _ a1 (by omega) rfl (List.append_nil _) trivial a2 a3
/-- condition -/
def SimD (T : Nat → Nat) (L n Lw e : Nat) (h0 : Hp) (cs0 : List Int32) (r : PRes) (v : Int32) (h : Hp) : Prop := CFc Lw h0 h ∧ (r.1 = 0 → v = 1 ∧ CB T L n h r.2.1 ∧ CL Lw h (cs0 ++ opsC r.2.2) ∧ (cs0 ++ opsC r.2.2).length + e ≤ r.2.1) ∧ (r.1 ≠ 0 → BadC T L r v h)
theorem SimD.val {h0 h' : Hp} {cs0 : List Int32} {r : PRes} {v : Int32} (s : SimD T L n Lw e h0 cs0 r v h') : okN .boolean v := by
  by_cases z : r.1 = 0
  · rw [(s.2.1 z).1]; decide
  · rw [(s.2.2 z).1]; decide
theorem c_53 {k : Nat} {cs : List Int32} (I : Inv h) (q : CB T L n h k) (c : CL Lw h cs) (F : CFc Lw h0 h) (hb : cs.length + e ≤ k) : Wp (K X (d + 4) 53 [.ref 82] h) (VI fun v h' => SimD T L n Lw e h0 cs (pAny (tC T L) (tV T L) L k) v h') := by
  have hL := c.2.1
  have rg := hL.rg
  rw [k_53]
  refine w_fI I s_82 fun I1 => ?_
  refine w_fI I1 s_82 fun I2 => ?_
  have f82 : ∀ j, j ≠ 9 → j ≠ 10 → hI (sI (sI h 82 9 0) 82 10 0) 82 j = hI h 82 j := fun j h1 h2 => by rw [hI_sI_self, up1, if_neg h2, hI_sI_self, up1, if_neg h1]
  have o82 : ∀ a, a ≠ 82 → hI (sI (sI h 82 9 0) 82 10 0) a = hI h a := fun a ha => by rw [sI_other ha, sI_other ha]
  have t1 : CSt T L n Lw e h0 (sI (sI h 82 9 0) 82 10 0) k cs [] 0 := ⟨q.to (o82 _ (by decide)) (o82 _ (by decide)) (o82 _ (by decide)) (fun j hj => f82 j (by omega) (by omega)), c.s82.s82, (F.s82 hL (Or.inr (Or.inl rfl))).s82 hL (Or.inr (Or.inr (Or.inl rfl))), ⟨by rw [hI_sI_self, up1, if_neg (by decide), hI_sI_self, up1, if_pos rfl]; rfl, by rw [hI_sI_self, up1, if_pos rfl]; rfl, fun j hj => absurd hj (Nat.not_lt_zero j)⟩, by show cs.length + 0 + e ≤ k; omega, Nat.zero_le _, fun w hw => absurd hw (List.not_mem_nil)⟩
  have h3 := rd_an (X := X) (T := T) (L := L) (n := n) (Lw := Lw) (d := d) (o := 0) (B := 3 + 2 * 8) (by decide) (rd_one 8 0 rfl) fun k n => gd_one (v := tV T L) (fun k => tV_le) 8 k n
  have nb : (pAny (tC T L) (tV T L) L k).1 ≠ 0 → ∀ h', CFc Lw h0 h' → BadC T L (pAny (tC T L) (tV T L) L k) 0 h' → (VI fun v h' => SimD T L n Lw e h0 cs (pAny (tC T L) (tV T L) L k) v h') (some (.int 0)) h' := fun z h' F' b => ⟨0, rfl, F', fun y => absurd y z, fun _ => b⟩
  refine h3 k 0 e cs [] _ h0 none _ I2 ⟨by decide, by decide, by decide, Nat.zero_le _⟩ (Nat.zero_le _) t1 (fun y i' x' c' h' P' cs2 a1 a2 a3 a4 a5 a6 a7 => ?_) nb
  have fl := Pp3.fl (W := []) a3 (by decide) (by decide)
  have hd := Pp3.hd (W := []) a3 (by decide)
  rw [List.append_nil] at fl hd a7
  have fin : ∀ h', CSt T L n Lw e h0 h' (pAny (tC T L) (tV T L) L k).2.1 (cs ++ opsC (pAny (tC T L) (tV T L) L k).2.2) [] 0 → (VI fun v h' => SimD T L n Lw e h0 cs (pAny (tC T L) (tV T L) L k) v h') (some (.int 1)) h' := fun h' q' => ⟨1, rfl, q'.2.2.1, fun _ => ⟨rfl, q'.1, q'.2.1, by have := q'.2.2.2.2.1; exact this⟩, fun z => absurd y z⟩
  by_cases z : tC T L (pAny (tC T L) (tV T L) L k).2.1 = 41
  · refine PtA.top a6 a7 (by omega) hd z (by rw [fl]) fun h2 I2 q2 => ?_
    rw [fl, a4] at q2
    refine F53.end I2 q2 (by omega) (by omega) (fun _ h5 I5 q5 => ?_) (fun y => absurd rfl y)
    rw [show flJ true [] = ([], []) from rfl, List.append_nil] at q5
    exact fin h5 q5
  · refine PtA.ret a6 a7 (by omega) hd z ?_
    refine F53.end a6 a7 a5.2 a5.1 (fun _ h5 I5 q5 => ?_) (fun y => absurd (by rw [fl]) y)
    rw [fl, a4] at q5
    exact fin h5 q5
end CD
