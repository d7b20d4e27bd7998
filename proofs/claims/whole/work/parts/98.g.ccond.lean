/-! TEXT: the class reads conditions; what waits stands in a pile -/
def CFc (Lw : Nat) (h0 h : Hp) : Prop := Eo (fun a => a = 82 ∨ a = 87 ∨ a = Lw ∨ a = Lw + 1) h0 h ∧ (∀ k, k ≠ 8 → k ≠ 9 → k ≠ 10 → k ≠ 11 → k ≠ 12 → hI h 82 k = hI h0 82 k) ∧ (∀ k, k ≠ 7 → hI h Lw k = hI h0 Lw k) ∧ hP h 82 = hP h0 82
theorem CFc.rf {Lw : Nat} {h : Hp} : CFc Lw h h := ⟨Eo.rf, fun _ _ _ _ _ _ => rfl, fun _ _ => rfl, rfl⟩
theorem CFc.tr {Lw : Nat} {h h' h'' : Hp} (a : CFc Lw h h') (b : CFc Lw h' h'') : CFc Lw h h'' := ⟨a.1.tr b.1, fun k h1 h2 h3 h4 h5 => (b.2.1 k h1 h2 h3 h4 h5).trans (a.2.1 k h1 h2 h3 h4 h5), fun k hk => (b.2.2.1 k hk).trans (a.2.2.1 k hk), b.2.2.2.trans a.2.2.2⟩
theorem CFe.c {Lw : Nat} {h h' : Hp} (a : CFe Lw h h') : CFc Lw h h' := ⟨a.1.wk fun x z => by omega, fun k h1 _ _ h4 h5 => a.2.1 k h1 h4 h5, a.2.2.1, a.2.2.2⟩
theorem CFc.s82 {Lw : Nat} {h h' : Hp} {k : Nat} {v : Int32} (a : CFc Lw h h') (hL : IsLaw Lw) (hk : k = 8 ∨ k = 9 ∨ k = 10 ∨ k = 11 ∨ k = 12) : CFc Lw h (sI h' 82 k v) := by
  have := hL.rg
  exact ⟨a.1.kI (Or.inl rfl), fun j h1 h2 h3 h4 h5 => by rw [hI_sI_self, up1, if_neg (by omega)]; exact a.2.1 j h1 h2 h3 h4 h5, fun j hj => by rw [sI_other (by omega)]; exact a.2.2.1 j hj, a.2.2.2⟩
def CW (h : Hp) (W : List Nat) (o : Nat) : Prop := hI h 82 9 = Int32.ofNat W.length ∧ hI h 82 10 = Int32.ofNat o ∧ stk h 87 (W.map Int32.ofNat)
def CSt (T : Nat → Nat) (L n Lw e : Nat) (h0 h : Hp) (k : Nat) (cs : List Int32) (W : List Nat) (o : Nat) : Prop := CB T L n h k ∧ CL Lw h cs ∧ CFc Lw h0 h ∧ CW h W o ∧ cs.length + W.length + e ≤ k ∧ W.length ≤ 26 ∧ ∀ w, w ∈ W → w < 50
noncomputable def F53 (X : Ctx) (D : Nat) (i c7 : Int32) (h10 : Hp) : Option (Option Value × Hp) := gd (hS h10 82 = (6, 0)) (bI (K X D 68 [.ref 82] h10) fun r11 h11 => if r11 = 23 then sem (X, K X D) 53 147 [some (.ref 82), some (.int i), some (.int c7)] [] h11 else gd (hS h11 82 = (6, 0)) (bI (K X D 68 [.ref 82] h11) fun r12 h12 => if r12 = 22 then sem (X, K X D) 53 147 [some (.ref 82), some (.int i), some (.int c7)] [] h12 else gd (hS h12 82 = (6, 0)) (bI (K X D 58 [.ref 82] h12) fun r13 h13 => gd (okN .boolean r13) (some (some (.int r13), h13)))))
/-- in the midst of closing clauses -/
def PtA (X : Ctx) (D i : Nat) (c7 : Int32) (x : Nat) (h : Hp) (Q : Option Value → Hp → Prop) : Prop := Wp (sem (X, K X D) 56 2 [some (.ref 82), some (.int (Int32.ofNat x))] [] h) (VV fun g => Wp (F53 X (D + 1) (Int32.ofNat i) c7 g) Q)
/-- joins that come out of the pile -/
def flJ (b : Bool) : List Nat → List Int32 × List Nat
  | [] => ([], [])
  | w :: r => if w = 23 then (-16 :: (flJ b r).1, (flJ b r).2) else if w = 22 ∧ b = true then (-17 :: (flJ b r).1, (flJ b r).2) else ([], w :: r)
theorem flJ_len {b : Bool} : ∀ W : List Nat, (flJ b W).1.length + (flJ b W).2.length = W.length
  | [] => rfl
  | w :: r => by
    have := flJ_len (b := b) r
    unfold flJ
    split
    · show (flJ b r).1.length + 1 + (flJ b r).2.length = r.length + 1; omega
    · split
      · show (flJ b r).1.length + 1 + (flJ b r).2.length = r.length + 1; omega
      · show 0 + (r.length + 1) = r.length + 1; omega
theorem flJ_mem {b : Bool} : ∀ {W : List Nat} {w : Nat}, w ∈ (flJ b W).2 → w ∈ W
  | [], _, h => h
  | v :: r, w, h => by
    unfold flJ at h
    split at h
    · exact List.mem_cons_of_mem _ (flJ_mem h)
    · split at h
      · exact List.mem_cons_of_mem _ (flJ_mem h)
      · exact h
section CC
variable {X : Ctx} {d : Nat} {Q : Option Value → Hp → Prop} {T : Nat → Nat} {L n Lw e o : Nat} {h0 h : Hp}
theorem CW.to {h' : Hp} {W : List Nat} (q : CW h W o) (e1 : hI h' 87 = hI h 87) (e2 : hI h' 82 9 = hI h 82 9) (e3 : hI h' 82 10 = hI h 82 10) : CW h' W o := ⟨by rw [e2]; exact q.1, by rw [e3]; exact q.2.1, fun j hj => by rw [e1]; exact q.2.2 j hj⟩
/-- top -/
theorem m_55 {k : Nat} {cs : List Int32} {W : List Nat} (I : Inv h) (q : CSt T L n Lw e h0 h k cs W o) : K X (d + 1) 55 [.ref 82] h = some (some (.int (Int32.ofNat (W.headD 102))), h) := by
  obtain ⟨q1, q2, q3, ⟨w1, w2, w3⟩, q5, q6, q7⟩ := q
  refine Wp.eqI ?_
  rw [k_55]
  refine w_gI I s_82 ?_
  rw [w1]
  cases W with
  | nil => exact w_ift (by decide) (Wp.reti ⟨rfl, rfl⟩)
  | cons w r =>
    have hl : (w :: r).length = r.length + 1 := rfl
    have r26 : r.length + 1 ≤ 26 := q6
    rw [hl]
    refine w_iff (fun z => absurd ((i_le (n := 0) (by omega) (by omega)).mp z) (by omega)) ?_
    refine w_gI I s_82 ?_
    rw [w1, hl]
    refine w_iff (fun z => absurd ((i_lt (m := 64) (by omega) (by omega)).mp z) (by omega)) ?_
    refine w_gL I s_82 l_82_4 ?_
    refine w_gI I s_82 ?_
    rw [w1, hl]
    have e1 : Int32.ofNat (r.length + 1) - 1 = Int32.ofNat r.length := i_sub (m := r.length + 1) (n := 1) (by omega)
    rw [e1]
    refine w_aIn I s_87 (by omega) (by decide) ?_
    have := stk_top w3
    rw [List.length_map] at this
    exact Wp.reti ⟨this, rfl⟩
theorem w_top {k : Nat} {cs : List Int32} {W : List Nat} {f : Int32 → Hp → Option (Option Value × Hp)} (I : Inv h) (q : CSt T L n Lw e h0 h k cs W o) (kk : Wp (f (Int32.ofNat (W.headD 102)) h) Q) : Wp (gd (hS h 82 = (6, 0)) (bI (K X (d + 1) 55 [.ref 82] h) f)) Q := w_gS I s_82 (w_eI (m_55 I q) kk)
theorem hd_lt {W : List Nat} (h : ∀ w, w ∈ W → w < 50) : W.headD 102 < 103 := by
  cases W with
  | nil => show 102 < 103; decide
  | cons w r => have := h w (by simp); show w < 103; omega
/-- a code comes out of the pile -/
theorem w_out {k : Nat} {cs : List Int32} {w : Nat} {W : List Nat} {x : Int32} {f : Hp → Option (Option Value × Hp)} (I : Inv h) (q : CSt T L n Lw e h0 h k cs (w :: W) o)
    (kk : ∀ h', Inv h' → CSt T L n Lw e h0 h' k (cs ++ [x]) W o → Wp (f h') Q) : Wp (gR h 5 82 5 fun g3 => gd (hS h g3 = (2, 0)) (bV (K X (d + 1) 3 [.ref g3, .int x] h) fun h3 => gI h3 5 82 9 fun g4 => fI h3 5 82 9 (g4 - 1) f)) Q := by
  obtain ⟨q1, q2, q3, ⟨w1, w2, w3⟩, q5, q6, q7⟩ := q
  have hL := q2.2.1
  have rg := hL.rg
  have b := q1.k
  have hl : (w :: W).length = W.length + 1 := rfl
  rw [hl] at q5 q6 w1
  refine w_gR I s_82 q2.1 ?_
  refine w_emit (h0 := h) I q1 q2 CFe.rf (by omega) fun h1 I1 p1 p2 p3 => ?_
  have f82 : ∀ j, hI h1 82 j = hI h1 82 j := fun _ => rfl
  refine w_gI I1 s_82 ?_
  have e9 : hI h1 82 9 = Int32.ofNat (W.length + 1) := by rw [p3.2.1 9 (by decide) (by decide) (by decide)]; exact w1
  have e1 : Int32.ofNat (W.length + 1) - 1 = Int32.ofNat W.length := i_sub (m := W.length + 1) (n := 1) (by omega)
  rw [e9, e1]
  refine w_fI I1 s_82 fun I2 => ?_
  refine kk _ I2 ⟨p1.to (sI_other (by decide)) (sI_other (by decide)) (sI_other (by decide)) (fun j hj => by rw [hI_sI_self, up1, if_neg (by omega)]), p2.s82, (q3.tr p3.c).s82 hL (Or.inr (Or.inl rfl)), ⟨by rw [hI_sI_self, up1, if_pos rfl], ?_, fun j hj => ?_⟩, ?_, by omega, fun v hv => q7 v (by simp [hv])⟩
  · rw [hI_sI_self, up1, if_neg (by decide), p3.2.1 10 (by decide) (by decide) (by decide)]; exact w2
  · rw [sI_other (by decide), p3.1.i (show ¬ (87 = 82 ∨ 87 = Lw ∨ 87 = Lw + 1) by omega)]
    exact stk_tail w3 j hj
  · rw [List.length_append]; show cs.length + 1 + W.length + e ≤ k; omega
/-- emitJoins -/
theorem c57_2 {b : Bool} : ∀ (W : List Nat) (x k : Nat) (cs : List Int32) (h : Hp), x + W.length ≤ 26 → Inv h → CSt T L n Lw e h0 h k cs W o →
    Wp (sem (X, K X (d + 1)) 57 2 [some (.ref 82), some (.int (bi b)), some (.int (Int32.ofNat x))] [] h) (VV fun h' => CSt T L n Lw e h0 h' k (cs ++ (flJ b W).1) (flJ b W).2 o)
  | [], x, k, cs, h, hx, I, q => by
    have hx : x + 0 ≤ 26 := hx
    rw [b_57_2]
    refine w_iff (fun z => absurd ((i_le (m := 64) (by omega) (by omega)).mp z) (by omega)) ?_
    refine w_top I q ?_
    refine w_ift (by decide) ?_
    refine w_top I q ?_
    refine w_ift (by decide) (Wp.retv ?_)
    show CSt T L n Lw e h0 h k (cs ++ []) [] o
    rw [List.append_nil]; exact q
  | w :: W, x, k, cs, h, hx, I, q => by
    have hx : x + (W.length + 1) ≤ 26 := hx
    have wl := q.2.2.2.2.2.2 w (by simp)
    have st : flJ b (w :: W) = if w = 23 then (-16 :: (flJ b W).1, (flJ b W).2) else if w = 22 ∧ b = true then (-17 :: (flJ b W).1, (flJ b W).2) else ([], w :: W) := rfl
    rw [b_57_2]
    refine w_iff (fun z => absurd ((i_le (m := 64) (by omega) (by omega)).mp z) (by omega)) ?_
    refine w_top I q ?_
    refine w_if (fun c0 => ?_) (fun c0 => ?_)
    · have n23 : w ≠ 23 := fun z => c0 (by rw [z]; rfl)
      rw [st, if_neg n23]
      refine w_top I q ?_
      show Wp (if ¬ Int32.ofNat w = 22 then _ else _) _
      have stay : ∀ h', CSt T L n Lw e h0 h' k cs (w :: W) o → CSt T L n Lw e h0 h' k (cs ++ []) (w :: W) o := fun h' q' => by rw [List.append_nil]; exact q'
      refine w_if (fun c1 => ?_) (fun c1 => ?_)
      · have n22 : w ≠ 22 := fun z => c1 (by rw [z]; rfl)
        rw [if_neg (fun z => n22 z.1)]
        exact Wp.retv (stay h q)
      · have y22 : w = 22 := (c_is (m := 22) (by omega) (by decide)).mp (Classical.byContradiction c1)
        cases b
        · refine w_ift (show bi false = 0 from rfl) (Wp.retv ?_)
          rw [if_neg (show ¬ (w = 22 ∧ false = true) from fun z => absurd z.2 (by decide))]
          exact stay h q
        · rw [if_pos (show w = 22 ∧ true = true from ⟨y22, rfl⟩)]
          refine w_iff (show ¬ bi true = 0 by decide) ?_
          refine w_out I q fun h1 I1 q1 => ?_
          rw [i32_ofNat_succ]
          have := c57_2 (b := true) W (x + 1) k (cs ++ [-17]) h1 (by omega) I1 q1
          rw [List.append_assoc] at this
          exact this
    · have y23 : w = 23 := (c_is (m := 23) (by omega) (by decide)).mp (Classical.byContradiction c0)
      rw [st, if_pos y23]
      refine w_out I q fun h1 I1 q1 => ?_
      rw [i32_ofNat_succ]
      have := c57_2 (b := b) W (x + 1) k (cs ++ [-16]) h1 (by omega) I1 q1
      rw [List.append_assoc] at this
      exact this
theorem w_joins {b : Bool} {k : Nat} {cs : List Int32} {W : List Nat} {f : Hp → Option (Option Value × Hp)} (I : Inv h) (q : CSt T L n Lw e h0 h k cs W o) (kk : ∀ h', Inv h' → CSt T L n Lw e h0 h' k (cs ++ (flJ b W).1) (flJ b W).2 o → Wp (f h') Q) : Wp (gd (hS h 82 = (6, 0)) (bV (K X (d + 2) 57 [.ref 82, .int (bi b)] h) f)) Q := by
  refine w_gS I s_82 ?_
  refine w_bV I (by rw [k_57]; exact c57_2 (b := b) W 0 k cs h (by have := q.2.2.2.2.2.1; omega) I q) (by decide) rfl fun h1 I1 p => kk h1 I1 p
/-- await -/
theorem w_await {k : Nat} {cs : List Int32} {W : List Nat} {f : Hp → Option (Option Value × Hp)} (I : Inv h) (q : CSt T L n Lw e h0 h k cs W o) (hk : tC T L k < 50) (hW : W.length < 26) (kk : ∀ h', Inv h' → CSt T L n Lw e h0 h' (k + 1) cs (tC T L k :: W) o → Wp (f h') Q) : Wp (gd (hS h 82 = (6, 0)) (bV (K X (d + 1) 54 [.ref 82, .int (Int32.ofNat (tC T L k))] h) f)) Q := by
  obtain ⟨q1, q2, q3, ⟨w1, w2, w3⟩, q5, q6, q7⟩ := q
  have hL := q2.2.1
  have rg := hL.rg
  refine w_gS I s_82 ?_
  refine w_bV (P := fun h' => CSt T L n Lw e h0 h' (k + 1) cs (tC T L k :: W) o) I ?_ (by decide) rfl fun h1 I1 p => kk h1 I1 p
  rw [k_54]
  refine w_gI I s_82 ?_
  rw [w1]
  refine w_iff (fun z => absurd ((i_le (m := 64) (by omega) (by omega)).mp z) (by omega)) ?_
  refine w_gL I s_82 l_82_4 ?_
  refine w_gI I s_82 ?_
  rw [w1]
  refine w_wIn I s_87 (by omega) (by decide) fun I1 => ?_
  refine w_gI I1 s_82 ?_
  rw [sI_other (show 82 ≠ 87 by decide), w1, i32_ofNat_succ]
  refine w_fI I1 s_82 fun I2 => ?_
  have E2 : Eo (fun a => a = 82 ∨ a = 87 ∨ a = Lw ∨ a = Lw + 1) h (sI (sI h 87 W.length (Int32.ofNat (tC T L k))) 82 9 (Int32.ofNat (W.length + 1))) := (Eo.rf.kI (Or.inr (Or.inl rfl))).kI (Or.inl rfl)
  have f82 : ∀ j, j ≠ 9 → hI (sI (sI h 87 W.length (Int32.ofNat (tC T L k))) 82 9 (Int32.ofNat (W.length + 1))) 82 j = hI h 82 j := fun j hj => by rw [hI_sI_self, up1, if_neg hj, sI_other (by decide)]
  have o82 : ∀ a, a ≠ 82 → a ≠ 87 → hI (sI (sI h 87 W.length (Int32.ofNat (tC T L k))) 82 9 (Int32.ofNat (W.length + 1))) a = hI h a := fun a h1 h2 => by rw [sI_other h1, sI_other h2]
  have F2 : CFc Lw h0 (sI (sI h 87 W.length (Int32.ofNat (tC T L k))) 82 9 (Int32.ofNat (W.length + 1))) := q3.tr ⟨E2, fun j _ h2 _ _ _ => f82 j h2, fun j _ => by rw [o82 Lw (by omega) (by omega)], rfl⟩
  have B2 : CB T L n (sI (sI h 87 W.length (Int32.ofNat (tC T L k))) 82 9 (Int32.ofNat (W.length + 1))) k := q1.to (o82 _ (by decide) (by decide)) (o82 _ (by decide) (by decide)) (o82 _ (by decide) (by decide)) (fun j hj => f82 j (by omega))
  have C2 : CL Lw (sI (sI h 87 W.length (Int32.ofNat (tC T L k))) 82 9 (Int32.ofNat (W.length + 1))) cs := ⟨q2.1, hL, by rw [o82 Lw (by omega) (by omega)]; exact q2.2.2.1, q2.2.2.2.eo (o82 _ (by omega) (by omega))⟩
  have K2 : stk (sI (sI h 87 W.length (Int32.ofNat (tC T L k))) 82 9 (Int32.ofNat (W.length + 1))) 87 ((tC T L k :: W).map Int32.ofNat) := fun j hj => by
    rw [sI_other (show 87 ≠ 82 by decide)]
    have := stk_push w3 (Int32.ofNat (tC T L k))
    rw [List.length_map] at this
    exact this j hj
  refine w_at I2 B2 (by omega) fun I3 B3 => ?_
  refine Wp.retv ⟨B3, C2.s82, F2.s82 hL (Or.inl rfl), ⟨by rw [hI_sI_self, up1, if_neg (by decide), hI_sI_self, up1, if_pos rfl]; rfl, by rw [hI_sI_self, up1, if_neg (by decide), f82 10 (by decide)]; exact w2, fun j hj => by rw [sI_other (by decide)]; exact K2 j hj⟩, by show cs.length + (W.length + 1) + e ≤ k + 1; omega, by show W.length + 1 ≤ 26; omega, fun v hv => ?_⟩
  rcases List.mem_cons.mp hv with z | z
  · rw [z]; exact hk
  · exact q7 v z
/-- the point in closing clauses: nothing more closes here -/
theorem PtA.ret {i k x : Nat} {c7 : Int32} {cs : List Int32} {W : List Nat} (I : Inv h) (q : CSt T L n Lw e h0 h k cs W o) (hx : x ≤ 8) (n24 : W.headD 102 ≠ 24) (n41 : tC T L k ≠ 41) (kk : Wp (F53 X (d + 3) (Int32.ofNat i) c7 h) Q) : PtA X (d + 2) i c7 x h Q := by
  have hl := hd_lt q.2.2.2.2.2.2
  unfold PtA
  rw [b_56_2]
  refine w_iff (fun z => absurd ((i_lt (m := 600) (by omega) (by omega)).mp z) (by omega)) ?_
  refine w_top (d := d + 1) I q ?_
  refine w_ift (fun z => n24 ((c_is (m := 24) hl (by decide)).mp z)) ?_
  refine w_sign (d := d + 1) I q.1 ?_
  refine w_ift (fun z => n41 ((c_is (m := 41) (vI k) (by decide)).mp z)) ?_
  exact Wp.retv kk
theorem c56_68 {i k x : Nat} {c7 : Int32} {cs : List Int32} {w : Nat} {W : List Nat} (I : Inv h) (q : CSt T L n Lw e h0 h k cs (w :: W) (o + 1)) (ho : o ≤ 8) (kk : ∀ h', Inv h' → CSt T L n Lw e h0 h' k cs W o → PtA X (d + 2) i c7 (x + 1) h' Q) :
    Wp (sem (X, K X (d + 2)) 56 68 [some (.ref 82), some (.int (Int32.ofNat x))] [] h) (VV fun g => Wp (F53 X (d + 3) (Int32.ofNat i) c7 g) Q) := by
  obtain ⟨q1, q2, q3, ⟨w1, w2, w3⟩, q5, q6, q7⟩ := q
  have hL := q2.2.1
  have hl : (w :: W).length = W.length + 1 := rfl
  rw [hl] at w1 q5 q6
  have e1 : Int32.ofNat (W.length + 1) - 1 = Int32.ofNat W.length := i_sub (m := W.length + 1) (n := 1) (by omega)
  have e2 : Int32.ofNat (o + 1) - 1 = Int32.ofNat o := i_sub (m := o + 1) (n := 1) (by omega)
  rw [b_56_68]
  refine w_gI I s_82 ?_
  rw [w1, e1]
  refine w_fI I s_82 fun I1 => ?_
  refine w_gI I1 s_82 ?_
  have a10 : hI (sI h 82 9 (Int32.ofNat W.length)) 82 10 = Int32.ofNat (o + 1) := by rw [hI_sI_self, up1, if_neg (by decide)]; exact w2
  rw [a10, e2]
  refine w_fI I1 s_82 fun I2 => ?_
  rw [i32_ofNat_succ]
  refine kk _ I2 ⟨q1.to (by rw [sI_other (by decide), sI_other (by decide)]) (by rw [sI_other (by decide), sI_other (by decide)]) (by rw [sI_other (by decide), sI_other (by decide)]) (fun j hj => by rw [hI_sI_self, up1, if_neg (by omega), hI_sI_self, up1, if_neg (by omega)]), q2.s82.s82, (q3.s82 hL (Or.inr (Or.inl rfl))).s82 hL (Or.inr (Or.inr (Or.inl rfl))), ⟨by rw [hI_sI_self, up1, if_neg (by decide), hI_sI_self, up1, if_pos rfl], by rw [hI_sI_self, up1, if_pos rfl], fun j hj => by rw [sI_other (by decide), sI_other (by decide)]; exact stk_tail w3 j hj⟩, by omega, by omega, fun v hv => q7 v (by simp [hv])⟩
theorem PtA.not {i k x : Nat} {c7 : Int32} {cs : List Int32} {W : List Nat} (I : Inv h) (q : CSt T L n Lw e h0 h k cs (24 :: W) (o + 1)) (ho : o ≤ 8) (hx : x ≤ 8) (kk : ∀ h', Inv h' → CSt T L n Lw e h0 h' k (cs ++ [-18]) W o → PtA X (d + 2) i c7 (x + 1) h' Q) : PtA X (d + 2) i c7 x h Q := by
  unfold PtA
  rw [b_56_2]
  refine w_iff (fun z => absurd ((i_lt (m := 600) (by omega) (by omega)).mp z) (by omega)) ?_
  refine w_top (d := d + 1) I q ?_
  refine w_iff (fun z => z rfl) ?_
  have q' := q
  obtain ⟨q1, q2, q3, q4, q5, q6, q7⟩ := q'
  have hL := q2.2.1
  have rg := hL.rg
  have b := q1.k
  have q5 : cs.length + (W.length + 1) + e ≤ k := q5
  refine w_gR I s_82 q2.1 ?_
  refine w_emit (d := d + 1) (h0 := h) I q1 q2 CFe.rf (by omega) fun h1 I1 p1 p2 p3 => ?_
  -- the pile has room for what was emitted: the not itself
  have q1' : CSt T L n Lw e h0 h1 k (cs ++ [-18]) W o → True := fun _ => trivial
  obtain ⟨w1, w2, w3⟩ := q4
  have c1 : CW h1 (24 :: W) (o + 1) := CW.to ⟨w1, w2, w3⟩ (p3.1.i (show ¬ (87 = 82 ∨ 87 = Lw ∨ 87 = Lw + 1) by omega)) (p3.2.1 9 (by decide) (by decide) (by decide)) (p3.2.1 10 (by decide) (by decide) (by decide))
  have e1 : Int32.ofNat (W.length + 1) - 1 = Int32.ofNat W.length := i_sub (m := W.length + 1) (n := 1) (by omega)
  have e2 : Int32.ofNat (o + 1) - 1 = Int32.ofNat o := i_sub (m := o + 1) (n := 1) (by omega)
  have q6 : W.length + 1 ≤ 26 := q6
  rw [b_56_68]
  refine w_gI I1 s_82 ?_
  have a9 : hI h1 82 9 = Int32.ofNat (W.length + 1) := c1.1
  rw [a9, e1]
  refine w_fI I1 s_82 fun I2 => ?_
  refine w_gI I2 s_82 ?_
  have a10 : hI (sI h1 82 9 (Int32.ofNat W.length)) 82 10 = Int32.ofNat (o + 1) := by rw [hI_sI_self, up1, if_neg (by decide)]; exact c1.2.1
  rw [a10, e2]
  refine w_fI I2 s_82 fun I3 => ?_
  rw [i32_ofNat_succ]
  refine kk _ I3 ⟨p1.to (by rw [sI_other (by decide), sI_other (by decide)]) (by rw [sI_other (by decide), sI_other (by decide)]) (by rw [sI_other (by decide), sI_other (by decide)]) (fun j hj => by rw [hI_sI_self, up1, if_neg (by omega), hI_sI_self, up1, if_neg (by omega)]), p2.s82.s82, ((q3.tr p3.c).s82 hL (Or.inr (Or.inl rfl))).s82 hL (Or.inr (Or.inr (Or.inl rfl))), ⟨by rw [hI_sI_self, up1, if_neg (by decide), hI_sI_self, up1, if_pos rfl], by rw [hI_sI_self, up1, if_pos rfl], fun j hj => by rw [sI_other (by decide), sI_other (by decide)]; exact stk_tail c1.2.2 j hj⟩, ?_, by omega, fun v hv => q7 v (by simp [hv])⟩
  rw [List.length_append]; show cs.length + 1 + W.length + e ≤ k; omega
/-- a bracket shuts -/
theorem PtA.shut {i k x : Nat} {c7 : Int32} {cs : List Int32} {P W : List Nat} (I : Inv h) (q : CSt T L n Lw e h0 h k cs (P ++ 40 :: W) (o + 1)) (ho : o ≤ 8) (hx : x ≤ 8) (n24 : (P ++ 40 :: W).headD 102 ≠ 24) (e41 : tC T L k = 41) (hf : (flJ true (P ++ 40 :: W)).2 = 40 :: W) (kk : ∀ h', Inv h' → CSt T L n Lw e h0 h' (k + 1) (cs ++ (flJ true (P ++ 40 :: W)).1) W o → PtA X (d + 2) i c7 (x + 1) h' Q) : PtA X (d + 2) i c7 x h Q := by
  have hl := hd_lt q.2.2.2.2.2.2
  unfold PtA
  rw [b_56_2]
  refine w_iff (fun z => absurd ((i_lt (m := 600) (by omega) (by omega)).mp z) (by omega)) ?_
  refine w_top (d := d + 1) I q ?_
  refine w_ift (fun z => n24 ((c_is (m := 24) hl (by decide)).mp z)) ?_
  refine w_sign (d := d + 1) I q.1 ?_
  refine w_iff (fun z => z (by rw [e41]; rfl)) ?_
  refine w_joins (b := true) (d := d) I q fun h1 I1 q1 => ?_
  rw [hf] at q1
  refine w_top (d := d + 1) I1 q1 ?_
  refine w_ift rfl ?_
  obtain ⟨p1, p2, p3, p4, p5, p6, p7⟩ := q1
  have hL := p2.2.1
  refine w_at I1 p1 (by omega) fun I2 p1' => ?_
  refine c56_68 (d := d) (w := 40) I2 ⟨p1', p2.s82, p3.s82 hL (Or.inl rfl), p4.to (sI_other (by decide)) (by rw [hI_sI_self, up1, if_neg (by decide)]) (by rw [hI_sI_self, up1, if_neg (by decide)]), Nat.le_succ_of_le p5, p6, p7⟩ ho fun h' I' q' => kk h' I' ?_
  exact q'
/-- a bracket that is none of this condition -/
theorem PtA.top {i k x : Nat} {c7 : Int32} {cs : List Int32} {P : List Nat} (I : Inv h) (q : CSt T L n Lw e h0 h k cs P o) (hx : x ≤ 8) (n24 : P.headD 102 ≠ 24) (e41 : tC T L k = 41) (hf : (flJ true P).2 = []) (kk : ∀ h', Inv h' → CSt T L n Lw e h0 h' k (cs ++ (flJ true P).1) [] o → Wp (F53 X (d + 3) (Int32.ofNat i) c7 h') Q) : PtA X (d + 2) i c7 x h Q := by
  have hl := hd_lt q.2.2.2.2.2.2
  unfold PtA
  rw [b_56_2]
  refine w_iff (fun z => absurd ((i_lt (m := 600) (by omega) (by omega)).mp z) (by omega)) ?_
  refine w_top (d := d + 1) I q ?_
  refine w_ift (fun z => n24 ((c_is (m := 24) hl (by decide)).mp z)) ?_
  refine w_sign (d := d + 1) I q.1 ?_
  refine w_iff (fun z => z (by rw [e41]; rfl)) ?_
  refine w_joins (b := true) (d := d) I q fun h1 I1 q1 => ?_
  rw [hf] at q1
  refine w_top (d := d + 1) I1 q1 ?_
  refine w_iff (by decide) ?_
  exact Wp.retv (kk h1 I1 q1)
/-- behind a clause: and, or -/
theorem F53.and {i k : Nat} {c7 : Int32} {cs : List Int32} {W : List Nat} (I : Inv h) (q : CSt T L n Lw e h0 h k cs W o) (ec : tC T L k = 23) (hW : (flJ false W).2.length < 26) (kk : ∀ h', Inv h' → CSt T L n Lw e h0 h' (k + 1) (cs ++ (flJ false W).1) (23 :: (flJ false W).2) o → Wp (sem (X, K X (d + 3)) 53 12 [some (.ref 82), some (.int (Int32.ofNat (i + 1))), some (.int c7)] [] h') Q) : Wp (F53 X (d + 3) (Int32.ofNat i) c7 h) Q := by
  unfold F53
  refine w_sign (d := d + 2) I q.1 ?_
  refine w_ift (by rw [ec]; rfl) ?_
  rw [b_53_147]
  refine w_sign (d := d + 2) I q.1 ?_
  refine w_ift (by rw [ec]; decide) ?_
  refine w_joins (b := false) (d := d + 1) I q fun h1 I1 q1 => ?_
  refine w_sign (d := d + 2) I1 q1.1 ?_
  refine w_await (d := d + 2) I1 q1 (by omega) hW fun h2 I2 q2 => ?_
  rw [i32_ofNat_succ]
  rw [ec] at q2
  exact kk h2 I2 q2
theorem F53.or {i k : Nat} {c7 : Int32} {cs : List Int32} {W : List Nat} (I : Inv h) (q : CSt T L n Lw e h0 h k cs W o) (ec : tC T L k = 22) (hW : (flJ true W).2.length < 26) (kk : ∀ h', Inv h' → CSt T L n Lw e h0 h' (k + 1) (cs ++ (flJ true W).1) (22 :: (flJ true W).2) o → Wp (sem (X, K X (d + 3)) 53 12 [some (.ref 82), some (.int (Int32.ofNat (i + 1))), some (.int c7)] [] h') Q) : Wp (F53 X (d + 3) (Int32.ofNat i) c7 h) Q := by
  unfold F53
  refine w_sign (d := d + 2) I q.1 ?_
  refine w_iff (by rw [ec]; decide) ?_
  refine w_sign (d := d + 2) I q.1 ?_
  refine w_ift (by rw [ec]; rfl) ?_
  rw [b_53_147]
  refine w_sign (d := d + 2) I q.1 ?_
  refine w_iff (fun z => z (by rw [ec]; rfl)) ?_
  refine w_joins (b := true) (d := d + 1) I q fun h1 I1 q1 => ?_
  refine w_sign (d := d + 2) I1 q1.1 ?_
  refine w_await (d := d + 2) I1 q1 (by omega) hW fun h2 I2 q2 => ?_
  rw [i32_ofNat_succ]
  rw [ec] at q2
  exact kk h2 I2 q2
/-- the condition ends here -/
theorem F53.end {i k : Nat} {c7 : Int32} {cs : List Int32} {W : List Nat} (I : Inv h) (q : CSt T L n Lw e h0 h k cs W o) (n23 : tC T L k ≠ 23) (n22 : tC T L k ≠ 22) (ok : (flJ true W).2 = [] → ∀ h', Inv h' → CSt T L n Lw e h0 h' k (cs ++ (flJ true W).1) [] o → Q (some (.int 1)) h') (no : (flJ true W).2 ≠ [] → ∀ h', CFc Lw h0 h' → BadC T L (1, k, []) 0 h' → Q (some (.int 0)) h') : Wp (F53 X (d + 3) (Int32.ofNat i) c7 h) Q := by
  have vk := vI (T := T) (L := L) k
  unfold F53
  refine w_sign (d := d + 2) I q.1 ?_
  refine w_iff (fun z => n23 ((c_is (m := 23) vk (by decide)).mp z)) ?_
  refine w_sign (d := d + 2) I q.1 ?_
  refine w_iff (fun z => n22 ((c_is (m := 22) vk (by decide)).mp z)) ?_
  refine w_gS I s_82 ?_
  refine w_bI (P := fun v h' => (v = 1 ∨ v = 0) ∧ Q (some (.int v)) h') I ?_ (by decide) rfl fun x h1 I1 p => ?_
  · rw [k_58]
    refine w_joins (b := true) (d := d) I q fun h1 I1 q1 => ?_
    refine w_gI I1 s_82 ?_
    rw [q1.2.2.2.1.1]
    cases hf : (flJ true W).2 with
    | nil =>
      refine w_ift rfl (Wp.reti ⟨Or.inl rfl, ok hf h1 I1 ?_⟩)
      rw [hf] at q1; exact q1
    | cons w r =>
      have l26 := q1.2.2.2.2.2.1
      rw [hf] at l26
      refine w_iff (fun z => absurd ((i_eq (n := 0) (by omega) (by omega)).mp z) (by exact Nat.succ_ne_zero _)) ?_
      refine w_gS I1 s_82 ?_
      refine w_bI I1 (m_69 (w := 1) (d := d + 1) I1 q1.1) (by decide) rfl ?_
      rintro x h2 I2 ⟨rfl, rfl⟩
      have hL := q1.2.1.2.1
      refine w_ift rfl (Wp.reti ⟨Or.inr rfl, no (by rw [hf]; exact List.cons_ne_nil _ _) _ ((q1.2.2.1.s82 hL (Or.inr (Or.inr (Or.inr (Or.inl rfl))))).s82 hL (Or.inr (Or.inr (Or.inr (Or.inr rfl))))) ⟨rfl, ?_, ?_⟩⟩)
      · rw [hI_sI_self, up1, if_neg (by decide), hI_sI_self, up1, if_pos rfl]
      · rw [hI_sI_self, up1, if_pos rfl]
  · exact w_gd (by rcases p.1 with z | z <;> rw [z] <;> decide) (Wp.ret p.2)
end CC
