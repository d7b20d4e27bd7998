/-! YEARS: the class's side -/
def cSum (h : Hp) (u : Nat) (S : SumT) : Prop := hI h u 0 = Int32.ofNat S.1 ∧ hI h u 1 = Int32.ofNat S.2.1 ∧ hI h u 2 = Int32.ofNat S.2.2.1 ∧ hI h u 3 = Int32.ofNat S.2.2.2.1 ∧ hI h u 4 = Int32.ofNat S.2.2.2.2
def cSums (h : Hp) : Nat → List SumT → Prop
  | _, [] => True
  | u, S :: r => cSum h u S ∧ cSums h (u + 1) r
theorem cSum.eo {h h' : Hp} {u : Nat} {S : SumT} (q : cSum h u S) (e : hI h' u = hI h u) : cSum h' u S := by unfold cSum; rw [e]; exact q
theorem cSums.eo {h h' : Hp} : ∀ {r : List SumT} {u : Nat}, cSums h u r → (∀ a, u ≤ a → a < u + r.length → hI h' a = hI h a) → cSums h' u r
  | [], _, _, _ => trivial
  | _ :: _, u, q, e => ⟨q.1.eo (e u (Nat.le_refl _) (by simp)), cSums.eo q.2 (fun a h1 h2 => e a (by omega) (by simp; omega))⟩
theorem cSums.at {h : Hp} : ∀ {r : List SumT} {u i : Nat}, cSums h u r → (hi : i < r.length) → cSum h (u + i) (r[i])
  | [], _, _, _, hi => absurd hi (Nat.not_lt_zero _)
  | S :: r, u, 0, q, _ => q.1
  | S :: r, u, i + 1, q, hi => by
    have := cSums.at (i := i) q.2 (by simpa using hi)
    have e : u + (i + 1) = u + 1 + i := by omega
    rw [e]
    exact this
def cYear (h : Hp) (y : Nat) (A : AY) : Prop := (∀ k, k < 360 → hI h (103 + 17 * y) k = nv (A.1 k)) ∧ cSv h (104 + 17 * y) (viewY A) ∧ hI h (104 + 17 * y) 1 = Int32.ofNat (cnt A.1 6 360) ∧ hI h (102 + 17 * y) 3 = Int32.ofNat A.2.2.2.2.length ∧ cSums h (107 + 17 * y) A.2.2.2.2
theorem cYear.eo {h h' : Hp} {y : Nat} {A : AY} (q : cYear h y A) (e : ∀ a, 102 + 17 * y ≤ a → a < 119 + 17 * y → hI h' a = hI h a) (o : A.2.2.2.2.length ≤ 12) : cYear h' y A := by
  obtain ⟨q1, q2, q3, q4, q5⟩ := q
  exact ⟨fun k hk => by rw [e _ (by omega) (by omega)]; exact q1 k hk, q2.eo (e _ (by omega) (by omega)) (e _ (by omega) (by omega)), by rw [e _ (by omega) (by omega)]; exact q3, by rw [e _ (by omega) (by omega)]; exact q4, q5.eo (fun a h1 h2 => e a (by omega) (by omega))⟩
theorem year_s {y : Nat} (hy : y < 2) : SH (102 + 17 * y) = (10, 0) ∧ SH (103 + 17 * y) = (50, 360) ∧ SH (104 + 17 * y) = (8, 0) ∧ SH (105 + 17 * y) = (50, 6) ∧ SH (106 + 17 * y) = (68, 12) ∧ LK (102 + 17 * y) 0 = some (103 + 17 * y) ∧ LK (102 + 17 * y) 1 = some (104 + 17 * y) ∧ LK (102 + 17 * y) 2 = some (106 + 17 * y) ∧ IsStay (104 + 17 * y) := by
  have : y = 0 ∨ y = 1 := by omega
  rcases this with rfl | rfl
  · refine ⟨?_, ?_, ?_, ?_, ?_, ?_, ?_, ?_, ?_⟩
    all_goals first | decide +kernel | (show (104 : Nat) ∈ [88, 104, 121]; decide)
  · refine ⟨?_, ?_, ?_, ?_, ?_, ?_, ?_, ?_, ?_⟩
    all_goals first | decide +kernel | (show (121 : Nat) ∈ [88, 104, 121]; decide)
theorem sum_s {y i : Nat} (hy : y < 2) (hi : i < 12) : SH (107 + 17 * y + i) = (9, 0) := IsSum.s (is_sum y hy i hi)
section CY
variable {X : Ctx} {d : Nat} {h : Hp}
theorem base_loop {y n : Nat} (I : Inv h) (hy : y < 2) (hn12 : n ≤ 12) (hn : hI h (102 + 17 * y) 3 = Int32.ofNat n) : ∀ (r : List SumT) (j b : Nat), j + r.length = n → (∀ S, S ∈ r → okSm S) → cSums h (107 + 17 * y + j) r →
    sem (X, K X d) 95 4 [some (.ref (102 + 17 * y)), some (.long (Int64.ofInt b)), none, some (.int (Int32.ofNat j))] [] h = some (some (.long (Int64.ofInt ((b + sumB r : Nat) : Int))), h)
  | [], j, b, e, _, _ => by
    refine Wp.eqJ ?_
    rw [b_95_4]
    refine w_gI I (year_s hy).1 ?_
    rw [hn]
    refine w_ift ((i_le (by omega) (by omega)).mpr (by simp at e; omega)) ?_
    exact Wp.retj ⟨rfl, rfl⟩
  | S :: r, j, b, e, o, q => by
    have hj : j < 12 := by simp at e; omega
    have oS := o S (by simp)
    have ih := base_loop I hy hn12 hn r (j + 1) (b + S.2.2.1) (by simp at e; omega) (fun T hT => o T (by simp [hT])) q.2
    refine Wp.eqJ ?_
    rw [b_95_4]
    refine w_gI I (year_s hy).1 ?_
    rw [hn]
    refine w_iff (fun z => absurd ((i_le (by omega) (by omega)).mp z) (by simp at e; omega)) ?_
    refine w_gL I (year_s hy).1 (year_s hy).2.2.2.2.2.2.2.1 ?_
    refine w_aLn I (year_s hy).2.2.2.2.1 (by decide) (by decide) hj (by decide) (lk_sums y hy j hj) ?_
    refine w_gI I (sum_s hy hj) ?_
    rw [q.1.2.2.1, nat_j (by have := oS.2.2.2.2.1; omega), i32_ofNat_succ, ← Int64.ofInt_add]
    refine Wp.eq ih ⟨_, rfl, ?_, rfl⟩
    congr 1
    show ((b + S.2.2.1 + sumB r : Nat) : Int) = ((b + (S.2.2.1 + sumB r) : Nat) : Int)
    rw [Nat.add_assoc]
theorem m_95 {y : Nat} {A : AY} (I : Inv h) (hy : y < 2) (hA : cYear h y A) (o : okY A) : K X (d + 1) 95 [.ref (102 + 17 * y)] h = some (some (.long (Int64.ofInt (sumB A.2.2.2.2 : Nat))), h) := by
  rw [k_95]
  have := base_loop (X := X) (d := d) I hy o.2.1 hA.2.2.2.1 A.2.2.2.2 0 0 (by omega) o.2.2 hA.2.2.2.2
  rw [Nat.zero_add] at this
  exact this
theorem m_136 {y : Nat} {A : AY} {AL : Nat → ALaw} {PA : Nat → APact} (I : Inv h) (hy : y < 2) (hA : cYear h y A) (o : okY A) (hL : cLaws h AL) (hP : cPacts h PA) :
    Wp (K X (d + 6) 136 [.ref 62, .int (Int32.ofNat y)] h) (VV fun h' => HearP (viewY A) AL PA (sumB A.2.2.2.2 : Nat) h h') := by
  have ys := year_s hy
  have B := sumB_le o.2.2
  have o2 := o.2.1
  rw [k_136]
  refine w_gL I s_62 l_62_8 ?_
  refine w_gL I s_62 l_62_0 ?_
  refine w_aLn I s_63 (by decide) (by decide) hy (by decide) (lk_years y hy) ?_
  refine w_gL I ys.1 ys.2.2.2.2.2.2.1 ?_
  refine w_gL I s_62 l_62_2 ?_
  refine w_gL I s_62 l_62_0 ?_
  refine w_aLn I s_63 (by decide) (by decide) hy (by decide) (lk_years y hy) ?_
  refine w_gS I ys.1 ?_
  refine w_eJ (m_95 I hy hA o) ?_
  refine w_gS I s_274 ?_
  refine w_bV I (m_13 I ys.2.2.2.2.2.2.2.2 hA.2.1 hL hP (by omega)) (by decide) rfl fun h1 I1 p => ?_
  exact Wp.retv p
/-! nights of a year that change -/
def updW (w : Nat → Nat) (n x : Nat) : Nat → Nat := fun k => if k = n then x else w k
theorem cnt_upd {w : Nat → Nat} {n x l : Nat} : ∀ {N : Nat}, n < N → cnt (updW w n x) l N + (if w n = l then 1 else 0) = cnt w l N + (if x = l then 1 else 0)
  | 0, h => absurd h (by omega)
  | N + 1, h => by
    have other : ∀ m, m ≤ n → cnt (updW w n x) l m = cnt w l m := fun m => by
      induction m with
      | zero => intro _; rfl
      | succ m ih =>
        intro hm
        show cnt (updW w n x) l m + (if updW w n x m = l then 1 else 0) = cnt w l m + (if w m = l then 1 else 0)
        have e : updW w n x m = w m := if_neg (by omega)
        rw [ih (by omega), e]
    show cnt (updW w n x) l N + (if updW w n x N = l then 1 else 0) + (if w n = l then 1 else 0) = cnt w l N + (if w N = l then 1 else 0) + (if x = l then 1 else 0)
    by_cases e : N = n
    · subst e
      have e2 : updW w N x N = x := if_pos rfl
      rw [other N (Nat.le_refl _), e2]; omega
    · have e2 : updW w n x N = w N := if_neg e
      have := cnt_upd (w := w) (x := x) (l := l) (show n < N by omega)
      rw [e2]; omega
/-- add: many more nights in a land, or rubbed out -/
def addH (h : Hp) (s x : Nat) (m : Int32) : Hp := if x < 6 then sI h (s + 1) x (hI h (s + 1) x + m) else sI h s 1 (hI h s 1 + m)
theorem addH.eo {s x : Nat} {m : Int32} {W : Nat → Prop} {h0 : Hp} (e : Eo W h0 h) (w1 : W s) (w2 : W (s + 1)) : Eo W h0 (addH h s x m) := by
  unfold addH; split
  · exact e.kI w2
  · exact e.kI w1
theorem addH.inv {s x : Nat} {m : Int32} (I : Inv h) : Inv (addH h s x m) := by
  unfold addH; split
  · exact I.sI
  · exact I.sI
theorem m_87 {s x : Nat} {m : Int32} (I : Inv h) (hs : IsStay s) : K X (d + 1) 87 [.ref s, .int (nv x), .int m] h = some (none, addH h s x m) := by
  refine Wp.eqV ?_
  rw [k_87]
  unfold addH
  by_cases x6 : x < 6
  · have e1 : nv x = Int32.ofNat x := if_pos x6
    rw [e1, if_pos x6]
    refine w_ift (i_nm1 (by omega)) ?_
    refine w_gL I hs.s hs.l0 ?_
    refine w_aIn I hs.s1 x6 (by decide) ?_
    refine w_wIn I hs.s1 x6 (by decide) fun I => ?_
    exact Wp.retv rfl
  · have e1 : nv x = -1 := if_neg x6
    rw [e1, if_neg x6]
    refine w_iff (fun z => z rfl) ?_
    refine w_gI I hs.s ?_
    refine w_fI I hs.s fun I => ?_
    exact Wp.retv rfl
/-- nights and rubbed nights as counted -/
def cCnt (h : Hp) (s : Nat) (w : Nat → Nat) : Prop := (∀ l, l < 6 → hI h (s + 1) l = Int32.ofNat (cnt w l 360)) ∧ hI h s 1 = Int32.ofNat (cnt w 6 360)
theorem ofNat_1 : ∀ (c : Prop) [Decidable c], Int32.ofNat (if c then 1 else 0) = if c then 1 else 0 := fun c _ => by split <;> rfl
theorem cnt_add {w : Nat → Nat} {n x l : Nat} (hn : n < 360) : (Int32.ofNat (cnt w l 360) + (if l = w n then -1 else 0)) + (if l = x then 1 else 0) = Int32.ofNat (cnt (updW w n x) l 360) := by
  have e := cnt_upd (w := w) (x := x) (l := l) hn
  have e2 := congrArg Int32.ofNat e
  rw [← i_add, ← i_add, ofNat_1, ofNat_1] at e2
  have c1 : (if l = w n then (-1 : Int32) else 0) = -(if w n = l then 1 else 0) := by
    by_cases z : w n = l
    · rw [if_pos z, if_pos z.symm]
    · rw [if_neg z, if_neg (fun q => z q.symm)]; rfl
  have c2 : (if l = x then (1 : Int32) else 0) = (if x = l then 1 else 0) := by
    by_cases z : x = l
    · rw [if_pos z, if_pos z.symm]
    · rw [if_neg z, if_neg (fun q => z q.symm)]
  rw [c1, c2]
  grind
theorem addH2 {s : Nat} {w : Nat → Nat} {n x : Nat} (hn : n < 360) (hw : w n ≤ 6) (hx : x ≤ 6) (q : cCnt h s w) : cCnt (addH (addH h s (w n) (-1)) s x 1) s (updW w n x) := by
  have key : ∀ (g : Hp) (z : Nat) (m : Int32), (∀ l, l < 6 → hI (addH g s z m) (s + 1) l = hI g (s + 1) l + (if l = z then m else 0)) ∧ (z ≤ 6 → hI (addH g s z m) s 1 = hI g s 1 + (if 6 = z then m else 0)) := fun g z m => by
    unfold addH
    by_cases z6 : z < 6
    · rw [if_pos z6]
      refine ⟨fun l hl => ?_, fun _ => ?_⟩
      · rw [hI_sI_self, up1]
        by_cases e : l = z
        · rw [if_pos e, if_pos e, e]
        · rw [if_neg e, if_neg e, Int32.add_zero]
      · rw [sI_other (by omega), if_neg (by omega), Int32.add_zero]
    · rw [if_neg z6]
      refine ⟨fun l hl => ?_, fun h6 => ?_⟩
      · rw [sI_other (by omega), if_neg (by omega), Int32.add_zero]
      · rw [hI_sI_self, up1, if_pos rfl, if_pos (by omega)]
  refine ⟨fun l hl => ?_, ?_⟩
  · rw [(key _ x 1).1 l hl, (key _ (w n) (-1)).1 l hl, q.1 l hl]
    exact cnt_add hn
  · rw [(key _ x 1).2 hx, (key _ (w n) (-1)).2 hw, q.2]
    exact cnt_add hn
def setW (w : Nat → Nat) (a b x : Nat) : Nat → Nat := fun k => if a ≤ k ∧ k < b then x else w k
theorem setW_step (w : Nat → Nat) {a b x : Nat} (hab : a ≤ b) : updW (setW w a b x) b x = setW w a (b + 1) x := by
  funext k
  unfold updW setW
  by_cases e : k = b
  · rw [if_pos e, if_pos (by omega)]
  · rw [if_neg e]
    by_cases q : a ≤ k ∧ k < b
    · rw [if_pos q, if_pos (by omega)]
    · rw [if_neg q, if_neg (by omega)]
theorem setW_0 (w : Nat → Nat) (a x : Nat) : setW w a a x = w := by
  funext k; unfold setW; rw [if_neg (by omega)]
theorem setW_le {w : Nat → Nat} {a b x : Nat} (hw : ∀ k, w k ≤ 6) (hx : x ≤ 6) (k : Nat) : setW w a b x k ≤ 6 := by
  unfold setW; split
  · exact hx
  · exact hw k
/-- spend -/
theorem spend_loop {Q : Option Value → Hp → Prop} {y a t x : Nat} {w : Nat → Nat} {h0 : Hp} (hy : y < 2) (hat : a ≤ t) (ht : t < 360) (hx : x ≤ 6) (hw : ∀ k, w k ≤ 6) {v1 : Option Value} : ∀ (c i : Nat) (h : Hp), i + c = t + 1 → a ≤ i → Inv h → (Eo (fun b => 103 + 17 * y ≤ b ∧ b ≤ 105 + 17 * y) h0 h ∧ (∀ k, k < 360 → hI h (103 + 17 * y) k = nv (setW w a i x k)) ∧ cCnt h (104 + 17 * y) (setW w a i x) ∧ (∀ k, k ≠ 1 → hI h (104 + 17 * y) k = hI h0 (104 + 17 * y) k)) →
    (∀ h', Inv h' → (Eo (fun b => 103 + 17 * y ≤ b ∧ b ≤ 105 + 17 * y) h0 h' ∧ (∀ k, k < 360 → hI h' (103 + 17 * y) k = nv (setW w a (t + 1) x k)) ∧ cCnt h' (104 + 17 * y) (setW w a (t + 1) x) ∧ (∀ k, k ≠ 1 → hI h' (104 + 17 * y) k = hI h0 (104 + 17 * y) k)) → Q none h') →
    Wp (sem (X, K X (d + 1)) 93 7 [some (.ref (102 + 17 * y)), v1, some (.int (Int32.ofNat t)), some (.int (nv x)), some (.int (Int32.ofNat i))] [] h) Q
  | 0, i, h, e, hi, I, u, q => by
    have e : i = t + 1 := by omega
    subst e
    rw [b_93_7]
    exact w_ift ((i_lt (by omega) (by omega)).mpr (by omega)) (Wp.ret (q h I u))
  | c + 1, i, h, e, hi, I, u, q => by
    obtain ⟨u1, u2, u3, u4⟩ := u
    have ys := year_s hy
    have hs := ys.2.2.2.2.2.2.2.2
    have hi6 := setW_le (a := a) (b := i) hw hx i
    rw [b_93_7]
    refine w_iff (fun z => absurd ((i_lt (by omega) (by omega)).mp z) (by omega)) ?_
    refine w_iff (fun z => absurd ((i_le (m := 360) (by omega) (by omega)).mp z) (by omega)) ?_
    refine w_gL I ys.1 ys.2.2.2.2.2.2.1 ?_
    refine w_gL I ys.1 ys.2.2.2.2.2.1 ?_
    refine w_aIn I ys.2.1 (by omega) (by decide) ?_
    rw [u2 i (by omega), i32_ofNat_succ]
    refine w_gS I hs.s ?_
    refine w_eV (m_87 I hs) ?_
    have I1 : Inv (addH h (104 + 17 * y) (setW w a i x i) (-1)) := addH.inv I
    refine w_gL I1 ys.1 ys.2.2.2.2.2.2.1 ?_
    refine w_gS I1 hs.s ?_
    refine w_eV (m_87 I1 hs) ?_
    have I2 : Inv (addH (addH h (104 + 17 * y) (setW w a i x i) (-1)) (104 + 17 * y) x 1) := addH.inv I1
    have cc := addH2 (x := x) (show i < 360 by omega) hi6 hx u3
    rw [setW_step w hi] at cc
    have E2 : Eo (fun b => b = 104 + 17 * y ∨ b = 104 + 17 * y + 1) h (addH (addH h (104 + 17 * y) (setW w a i x i) (-1)) (104 + 17 * y) x 1) := addH.eo (addH.eo Eo.rf (Or.inl rfl) (Or.inr rfl)) (Or.inl rfl) (Or.inr rfl)
    have k1 : ∀ (g : Hp) (z : Nat) (m : Int32) (k : Nat), k ≠ 1 → hI (addH g (104 + 17 * y) z m) (104 + 17 * y) k = hI g (104 + 17 * y) k := fun g z m k hk => by
      unfold addH; split
      · rw [sI_other (by omega)]
      · rw [hI_sI_self, up1, if_neg hk]
    generalize hg : addH (addH h (104 + 17 * y) (setW w a i x i) (-1)) (104 + 17 * y) x 1 = g at I2 cc E2 ⊢
    refine w_gL I2 ys.1 ys.2.2.2.2.2.1 ?_
    refine w_wIn I2 ys.2.1 (by omega) (by decide) fun I3 => ?_
    refine spend_loop hy hat ht hx hw c (i + 1) _ (by omega) (by omega) I3 ⟨(u1.tr (E2.wk fun b z => by omega)).kI (by omega), fun k hk => ?_, ?_, fun k hk => ?_⟩ q
    · rw [hI_sI_self, up1, ← setW_step w hi]
      unfold updW
      by_cases e : k = i
      · rw [if_pos e, if_pos e]
      · rw [if_neg e, if_neg e, E2.i (by omega)]; exact u2 k hk
    · exact ⟨fun l hl => by rw [sI_other (by omega)]; exact cc.1 l hl, by rw [sI_other (by omega)]; exact cc.2⟩
    · rw [sI_other (by omega), ← hg, k1 _ _ _ _ hk, k1 _ _ _ _ hk]; exact u4 k hk
end CY
