/-! YEARS, both sides; LAYS, BASE, HEAR of a year -/
abbrev SumT : Type := Nat × Nat × Nat × Nat × Nat
abbrev AY : Type := (Nat → Nat) × Int32 × Int32 × Int32 × List SumT
def okSm (S : SumT) : Prop := S.1 < 6 ∧ S.2.1 < 6 ∧ (S.1 ≠ 5 → S.2.1 = S.1) ∧ 1 ≤ S.2.2.1 ∧ S.2.2.1 ≤ 999999 ∧ S.2.2.2.1 < 6 ∧ S.2.2.2.2 < 6
def okY (A : AY) : Prop := (∀ k, A.1 k ≤ 6) ∧ A.2.2.2.2.length ≤ 12 ∧ ∀ S, S ∈ A.2.2.2.2 → okSm S
def viewY (A : AY) : Sv := ((fun l => Int32.ofNat (cnt A.1 l 360)), A.2.1, A.2.2.1, A.2.2.2.1)
def sumB : List SumT → Nat
  | [] => 0
  | S :: r => S.2.2.1 + sumB r
theorem sumB_le : ∀ {r : List SumT}, (∀ S, S ∈ r → okSm S) → sumB r ≤ 999999 * r.length
  | [], _ => Nat.le_refl _
  | S :: r, h => by
    have h1 := (h S (by simp)).2.2.2.2.1
    have h2 := sumB_le (r := r) (fun T hT => h T (by simp [hT]))
    show S.2.2.1 + sumB r ≤ 999999 * (r.length + 1)
    omega
theorem sumB_pos {r : List SumT} {S : SumT} (h : S ∈ r) (o : ∀ S, S ∈ r → okSm S) : 1 ≤ sumB r := by
  cases r with
  | nil => cases h
  | cons T r =>
    have := (o T (by simp)).2.2.2.1
    show 1 ≤ T.2.2.1 + sumB r
    omega
/-- a row of sums in five rows of ints -/
def rSums (h : Hp) (a b c d e : Nat) : Nat → List SumT → Prop
  | _, [] => True
  | j, S :: r => (hI h a j = Int32.ofNat S.1 ∧ hI h b j = Int32.ofNat S.2.1 ∧ hI h c j = Int32.ofNat S.2.2.1 ∧ hI h d j = Int32.ofNat S.2.2.2.1 ∧ hI h e j = Int32.ofNat S.2.2.2.2) ∧ rSums h a b c d e (j + 1) r
theorem rSums.eo {h h' : Hp} {a b c d e : Nat} (e1 : hI h' a = hI h a) (e2 : hI h' b = hI h b) (e3 : hI h' c = hI h c) (e4 : hI h' d = hI h d) (e5 : hI h' e = hI h e) : ∀ {r : List SumT} {j : Nat}, rSums h a b c d e j r → rSums h' a b c d e j r
  | [], _, _ => trivial
  | _ :: _, _, q => ⟨by rw [e1, e2, e3, e4, e5]; exact q.1, rSums.eo e1 e2 e3 e4 e5 q.2⟩
theorem rSums.at {h : Hp} {a b c d e : Nat} : ∀ {r : List SumT} {j i : Nat}, rSums h a b c d e j r → (hi : i < r.length) → hI h a (j + i) = Int32.ofNat (r[i]).1 ∧ hI h b (j + i) = Int32.ofNat (r[i]).2.1 ∧ hI h c (j + i) = Int32.ofNat (r[i]).2.2.1 ∧ hI h d (j + i) = Int32.ofNat (r[i]).2.2.2.1 ∧ hI h e (j + i) = Int32.ofNat (r[i]).2.2.2.2
  | [], _, _, _, hi => absurd hi (Nat.not_lt_zero _)
  | S :: r, j, 0, q, _ => q.1
  | S :: r, j, i + 1, q, hi => by
    have := rSums.at (i := i) q.2 (by simpa using hi)
    have e : j + (i + 1) = j + 1 + i := by omega
    rw [e]
    exact this
def mYear (h : Hp) (y : Nat) (A : AY) : Prop := (∀ k, k < 360 → hI h 302 (360 * y + k) = nv (A.1 k)) ∧ hI h 303 y = A.2.1 ∧ hI h 304 (2 * y) = A.2.2.1 ∧ hI h 304 (2 * y + 1) = A.2.2.2.1 ∧ hI h 305 y = Int32.ofNat A.2.2.2.2.length ∧ rSums h 306 307 308 309 310 (12 * y) A.2.2.2.2
/-- what the model has laid out -/
def curS (h : Hp) (r : List SumT) : Prop := rSums h 336 337 338 339 340 0 r
def WLY (a : Nat) : Prop := a = 301 ∨ (335 ≤ a ∧ a ≤ 344)
def LaysP (A : AY) (PA : Nat → APact) (h0 h : Hp) : Prop := Eo WLY h0 h ∧ mSv h (viewY A) ∧ hI h 301 55 = Int32.ofNat A.2.2.2.2.length ∧ hI h 301 56 = Int32.ofNat (cnt A.1 6 360) ∧ hI h 301 57 = Int32.ofNat (sumB A.2.2.2.2) ∧ curS h A.2.2.2.2 ∧ mNow h PA ∧ (∀ k, (k < 52 ∨ 57 < k) → hI h 301 k = hI h0 301 k) ∧ hJ h 301 = hJ h0 301
section YE
variable {X : Ctx} {d : Nat} {Q : Option Value → Hp → Prop} {h0 : Hp}
theorem lays_loop {y : Nat} (hy : y < 2) {w : Nat → Nat} {V : Sv} {n : Nat} (hn12 : n ≤ 12) : ∀ (r : List SumT) (j b : Nat) (h : Hp), Inv h → j + r.length = n → (∀ S, S ∈ r → okSm S) → rSums h 306 307 308 309 310 (12 * y + j) r → hI h 301 55 = Int32.ofNat n → b + 999999 * r.length ≤ 11999988 →
    (Eo WLY h0 h ∧ mSv h V ∧ hI h 301 56 = Int32.ofNat (cnt w 6 360) ∧ hI h 301 57 = Int32.ofNat b ∧ (∀ k, (k < 52 ∨ 57 < k) → hI h 301 k = hI h0 301 k) ∧ hJ h 301 = hJ h0 301) →
    (∀ h', Inv h' → (Eo WLY h0 h' ∧ mSv h' V ∧ hI h' 301 55 = Int32.ofNat n ∧ hI h' 301 56 = Int32.ofNat (cnt w 6 360) ∧ hI h' 301 57 = Int32.ofNat (b + sumB r) ∧ rSums h' 336 337 338 339 340 j r ∧ (∀ i, i < j → hI h' 336 i = hI h 336 i ∧ hI h' 337 i = hI h 337 i ∧ hI h' 338 i = hI h 338 i ∧ hI h' 339 i = hI h 339 i ∧ hI h' 340 i = hI h 340 i) ∧ (∀ k, (k < 52 ∨ 57 < k) → hI h' 301 k = hI h0 301 k) ∧ hJ h' 301 = hJ h0 301) →
      Wp (bV (K X d 187 [.ref 301, .int 0] h') fun h1 => some (none, h1)) Q) →
    Wp (sem (X, K X d) 189 58 [some (.ref 301), some (.int (Int32.ofNat y)), some (.int (Int32.ofNat j))] [] h) Q
  | [], j, b, h, I, e, _, _, hn, _, u, q => by
    obtain ⟨u1, u2, u3, u4, u5, u6⟩ := u
    have e : j = n := by simpa using e
    rw [b_189_58]
    refine w_gI I s_301 ?_
    rw [hn]
    refine w_ift ((i_le (by omega) (by omega)).mpr (by omega)) ?_
    refine w_gS I s_301 ?_
    exact q h I ⟨u1, u2, hn, u3, u4, trivial, fun _ _ => ⟨rfl, rfl, rfl, rfl, rfl⟩, u5, u6⟩
  | S :: r, j, b, h, I, e, o, t, hn, hb, u, q => by
    obtain ⟨u1, u2, u3, u4, u5, u6⟩ := u
    have hj : j < 12 := by simp at e; omega
    have oS := o S (by simp)
    obtain ⟨⟨t1, t2, t3, t4, t5⟩, tr⟩ := t
    have x1 : (12 : Int32) * Int32.ofNat y + Int32.ofNat j = Int32.ofNat (12 * y + j) := i_lin1 12 y j
    rw [b_189_58]
    refine w_gI I s_301 ?_
    rw [hn]
    refine w_iff (fun z => absurd ((i_le (by omega) (by omega)).mp z) (by simp at e; omega)) ?_
    rw [x1, i32_ofNat_succ]
    refine w_gL I s_301 l_301_47 ?_
    refine w_gL I s_301 l_301_4 ?_
    refine w_aIn I s_306 (by omega) (by decide) ?_
    rw [t1]
    refine w_wIn I s_336 (by omega) (by decide) fun I => ?_
    refine w_gL I s_301 l_301_48 ?_
    refine w_gL I s_301 l_301_5 ?_
    refine w_aIn I s_307 (by omega) (by decide) ?_
    rw [sI_other (b := 307) (by decide), t2]
    refine w_wIn I s_337 (by omega) (by decide) fun I => ?_
    refine w_gL I s_301 l_301_49 ?_
    refine w_gL I s_301 l_301_6 ?_
    refine w_aIn I s_308 (by omega) (by decide) ?_
    rw [sI_other (b := 308) (by decide), sI_other (b := 308) (by decide), t3]
    refine w_wIn I s_338 (by omega) (by decide) fun I => ?_
    refine w_gL I s_301 l_301_50 ?_
    refine w_gL I s_301 l_301_7 ?_
    refine w_aIn I s_309 (by omega) (by decide) ?_
    rw [sI_other (b := 309) (by decide), sI_other (b := 309) (by decide), sI_other (b := 309) (by decide), t4]
    refine w_wIn I s_339 (by omega) (by decide) fun I => ?_
    refine w_gL I s_301 l_301_51 ?_
    refine w_gL I s_301 l_301_8 ?_
    refine w_aIn I s_310 (by omega) (by decide) ?_
    rw [sI_other (b := 310) (by decide), sI_other (b := 310) (by decide), sI_other (b := 310) (by decide), sI_other (b := 310) (by decide), t5]
    refine w_wIn I s_340 (by omega) (by decide) fun I => ?_
    refine w_gI I s_301 ?_
    refine w_gL I s_301 l_301_49 ?_
    refine w_aIn I s_338 (by omega) (by decide) ?_
    have g1 : hI (sI (sI (sI (sI (sI h 336 j (Int32.ofNat S.1)) 337 j (Int32.ofNat S.2.1)) 338 j (Int32.ofNat S.2.2.1)) 339 j (Int32.ofNat S.2.2.2.1)) 340 j (Int32.ofNat S.2.2.2.2)) 301 = hI h 301 := by
      rw [sI_other (by decide), sI_other (by decide), sI_other (by decide), sI_other (by decide), sI_other (by decide)]
    have g2 : hI (sI (sI (sI (sI (sI h 336 j (Int32.ofNat S.1)) 337 j (Int32.ofNat S.2.1)) 338 j (Int32.ofNat S.2.2.1)) 339 j (Int32.ofNat S.2.2.2.1)) 340 j (Int32.ofNat S.2.2.2.2)) 338 j = Int32.ofNat S.2.2.1 := by
      rw [sI_other (by decide), sI_other (by decide), hI_sI_self, up1, if_pos rfl]
    rw [g1, u4, g2, i_add]
    refine w_fI I s_301 fun I => ?_
    generalize hg : sI (sI (sI (sI (sI h 336 j (Int32.ofNat S.1)) 337 j (Int32.ofNat S.2.1)) 338 j (Int32.ofNat S.2.2.1)) 339 j (Int32.ofNat S.2.2.2.1)) 340 j (Int32.ofNat S.2.2.2.2) = g at I g1 g2 ⊢
    have Eg : Eo (fun a => 336 ≤ a ∧ a ≤ 340) h g := by
      rw [← hg]
      exact ((((Eo.rf.kI (by omega)).kI (by omega)).kI (by omega)).kI (by omega)).kI (by omega)
    have f301 : ∀ k, k ≠ 57 → hI (sI g 301 57 (Int32.ofNat (b + S.2.2.1))) 301 k = hI h 301 k := fun k hk => by
      rw [hI_sI_self, up1, if_neg hk, g1]
    have fo : ∀ a, a ≠ 301 → ¬ (336 ≤ a ∧ a ≤ 340) → hI (sI g 301 57 (Int32.ofNat (b + S.2.2.1))) a = hI h a := fun a h1 h2 => by
      rw [sI_other h1, Eg.i h2]
    have fS : ∀ a v, a ≠ 301 → hI g a = up1 (hI h a) j v → (hI (sI g 301 57 (Int32.ofNat (b + S.2.2.1))) a j = v ∧ ∀ i, i < j → hI (sI g 301 57 (Int32.ofNat (b + S.2.2.1))) a i = hI h a i) := fun a v h1 h2 => by
      rw [sI_other h1, h2]
      exact ⟨by rw [up1, if_pos rfl], fun i hi => by rw [up1, if_neg (by omega)]⟩
    have w336 := fS 336 (Int32.ofNat S.1) (by decide) (by rw [← hg, sI_other (by decide), sI_other (by decide), sI_other (by decide), sI_other (by decide), hI_sI_self])
    have w337 := fS 337 (Int32.ofNat S.2.1) (by decide) (by rw [← hg, sI_other (by decide), sI_other (by decide), sI_other (by decide), hI_sI_self, sI_other (by decide)])
    have w338 := fS 338 (Int32.ofNat S.2.2.1) (by decide) (by rw [← hg, sI_other (by decide), sI_other (by decide), hI_sI_self, sI_other (by decide), sI_other (by decide)])
    have w339 := fS 339 (Int32.ofNat S.2.2.2.1) (by decide) (by rw [← hg, sI_other (by decide), hI_sI_self, sI_other (by decide), sI_other (by decide), sI_other (by decide)])
    have w340 := fS 340 (Int32.ofNat S.2.2.2.2) (by decide) (by rw [← hg, hI_sI_self, sI_other (by decide), sI_other (by decide), sI_other (by decide), sI_other (by decide)])
    obtain ⟨v1, v2, v3, v4⟩ := u2
    refine lays_loop hy hn12 r (j + 1) (b + S.2.2.1) _ I (by simp at e; omega) (fun T hT => o T (by simp [hT])) (tr.eo (fo _ (by decide) (by decide)) (fo _ (by decide) (by decide)) (fo _ (by decide) (by decide)) (fo _ (by decide) (by decide)) (fo _ (by decide) (by decide))) (by rw [f301 55 (by decide)]; exact hn) (by have := oS.2.2.2.2.1; rw [List.length_cons] at hb; omega)
      ⟨(u1.tr (Eg.wk fun a z => Or.inr (by omega))).kI (Or.inl rfl), ⟨fun k hk => by rw [fo 335 (by decide) (by decide)]; exact v1 k hk, by rw [f301 52 (by decide)]; exact v2, by rw [f301 53 (by decide)]; exact v3, by rw [f301 54 (by decide)]; exact v4⟩, by rw [f301 56 (by decide)]; exact u3, by rw [hI_sI_self, up1, if_pos rfl], fun k hk => by rw [f301 k (by omega)]; exact u5 k hk, by show hJ g 301 = _; rw [Eg.j (by decide)]; exact u6⟩ ?_
    intro h' I' z
    obtain ⟨z1, z2, z3, z4, z5, z6, z7, z8, z9⟩ := z
    refine q h' I' ⟨z1, z2, z3, z4, ?_, ⟨?_, z6⟩, fun i hi => ?_, z8, z9⟩
    · rw [z5]; congr 1; show b + S.2.2.1 + sumB r = b + (S.2.2.1 + sumB r); omega
    · obtain ⟨y1, y2, y3, y4, y5⟩ := z7 j (by omega)
      exact ⟨y1.trans w336.1, y2.trans w337.1, y3.trans w338.1, y4.trans w339.1, y5.trans w340.1⟩
    · obtain ⟨y1, y2, y3, y4, y5⟩ := z7 i (by omega)
      exact ⟨y1.trans (w336.2 i hi), y2.trans (w337.2 i hi), y3.trans (w338.2 i hi), y4.trans (w339.2 i hi), y5.trans (w340.2 i hi)⟩
theorem worded_0 : ∀ (ws : List AWord) (j : Nat) (PA : Nat → APact), worded 0 ws j PA = PA
  | [], _, _ => rfl
  | w :: ws, j, PA => by
    show worded 0 ws (j + 1) (if bt 0 j then _ else PA) = PA
    rw [bt_zero]
    exact worded_0 ws (j + 1) PA
theorem m_189 {y : Nat} {A : AY} {PA : Nat → APact} {ws : List AWord} (I : Inv h0) (hy : y < 2) (hA : mYear h0 y A) (oA : okY A) (hk : mKeep h0 PA) (hw : mWords h0 0 ws) (ho : ∀ w, w ∈ ws → okW w) (hn : hI h0 301 77 = Int32.ofNat ws.length) (hm : ws.length ≤ 6) :
    Wp (K X (d + 2) 189 [.ref 301, .int (Int32.ofNat y)] h0) (VV fun h' => LaysP A PA h0 h') := by
  obtain ⟨a1, a2, a3, a4, a5, a6⟩ := hA
  obtain ⟨o1, o2, o3⟩ := oA
  rw [k_189]
  refine w_gS I s_301 ?_
  refine w_bV I (m_188 I hy a1 o1) (by decide) rfl fun h1 I1 p => ?_
  obtain ⟨p1, p2, p3, p4, p5, p6⟩ := p
  have x2 : (2 : Int32) * Int32.ofNat y = Int32.ofNat (2 * y) := i_mul 2 y
  refine w_gL I1 s_301 l_301_1 ?_
  refine w_aIn I1 s_303 (by omega) (by decide) ?_
  rw [p1.i (by decide), a2]
  refine w_fI I1 s_301 fun I => ?_
  refine w_gL I s_301 l_301_2 ?_
  rw [x2, i32_ofNat_succ]
  refine w_aIn I s_304 (by omega) (by decide) ?_
  rw [sI_other (b := 304) (by decide), p1.i (show ¬ (304 = 301 ∨ 304 = 335) by decide), a3]
  refine w_fI I s_301 fun I => ?_
  refine w_gL I s_301 l_301_2 ?_
  refine w_aIn I s_304 (by omega) (by decide) ?_
  rw [sI_other (b := 304) (by decide), sI_other (b := 304) (by decide), p1.i (show ¬ (304 = 301 ∨ 304 = 335) by decide), a4]
  refine w_fI I s_301 fun I => ?_
  refine w_gL I s_301 l_301_3 ?_
  refine w_aIn I s_305 (by omega) (by decide) ?_
  rw [sI_other (b := 305) (by decide), sI_other (b := 305) (by decide), sI_other (b := 305) (by decide), p1.i (show ¬ (305 = 301 ∨ 305 = 335) by decide), a5]
  refine w_fI I s_301 fun I => ?_
  refine w_fI I s_301 fun I => ?_
  generalize hg : sI (sI (sI (sI (sI h1 301 52 A.2.1) 301 53 A.2.2.1) 301 54 A.2.2.2.1) 301 55 (Int32.ofNat A.2.2.2.2.length)) 301 57 0 = g at I ⊢
  have Eg : Eo (fun a => a = 301) h1 g := by
    rw [← hg]
    iterate 5 refine Eo.kI ?_ rfl
    exact Eo.rf
  have fg : hI g 301 = up1 (up1 (up1 (up1 (up1 (hI h1 301) 52 A.2.1) 53 A.2.2.1) 54 A.2.2.2.1) 55 (Int32.ofNat A.2.2.2.2.length)) 57 0 := by
    rw [← hg]; simp only [hI_sI_self]
  have fo : ∀ a, a ≠ 301 → a ≠ 335 → hI g a = hI h0 a := fun a h1 h2 => by rw [Eg.i h1, p1.i (by rintro (z | z) <;> omega)]
  have B := sumB_le o3
  refine lays_loop (w := A.1) (V := viewY A) hy o2 A.2.2.2.2 0 0 g I (by omega) o3 (a6.eo (fo _ (by decide) (by decide)) (fo _ (by decide) (by decide)) (fo _ (by decide) (by decide)) (fo _ (by decide) (by decide)) (fo _ (by decide) (by decide))) (by rw [fg]; rfl) (by omega)
    ⟨(p1.wk fun a z => by unfold WLY; rcases z with z | z <;> omega).tr (Eg.wk fun a z => Or.inl z), ⟨fun k hk => by rw [Eg.i (by decide)]; exact p6 k hk, by rw [fg]; rfl, by rw [fg]; rfl, by rw [fg]; rfl⟩, by rw [fg]; exact p5, by rw [fg]; rfl, fun k hk => ?_, by rw [← hg]; show hJ h1 301 = _; rw [p3]⟩ ?_
  · rw [fg]
    simp only [up1]
    rw [if_neg (by omega), if_neg (by omega), if_neg (by omega), if_neg (by omega), if_neg (by omega)]
    exact p4 k (by omega)
  · intro h' I' z
    obtain ⟨z1, z2, z3, z4, z5, z6, z7, z8, z9⟩ := z
    refine w_bV I' (m_187 (PA := PA) (ws := ws) I' (hk.eo (z1.i (by unfold WLY; omega)) (z1.i (by unfold WLY; omega)) (z1.i (by unfold WLY; omega)) (z1.i (by unfold WLY; omega))) (hw.eo (z1.i (by unfold WLY; omega)) (z1.i (by unfold WLY; omega)) (z1.i (by unfold WLY; omega))) ho (by rw [z8 77 (by omega)]; exact hn) hm) (by decide) rfl fun h2 I2 t => ?_
    obtain ⟨t1, t2⟩ := t
    rw [worded_0] at t2
    refine Wp.retv ⟨z1.tr (t1.wk fun a z => Or.inr (by unfold W4 at z; omega)), z2.eo (t1.i (by unfold W4; omega)) (t1.i (by unfold W4; omega)), ?_, ?_, ?_, ?_, t2, fun k hk => ?_, ?_⟩
    · rw [t1.i (by unfold W4; omega)]; exact z3
    · rw [t1.i (by unfold W4; omega)]; exact z4
    · rw [t1.i (by unfold W4; omega), z5, Nat.zero_add]
    · exact z6.eo (t1.i (by unfold W4; omega)) (t1.i (by unfold W4; omega)) (t1.i (by unfold W4; omega)) (t1.i (by unfold W4; omega)) (t1.i (by unfold W4; omega))
    · rw [t1.i (by unfold W4; omega)]; exact z8 k hk
    · rw [t1.j (by unfold W4; omega)]; exact z9
end YE
