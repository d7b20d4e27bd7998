/-! LAYSPACTS: the model's PACTS as they are told, and with WORDS -/
def pmOf (p : Nat) : Nat := 6 * prLo p + prHi p
theorem pmOf_lt : ∀ p, p < 15 → pmOf p < 36 := by decide +kernel
theorem pmOf_inj : ∀ p, p < 15 → ∀ q, q < 15 → pmOf p = pmOf q → p = q := by decide +kernel
theorem pm_pr : ∀ a, a < 6 → ∀ b, b < 6 → a ≠ b → pm a b = pmOf (pr a b) := by decide +kernel
def mTrm (h : Hp) (io it ir il p : Nat) (A : APact) : Prop := (∀ k, k < 6 → bt (hI h io p) k = A.2.1 k) ∧ (∀ k, k < 6 → (A.2.2.1 k = 100 ∧ hI h it (6 * p + k) = -1) ∨ hI h it (6 * p + k) = Int32.ofNat (A.2.2.1 k)) ∧
  ((A.2.2.2.1 = 0 ∧ hI h ir p = -1) ∨ (A.2.2.2.1 ≠ 0 ∧ hI h ir p = Int32.ofNat A.2.2.2.1)) ∧ hI h il p = bi A.2.2.2.2
def mKeep (h : Hp) (PA : Nat → APact) : Prop := (∀ p, p < 15 → mTrm h 328 329 330 331 (pmOf p) (PA p)) ∧ ∀ p, p < 37 → okN .boolean (hI h 331 p)
def mNow (h : Hp) (PA : Nat → APact) : Prop := ∀ p, p < 15 → mTrm h 341 342 343 344 (pmOf p) (PA p)
theorem mNow.eo {h h' : Hp} {PA : Nat → APact} (q : mNow h PA) (e1 : hI h' 341 = hI h 341) (e2 : hI h' 342 = hI h 342) (e3 : hI h' 343 = hI h 343) (e4 : hI h' 344 = hI h 344) : mNow h' PA := fun p hp => by
  have := q p hp
  unfold mTrm at this ⊢
  rw [e1, e2, e3, e4]; exact this
theorem mKeep.eo {h h' : Hp} {PA : Nat → APact} (q : mKeep h PA) (e1 : hI h' 328 = hI h 328) (e2 : hI h' 329 = hI h 329) (e3 : hI h' 330 = hI h 330) (e4 : hI h' 331 = hI h 331) : mKeep h' PA := ⟨fun p hp => by
  have := q.1 p hp
  unfold mTrm at this ⊢
  rw [e1, e2, e3, e4]; exact this, fun p hp => by rw [e4]; exact q.2 p hp⟩
abbrev AWord : Type := Nat × Nat × Int32
def wordA (A : APact) (s k : Nat) : APact := if s = 0 then (A.1, A.2.1, A.2.2.1, A.2.2.2.1, true) else if s = 1 then (A.1, (fun j => A.2.1 j || decide (j = k)), A.2.2) else if s = 2 then (A.1, A.2.1, (fun j => if j = k then 0 else A.2.2.1 j), A.2.2.2) else (A.1, A.2.1, A.2.2.1, (if s = 3 then 1 else 2), A.2.2.2.2)
def updP (PA : Nat → APact) (p : Nat) (A : APact) : Nat → APact := fun q => if q = p then A else PA q
def kd (k : Int32) : Nat := k.toNatClampNeg
def worded (set : Int32) : List AWord → Nat → (Nat → APact) → (Nat → APact)
  | [], _, PA => PA
  | w :: ws, j, PA => worded set ws (j + 1) (if bt set j then updP PA w.1 (wordA (PA w.1) w.2.1 (kd w.2.2)) else PA)
def okW (w : AWord) : Prop := w.1 < 15 ∧ w.2.1 ≤ 4 ∧ (w.2.1 = 1 ∨ w.2.1 = 2 → ∃ k, k < 6 ∧ w.2.2 = Int32.ofNat k)
def mWords (h : Hp) : Nat → List AWord → Prop
  | _, [] => True
  | j, w :: ws => (hI h 356 j = Int32.ofNat (pmOf w.1) ∧ hI h 357 j = Int32.ofNat w.2.1 ∧ hI h 358 j = w.2.2) ∧ mWords h (j + 1) ws
theorem mWords.eo {h h' : Hp} (e1 : hI h' 356 = hI h 356) (e2 : hI h' 357 = hI h 357) (e3 : hI h' 358 = hI h 358) : ∀ {ws : List AWord} {j : Nat}, mWords h j ws → mWords h' j ws
  | [], _, _ => trivial
  | _ :: _, _, q => ⟨by rw [e1, e2, e3]; exact q.1, mWords.eo e1 e2 e3 q.2⟩
def W4 (a : Nat) : Prop := 341 ≤ a ∧ a ≤ 344
theorem kd_of {k : Nat} (h : k < 6) : kd (Int32.ofNat k) = k := i32_ofNat_clamp (by omega)
section LP
variable {X : Ctx} {d : Nat} {Q : Option Value → Hp → Prop} {h0 : Hp}
def CpP (p : Nat) (h0 h : Hp) : Prop := Eo W4 h0 h ∧ ∀ q, q < p → hI h 341 q = hI h0 328 q ∧ hI h 343 q = hI h0 330 q ∧ hI h 344 q = hI h0 331 q ∧ ∀ k, k < 6 → hI h 342 (6 * q + k) = hI h0 329 (6 * q + k)
theorem cp46 {v1 : Option Value} {p : Nat} (hp : p < 36) : ∀ (c k : Nat) (h : Hp), k + c = 6 → Inv h → CpP p h0 h → (hI h 341 p = hI h0 328 p ∧ hI h 343 p = hI h0 330 p ∧ hI h 344 p = hI h0 331 p ∧ ∀ j, j < k → hI h 342 (6 * p + j) = hI h0 329 (6 * p + j)) →
    (∀ h', Inv h' → CpP (p + 1) h0 h' → Wp (sem (X, K X d) 187 2 [some (.ref 301), v1, some (.int (Int32.ofNat (p + 1))), some (.int 6)] [] h') Q) →
    Wp (sem (X, K X d) 187 46 [some (.ref 301), v1, some (.int (Int32.ofNat p)), some (.int (Int32.ofNat k))] [] h) Q
  | 0, k, h, e, I, u, v, q => by
    have e : k = 6 := by omega
    subst e
    rw [b_187_46]
    refine w_ift ((i_le (m := 6) (by omega) (by omega)).mpr (by omega)) ?_
    rw [i32_ofNat_succ]
    refine q h I ⟨u.1, fun r hr => ?_⟩
    by_cases y : r = p
    · rw [y]; exact v
    · exact u.2 r (by omega)
  | c + 1, k, h, e, I, u, v, q => by
    have hk : k < 6 := by omega
    have x1 : (6 : Int32) * Int32.ofNat p + Int32.ofNat k = Int32.ofNat (6 * p + k) := i_lin1 6 p k
    rw [b_187_46]
    refine w_iff (fun z => absurd ((i_le (m := 6) (by omega) (by omega)).mp z) (by omega)) ?_
    rw [x1, i32_ofNat_succ]
    refine w_gL I s_301 l_301_59 ?_
    refine w_gL I s_301 l_301_27 ?_
    refine w_aIn I s_329 (by omega) (by decide) ?_
    refine w_wIn I s_342 (by omega) (by decide) fun I1 => ?_
    obtain ⟨v1, v2, v3, v4⟩ := v
    rw [u.1.i (show ¬ W4 329 by unfold W4; omega)] at I1 ⊢
    have ne : ∀ {a b : Nat}, b ≠ 342 → hI (sI h 342 (6 * p + k) (hI h0 329 (6 * p + k))) b a = hI h b a := fun hb => by rw [sI_other hb]
    refine cp46 hp c (k + 1) _ (by omega) I1 ⟨u.1.kI (by unfold W4; omega), fun r hr => ?_⟩ ⟨by rw [ne (by decide)]; exact v1, by rw [ne (by decide)]; exact v2, by rw [ne (by decide)]; exact v3, fun j hj => ?_⟩ q
    · obtain ⟨w1, w2, w3, w4⟩ := u.2 r hr
      refine ⟨by rw [ne (by decide)]; exact w1, by rw [ne (by decide)]; exact w2, by rw [ne (by decide)]; exact w3, fun j hj => ?_⟩
      rw [hI_sI_self, up1, if_neg (by omega)]; exact w4 j hj
    · rw [hI_sI_self, up1]
      by_cases y : j = k
      · rw [if_pos (by omega), y]
      · rw [if_neg (by omega)]; exact v4 j (by omega)
theorem cp2 {v1 : Option Value} (hb : ∀ p, p < 37 → okN .boolean (hI h0 331 p)) : ∀ (c p : Nat) (h : Hp) (v3 : Option Value), p + c = 36 → Inv h → CpP p h0 h →
    (∀ h' v3, Inv h' → CpP 36 h0 h' → Wp (sem (X, K X d) 187 88 [some (.ref 301), v1, some (.int 0), v3] [] h') Q) →
    Wp (sem (X, K X d) 187 2 [some (.ref 301), v1, some (.int (Int32.ofNat p)), v3] [] h) Q
  | 0, p, h, v3, e, I, u, q => by
    have e : p = 36 := by omega
    subst e
    rw [b_187_2]
    exact w_ift ((i_le (m := 36) (by omega) (by omega)).mpr (by omega)) (q h v3 I u)
  | c + 1, p, h, v3, e, I, u, q => by
    have hp : p < 36 := by omega
    rw [b_187_2]
    refine w_iff (fun z => absurd ((i_le (m := 36) (by omega) (by omega)).mp z) (by omega)) ?_
    refine w_gL I s_301 l_301_58 ?_
    refine w_gL I s_301 l_301_26 ?_
    refine w_aIn I s_328 (by omega) (by decide) ?_
    refine w_wIn I s_341 (by omega) (by decide) fun I => ?_
    refine w_gL I s_301 l_301_60 ?_
    refine w_gL I s_301 l_301_28 ?_
    refine w_aIn I s_330 (by omega) (by decide) ?_
    refine w_wIn I s_343 (by omega) (by decide) fun I => ?_
    refine w_gL I s_301 l_301_61 ?_
    refine w_gL I s_301 l_301_29 ?_
    refine w_aZn I s_331 (by omega) (by decide) ?_
    have E := u.1
    simp only [sI_other (h := h) (b := 330) (a := 341) (by decide), sI_other (h := h) (b := 331) (a := 341) (by decide), hI_sI_ne (b := 331) (a := 343) (by decide), E.i (show ¬ W4 328 by unfold W4; omega), E.i (show ¬ W4 330 by unfold W4; omega), E.i (show ¬ W4 331 by unfold W4; omega)] at I ⊢
    refine w_wZn I s_344 (by omega) (by decide) (hb p (by omega)) fun I => ?_
    refine cp46 hp 6 0 _ (by omega) I ⟨((E.kI (by unfold W4; omega)).kI (by unfold W4; omega)).kI (by unfold W4; omega), fun r hr => ?_⟩ ⟨?_, ?_, ?_, fun j hj => absurd hj (by omega)⟩ fun h' I' u' => cp2 hb c (p + 1) h' _ (by omega) I' u' q
    · obtain ⟨w1, w2, w3, w4⟩ := u.2 r hr
      refine ⟨?_, ?_, ?_, fun j hj => ?_⟩
      · rw [sI_other (by decide), sI_other (by decide), hI_sI_self, up1, if_neg (by omega)]; exact w1
      · rw [sI_other (by decide), hI_sI_self, up1, if_neg (by omega), sI_other (by decide)]; exact w2
      · rw [hI_sI_self, up1, if_neg (by omega), sI_other (by decide), sI_other (by decide)]; exact w3
      · rw [sI_other (by decide), sI_other (by decide), sI_other (by decide)]; exact w4 j hj
    · rw [sI_other (by decide), sI_other (by decide), hI_sI_self, up1, if_pos rfl]
    · rw [sI_other (by decide), hI_sI_self, up1, if_pos rfl]
    · rw [hI_sI_self, up1, if_pos rfl]
/-- a WORD -/
theorem word184 {v1 : Option Value} {h : Hp} {p s w : Nat} (I : Inv h) (hw : w < 6) (hs : s ≤ 4) (hp : p < 36) (q2 : hI h 357 w = Int32.ofNat s)
    (q : ∀ h' v3, Inv h' → Eo (fun a => a = 343) h h' → (∀ r, r ≠ p → hI h' 343 r = hI h 343 r) → hI h' 343 p = (if 2 < s then (if s = 3 then 1 else 2) else hI h 343 p) → Wp (sem (X, K X d) 187 88 [some (.ref 301), v1, some (.int (Int32.ofNat (w + 1))), v3] [] h') Q) :
    Wp (sem (X, K X d) 187 184 [some (.ref 301), v1, some (.int (Int32.ofNat w)), some (.int (Int32.ofNat p))] [] h) Q := by
  rw [b_187_184]
  refine w_gL I s_301 l_301_82 ?_
  refine w_aIn I s_357 (by omega) (by decide) ?_
  rw [q2, i32_ofNat_succ]
  refine w_if (fun c => ?_) (fun c => ?_)
  · have c := (i_le (n := 2) (by omega) (by omega)).mp c
    exact q h _ I Eo.rf (fun _ _ => rfl) (by rw [if_neg (by omega)])
  · have c : ¬ s ≤ 2 := fun z => c ((i_le (n := 2) (by omega) (by omega)).mpr z)
    refine w_gL I s_301 l_301_60 ?_
    refine w_gL I s_301 l_301_82 ?_
    refine w_aIn I s_357 (by omega) (by decide) ?_
    rw [q2]
    refine w_if (fun c2 => ?_) (fun c2 => ?_)
    · have c2 : s ≠ 3 := fun z => c2 (by rw [z]; rfl)
      refine w_wIn I s_343 hp (by decide) fun I => ?_
      refine q _ _ I (Eo.rf.kI rfl) (fun r hr => by rw [hI_sI_self, up1, if_neg hr]) (by rw [hI_sI_self, up1, if_pos rfl, if_pos (by omega), if_neg c2])
    · have c2 : s = 3 := (i_eq (n := 3) (by omega) (by decide)).mp (Classical.byContradiction c2)
      refine w_wIn I s_343 hp (by decide) fun I => ?_
      refine q _ _ I (Eo.rf.kI rfl) (fun r hr => by rw [hI_sI_self, up1, if_neg hr]) (by rw [hI_sI_self, up1, if_pos rfl, if_pos (by omega), if_pos c2])
theorem word157 {v1 : Option Value} {h : Hp} {p s w k : Nat} (I : Inv h) (hw : w < 6) (hs : s ≤ 4) (hp : p < 36) (q2 : hI h 357 w = Int32.ofNat s) (q3 : s = 2 → k < 6 ∧ hI h 358 w = Int32.ofNat k)
    (q : ∀ h' v3, Inv h' → Eo (fun a => a = 343 ∨ a = 342) h h' → (∀ r, r ≠ p → hI h' 343 r = hI h 343 r) → hI h' 343 p = (if 2 < s then (if s = 3 then 1 else 2) else hI h 343 p) → (∀ r, (s = 2 → r ≠ 6 * p + k) → hI h' 342 r = hI h 342 r) → (s = 2 → hI h' 342 (6 * p + k) = 0) → Wp (sem (X, K X d) 187 88 [some (.ref 301), v1, some (.int (Int32.ofNat (w + 1))), v3] [] h') Q) :
    Wp (sem (X, K X d) 187 157 [some (.ref 301), v1, some (.int (Int32.ofNat w)), some (.int (Int32.ofNat p))] [] h) Q := by
  rw [b_187_157]
  refine w_gL I s_301 l_301_82 ?_
  refine w_aIn I s_357 (by omega) (by decide) ?_
  rw [q2]
  refine w_if (fun c => ?_) (fun c => ?_)
  · have c : s ≠ 2 := fun z => c (by rw [z]; rfl)
    exact word184 I hw hs hp q2 fun h' v3 I' E e1 e2 => q h' v3 I' (E.wk fun a z => Or.inl z) e1 e2 (fun r _ => by rw [E.i (by decide)]) (fun z => absurd z c)
  · have c : s = 2 := (i_eq (n := 2) (by omega) (by decide)).mp (Classical.byContradiction c)
    obtain ⟨k6, q4⟩ := q3 c
    have x1 : (6 : Int32) * Int32.ofNat p + Int32.ofNat k = Int32.ofNat (6 * p + k) := i_lin1 6 p k
    refine w_gL I s_301 l_301_59 ?_
    refine w_gL I s_301 l_301_83 ?_
    refine w_aIn I s_358 (by omega) (by decide) ?_
    rw [q4, x1]
    refine w_wIn I s_342 (by omega) (by decide) fun I => ?_
    refine word184 I hw hs hp (by rw [sI_other (by decide)]; exact q2) fun h' v3 I' E e1 e2 => ?_
    have E1 : Eo (fun a => a = 343 ∨ a = 342) h (sI h 342 (6 * p + k) 0) := Eo.rf.kI (Or.inr rfl)
    refine q h' v3 I' (E1.tr (E.wk fun a z => Or.inl z)) (fun r hr => ?_) ?_ (fun r hr => ?_) (fun _ => ?_)
    · rw [e1 r hr, sI_other (by decide)]
    · rw [e2, sI_other (by decide)]
    · rw [E.i (by decide), hI_sI_self, up1, if_neg (hr c)]
    · rw [E.i (by decide), hI_sI_self, up1, if_pos rfl]
theorem word130 {v1 : Option Value} {h : Hp} {p s w k : Nat} (I : Inv h) (hw : w < 6) (hs : s ≤ 4) (hp : p < 36) (q2 : hI h 357 w = Int32.ofNat s) (q3 : s = 1 ∨ s = 2 → k < 6 ∧ hI h 358 w = Int32.ofNat k)
    (q : ∀ h' v3, Inv h' → Eo (fun a => a = 343 ∨ a = 342 ∨ a = 341) h h' → (∀ r, r ≠ p → hI h' 343 r = hI h 343 r) → hI h' 343 p = (if 2 < s then (if s = 3 then 1 else 2) else hI h 343 p) → (∀ r, (s = 2 → r ≠ 6 * p + k) → hI h' 342 r = hI h 342 r) → (s = 2 → hI h' 342 (6 * p + k) = 0) →
      (∀ r, r ≠ p → hI h' 341 r = hI h 341 r) → (∀ j, j < 32 → bt (hI h' 341 p) j = (bt (hI h 341 p) j || (decide (s = 1) && decide (j = k)))) → Wp (sem (X, K X d) 187 88 [some (.ref 301), v1, some (.int (Int32.ofNat (w + 1))), v3] [] h') Q) :
    Wp (sem (X, K X d) 187 130 [some (.ref 301), v1, some (.int (Int32.ofNat w)), some (.int (Int32.ofNat p))] [] h) Q := by
  rw [b_187_130]
  refine w_gL I s_301 l_301_82 ?_
  refine w_aIn I s_357 (by omega) (by decide) ?_
  rw [q2]
  refine w_if (fun c => ?_) (fun c => ?_)
  · have c : s ≠ 1 := fun z => c (by rw [z]; rfl)
    refine word157 (k := k) I hw hs hp q2 (fun z => q3 (Or.inr z)) fun h' v3 I' E e1 e2 e3 e4 => q h' v3 I' (E.wk fun a z => by rcases z with z | z; exact Or.inl z; exact Or.inr (Or.inl z)) e1 e2 e3 e4 (fun r _ => by rw [E.i (by decide)]) (fun j _ => by rw [E.i (by decide), decide_eq_false c, Bool.false_and, Bool.or_false])
  · have c : s = 1 := (i_eq (n := 1) (by omega) (by decide)).mp (Classical.byContradiction c)
    obtain ⟨k6, q4⟩ := q3 (Or.inl c)
    refine w_gL I s_301 l_301_58 ?_
    refine w_aIn I s_341 (by omega) (by decide) ?_
    refine w_gL I s_301 l_301_83 ?_
    refine w_aIn I s_358 (by omega) (by decide) ?_
    rw [q4]
    refine w_wIn I s_341 (by omega) (by decide) fun I => ?_
    refine word157 (k := k) I hw hs hp (by rw [sI_other (by decide)]; exact q2) (fun z => absurd z (by omega)) fun h' v3 I' E e1 e2 e3 e4 => ?_
    have E1 : Eo (fun a => a = 343 ∨ a = 342 ∨ a = 341) h (sI h 341 p (hI h 341 p ||| (1 <<< (Int32.ofNat k &&& 31)))) := Eo.rf.kI (Or.inr (Or.inr rfl))
    refine q h' v3 I' (E1.tr (E.wk fun a z => by rcases z with z | z; exact Or.inl z; exact Or.inr (Or.inl z))) (fun r hr => ?_) ?_ (fun r hr => ?_) (fun z => absurd z (by omega)) (fun r hr => ?_) (fun j hj => ?_)
    · rw [e1 r hr, sI_other (by decide)]
    · rw [e2, sI_other (by decide)]
    · rw [e3 r hr, sI_other (by decide)]
    · rw [E.i (by decide), hI_sI_self, up1, if_neg hr]
    · rw [E.i (by decide), hI_sI_self, up1, if_pos rfl, bt_set (by omega) hj, decide_eq_true c, Bool.true_and]
end LP
