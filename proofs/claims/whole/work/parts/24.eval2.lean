/-! RUN AND COMESTO -/
/-- all stands but what W names -/
def Eo (W : Nat → Prop) (h h' : Hp) : Prop := ∀ a, ¬ W a → hI h' a = hI h a ∧ hJ h' a = hJ h a ∧ hP h' a = hP h a
theorem Eo.rf {W : Nat → Prop} {h : Hp} : Eo W h h := fun _ _ => ⟨rfl, rfl, rfl⟩
theorem Eo.tr {W : Nat → Prop} {h h' h'' : Hp} (a : Eo W h h') (b : Eo W h' h'') : Eo W h h'' := fun c hc => ⟨(b c hc).1.trans (a c hc).1, (b c hc).2.1.trans (a c hc).2.1, (b c hc).2.2.trans (a c hc).2.2⟩
theorem Eo.wk {W W' : Nat → Prop} {h h' : Hp} (a : Eo W h h') (m : ∀ x, W x → W' x) : Eo W' h h' := fun c hc => a c fun z => hc (m c z)
theorem Eo.kI {W : Nat → Prop} {h h' : Hp} (e : Eo W h h') {a k : Nat} {v : Int32} (w : W a) : Eo W h (sI h' a k v) := fun c hc => by
  have hne : c ≠ a := fun z => hc (z ▸ w)
  exact ⟨(hI_sI_ne hne).trans (e c hc).1, (e c hc).2.1, (e c hc).2.2⟩
theorem Eo.kJ {W : Nat → Prop} {h h' : Hp} (e : Eo W h h') {a k : Nat} {v : Int64} (w : W a) : Eo W h (sJ h' a k v) := fun c hc => by
  have hne : c ≠ a := fun z => hc (z ▸ w)
  exact ⟨(e c hc).1, (hJ_sJ_ne hne).trans (e c hc).2.1, (e c hc).2.2⟩
theorem Eo.kP {W : Nat → Prop} {h h' : Hp} (e : Eo W h h') {a k : Nat} {v : Option Nat} (w : W a) : Eo W h (sP h' a k v) := fun c hc => by
  have hne : c ≠ a := fun z => hc (z ▸ w)
  exact ⟨(e c hc).1, (e c hc).2.1, (hP_sP_ne hne).trans (e c hc).2.2⟩
theorem Eo.kRI {W : Nat → Prop} {h h' : Hp} (e : Eo W h h') {a : Nat} {f : Nat → Int32} (w : W a) : Eo W h (rI h' a f) := fun c hc => by
  have hne : c ≠ a := fun z => hc (z ▸ w)
  exact ⟨(show hI (rI h' a f) c = hI h' c from if_neg hne).trans (e c hc).1, (e c hc).2.1, (e c hc).2.2⟩
theorem Eo.kRJ {W : Nat → Prop} {h h' : Hp} (e : Eo W h h') {a : Nat} {f : Nat → Int64} (w : W a) : Eo W h (rJ h' a f) := fun c hc => by
  have hne : c ≠ a := fun z => hc (z ▸ w)
  exact ⟨(e c hc).1, (show hJ (rJ h' a f) c = hJ h' c from if_neg hne).trans (e c hc).2.1, (e c hc).2.2⟩
theorem Eo.i {W : Nat → Prop} {h h' : Hp} (e : Eo W h h') {a : Nat} (w : ¬ W a) : hI h' a = hI h a := (e a w).1
theorem Eo.j {W : Nat → Prop} {h h' : Hp} (e : Eo W h h') {a : Nat} (w : ¬ W a) : hJ h' a = hJ h a := (e a w).2.1
theorem Eo.p {W : Nat → Prop} {h h' : Hp} (e : Eo W h h') {a : Nat} (w : ¬ W a) : hP h' a = hP h a := (e a w).2.2
def codeAt (h : Hp) (c i : Nat) (cs : List Int32) : Prop := ∀ j, j < cs.length → hI h c (i + j) = cs.getD j 0
theorem codeAt.hd {h : Hp} {c i : Nat} {x : Int32} {cs : List Int32} (q : codeAt h c i (x :: cs)) : hI h c i = x := q 0 (by simp)
theorem codeAt.tl {h : Hp} {c i : Nat} {x : Int32} {cs : List Int32} (q : codeAt h c i (x :: cs)) : codeAt h c (i + 1) cs := fun j hj => by
  have := q (j + 1) (by simp; omega)
  rw [List.getD_cons_succ] at this
  rw [← this]
  congr 1
  omega
theorem codeAt.eo {h h' : Hp} {c i : Nat} {cs : List Int32} (q : codeAt h c i cs) (e : hI h' c = hI h c) : codeAt h' c i cs := fun j hj => by rw [e]; exact q j hj
theorem sI_other {h : Hp} {a b k : Nat} {v : Int32} (e : b ≠ a) : hI (sI h a k v) b = hI h b := hI_sI_ne e
theorem cod_ask : ∀ s, s < 9 → 1 ≤ s → -9 < cod s ∧ cod s < 0 ∧ -1 - cod s = Int32.ofNat (s - 1) := by decide +kernel
theorem cod_isJ {s : Nat} (h : isJ s) : cod s ≤ -9 ∧ cod s ≠ -18 ∧ s ≠ 0 ∧ s ≠ 12 ∧ s ≠ 16 ∧ ¬ s ≤ 8 ∧ s ≤ 18 := by
  rcases h with rfl | rfl | rfl | rfl | rfl | rfl | rfl | rfl <;> decide +kernel
section RUN
variable {X : Ctx} {d : Nat} {Q : Option Value → Hp → Prop} {L F P t : Nat} {v1 : Option Value}
theorem e_loop (hL : IsLaw L) (hF : SH F = (50, 8)) (hP : SH P = (50, 64)) (ht : t ≤ 600) {f : Nat → Int32} : ∀ (ops : List Op) (i : Nat) (st : List Int32) (h : Hp) (v7 : Option Value), Inv h → okS ops st.length → st.length ≤ 60 → codeAt h (L + 1) i (opsC ops) → i + (opsC ops).length = t → stk h P st → (∀ k, k < 8 → hI h F k = f k) →
    (∀ h', Inv h' → Eo (fun a => a = P) h h' → Q (some (.int ((ev f ops st).getLastD 0))) h') →
    Wp (sem (X, K X (d + 1)) 9 6 [some (.ref L), v1, some (.int (Int32.ofNat t)), some (.ref F), some (.ref P), some (.int (Int32.ofNat st.length)), some (.int (Int32.ofNat i)), v7] [] h) Q
  | [], i, st, h, v7, I, k, hn, _, e, hs, _, q => by
    have e : i = t := by simpa [opsC] using e
    have k : 0 < st.length := k
    rw [b_9_6]
    refine w_ift ((i_le (by omega) (by omega)).mpr (by omega)) ?_
    refine w_iff (fun z => absurd ((i_le (n := 0) (by omega) (by omega)).mp z) (by omega)) ?_
    refine w_aIn (m := 0) I hP (by decide) (by decide) ?_
    rw [stk_bot hs k]
    exact Wp.ret (q h I Eo.rf)
  | o :: r, i, st, h, v7, I, k, hn, hc, e, hs, hf, q => by
    have hPL : L + 1 ≠ P := fun z => by have := hL.s1; rw [z, hP] at this; cases this
    have hFP : F ≠ P := fun z => by rw [z, hP] at hF; cases hF
    have kl := ev1_len (f := f) k.1
    have k2 := k.2
    rw [← kl] at k2
    have ecs : opsC (o :: r) = opC o ++ opsC r := by simp [opsC]
    rw [ecs] at hc e
    have fin : ∀ {h1 : Hp}, Eo (fun a => a = P) h h1 → ∀ h', Inv h' → Eo (fun a => a = P) h1 h' → Q (some (.int ((ev f r (ev1 f o st)).getLastD 0))) h' := fun e1 h' I' e2 => q h' I' (e1.tr e2)
    have hf2 : ∀ {h1 : Hp}, Eo (fun a => a = P) h h1 → ∀ k, k < 8 → hI h1 F k = f k := fun e1 k hk => by rw [e1.i hFP]; exact hf k hk
    have hl : (opC o ++ opsC r).length = (opC o).length + (opsC r).length := List.length_append
    rw [hl] at e
    rcases k.1 with ⟨e1, e2, e3⟩ | ⟨e1, e2, e3⟩ | ⟨e1, e2, e3, e4⟩ | ⟨e1, e2⟩ | ⟨e1, e2⟩
    · have eo : opC o = [o.2] := by simp [opC, e1]
      have ee : ev1 f o st = o.2 :: st := by simp [ev1, e1]
      rw [eo] at hc e
      refine e_push I hL hF hP ht (by simp at e; omega) (by omega) hc.hd (Int32.lt_of_lt_of_le (by decide) (Int32.not_lt.mp e2)) (fun z => absurd z e2) ?_
      rw [if_neg e2]
      intro I1
      have E1 : Eo (fun a => a = P) h (sI h P st.length o.2) := Eo.rf.kI rfl
      rw [ee] at k2 kl
      refine e_loop hL hF hP ht r (i + 1) (o.2 :: st) _ _ I1 k2 (by simp; omega) ((hc.tl).eo (sI_other hPL)) (by simp at e; omega) (stk_push hs _) (hf2 E1) ?_
      rw [← ee]
      exact fin E1
    · obtain ⟨c1, c2, c3⟩ := cod_ask o.1 (by omega) e1
      have h0 : ¬ o.1 = 0 := by omega
      have h12 : ¬ o.1 = 12 := by omega
      have eo : opC o = [cod o.1] := by simp [opC, h0, h12]
      have ee : ev1 f o st = f (o.1 - 1) :: st := by simp [ev1, h0, e2]
      rw [eo] at hc e
      refine e_push I hL hF hP ht (by simp at e; omega) (by omega) hc.hd c1 (fun _ => ⟨o.1 - 1, by omega, c3⟩) ?_
      rw [if_pos c2, c3, i32_ofNat_clamp (by omega), hf _ (by omega)]
      intro I1
      have E1 : Eo (fun a => a = P) h (sI h P st.length (f (o.1 - 1))) := Eo.rf.kI rfl
      rw [ee] at k2 kl
      refine e_loop hL hF hP ht r (i + 1) (f (o.1 - 1) :: st) _ _ I1 k2 (by simp; omega) ((hc.tl).eo (sI_other hPL)) (by simp at e; omega) (stk_push hs _) (hf2 E1) ?_
      rw [← ee]
      exact fin E1
    · have eo : opC o = [o.2, -12] := by simp [opC, e1]
      cases st with
      | nil => exact absurd e2 (by decide)
      | cons a st =>
      have ee : ev1 f o (a :: st) = (a / o.2) :: st := by simp [ev1, e1]
      rw [eo] at hc e
      have e5 : ¬ o.2 < 0 := Int32.not_lt.mpr (Int32.le_of_lt e4)
      refine e_push I hL hF hP ht (by simp at e; omega) (by omega) hc.hd (Int32.lt_of_lt_of_le (by decide) (Int32.not_lt.mp e5)) (fun z => absurd z e5) ?_
      rw [if_neg e5]
      intro I1
      have E1 : Eo (fun x => x = P) h (sI h P (a :: st).length o.2) := Eo.rf.kI rfl
      have hs1 : stk (sI h P (a :: st).length o.2) P (o.2 :: a :: st) := stk_push hs _
      have t1 : hI (sI h P (a :: st).length o.2) P (st.length + 1) = o.2 := stk_top hs1
      have t2 : hI (sI h P (a :: st).length o.2) P st.length = a := stk_top (stk_tail hs1)
      have hc1 : codeAt (sI h P (a :: st).length o.2) (L + 1) (i + 1) (-12 :: opsC r) := (hc.tl).eo (sI_other hPL)
      refine e_join (n := st.length) (r := a / o.2) I1 hL hP ht (by simp at e; omega) (by simp at e3; omega) hc1.hd (by decide) (by decide) (by rw [t1, t2]; exact m_10d e4) ?_
      intro I2
      have E2 := Eo.kI (a := P) (k := st.length) (v := a / o.2) E1 rfl
      rw [ee] at k2 kl
      refine e_loop hL hF hP ht r (i + 1 + 1) ((a / o.2) :: st) _ _ I2 k2 (by simp at hn ⊢; omega) ((hc1.tl).eo (sI_other hPL)) (by simp at e; omega) (stk_push (stk_tail (stk_tail hs1)) _) (hf2 E2) ?_
      rw [← ee]
      exact fin E2
    · have eo : opC o = [-18] := by simp [opC, e1, cod]
      cases st with
      | nil => exact absurd e2 (by decide)
      | cons a st =>
      have ee : ev1 f o (a :: st) = (1 - a) :: st := by simp [ev1, e1]
      rw [eo] at hc e
      have t2 : hI h P st.length = a := stk_top hs
      refine e_not (n := st.length) I hL hP ht (by simp at e; omega) (by simp at hn; omega) hc.hd ?_
      rw [t2]
      intro I1
      have E1 : Eo (fun x => x = P) h (sI h P st.length (1 - a)) := Eo.rf.kI rfl
      rw [ee] at k2 kl
      refine e_loop hL hF hP ht r (i + 1) ((1 - a) :: st) _ _ I1 k2 (by simp at hn ⊢; omega) ((hc.tl).eo (sI_other hPL)) (by simp at e; omega) (stk_push (stk_tail hs) _) (hf2 E1) ?_
      rw [← ee]
      exact fin E1
    · obtain ⟨c1, c2, h0, h12, h16, h8, -⟩ := cod_isJ e1
      have eo : opC o = [cod o.1] := by simp [opC, h0, h12]
      cases st with
      | nil => exact absurd e2 (by decide)
      | cons b st =>
      cases st with
      | nil => exact absurd (show 1 < 1 from e2) (by decide)
      | cons a st =>
      have ee : ev1 f o (b :: a :: st) = jn o.1 a b :: st := by simp [ev1, h0, h12, h16, h8]
      rw [eo] at hc e
      have t1 : hI h P (st.length + 1) = b := stk_top hs
      have t2 : hI h P st.length = a := stk_top (stk_tail hs)
      refine e_join (n := st.length) (r := jn o.1 a b) I hL hP ht (by simp at e; omega) (by simp at hn; omega) hc.hd c1 c2 (by rw [t1, t2]; exact m_10 e1) ?_
      intro I1
      have E1 : Eo (fun x => x = P) h (sI h P st.length (jn o.1 a b)) := Eo.rf.kI rfl
      rw [ee] at k2 kl
      refine e_loop hL hF hP ht r (i + 1) (jn o.1 a b :: st) _ _ I1 k2 (by simp at hn ⊢; omega) ((hc.tl).eo (sI_other hPL)) (by simp at e; omega) (stk_push (stk_tail (stk_tail hs)) _) (hf2 E1) ?_
      rw [← ee]
      exact fin E1
theorem m_9 {h : Hp} {ops : List Op} {i : Nat} {f : Nat → Int32} (I : Inv h) (hL : IsLaw L) (hF : SH F = (50, 8)) (hP : SH P = (50, 64)) (ht : t ≤ 600) (k : okS ops 0) (hc : codeAt h (L + 1) i (opsC ops)) (e : i + (opsC ops).length = t) (hf : ∀ k, k < 8 → hI h F k = f k) :
    Wp (K X (d + 2) 9 [.ref L, .int (Int32.ofNat i), .int (Int32.ofNat t), .ref F, .ref P] h) (VI fun x h' => x = evv f ops ∧ Eo (fun a => a = P) h h') := by
  rw [k_9]
  refine e_loop hL hF hP ht ops i [] h none I k (by decide) hc e (fun j hj => absurd hj (Nat.not_lt_zero _)) hf ?_
  intro h' I' E
  exact ⟨_, rfl, rfl, E⟩
end RUN
