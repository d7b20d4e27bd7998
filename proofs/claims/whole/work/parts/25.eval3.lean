/-! THE MODEL'S COMESTO -/
def stepsAt (h : Hp) (l i : Nat) (ops : List Op) : Prop := ∀ j, j < ops.length → hI h 317 (1220 * l + 2 * (i + j)) = Int32.ofNat (ops.getD j (0, 0)).1 ∧ (((ops.getD j (0, 0)).1 = 0 ∨ (ops.getD j (0, 0)).1 = 12) → hI h 317 (1220 * l + 2 * (i + j) + 1) = (ops.getD j (0, 0)).2)
theorem stepsAt.hd {h : Hp} {l i : Nat} {o : Op} {r : List Op} (q : stepsAt h l i (o :: r)) : hI h 317 (1220 * l + 2 * i) = Int32.ofNat o.1 ∧ ((o.1 = 0 ∨ o.1 = 12) → hI h 317 (1220 * l + 2 * i + 1) = o.2) := q 0 (by simp)
theorem stepsAt.tl {h : Hp} {l i : Nat} {o : Op} {r : List Op} (q : stepsAt h l i (o :: r)) : stepsAt h l (i + 1) r := fun j hj => by
  have := q (j + 1) (by simp; omega)
  rw [List.getD_cons_succ] at this
  have e : i + 1 + j = i + (j + 1) := by omega
  rw [e]
  exact this
theorem stepsAt.eo {h h' : Hp} {l i : Nat} {r : List Op} (q : stepsAt h l i r) (e : hI h' 317 = hI h 317) : stepsAt h' l i r := fun j hj => by rw [e]; exact q j hj
theorem i_lin (a y b k : Nat) : Int32.ofNat a * Int32.ofNat y + Int32.ofNat b * Int32.ofNat k = Int32.ofNat (a * y + b * k) := by rw [i_mul, i_mul, i_add]
theorem i_lin1 (a y k : Nat) : Int32.ofNat a * Int32.ofNat y + Int32.ofNat k = Int32.ofNat (a * y + k) := by rw [i_mul, i_add]
section CT
variable {X : Ctx} {d : Nat} {Q : Option Value → Hp → Prop} {l t : Nat} {v2 : Option Value}
theorem m_184 {s : Nat} {a b : Int32} {h : Hp} (hs : isJ s) : K X (d + 1) 184 [.int (Int32.ofNat s), .int a, .int b] h = some (some (.int (jn s a b)), h) := by
  rcases hs with rfl | rfl | rfl | rfl | rfl | rfl | rfl | rfl
  · exact (k_184 _ _ _ _).trans (b_184_52 _ _ _ _)
  · exact (k_184 _ _ _ _).trans (b_184_56 _ _ _ _)
  · exact (k_184 _ _ _ _).trans (b_184_60 _ _ _ _)
  · refine (k_184 _ _ _ _).trans ((b_184_64 _ _ _ _).trans ?_)
    show _ = some (some (Value.int (bi (decide (a < b)))), h)
    by_cases z : b ≤ a
    · rw [if_pos z, decide_eq_false (Int32.not_lt.mpr z)]; rfl
    · rw [if_neg z, decide_eq_true (Int32.not_le.mp z)]; rfl
  · refine (k_184 _ _ _ _).trans ((b_184_75 _ _ _ _).trans ?_)
    show _ = some (some (Value.int (bi (decide (a = b)))), h)
    by_cases z : a = b
    · rw [if_neg (fun q => q z), decide_eq_true z]; rfl
    · rw [if_pos z, decide_eq_false z]; rfl
  · refine (k_184 _ _ _ _).trans ((b_184_86 _ _ _ _).trans ?_)
    show _ = some (some (Value.int (bi (decide (b < a)))), h)
    by_cases z : a ≤ b
    · rw [if_pos z, decide_eq_false (Int32.not_lt.mpr z)]; rfl
    · rw [if_neg z, decide_eq_true (Int32.not_le.mp z)]; rfl
  · exact (k_184 _ _ _ _).trans (b_184_97 _ _ _ _)
  · exact (k_184 _ _ _ _).trans (b_184_101 _ _ _ _)
theorem c_loop (hl : l < 7) (ht : t ≤ 610) {f : Nat → Int32} : ∀ (ops : List Op) (i : Nat) (st : List Int32) (h : Hp) (v6 v7 : Option Value), Inv h → okS ops st.length → st.length ≤ 60 → stepsAt h l i ops → i + ops.length = t → stk h 333 st → (∀ k, k < 8 → hI h 334 (k + 1) = f k) →
    (∀ h', Inv h' → Eo (fun a => a = 333) h h' → Q (some (.int ((ev f ops st).getLastD 0))) h') →
    Wp (sem (X, K X (d + 1)) 185 6 [some (.ref 301), some (.int (Int32.ofNat l)), v2, some (.int (Int32.ofNat t)), some (.int (Int32.ofNat st.length)), some (.int (Int32.ofNat i)), v6, v7] [] h) Q
  | [], i, st, h, v6, v7, I, k, hn, _, e, hs, _, q => by
    have e : i = t := by simpa using e
    have k : 0 < st.length := k
    rw [b_185_6]
    refine w_ift ((i_le (by omega) (by omega)).mpr (by omega)) ?_
    refine w_gL I s_301 l_301_31 ?_
    refine w_aIn (m := 0) I s_333 (by decide) (by decide) ?_
    rw [stk_bot hs k]
    exact Wp.ret (q h I Eo.rf)
  | o :: r, i, st, h, v6, v7, I, k, hn, hc, e, hs, hf, q => by
    have kl := ev1_len (f := f) k.1
    have k2 := k.2
    rw [← kl] at k2
    have fin : ∀ {h1 : Hp}, Eo (fun a => a = 333) h h1 → ∀ h', Inv h' → Eo (fun a => a = 333) h1 h' → Q (some (.int ((ev f r (ev1 f o st)).getLastD 0))) h' := fun e1 h' I' e2 => q h' I' (e1.tr e2)
    have hf2 : ∀ {h1 : Hp}, Eo (fun a => a = 333) h h1 → ∀ k, k < 8 → hI h1 334 (k + 1) = f k := fun e1 k hk => by rw [e1.i (by decide)]; exact hf k hk
    have e0 : i + 1 + r.length = t := by simp at e; omega
    rw [b_185_6]
    refine w_iff (fun z => absurd ((i_le (by omega) (by omega)).mp z) (by omega)) ?_
    refine w_gL I s_301 l_301_15 ?_
    have x1 : (1220 : Int32) * Int32.ofNat l + 2 * Int32.ofNat i = Int32.ofNat (1220 * l + 2 * i) := i_lin 1220 l 2 i
    rw [x1, i32_ofNat_succ]
    refine w_aIn I s_317 (by omega) (by decide) ?_
    refine w_gL I s_301 l_301_15 ?_
    refine w_aIn I s_317 (by omega) (by decide) ?_
    rw [hc.hd.1, i32_ofNat_succ]
    rcases k.1 with ⟨e1, e2, e3⟩ | ⟨e1, e2, e3⟩ | ⟨e1, e2, e3, e4⟩ | ⟨e1, e2⟩ | ⟨e1, e2⟩
    · have ee : ev1 f o st = o.2 :: st := by simp [ev1, e1]
      rw [hc.hd.2 (Or.inl e1), e1]
      refine w_iff (by decide) ?_
      refine w_gL I s_301 l_301_31 ?_
      refine w_iff (fun z => z rfl) ?_
      refine w_wIn I s_333 (by omega) (by decide) fun I => ?_
      rw [i32_ofNat_succ]
      have E1 : Eo (fun a => a = 333) h (sI h 333 st.length o.2) := Eo.rf.kI rfl
      rw [ee] at k2 kl
      refine c_loop hl ht r (i + 1) (o.2 :: st) _ _ _ I k2 (by simp; omega) ((hc.tl).eo (sI_other (by decide))) e0 (stk_push hs _) (hf2 E1) ?_
      rw [← ee]
      exact fin E1
    · have h0 : ¬ o.1 = 0 := by omega
      have ee : ev1 f o st = f (o.1 - 1) :: st := by simp [ev1, h0, e2]
      refine w_iff (fun z => absurd ((i_le (m := 9) (by omega) (by omega)).mp z) (by omega)) ?_
      refine w_gL I s_301 l_301_31 ?_
      refine w_ift (fun z => h0 ((i_eq (n := 0) (by omega) (by omega)).mp z)) ?_
      refine w_gL I s_301 l_301_32 ?_
      refine w_aIn I s_334 (by omega) (by decide) ?_
      have e9 : hI h 334 o.1 = f (o.1 - 1) := by rw [← hf (o.1 - 1) (by omega)]; congr 1; omega
      rw [e9]
      refine w_wIn I s_333 (by omega) (by decide) fun I => ?_
      rw [i32_ofNat_succ]
      have E1 : Eo (fun a => a = 333) h (sI h 333 st.length (f (o.1 - 1))) := Eo.rf.kI rfl
      rw [ee] at k2 kl
      refine c_loop hl ht r (i + 1) (f (o.1 - 1) :: st) _ _ _ I k2 (by simp; omega) ((hc.tl).eo (sI_other (by decide))) e0 (stk_push hs _) (hf2 E1) ?_
      rw [← ee]
      exact fin E1
    · cases st with
      | nil => exact absurd e2 (by decide)
      | cons a st =>
      have ee : ev1 f o (a :: st) = (a / o.2) :: st := by simp [ev1, e1]
      have t2 : hI h 333 st.length = a := stk_top hs
      rw [hc.hd.2 (Or.inr e1), e1]
      refine w_ift (by decide) ?_
      refine w_iff (fun z => z rfl) ?_
      refine w_gL I s_301 l_301_31 ?_
      rw [List.length_cons, i_s1]
      refine w_aIn I s_333 (by simp at hn; omega) (by decide) ?_
      rw [t2]
      refine w_gd (fun z => by rw [z] at e4; exact absurd e4 (by decide)) ?_
      refine w_wIn I s_333 (by simp at hn; omega) (by decide) fun I => ?_
      have E1 : Eo (fun x => x = 333) h (sI h 333 st.length (a / o.2)) := Eo.rf.kI rfl
      rw [ee] at k2 kl
      refine c_loop hl ht r (i + 1) ((a / o.2) :: st) _ _ _ I k2 (by simp at hn ⊢; omega) ((hc.tl).eo (sI_other (by decide))) e0 (stk_push (stk_tail hs) _) (hf2 E1) ?_
      rw [← ee]
      exact fin E1
    · cases st with
      | nil => exact absurd e2 (by decide)
      | cons a st =>
      have ee : ev1 f o (a :: st) = (1 - a) :: st := by simp [ev1, e1]
      have t2 : hI h 333 st.length = a := stk_top hs
      rw [e1]
      refine w_ift (by decide) ?_
      refine w_ift (by decide) ?_
      refine w_iff (fun z => z rfl) ?_
      refine w_gL I s_301 l_301_31 ?_
      refine w_gL I s_301 l_301_31 ?_
      rw [List.length_cons, i_s1]
      refine w_aIn I s_333 (by simp at hn; omega) (by decide) ?_
      rw [t2]
      refine w_wIn I s_333 (by simp at hn; omega) (by decide) fun I => ?_
      have E1 : Eo (fun x => x = 333) h (sI h 333 st.length (1 - a)) := Eo.rf.kI rfl
      rw [ee] at k2 kl
      refine c_loop hl ht r (i + 1) ((1 - a) :: st) _ _ _ I k2 (by simp at hn ⊢; omega) ((hc.tl).eo (sI_other (by decide))) e0 (stk_push (stk_tail hs) _) (hf2 E1) ?_
      rw [← ee]
      exact fin E1
    · obtain ⟨-, -, h0, h12, h16, h8, h18⟩ := cod_isJ e1
      cases st with
      | nil => exact absurd e2 (by decide)
      | cons b st =>
      cases st with
      | nil => exact absurd (show 1 < 1 from e2) (by decide)
      | cons a st =>
      have ee : ev1 f o (b :: a :: st) = jn o.1 a b :: st := by simp [ev1, h0, h12, h16, h8]
      have t1 : hI h 333 (st.length + 1) = b := stk_top hs
      have t2 : hI h 333 st.length = a := stk_top (stk_tail hs)
      refine w_ift ((i_le (m := 9) (by omega) (by omega)).mpr (by omega)) ?_
      refine w_ift (fun z => h12 ((i_eq (n := 12) (by omega) (by omega)).mp z)) ?_
      refine w_ift (fun z => h16 ((i_eq (n := 16) (by omega) (by omega)).mp z)) ?_
      refine w_gL I s_301 l_301_31 ?_
      refine w_gL I s_301 l_301_31 ?_
      rw [List.length_cons, i_m1, List.length_cons, i_s1]
      refine w_aIn I s_333 (by simp at hn; omega) (by decide) ?_
      refine w_gL I s_301 l_301_31 ?_
      refine w_aIn I s_333 (by simp at hn; omega) (by decide) ?_
      rw [t1, t2]
      refine w_eI (m_184 e1) ?_
      refine w_wIn I s_333 (by simp at hn; omega) (by decide) fun I => ?_
      have E1 : Eo (fun x => x = 333) h (sI h 333 st.length (jn o.1 a b)) := Eo.rf.kI rfl
      rw [ee] at k2 kl
      refine c_loop hl ht r (i + 1) (jn o.1 a b :: st) _ _ _ I k2 (by simp at hn ⊢; omega) ((hc.tl).eo (sI_other (by decide))) e0 (stk_push (stk_tail (stk_tail hs)) _) (hf2 E1) ?_
      rw [← ee]
      exact fin E1
theorem m_185 {h : Hp} {ops : List Op} {i : Nat} {f : Nat → Int32} (I : Inv h) (hl : l < 7) (ht : t ≤ 610) (k : okS ops 0) (hc : stepsAt h l i ops) (e : i + ops.length = t) (hf : ∀ k, k < 8 → hI h 334 (k + 1) = f k) :
    Wp (K X (d + 2) 185 [.ref 301, .int (Int32.ofNat l), .int (Int32.ofNat i), .int (Int32.ofNat t)] h) (VI fun x h' => x = evv f ops ∧ Eo (fun a => a = 333) h h') := by
  rw [k_185]
  refine c_loop hl ht ops i [] h none none I k (by decide) hc e (fun j hj => absurd hj (Nat.not_lt_zero _)) hf ?_
  intro h' I' E
  exact ⟨_, rfl, rfl, E⟩
end CT
