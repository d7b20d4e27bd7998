/-! WORDS, NIGHTS, LAYS -/
theorem mNow_word {h h' : Hp} {PA : Nat → APact} {p0 s k : Nat} (hp0 : p0 < 15) (hs : s ≤ 4) (hk : s = 1 ∨ s = 2 → k < 6) (n : mNow h PA)
    (e1 : ∀ r, r ≠ pmOf p0 → hI h' 343 r = hI h 343 r) (e2 : hI h' 343 (pmOf p0) = (if 2 < s then (if s = 3 then 1 else 2) else hI h 343 (pmOf p0)))
    (e3 : ∀ r, (s = 2 → r ≠ 6 * pmOf p0 + k) → hI h' 342 r = hI h 342 r) (e4 : s = 2 → hI h' 342 (6 * pmOf p0 + k) = 0)
    (e5 : ∀ r, r ≠ pmOf p0 → hI h' 341 r = hI h 341 r) (e6 : ∀ j, j < 32 → bt (hI h' 341 (pmOf p0)) j = (bt (hI h 341 (pmOf p0)) j || (decide (s = 1) && decide (j = k))))
    (e7 : ∀ r, r ≠ pmOf p0 → hI h' 344 r = hI h 344 r) (e8 : hI h' 344 (pmOf p0) = if s = 0 then 1 else hI h 344 (pmOf p0)) : mNow h' (updP PA p0 (wordA (PA p0) s k)) := by
  intro r hr
  by_cases y : r = p0
  · subst y
    obtain ⟨n1, n2, n3, n4⟩ := n r hr
    have ep : updP PA r (wordA (PA r) s k) r = wordA (PA r) s k := if_pos rfl
    rw [ep]
    have : s = 0 ∨ s = 1 ∨ s = 2 ∨ s = 3 ∨ s = 4 := by omega
    refine ⟨fun j hj => ?_, fun j hj => ?_, ?_, ?_⟩
    · rw [e6 j (by omega), n1 j hj]
      rcases this with rfl | rfl | rfl | rfl | rfl <;> simp [wordA]
    · by_cases z : s = 2 ∧ j = k
      · right
        rw [z.2, e4 z.1]
        simp [wordA, z.1]
      · have e : hI h' 342 (6 * pmOf r + j) = hI h 342 (6 * pmOf r + j) := e3 _ (fun s2 => by omega)
        have t : (wordA (PA r) s k).2.2.1 j = (PA r).2.2.1 j := by
          rcases this with rfl | rfl | rfl | rfl | rfl <;> simp [wordA]
          intro jk; exact absurd ⟨rfl, jk⟩ z
        rw [e, t]; exact n2 j hj
    · rw [e2]
      rcases this with rfl | rfl | rfl | rfl | rfl
      · exact n3
      · exact n3
      · exact n3
      · exact Or.inr ⟨by simp [wordA], rfl⟩
      · exact Or.inr ⟨by simp [wordA], rfl⟩
    · rw [e8]
      rcases this with rfl | rfl | rfl | rfl | rfl
      · rfl
      · exact n4
      · exact n4
      · exact n4
      · exact n4
  · obtain ⟨n1, n2, n3, n4⟩ := n r hr
    have ep : updP PA p0 (wordA (PA p0) s k) r = PA r := if_neg y
    have hne : pmOf r ≠ pmOf p0 := fun z => y (pmOf_inj r hr p0 hp0 z)
    rw [ep]
    unfold mTrm
    rw [e5 _ hne, e1 _ hne, e7 _ hne]
    refine ⟨n1, fun j hj => ?_, n3, n4⟩
    rw [e3 _ (fun s2 => by have := hk (Or.inr s2); omega)]
    exact n2 j hj
section L2
variable {X : Ctx} {d : Nat} {Q : Option Value → Hp → Prop} {h0 : Hp}
theorem words_loop {set : Int32} : ∀ (ws : List AWord) (j : Nat) (h : Hp) (v3 : Option Value) (PA : Nat → APact), Inv h → mNow h PA → mWords h j ws → (∀ w, w ∈ ws → okW w) → hI h 301 77 = Int32.ofNat (j + ws.length) → j + ws.length ≤ 6 →
    (∀ h', Inv h' → Eo W4 h h' → mNow h' (worded set ws j PA) → Q none h') →
    Wp (sem (X, K X d) 187 88 [some (.ref 301), some (.int set), some (.int (Int32.ofNat j)), v3] [] h) Q
  | [], j, h, v3, PA, I, n, _, _, hn, hm, q => by
    rw [b_187_88]
    refine w_gI I s_301 ?_
    rw [hn]
    exact w_ift ((i_le (by omega) (by omega)).mpr (by simp)) (Wp.ret (q h I Eo.rf n))
  | w :: ws, j, h, v3, PA, I, n, hw, ho, hn, hm, q => by
    have hm2 : j + 1 + ws.length ≤ 6 := by simp at hm; omega
    have hn2 : hI h 301 77 = Int32.ofNat (j + 1 + ws.length) := by rw [hn, List.length_cons]; congr 1; omega
    have o := ho w (by simp)
    have ho2 : ∀ w', w' ∈ ws → okW w' := fun w' h' => ho w' (by simp [h'])
    obtain ⟨⟨w1, w2, w3⟩, w4⟩ := hw
    have hp := pmOf_lt w.1 o.1
    rw [b_187_88]
    refine w_gI I s_301 ?_
    rw [hn2]
    refine w_iff (fun z => absurd ((i_le (by omega) (by omega)).mp z) (by omega)) ?_
    rw [shr_bt (by omega), i32_ofNat_succ]
    refine w_if (fun c => ?_) (fun c => ?_)
    · have c : bt set j = true := by cases z : bt set j; rw [z] at c; exact absurd rfl c; rfl
      have k3 : w.2.1 = 1 ∨ w.2.1 = 2 → kd w.2.2 < 6 ∧ hI h 358 j = Int32.ofNat (kd w.2.2) := fun z => by
        obtain ⟨k, k1, k2⟩ := o.2.2 z
        rw [w3, k2, kd_of k1]; exact ⟨k1, rfl⟩
      have ew : worded set (w :: ws) j PA = worded set ws (j + 1) (updP PA w.1 (wordA (PA w.1) w.2.1 (kd w.2.2))) := by
        show worded set ws (j + 1) (if bt set j then _ else _) = _
        rw [c]; rfl
      rw [ew] at q
      refine w_gL I s_301 l_301_81 ?_
      refine w_aIn I s_356 (by omega) (by decide) ?_
      refine w_gL I s_301 l_301_82 ?_
      refine w_aIn I s_357 (by omega) (by decide) ?_
      rw [w1, w2]
      have go : ∀ h1, Inv h1 → Eo (fun a => a = 344) h h1 → (∀ r, r ≠ pmOf w.1 → hI h1 344 r = hI h 344 r) → hI h1 344 (pmOf w.1) = (if w.2.1 = 0 then 1 else hI h 344 (pmOf w.1)) →
          Wp (sem (X, K X d) 187 130 [some (.ref 301), some (.int set), some (.int (Int32.ofNat j)), some (.int (Int32.ofNat (pmOf w.1)))] [] h1) Q := fun h1 I1 E1 f1 f2 => by
        refine word130 (k := kd w.2.2) I1 (by omega) o.2.1 hp (by rw [E1.i (by decide)]; exact w2) (fun z => ⟨(k3 z).1, by rw [E1.i (by decide)]; exact (k3 z).2⟩) fun h' v3 I' E e1 e2 e3 e4 e5 e6 => ?_
        have E2 : Eo W4 h h' := (E1.wk fun a z => by unfold W4; omega).tr (E.wk fun a z => by unfold W4; omega)
        have n2 := mNow_word (h := h) (h' := h') (k := kd w.2.2) o.1 o.2.1 (fun z => (k3 z).1) n (fun r hr => by rw [e1 r hr, E1.i (by decide)]) (by rw [e2, E1.i (by decide)]) (fun r hr => by rw [e3 r hr, E1.i (by decide)]) e4 (fun r hr => by rw [e5 r hr, E1.i (by decide)]) (fun j hj => by rw [e6 j hj, E1.i (by decide)]) (fun r hr => by rw [E.i (by decide)]; exact f1 r hr) (by rw [E.i (by decide)]; exact f2)
        refine words_loop ws (j + 1) h' v3 _ I' n2 (w4.eo (E2.i (by unfold W4; omega)) (E2.i (by unfold W4; omega)) (E2.i (by unfold W4; omega))) ho2 (by rw [E2.i (by unfold W4; omega)]; exact hn2) hm2 fun h2 I2 E3 n3 => q h2 I2 (E2.tr E3) n3
      refine w_if (fun c2 => ?_) (fun c2 => ?_)
      · have c2 : w.2.1 ≠ 0 := fun z => c2 (by rw [z]; rfl)
        exact go h I Eo.rf (fun _ _ => rfl) (by rw [if_neg c2])
      · have c2 : w.2.1 = 0 := (i_eq (n := 0) (by have := o.2.1; omega) (by decide)).mp (Classical.byContradiction c2)
        refine w_gL I s_301 l_301_61 ?_
        refine w_wZn I s_344 hp (by decide) (by decide) fun I1 => ?_
        exact go _ I1 (Eo.rf.kI rfl) (fun r hr => by rw [hI_sI_self, up1, if_neg hr]) (by rw [hI_sI_self, up1, if_pos rfl, if_pos c2])
    · have c : bt set j = false := bi_0.mp (Classical.byContradiction c)
      have ew : worded set (w :: ws) j PA = worded set ws (j + 1) PA := by
        show worded set ws (j + 1) (if bt set j then _ else _) = _
        rw [c]; rfl
      rw [ew] at q
      exact words_loop ws (j + 1) h _ PA I n w4 ho2 hn2 hm2 q
theorem m_187 {set : Int32} {ws : List AWord} {PA : Nat → APact} (I : Inv h0) (hk : mKeep h0 PA) (hw : mWords h0 0 ws) (ho : ∀ w, w ∈ ws → okW w) (hn : hI h0 301 77 = Int32.ofNat ws.length) (hm : ws.length ≤ 6) :
    Wp (K X (d + 1) 187 [.ref 301, .int set] h0) (VV fun h' => Eo W4 h0 h' ∧ mNow h' (worded set ws 0 PA)) := by
  rw [k_187]
  refine cp2 (h0 := h0) hk.2 36 0 h0 none (by omega) I ⟨Eo.rf, fun q hq => absurd hq (by omega)⟩ fun h' v3 I' u => ?_
  have n : mNow h' PA := fun p hp => by
    obtain ⟨t1, t2, t3, t4⟩ := hk.1 p hp
    obtain ⟨c1, c2, c3, c4⟩ := u.2 (pmOf p) (pmOf_lt p hp)
    refine ⟨fun k hk => by rw [c1]; exact t1 k hk, fun k hk => by rw [c4 k hk]; exact t2 k hk, by rw [c2]; exact t3, by rw [c3]; exact t4⟩
  have E := u.1
  refine words_loop ws 0 h' v3 PA I' n (hw.eo (E.i (by unfold W4; omega)) (E.i (by unfold W4; omega)) (E.i (by unfold W4; omega))) ho (by rw [E.i (by unfold W4; omega), hn]; congr 1; omega) (by omega) fun h2 I2 E2 n2 => ⟨rfl, E.tr E2, n2⟩
/-! nights -/
def cnt (w : Nat → Nat) (l : Nat) : Nat → Nat
  | 0 => 0
  | n + 1 => cnt w l n + (if w n = l then 1 else 0)
theorem cnt_le (w : Nat → Nat) (l : Nat) : ∀ n, cnt w l n ≤ n
  | 0 => Nat.le_refl _
  | n + 1 => by have := cnt_le w l n; unfold cnt; split <;> omega
def nv (x : Nat) : Int32 := if x < 6 then Int32.ofNat x else -1
theorem nights2 {y : Nat} {w : Nat → Nat} (hy : y < 2) (hw : ∀ k, k < 360 → hI h0 302 (360 * y + k) = nv (w k)) (h6 : ∀ k, w k ≤ 6) {v3 : Option Value} : ∀ (c i : Nat) (h : Hp) (v3 : Option Value), i + c = 360 → Inv h → (Eo (fun a => a = 301 ∨ a = 335) h0 h ∧ hP h = hP h0 ∧ hJ h = hJ h0 ∧ (∀ k, k ≠ 56 → hI h 301 k = hI h0 301 k) ∧ hI h 301 56 = Int32.ofNat (cnt w 6 i) ∧ ∀ l, l < 6 → hI h 335 l = Int32.ofNat (cnt w l i)) →
    (∀ h', Inv h' → (Eo (fun a => a = 301 ∨ a = 335) h0 h' ∧ hP h' = hP h0 ∧ hJ h' = hJ h0 ∧ (∀ k, k ≠ 56 → hI h' 301 k = hI h0 301 k) ∧ hI h' 301 56 = Int32.ofNat (cnt w 6 360) ∧ ∀ l, l < 6 → hI h' 335 l = Int32.ofNat (cnt w l 360)) → Q none h') →
    Wp (sem (X, K X d) 188 28 [some (.ref 301), some (.int (Int32.ofNat y)), some (.int (Int32.ofNat i)), v3] [] h) Q
  | 0, i, h, v3, e, I, u, q => by
    have e : i = 360 := by omega
    subst e
    rw [b_188_28]
    exact w_ift ((i_le (m := 360) (by omega) (by omega)).mpr (by omega)) (Wp.ret (q h I u))
  | c + 1, i, h, v3, e, I, u, q => by
    have hi : i < 360 := by omega
    obtain ⟨u1, u2, u3, u4, u5, u6⟩ := u
    have x1 : (360 : Int32) * Int32.ofNat y + Int32.ofNat i = Int32.ofNat (360 * y + i) := i_lin1 360 y i
    rw [b_188_28]
    refine w_iff (fun z => absurd ((i_le (m := 360) (by omega) (by omega)).mp z) (by omega)) ?_
    rw [x1, i32_ofNat_succ]
    refine w_gL I s_301 l_301_0 ?_
    refine w_aIn I s_302 (by omega) (by decide) ?_
    rw [u1.i (by decide), hw i hi]
    by_cases w6 : w i < 6
    · have e1 : nv (w i) = Int32.ofNat (w i) := if_pos w6
      rw [e1]
      refine w_ift (i_nm1 (by omega)) ?_
      refine w_gL I s_301 l_301_46 ?_
      refine w_aIn I s_335 w6 (by decide) ?_
      rw [u6 _ w6, i32_ofNat_succ]
      refine w_wIn I s_335 w6 (by decide) fun I => ?_
      refine nights2 (v3 := v3) hy hw h6 c (i + 1) _ _ (by omega) I ⟨u1.kI (Or.inr rfl), u2, u3, fun k hk => by rw [sI_other (by decide)]; exact u4 k hk, ?_, fun l hl => ?_⟩ q
      · rw [sI_other (by decide), u5]; congr 1; show cnt w 6 i = cnt w 6 i + _; rw [if_neg (by omega)]; rfl
      · rw [hI_sI_self, up1]
        by_cases z : l = w i
        · rw [if_pos z, z]; congr 1; show cnt w (w i) i + 1 = cnt w (w i) i + _; rw [if_pos rfl]
        · rw [if_neg z, u6 l hl]; congr 1; show cnt w l i = cnt w l i + _; rw [if_neg (fun q => z q.symm)]; rfl
    · have e1 : nv (w i) = -1 := if_neg w6
      have w6 : w i = 6 := by have := h6 i; omega
      rw [e1]
      refine w_iff (fun z => z rfl) ?_
      refine w_gI I s_301 ?_
      rw [u5, i32_ofNat_succ]
      refine w_fI I s_301 fun I => ?_
      refine nights2 (v3 := v3) hy hw h6 c (i + 1) _ _ (by omega) I ⟨u1.kI (Or.inl rfl), u2, u3, fun k hk => by rw [hI_sI_self, up1, if_neg hk]; exact u4 k hk, ?_, fun l hl => ?_⟩ q
      · rw [hI_sI_self, up1, if_pos rfl]; congr 1; show cnt w 6 i + 1 = cnt w 6 i + _; rw [if_pos w6]
      · rw [sI_other (by decide), u6 l hl]; congr 1; show cnt w l i = cnt w l i + _; rw [if_neg (by omega)]; rfl
theorem nights1 {y : Nat} {w : Nat → Nat} (hy : y < 2) (hw : ∀ k, k < 360 → hI h0 302 (360 * y + k) = nv (w k)) (h6 : ∀ k, w k ≤ 6) : ∀ (c i : Nat) (h : Hp), i + c = 6 → Inv h → (Eo (fun a => a = 335) h0 h ∧ hP h = hP h0 ∧ hJ h = hJ h0 ∧ ∀ l, l < i → hI h 335 l = 0) →
    (∀ h', Inv h' → (Eo (fun a => a = 301 ∨ a = 335) h0 h' ∧ hP h' = hP h0 ∧ hJ h' = hJ h0 ∧ (∀ k, k ≠ 56 → hI h' 301 k = hI h0 301 k) ∧ hI h' 301 56 = Int32.ofNat (cnt w 6 360) ∧ ∀ l, l < 6 → hI h' 335 l = Int32.ofNat (cnt w l 360)) → Q none h') →
    Wp (sem (X, K X d) 188 2 [some (.ref 301), some (.int (Int32.ofNat y)), some (.int (Int32.ofNat i)), none] [] h) Q
  | 0, i, h, e, I, u, q => by
    have e : i = 6 := by omega
    subst e
    obtain ⟨u1, u2, u3, u4⟩ := u
    rw [b_188_2]
    refine w_ift ((i_le (m := 6) (by omega) (by omega)).mpr (by omega)) ?_
    refine w_fI I s_301 fun I => ?_
    refine nights2 (v3 := none) hy hw h6 360 0 _ none (by omega) I ⟨(u1.wk fun a z => Or.inr z).kI (Or.inl rfl), u2, u3, fun k hk => ?_, ?_, fun l hl => ?_⟩ q
    · rw [hI_sI_self, up1, if_neg hk, u1.i (by decide)]
    · rw [hI_sI_self, up1, if_pos rfl]; rfl
    · rw [sI_other (by decide), u4 l hl]; rfl
  | c + 1, i, h, e, I, u, q => by
    have hi : i < 6 := by omega
    obtain ⟨u1, u2, u3, u4⟩ := u
    rw [b_188_2]
    refine w_iff (fun z => absurd ((i_le (m := 6) (by omega) (by omega)).mp z) (by omega)) ?_
    rw [i32_ofNat_succ]
    refine w_gL I s_301 l_301_46 ?_
    refine w_wIn I s_335 hi (by decide) fun I => ?_
    refine nights1 hy hw h6 c (i + 1) _ (by omega) I ⟨u1.kI rfl, u2, u3, fun l hl => ?_⟩ q
    rw [hI_sI_self, up1]
    by_cases z : l = i
    · rw [if_pos z]
    · rw [if_neg z]; exact u4 l (by omega)
theorem m_188 {y : Nat} {w : Nat → Nat} (I : Inv h0) (hy : y < 2) (hw : ∀ k, k < 360 → hI h0 302 (360 * y + k) = nv (w k)) (h6 : ∀ k, w k ≤ 6) :
    Wp (K X (d + 1) 188 [.ref 301, .int (Int32.ofNat y)] h0) (VV fun h' => Eo (fun a => a = 301 ∨ a = 335) h0 h' ∧ hP h' = hP h0 ∧ hJ h' = hJ h0 ∧ (∀ k, k ≠ 56 → hI h' 301 k = hI h0 301 k) ∧ hI h' 301 56 = Int32.ofNat (cnt w 6 360) ∧ ∀ l, l < 6 → hI h' 335 l = Int32.ofNat (cnt w l 360)) := by
  rw [k_188]
  exact nights1 hy hw h6 6 0 h0 (by omega) I ⟨Eo.rf, rfl, rfl, fun l hl => absurd hl (by omega)⟩ fun h' I' u => ⟨rfl, u⟩
end L2
