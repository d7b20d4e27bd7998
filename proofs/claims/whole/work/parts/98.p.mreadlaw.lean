/-! TEXT: the model reads a LAW -/
section MT
variable {X : Ctx} {d : Nat} {Q : Option Value → Hp → Prop} {T : Nat → Nat} {L : Nat} {h0 h : Hp}
theorem MLb.put {k n s : Nat} {S S' : LSt} {h' : Hp} {dd : Nat} (p : MP T L h' k (stOf (rulesOf S.1)) 0 0) (R : MRow h n S) (F : FrM h0 h') (hf : hI h' 301 45 = 0) (hr : S'.1 = S.1 ++ [none]) (hs : 2 ≤ s ∧ s ≤ 4) (a : hI h' 312 (120 + S.1.length) = Int32.ofNat s) (e : ∀ a, 312 ≤ a → a ≤ 316 → ∀ i, i < S.1.length → hI h' a (120 + i) = hI h a (120 + i)) (e1 : hI h' 301 34 = hI h 301 34)
    (r3 : hI h' 319 6 = Int32.ofNat S'.2.1.length) (r4 : mSteps h' 6 0 S'.2.1) (r5 : hI h' 318 6 = Int32.ofNat (S'.2.2.1.getD 0)) (r6 : hI h' 322 6 = Int32.ofNat (S'.2.2.2.getD 0)) (r7 : hI h' 323 6 = bi S'.2.2.1.isSome) (r8 : hI h' 324 6 = bi S'.2.2.2.isSome) : MLb T L h0 h' k n S' := by
  refine ⟨by rw [hr, rules_no]; exact p, ⟨by rw [e1]; exact R.1, ?_, r3, r4, r5, r6, r7, r8⟩, F, hf⟩
  rw [hr]
  exact R.2.1.sn (fun b i h1 h2 h3 => e b h1 h2 i (by omega)) ⟨s, hs.1, hs.2, by rw [Nat.zero_add]; exact a⟩
/-- a number -/
theorem num_free {k : Nat} : pNum (tC T L) (tV T L) 0 999999 k = if tC T L k = 100 then (0, k + 1, []) else (1, k, []) := by
  unfold pNum
  rw [if_pos (show 0 ≤ tV T L k ∧ tV T L k ≤ 999999 from ⟨Nat.zero_le _, tV_le⟩)]
/-- after the word of a line: its row says which -/
def MLs (T : Nat → Nat) (L : Nat) (h0 h : Hp) (k n s : Nat) (S : LSt) : Prop := MLb T L h0 h k n S ∧ hI h 312 (120 + n) = Int32.ofNat s
/-- free -/
theorem c175_2 {k n : Nat} {S : LSt} {x2 : Int32} (hv : X.2.2 = .null ∨ X.2.2 = .ref 61) (I : Inv h) (q : MLs T L h0 h k n 2 S) (hn : n = S.1.length) (hl : n < 20) (hx : tC T L k = 100 → x2 = Int32.ofNat (tV T L k)) : Wp (sem (X, K X (d + 39)) 175 115 [some (.ref 301), some (.int 2), some (.int x2)] [] h) (VI fun v h' => SimW T L h0 (eL (tC T L) (pFr (tC T L) (tV T L) k S)) v h') := by
  obtain ⟨q, qs⟩ := q
  rw [b_175_115]
  refine w_iff (by decide) ?_
  refine w_gS I s_301 ?_
  refine w_bI I (m_162 (d := d + 30) (lo := 0) (hi := 999999) (h0 := h) hv I q.1 MFr.rf (by decide) (by decide)) (by decide) rfl fun x h1 I1 s => ?_
  obtain ⟨s1, s2, s3⟩ := s
  unfold pFr
  rw [num_free] at s2 s3
  by_cases y : tC T L k = 100
  · rw [if_pos y] at s2 s3 ⊢
    obtain ⟨rfl, p1⟩ := s2 rfl
    rw [List.append_nil] at p1
    rw [hx y]
    refine w_ift (by decide) ?_
    refine w_gL I1 s_301 l_301_21 ?_
    refine w_wZn (m := 6) I1 s_323 (by decide) (by decide) (by decide) fun I2 => ?_
    refine w_gL I2 s_301 l_301_16 ?_
    refine w_wIn (m := 6) I2 s_318 (by decide) (by decide) fun I3 => ?_
    refine w_ift (by decide) ?_
    rw [b_175_162]
    refine w_ift (by decide) ?_
    obtain ⟨r1, r2, r3, r4, r5, r6, r7, r8⟩ := q.2.1
    have i1 : ∀ a, 312 ≤ a → a ≤ 324 → a ≠ 317 → hI h1 a = hI h a := fun a h1 h2 h3 => s1.1.i (by omega)
    have o : ∀ a, a ≠ 323 → a ≠ 318 → hI (sI (sI h1 323 6 1) 318 6 (Int32.ofNat (tV T L k))) a = hI h1 a := fun a h1 h2 => by rw [sI_other h2, sI_other h1]
    refine w_tail (d := d + 30) (h0 := h0) (n := n) (S := (S.1 ++ [none], S.2.1, some (tV T L k), S.2.2.2)) hv I3 (MLb.put (dd := 0) (s := 2) (S := S) (h := h) ((p1.w (by decide) (by decide) (by decide)).w (by decide) (by decide) (by decide)) q.2.1 (((q.2.2.1.mf s1).w (by decide) (by unfold lowM; omega)).w (by decide) (by unfold lowM; omega)) ?_ rfl ⟨by decide, by decide⟩ ?_ (fun a h1 h2 i hi => by rw [o a (by omega) (by omega), i1 a h1 (by omega) (by omega)]) ?_ ?_ ?_ ?_ ?_ ?_ ?_) (by rw [sn_len, hn])
    · rw [o 301 (by decide) (by decide), s1.2.1 45 (by omega)]; exact q.2.2.2
    · rw [← hn, o 312 (by decide) (by decide), i1 312 (by decide) (by decide) (by decide)]; exact qs
    · rw [o 301 (by decide) (by decide), s1.2.1 34 (by omega)]
    · rw [o 319 (by decide) (by decide), i1 319 (by decide) (by decide) (by decide)]; exact r3
    · exact r4.e0 (by rw [o 320 (by decide) (by decide), i1 320 (by decide) (by decide) (by decide)]) (by rw [o 321 (by decide) (by decide), i1 321 (by decide) (by decide) (by decide)])
    · rw [hI_sI_self, up1, if_pos rfl]; rfl
    · rw [o 322 (by decide) (by decide), i1 322 (by decide) (by decide) (by decide)]; exact r6
    · rw [sI_other (by decide), hI_sI_self, up1, if_pos rfl]; rfl
    · rw [o 324 (by decide) (by decide), i1 324 (by decide) (by decide) (by decide)]; exact r8
  · rw [if_neg y] at s2 s3 ⊢
    obtain ⟨rfl, t1, t2⟩ := s3 (Nat.succ_ne_zero _)
    exact w_iff (by decide) (Wp.reti ⟨q.2.2.1.mf s1, fun z => absurd z (Nat.succ_ne_zero _), fun _ => ⟨rfl, t1, t2⟩⟩)
/-- step: how the two numbers come -/
theorem c173_41 {k n : Nat} {S : LSt} {s1 : Nat} {x2 : Int32} (hv : X.2.2 = .null ∨ X.2.2 = .ref 61) (I : Inv h) (q : MLs T L h0 h k n 3 S) (hn : n = S.1.length) (ok : okLS S) (hl : n < 20) (hs : s1 = stM S.2.1) (hx : tC T L k = 100 → x2 = Int32.ofNat (tV T L k)) (hs1 : s1 < 2147483648) :
    Wp (sem (X, K X (d + 38)) 173 41 [some (.ref 301), some (.int (Int32.ofNat (120 + S.2.1.length))), some (.int x2)] [.int (Int32.ofNat s1), .ref 301] h) (VI fun v h' => SimN T L h0 n (pSt (tC T L) (tV T L) k S) v h') := by
  obtain ⟨q, qs⟩ := q
  have l1 := ok.1
  have l2 := ok.2.1
  rw [b_173_41]
  refine w_gS I s_301 ?_
  refine w_bI I (m_162 (d := d + 29) (lo := s1) (hi := 999999) (h0 := h) hv I q.1 MFr.rf hs1 (by decide)) (by decide) rfl fun x h1 I1 s => ?_
  obtain ⟨u1, u2, u3⟩ := s
  unfold pNum at u2 u3
  unfold pSt
  have tv := tV_le (T := T) (L := L) (k := k)
  by_cases y : tC T L k = 100
  · rw [if_pos y] at u2 u3 ⊢
    by_cases y2 : stM S.2.1 ≤ tV T L k
    · have y2' : s1 ≤ tV T L k ∧ tV T L k ≤ 999999 := ⟨by rw [hs]; exact y2, tv⟩
      rw [if_pos y2'] at u2 u3
      rw [if_pos y2]
      obtain ⟨rfl, p1⟩ := u2 rfl
      rw [List.append_nil] at p1
      rw [hx y]
      refine w_ift (by decide) ?_
      refine w_gL I1 s_301 l_301_18 ?_
      refine w_wIn I1 s_320 (by omega) (by decide) fun I2 => ?_
      refine w_gI I2 s_301 ?_
      refine w_gS I2 s_301 ?_
      have p2 := p1.w (a := 320) (j := 120 + S.2.1.length) (v := Int32.ofNat (tV T L k)) (by decide) (by decide) (by decide)
      have F2 := (q.2.2.1.mf u1).w (a := 320) (j := 120 + S.2.1.length) (v := Int32.ofNat (tV T L k)) (by decide) (by unfold lowM; omega)
      have v39 : tC T L (k + 1) = 100 → hI (sI h1 320 (120 + S.2.1.length) (Int32.ofNat (tV T L k))) 301 39 = Int32.ofNat (tV T L (k + 1)) := fun z => p2.num z
      have g45 : hI (sI h1 320 (120 + S.2.1.length) (Int32.ofNat (tV T L k))) 301 45 = 0 := by rw [sI_other (by decide), u1.2.1 45 (by omega)]; exact q.2.2.2
      have g34 : hI (sI h1 320 (120 + S.2.1.length) (Int32.ofNat (tV T L k))) 301 34 = hI h 301 34 := by rw [sI_other (by decide), u1.2.1 34 (by omega)]
      have gi : ∀ a, 312 ≤ a → a ≤ 324 → a ≠ 317 → a ≠ 320 → hI (sI h1 320 (120 + S.2.1.length) (Int32.ofNat (tV T L k))) a = hI h a := fun a h1 h2 h3 h4 => by rw [sI_other h4, u1.1.i (by omega)]
      have g320 : hI (sI h1 320 (120 + S.2.1.length) (Int32.ofNat (tV T L k))) 320 = up1 (hI h 320) (120 + S.2.1.length) (Int32.ofNat (tV T L k)) := by rw [hI_sI_self, u1.1.i (by decide)]
      generalize sI h1 320 (120 + S.2.1.length) (Int32.ofNat (tV T L k)) = g at *
      refine w_bI I2 (m_162 (d := d + 29) (lo := 0) (hi := 100) (h0 := g) hv I2 p2 MFr.rf (by decide) (by decide)) (by decide) rfl fun x h3 I3 t => ?_
      obtain ⟨t1, t2, t3⟩ := t
      unfold pNum at t2 t3
      by_cases z : tC T L (k + 1) = 100
      · rw [if_pos z] at t2 t3 ⊢
        by_cases z2 : tV T L (k + 1) ≤ 100
        · rw [if_pos (show 0 ≤ tV T L (k + 1) ∧ tV T L (k + 1) ≤ 100 from ⟨Nat.zero_le _, z2⟩)] at t2 t3
          rw [if_pos z2]
          obtain ⟨rfl, p3⟩ := t2 rfl
          rw [List.append_nil] at p3
          rw [v39 z]
          refine w_ift (by decide) ?_
          refine w_gL I3 s_301 l_301_19 ?_
          refine w_wIn I3 s_321 (by omega) (by decide) fun I4 => ?_
          refine w_gL I4 s_301 l_301_17 ?_
          refine w_aIn (m := 6) I4 s_319 (by decide) (by decide) ?_
          have r3 := q.2.1.2.2.1
          have i3 : ∀ a, 312 ≤ a → a ≤ 324 → a ≠ 317 → hI h3 a = hI g a := fun a h1 h2 h3 => t1.1.i (by omega)
          rw [sI_other (show 319 ≠ 321 by decide), i3 319 (by decide) (by decide) (by decide), gi 319 (by decide) (by decide) (by decide) (by decide), r3, i32_ofNat_succ]
          refine w_wIn (m := 6) I4 s_319 (by decide) (by decide) fun I5 => ?_
          obtain ⟨-, -, -, r4, r5, r6, r7, r8⟩ := q.2.1
          have o : ∀ a, a ≠ 321 → a ≠ 319 → hI (sI (sI h3 321 (120 + S.2.1.length) (Int32.ofNat (tV T L (k + 1)))) 319 6 (Int32.ofNat (S.2.1.length + 1))) a = hI h3 a := fun a h1 h2 => by rw [sI_other h2, sI_other h1]
          have F5 : FrM h0 (sI (sI h3 321 (120 + S.2.1.length) (Int32.ofNat (tV T L (k + 1)))) 319 6 (Int32.ofNat (S.2.1.length + 1))) := ((F2.mf t1).w (by decide) (by unfold lowM; omega)).w (by decide) (by unfold lowM; omega)
          refine Wp.reti ⟨F5, fun _ => ⟨rfl, MLb.put (dd := 0) (s := 3) (S := S) (h := h) ((p3.w (by decide) (by decide) (by decide)).w (by decide) (by decide) (by decide)) q.2.1 F5 ?_ rfl ⟨by decide, by decide⟩ ?_ (fun a h1 h2 i hi => by rw [o a (by omega) (by omega), i3 a h1 (by omega) (by omega), gi a h1 (by omega) (by omega) (by omega)]) ?_ ?_ ?_ ?_ ?_ ?_ ?_⟩, fun y => absurd rfl y⟩
          · rw [o 301 (by decide) (by decide), t1.2.1 45 (by omega)]; exact g45
          · rw [← hn, o 312 (by decide) (by decide), i3 312 (by decide) (by decide) (by decide), gi 312 (by decide) (by decide) (by decide) (by decide)]; exact qs
          · rw [o 301 (by decide) (by decide), t1.2.1 34 (by omega)]; exact g34
          · rw [hI_sI_self, up1, if_pos rfl]
            show _ = Int32.ofNat (S.2.1 ++ [(tV T L k, tV T L (k + 1))]).length
            rw [List.length_append]; rfl
          · show mSteps _ 6 0 (S.2.1 ++ [(tV T L k, tV T L (k + 1))])
            have w0 : hI (sI (sI h3 321 (120 + S.2.1.length) (Int32.ofNat (tV T L (k + 1)))) 319 6 (Int32.ofNat (S.2.1.length + 1))) 320 = up1 (hI h 320) (120 + S.2.1.length) (Int32.ofNat (tV T L k)) := by rw [o 320 (by decide) (by decide), i3 320 (by decide) (by decide) (by decide)]; exact g320
            have w1 : hI (sI (sI h3 321 (120 + S.2.1.length) (Int32.ofNat (tV T L (k + 1)))) 319 6 (Int32.ofNat (S.2.1.length + 1))) 321 = up1 (hI h 321) (120 + S.2.1.length) (Int32.ofNat (tV T L (k + 1))) := by rw [sI_other (by decide), hI_sI_self, i3 321 (by decide) (by decide) (by decide), gi 321 (by decide) (by decide) (by decide) (by decide)]
            refine r4.sn (fun i hi => ?_) ?_ ?_
            · rw [w0, w1, up1, up1, if_neg (by omega), if_neg (by omega)]; exact ⟨rfl, rfl⟩
            · rw [w0, up1, if_pos (by omega)]
            · rw [w1, up1, if_pos (by omega)]
          · rw [o 318 (by decide) (by decide), i3 318 (by decide) (by decide) (by decide), gi 318 (by decide) (by decide) (by decide) (by decide)]; exact r5
          · rw [o 322 (by decide) (by decide), i3 322 (by decide) (by decide) (by decide), gi 322 (by decide) (by decide) (by decide) (by decide)]; exact r6
          · rw [o 323 (by decide) (by decide), i3 323 (by decide) (by decide) (by decide), gi 323 (by decide) (by decide) (by decide) (by decide)]; exact r7
          · rw [o 324 (by decide) (by decide), i3 324 (by decide) (by decide) (by decide), gi 324 (by decide) (by decide) (by decide) (by decide)]; exact r8
        · rw [if_neg (show ¬ (0 ≤ tV T L (k + 1) ∧ tV T L (k + 1) ≤ 100) from fun w => z2 w.2)] at t2 t3
          rw [if_neg z2]
          obtain ⟨rfl, w1, w2⟩ := t3 (Nat.succ_ne_zero _)
          exact w_iff (by decide) (Wp.reti ⟨F2.mf t1, fun z => absurd z (Nat.succ_ne_zero _), fun _ => ⟨rfl, w1, w2⟩⟩)
      · rw [if_neg z] at t2 t3 ⊢
        obtain ⟨rfl, w1, w2⟩ := t3 (Nat.succ_ne_zero _)
        exact w_iff (by decide) (Wp.reti ⟨F2.mf t1, fun z => absurd z (Nat.succ_ne_zero _), fun _ => ⟨rfl, w1, w2⟩⟩)
    · rw [if_neg (show ¬ (s1 ≤ tV T L k ∧ tV T L k ≤ 999999) from fun w => y2 (by rw [← hs]; exact w.1))] at u2 u3
      rw [if_neg y2]
      obtain ⟨rfl, w1, w2⟩ := u3 (Nat.succ_ne_zero _)
      exact w_iff (by decide) (Wp.reti ⟨q.2.2.1.mf u1, fun z => absurd z (Nat.succ_ne_zero _), fun _ => ⟨rfl, w1, w2⟩⟩)
  · rw [if_neg y] at u2 u3 ⊢
    obtain ⟨rfl, w1, w2⟩ := u3 (Nat.succ_ne_zero _)
    exact w_iff (by decide) (Wp.reti ⟨q.2.2.1.mf u1, fun z => absurd z (Nat.succ_ne_zero _), fun _ => ⟨rfl, w1, w2⟩⟩)
theorem stM_lt {S : LSt} (ok : okLS S) : stM S.2.1 < 2147483648 := by
  unfold stM
  split
  · decide
  · rw [List.getD_eq_getElem?_getD, List.getElem?_eq_getElem (by omega)]
    have := (ok.2.2.2.1 _ (List.getElem_mem (show S.2.1.length - 1 < S.2.1.length by omega))).1
    show (S.2.1[S.2.1.length - 1]).1 + 1 < 2147483648
    omega
theorem m_173 {k n : Nat} {S : LSt} (hv : X.2.2 = .null ∨ X.2.2 = .ref 61) (I : Inv h) (q : MLs T L h0 h k n 3 S) (hn : n = S.1.length) (ok : okLS S) (hl : n < 20) : Wp (K X (d + 39) 173 [.ref 301] h) (VI fun v h' => SimN T L h0 n (pSt (tC T L) (tV T L) k S) v h') := by
  have l1 := ok.1
  have l2 := ok.2.1
  obtain ⟨r1, r2, r3, r4, r5, r6, r7, r8⟩ := q.1.2.1
  have hx : tC T L k = 100 → hI h 301 39 = Int32.ofNat (tV T L k) := fun z => q.1.1.num z
  rw [k_173]
  refine w_gL I s_301 l_301_17 ?_
  refine w_aIn (m := 6) I s_319 (by decide) (by decide) ?_
  rw [r3]
  refine w_gI I s_301 ?_
  refine w_gL I s_301 l_301_17 ?_
  refine w_aIn (m := 6) I s_319 (by decide) (by decide) ?_
  rw [r3, i120]
  refine w_if (fun c0 => ?_) (fun c0 => ?_)
  · have l0 : S.2.1.length ≠ 0 := fun z => c0 (by rw [z]; rfl)
    refine w_gL I s_301 l_301_18 ?_
    have e1 : Int32.ofNat (120 + S.2.1.length) - 1 = Int32.ofNat (120 + S.2.1.length - 1) := i_sub (n := 1) (by omega)
    rw [e1]
    refine w_aIn I s_320 (by omega) (by decide) ?_
    have a := r4.at (i := S.2.1.length - 1) (by omega)
    have ex : 20 * 6 + (0 + (S.2.1.length - 1)) = 120 + S.2.1.length - 1 := by omega
    rw [ex] at a
    rw [a, i32_ofNat_succ]
    exact c173_41 hv I q hn ok hl (show _ = stM S.2.1 from (if_neg l0).symm) hx (by have := stM_lt ok; unfold stM at this; rw [if_neg l0] at this; exact this)
  · have l0 : S.2.1.length = 0 := (i_eq (n := 0) (by omega) (by omega)).mp (Classical.byContradiction c0)
    exact c173_41 (s1 := 0) hv I q hn ok hl (show _ = stM S.2.1 from (if_pos l0).symm) hx (by decide)
/-- no, off, free -/
theorem m_174 {k dd e : Nat} {st : List Op} {b : Bool} (hv : X.2.2 = .null ∨ X.2.2 = .ref 61) (I : Inv h) (q : MP T L h k st dd e) (hf : hI h 301 45 = bi b) : Wp (K X (d + 9) 174 [.ref 301] h) (VI fun v h' => MFr h h' ∧ ((((tC T L k = 20 ∧ b = false) ∨ tC T L k = 21 ∨ tC T L k = 16) ∧ v = Int32.ofNat (rlV (tC T L k)) ∧ MP T L h' (k + 1) st dd e) ∨ (¬ ((tC T L k = 20 ∧ b = false) ∨ tC T L k = 21 ∨ tC T L k = 16) ∧ v = -1 ∧ hI h' 301 40 = 1 ∧ hI h' 301 41 = Int32.ofNat (tP T L k)))) := by
  have t20 : Int32.ofNat (mt (tC T L k)) = 7 ↔ tC T L k = 20 := tok_is tC_vld (vkw (c := 20) (by decide)) rfl
  have t21 : Int32.ofNat (mt (tC T L k)) = 8 ↔ tC T L k = 21 := tok_is tC_vld (vkw (c := 21) (by decide)) rfl
  have t16 : Int32.ofNat (mt (tC T L k)) = 22 ↔ tC T L k = 16 := tok_is tC_vld (vkw (c := 16) (by decide)) rfl
  have fin : ∀ v1 s0, s0 = Int32.ofNat (rlV (tC T L k)) → ((tC T L k = 20 ∧ b = false) ∨ tC T L k = 21 ∨ tC T L k = 16) → Wp (sem (X, K X (d + 8)) 174 47 [some (.ref 301), v1] [.int s0] h) (VI fun v h' => MFr h h' ∧ ((((tC T L k = 20 ∧ b = false) ∨ tC T L k = 21 ∨ tC T L k = 16) ∧ v = Int32.ofNat (rlV (tC T L k)) ∧ MP T L h' (k + 1) st dd e) ∨ (¬ ((tC T L k = 20 ∧ b = false) ∨ tC T L k = 21 ∨ tC T L k = 16) ∧ v = -1 ∧ hI h' 301 40 = 1 ∧ hI h' 301 41 = Int32.ofNat (tP T L k)))) := by
    rintro v1 s0 rfl y
    have := rlV_le (tC T L k)
    rw [b_174_47]
    refine w_ift (i_nm1 (by omega)) ?_
    refine w_next (d := d) (h0 := h) hv I q MFr.rf (by omega) fun h1 I1 q1 M1 _ => ?_
    exact Wp.reti ⟨M1, Or.inl ⟨y, rfl, q1.wk (by omega)⟩⟩
  have c20 : ∀ v1, ¬ (tC T L k = 20 ∧ b = false) → Wp (sem (X, K X (d + 8)) 174 20 [some (.ref 301), v1] [] h) (VI fun v h' => MFr h h' ∧ ((((tC T L k = 20 ∧ b = false) ∨ tC T L k = 21 ∨ tC T L k = 16) ∧ v = Int32.ofNat (rlV (tC T L k)) ∧ MP T L h' (k + 1) st dd e) ∨ (¬ ((tC T L k = 20 ∧ b = false) ∨ tC T L k = 21 ∨ tC T L k = 16) ∧ v = -1 ∧ hI h' 301 40 = 1 ∧ hI h' 301 41 = Int32.ofNat (tP T L k)))) := fun v1 n0 => by
    rw [b_174_20]
    refine w_gI I s_301 ?_
    rw [q.tok]
    refine w_if (fun c1 => ?_) (fun c1 => ?_)
    · refine w_gI I s_301 ?_
      rw [q.tok]
      refine w_if (fun c2 => ?_) (fun c2 => ?_)
      · have n1 : tC T L k ≠ 21 := fun z => c1 (t21.mpr z)
        have n2 : tC T L k ≠ 16 := fun z => c2 (t16.mpr z)
        rw [b_174_47]
        refine w_iff (by decide) ?_
        refine w_gS I s_301 ?_
        refine w_bI I (m_bad (w := 1) (d := d + 7) (h0 := h) (st0 := st) I q MFr.rf (by decide)) (by decide) rfl fun x h1 I1 s => ?_
        obtain ⟨rfl, a, b⟩ := s.2.2 (Nat.succ_ne_zero _)
        exact Wp.reti ⟨s.1, Or.inr ⟨by rintro (z | z | z); exact n0 z; exact n1 z; exact n2 z, rfl, a, b⟩⟩
      · have e := t16.mp (Classical.byContradiction c2)
        exact fin _ _ (by rw [e]; rfl) (Or.inr (Or.inr e))
    · have e := t21.mp (Classical.byContradiction c1)
      exact fin _ _ (by rw [e]; rfl) (Or.inr (Or.inl e))
  rw [k_174]
  refine w_gI I s_301 ?_
  rw [q.tok]
  refine w_if (fun c0 => c20 _ fun z => c0 (t20.mpr z.1)) (fun c0 => ?_)
  have e20 := t20.mp (Classical.byContradiction c0)
  refine w_gI I s_301 ?_
  rw [hf]
  refine w_if (fun c1 => c20 _ fun z => c1 (by rw [z.2]; rfl)) (fun c1 => ?_)
  have eb : b = false := bi_0.mp (Classical.byContradiction c1)
  exact fin _ _ (by rw [e20]; rfl) (Or.inl ⟨e20, eb⟩)
/-- relief -/
theorem c175_4 {k n : Nat} {S : LSt} {x2 : Int32} (hv : X.2.2 = .null ∨ X.2.2 = .ref 61) (I : Inv h) (q : MLs T L h0 h k n 4 S) (hn : n = S.1.length) (hl : n < 20) : Wp (sem (X, K X (d + 39)) 175 115 [some (.ref 301), some (.int 4), some (.int x2)] [] h) (VI fun v h' => SimW T L h0 (eL (tC T L) (pRl (tC T L) k S)) v h') := by
  obtain ⟨q, qs⟩ := q
  rw [b_175_115]
  refine w_ift (by decide) ?_
  refine w_ift (by decide) ?_
  rw [b_175_162]
  refine w_iff (by decide) ?_
  refine w_gL I s_301 l_301_22 ?_
  refine w_wZn (m := 6) I s_324 (by decide) (by decide) (by decide) fun I1 => ?_
  refine w_gL I1 s_301 l_301_20 ?_
  refine w_gS I1 s_301 ?_
  have p1 := q.1.w (a := 324) (j := 6) (v := 1) (by decide) (by decide) (by decide)
  have F1 := q.2.2.1.w (a := 324) (j := 6) (v := 1) (by decide) (by unfold lowM; omega)
  refine w_bI I1 (m_174 (d := d + 30) (b := false) hv I1 p1 (by rw [sI_other (by decide)]; exact q.2.2.2)) (by decide) rfl fun x h2 I2 s => ?_
  obtain ⟨s1, s2⟩ := s
  unfold pRl
  obtain ⟨r1, r2, r3, r4, r5, r6, r7, r8⟩ := q.2.1
  rcases s2 with ⟨y, rfl, p2⟩ | ⟨y, rfl, t1, t2⟩
  · have y' : tC T L k = 20 ∨ tC T L k = 21 ∨ tC T L k = 16 := y.imp (fun z => z.1) id
    rw [if_pos y']
    have := rlV_le (tC T L k)
    refine w_wIn (m := 6) I2 s_322 (by decide) (by decide) fun I3 => ?_
    refine w_gL I3 s_301 l_301_20 ?_
    refine w_aIn (m := 6) I3 s_322 (by decide) (by decide) ?_
    rw [hI_sI_self, up1, if_pos rfl]
    refine w_ift (i_nm1 (by omega)) ?_
    have i2 : ∀ a, 312 ≤ a → a ≤ 324 → a ≠ 317 → a ≠ 324 → hI h2 a = hI h a := fun a h1 h2 h3 h4 => by rw [s1.1.i (by omega), sI_other h4]
    have o : ∀ a, a ≠ 322 → hI (sI h2 322 6 (Int32.ofNat (rlV (tC T L k)))) a = hI h2 a := fun a h1 => sI_other h1
    refine w_tail (d := d + 30) (h0 := h0) (n := n) (S := (S.1 ++ [none], S.2.1, S.2.2.1, some (rlV (tC T L k)))) hv I3 (MLb.put (dd := 0) (s := 4) (S := S) (h := h) (p2.w (by decide) (by decide) (by decide)) q.2.1 ((F1.mf s1).w (by decide) (by unfold lowM; omega)) ?_ rfl ⟨by decide, by decide⟩ ?_ (fun a h1 h2 i hi => by rw [o a (by omega), i2 a h1 (by omega) (by omega) (by omega)]) ?_ ?_ ?_ ?_ ?_ ?_ ?_) (by rw [sn_len, hn])
    · rw [o 301 (by decide), s1.2.1 45 (by omega), sI_other (by decide)]; exact q.2.2.2
    · rw [← hn, o 312 (by decide), i2 312 (by decide) (by decide) (by decide) (by decide)]; exact qs
    · rw [o 301 (by decide), s1.2.1 34 (by omega), sI_other (by decide)]
    · rw [o 319 (by decide), i2 319 (by decide) (by decide) (by decide) (by decide)]; exact r3
    · exact r4.e0 (by rw [o 320 (by decide), i2 320 (by decide) (by decide) (by decide) (by decide)]) (by rw [o 321 (by decide), i2 321 (by decide) (by decide) (by decide) (by decide)])
    · rw [o 318 (by decide), i2 318 (by decide) (by decide) (by decide) (by decide)]; exact r5
    · rw [hI_sI_self, up1, if_pos rfl]; rfl
    · rw [o 323 (by decide), i2 323 (by decide) (by decide) (by decide) (by decide)]; exact r7
    · rw [o 324 (by decide), s1.1.i (by decide), hI_sI_self, up1, if_pos rfl]; rfl
  · have y' : ¬ (tC T L k = 20 ∨ tC T L k = 21 ∨ tC T L k = 16) := fun z => y (z.imp (fun w => ⟨w, rfl⟩) id)
    rw [if_neg y']
    refine w_wIn (m := 6) I2 s_322 (by decide) (by decide) fun I3 => ?_
    refine w_gL I3 s_301 l_301_20 ?_
    refine w_aIn (m := 6) I3 s_322 (by decide) (by decide) ?_
    rw [hI_sI_self, up1, if_pos rfl]
    refine w_iff (by decide) ?_
    exact Wp.reti ⟨(F1.mf s1).w (by decide) (by unfold lowM; omega), fun z => absurd z (Nat.succ_ne_zero _), fun _ => ⟨rfl, by rw [sI_other (by decide)]; exact t1, by rw [sI_other (by decide)]; exact t2⟩⟩
end MT
