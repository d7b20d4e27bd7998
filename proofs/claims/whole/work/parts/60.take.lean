/-! THE CLASS TAKES AN ANSWER -/
section TK
variable {X : Ctx} {d : Nat} {Q : Option Value → Hp → Prop} {du : Nat → Int} {off : Nat → Nat → Bool} {his : Nat → Bool} {M : Nat → Ve} {e : Int}
theorem tb_lt {s l : Nat} : bt (Int32.ofNat s) l = tb s l := rfl
theorem c26_2 {s : Nat} {h0 : Hp} (hh : hI h0 274 15 = msk his 6) (b : Bd (tb s) M e) (e0 : e ≠ 0) (a : AnsC h0 (tb s) M e) (hs : solP du off (tb s) = some (M, e)) : ∀ (c l : Nat) (h : Hp), l + c = 6 → Inv h → Eo (fun a => a = 289) h0 h → (∀ m, m < 6 → hJ h 289 m = if m < l then (if his m then (if tb s m then Int64.ofInt (told du off (tb s) m) else 0) else hJ h0 289 m) else hJ h0 289 m) →
    Wp (sem (X, K X (d + 1)) 26 2 [some (.ref 274), some (.int (Int32.ofNat s)), some (.int (Int32.ofNat l))] [] h) (VV fun h' => Eo (fun a => a = 289) h0 h' ∧ ∀ m, m < 6 → hJ h' 289 m = if his m then (if tb s m then Int64.ofInt (told du off (tb s) m) else 0) else hJ h0 289 m)
  | 0, l, h, el, I, E, q => by
    rw [b_26_2]
    refine w_ift ((i_le (m := 6) (by omega) (by omega)).mpr (by omega)) (Wp.retv ⟨E, fun m hm => ?_⟩)
    rw [q m hm, if_pos (by omega)]
  | c + 1, l, h, el, I, E, q => by
    have hl : l < 6 := by omega
    rw [b_26_2]
    refine w_iff (fun z => absurd ((i_le (m := 6) (by omega) (by omega)).mp z) (by omega)) ?_
    refine w_gI I s_274 ?_
    refine w_eI (m_has (by omega)) ?_
    rw [E.i (show ¬ (274 = 289) by decide), hh, bt_msk (by decide) (by omega), decide_eq_true hl, Bool.true_and, i32_ofNat_succ]
    have wr : ∀ v, v = (if tb s l then Int64.ofInt (told du off (tb s) l) else 0) → his l = true → ∀ m, m < 6 → hJ (sJ h 289 l v) 289 m = if m < l + 1 then (if his m then (if tb s m then Int64.ofInt (told du off (tb s) m) else 0) else hJ h0 289 m) else hJ h0 289 m := fun v hv hq m hm => by
      rw [hJ_sJ_self, up1]
      by_cases z : m = l
      · rw [if_pos z, if_pos (by omega), z, if_pos hq]; exact hv
      · rw [if_neg z, q m hm]
        by_cases z2 : m < l
        · rw [if_pos z2, if_pos (show m < l + 1 by omega)]
        · rw [if_neg z2, if_neg (show ¬ m < l + 1 by omega)]
    refine w_if (fun c0 => ?_) (fun c0 => ?_)
    · refine c26_2 hh b e0 a hs c (l + 1) h (by omega) I E fun m hm => ?_
      rw [q m hm]
      by_cases z : m = l
      · rw [if_neg (by omega), if_pos (by omega), z, bi_0.mp c0]; rfl
      · by_cases z2 : m < l
        · rw [if_pos z2, if_pos (show m < l + 1 by omega)]
        · rw [if_neg z2, if_neg (show ¬ m < l + 1 by omega)]
    · have hq : his l = true := by cases z : his l; rw [z] at c0; exact absurd rfl c0; rfl
      refine w_gL I s_274 l_274_9 ?_
      refine w_eI (m_has (by omega)) ?_
      rw [tb_lt]
      refine w_if (fun c1 => ?_) (fun c1 => ?_)
      · refine w_wJn I s_289 hl (by decide) fun I => ?_
        exact c26_2 hh b e0 a hs c (l + 1) _ (by omega) I (E.kJ rfl) (wr 0 (by rw [bi_0.mp c1]; rfl) hq)
      · have hb : tb s l = true := by cases z : tb s l; rw [z] at c1; exact absurd rfl c1; rfl
        refine w_gL I s_274 l_274_11 ?_
        refine w_gS I s_291 ?_
        have a' : AnsC h (tb s) M e := by
          unfold AnsC
          rw [E.j (show ¬ (291 = 289) by decide), E.j (show ¬ (300 = 289) by decide)]
          exact a
        refine w_eJ (Wp.eqJ (k83 I hl hb b e0 a')) ?_
        refine w_wJn I s_289 hl (by decide) fun I => ?_
        refine c26_2 hh b e0 a hs c (l + 1) _ (by omega) I (E.kJ rfl) (wr _ ?_ hq)
        rw [if_pos hb]
        unfold told
        rw [hs]
/-- takeAnswer -/
theorem m_26 {s : Nat} {h : Hp} (I : Inv h) (hh : hI h 274 15 = msk his 6) (b : Bd (tb s) M e) (e0 : e ≠ 0) (a : AnsC h (tb s) M e) (hs : solP du off (tb s) = some (M, e)) :
    Wp (K X (d + 2) 26 [.ref 274, .int (Int32.ofNat s)] h) (VV fun h' => Eo (fun a => a = 289) h h' ∧ ∀ m, m < 6 → hJ h' 289 m = if his m then (if tb s m then Int64.ofInt (told du off (tb s) m) else 0) else hJ h 289 m) := by
  rw [k_26]
  exact c26_2 hh b e0 a hs 6 0 h rfl I Eo.rf fun m hm => by rw [if_neg (by omega)]
def W25 (a : Nat) : Prop := a = 274 ∨ a = 289 ∨ (291 ≤ a ∧ a ≤ 300)
/-- after the sets before s -/
def Ch (h0 h : Hp) (du : Nat → Int) (off : Nat → Nat → Bool) (his op : Nat → Bool) (ah : Nat → Int) (s : Nat) : Prop := Eo W25 h0 h ∧ (∀ k, k ≠ 17 → hI h 274 k = hI h0 274 k) ∧ (hJ h 274 = hJ h0 274 ∧ hP h 274 = hP h0 274) ∧ (∃ ro, Rg h ro) ∧ hI h 274 17 = Int32.ofNat (num du off op s) ∧ ∀ l, l < 6 → hJ h 289 l = Int64.ofInt (tkn du off his ah (frs du off op s) l)
theorem c25_22 {op : Nat → Bool} {ah : Nat → Int} {N : Nat} {h0 : Hp} (ho : offR h0 off) (hdu : duR h0 du) (hh : hI h0 274 15 = msk his 6) (hd : ∀ l, l < 6 → (du l).natAbs ≤ 17179869184) (hN : N < 64) (eN : msk op 6 = Int32.ofNat N) : ∀ (c s : Nat) (h : Hp), s + c = N + 1 → Inv h → Ch h0 h du off his op ah s →
    Wp (sem (X, K X (d + 4)) 25 22 [some (.ref 274), some (.int (msk op 6)), some (.int (Int32.ofNat s))] [] h) (VV fun h' => Ch h0 h' du off his op ah 64)
  | 0, s, h, es, I, q => by
    have z := num_beyond du off hN eN (64 - s) s (by omega) (by omega)
    rw [b_25_22, eN]
    refine w_ift ((i_lt (by omega) (by omega)).mpr (by omega)) (Wp.retv ?_)
    unfold Ch
    rw [z.1, z.2]
    exact q
  | c + 1, s, h, es, I, q => by
    obtain ⟨E, q1, q2, ⟨ro, g⟩, q3, q4⟩ := q
    have hs : s < 64 := by omega
    have nle := num_le du off (q := op) s
    have skip : ∀ h', Inv h' → Ch h0 h' du off his op ah (s + 1) → Wp (sem (X, K X (d + 4)) 25 22 [some (.ref 274), some (.int (msk op 6)), some (.int (Int32.ofNat s + 1))] [] h') (VV fun h' => Ch h0 h' du off his op ah 64) := fun h' I' q' => by
      rw [i32_ofNat_succ]
      exact c25_22 ho hdu hh hd hN eN c (s + 1) h' (by omega) I' q'
    have no : aq du off op s = false → num du off op (s + 1) = num du off op s ∧ frs du off op (s + 1) = frs du off op s := fun ha => by
      constructor
      · show num du off op s + (if aq du off op s then 1 else 0) = _
        rw [ha]; rfl
      · show (match frs du off op s with | some x => some x | none => if aq du off op s then some s else none) = _
        rw [ha]
        cases frs du off op s <;> rfl
    rw [b_25_22]
    refine w_iff (fun z => ?_) ?_
    · rw [eN] at z
      exact absurd ((i_lt (by omega) (by omega)).mp z) (by omega)
    refine w_if (fun c0 => ?_) (fun c0 => ?_)
    · have ha : aq du off op s = false := by
        unfold aq
        cases hb : subB op s
        · rfl
        · exact absurd ((sub_iff hs).mpr hb) c0
      refine skip h I ?_
      unfold Ch
      rw [(no ha).1, (no ha).2]
      exact ⟨E, q1, q2, ⟨ro, g⟩, q3, q4⟩
    · have hb : subB op s = true := (sub_iff hs).mp (Classical.byContradiction c0)
      have ea : aq du off op s = ansB du off op (tb s) := by unfold aq; rw [hb, Bool.true_and]
      refine w_gL I s_274 l_274_11 ?_
      refine w_gL I s_274 l_274_5 ?_
      refine w_gL I s_274 l_274_10 ?_
      refine w_gS I s_291 ?_
      have ho' : offR h off := fun x hx k hk => by rw [E.i (show ¬ W25 285 by unfold W25; omega)]; exact ho x hx k hk
      have hdu' : duR h du := fun l hl => by rw [E.j (show ¬ W25 290 by unfold W25; omega)]; exact hdu l hl
      refine w_bI I (m_78 (p := tb s) (op := op) I ho' hdu' (fun l _ => rfl) (fun l hl => by rw [bt_msk (by decide) (by omega), decide_eq_true hl, Bool.true_and]) hd g) (by decide) rfl ?_
      rintro x h1 I1 ⟨rfl, E1, ⟨ro1, g1⟩, q5⟩
      have n1 : hI h1 274 = hI h 274 := E1.i (by unfold W78; omega)
      have n2 : hJ h1 274 = hJ h 274 := E1.j (by unfold W78; omega)
      have n2p : hP h1 274 = hP h 274 := E1.p (by unfold W78; omega)
      have n3 : hJ h1 289 = hJ h 289 := E1.j (by unfold W78; omega)
      have E01 : Eo W25 h0 h1 := E.tr (E1.wk fun a z => by unfold W78 at z; unfold W25; omega)
      refine w_if (fun c1 => ?_) (fun c1 => ?_)
      · have ha : aq du off op s = false := by rw [ea]; exact bi_0.mp c1
        refine skip h1 I1 ?_
        unfold Ch
        rw [(no ha).1, (no ha).2, n1, n2, n2p, n3]
        exact ⟨E01, q1, q2, ⟨ro1, g1⟩, q3, q4⟩
      · have hc : ansB du off op (tb s) = true := by cases z : ansB du off op (tb s); rw [z] at c1; exact absurd rfl c1; rfl
        have ha : aq du off op s = true := by rw [ea]; exact hc
        have en : num du off op (s + 1) = num du off op s + 1 := by
          show num du off op s + (if aq du off op s then 1 else 0) = _
          rw [ha]; rfl
        refine w_gI I1 s_274 ?_
        refine w_fI I1 s_274 fun I2 => ?_
        refine w_gI I2 s_274 ?_
        have ev : hI (sI h1 274 17 (hI h1 274 17 + 1)) 274 17 = Int32.ofNat (num du off op s + 1) := by
          rw [hI_sI_self]
          show (if 17 = 17 then _ else _) = _
          rw [if_pos rfl, n1, q3, i32_ofNat_succ]
        have E2 : Eo W25 h0 (sI h1 274 17 (hI h1 274 17 + 1)) := E01.kI (by unfold W25; omega)
        have o2 : ∀ k, k ≠ 17 → hI (sI h1 274 17 (hI h1 274 17 + 1)) 274 k = hI h0 274 k := fun k hk => by
          rw [hI_sI_self, up1, if_neg hk, n1]; exact q1 k hk
        refine w_if (fun c2 => ?_) (fun c2 => ?_)
        · have hn : num du off op s ≠ 0 := fun z => c2 (by rw [ev, z]; rfl)
          cases hf : frs du off op s with
          | none => exact absurd ((num_frs du off s).mpr hf) hn
          | some x =>
            have ef : frs du off op (s + 1) = some x := by
              show (match frs du off op s with | some x => some x | none => if aq du off op s then some s else none) = _
              rw [hf]
            refine skip _ I2 ⟨E2, o2, ⟨n2.trans q2.1, n2p.trans q2.2⟩, ⟨ro1, g1⟩, by rw [ev, en], fun l hl => ?_⟩
            rw [ef, ← hf]
            exact (congrFun n3 l).trans (q4 l hl)
        · have hn : num du off op s = 0 := by
            have : hI (sI h1 274 17 (hI h1 274 17 + 1)) 274 17 = 1 := Classical.byContradiction c2
            rw [ev] at this
            have := (i_eq (m := num du off op s + 1) (n := 1) (by omega) (by omega)).mp this
            omega
          have hf : frs du off op s = none := (num_frs du off s).mp hn
          have ef : frs du off op (s + 1) = some s := by
            show (match frs du off op s with | some x => some x | none => if aq du off op s then some s else none) = _
            rw [hf, ha]; rfl
          refine w_gS I2 s_274 ?_
          obtain ⟨M, e, hs2⟩ : ∃ M e, solP du off (tb s) = some (M, e) := by
            unfold ansB at hc
            cases hz : solP du off (tb s) with
            | none => rw [hz] at hc; cases hc
            | some t => exact ⟨t.1, t.2, rfl⟩
          obtain ⟨B, st, hB, bd⟩ := mA_sol hd hs2
          have an := q5 hc M e hs2
          refine w_bV I2 (m_26 (his := his) I2 ((o2 15 (by decide)).trans hh) bd st.2.1 an hs2) (by decide) rfl ?_
          rintro h3 I3 ⟨E3, q6⟩
          have m1 : hI h3 274 = hI (sI h1 274 17 (hI h1 274 17 + 1)) 274 := E3.i (by decide)
          refine skip h3 I3 ⟨E2.tr (E3.wk fun a z => by unfold W25; omega), fun k hk => by rw [m1]; exact o2 k hk, ?_, ⟨ro1, ?_⟩, by rw [m1, ev, en], fun l hl => ?_⟩
          · exact ⟨(E3.j (show ¬ (274 = 289) by decide)).trans (n2.trans q2.1), (E3.p (show ¬ (274 = 289) by decide)).trans (n2p.trans q2.2)⟩
          · unfold Rg at g1 ⊢
            rw [E3.p (show ¬ (292 = 289) by decide)]; exact g1
          · rw [ef, q6 l hl]
            show _ = Int64.ofInt (if his l then (if tb s l then told du off (tb s) l else 0) else ah l)
            cases his l
            · have := q4 l hl
              rw [hf] at this
              exact (congrFun n3 l).trans this
            · cases tb s l <;> rfl
/-- chooseAnswer -/
theorem m_25 {op : Nat → Bool} {ah : Nat → Int} {h : Hp} {ro : Nat → Nat} (I : Inv h) (ho : offR h off) (hdu : duR h du) (hh : hI h 274 15 = msk his 6) (hd : ∀ l, l < 6 → (du l).natAbs ≤ 17179869184) (g : Rg h ro) (hah : ∀ l, l < 6 → hJ h 288 l = Int64.ofInt (ah l)) :
    Wp (K X (d + 5) 25 [.ref 274, .int (msk op 6)] h) (VV fun h' => Ch h h' du off his op ah 64) := by
  obtain ⟨N, hN, eN⟩ := msk_nat op
  rw [k_25]
  refine w_fI I s_274 fun I => ?_
  refine w_gL I s_274 l_274_8 ?_
  refine w_gL I s_274 l_274_9 ?_
  refine w_acpJ (n := 0) (m := 6) I s_288 s_289 (by decide) (by decide) (by decide) fun I => ?_
  refine c25_22 ho hdu hh hd hN eN (N + 1) 0 _ (by omega) I ⟨(Eo.rf.kI (by unfold W25; omega)).kRJ (by unfold W25; omega), fun k hk => ?_, ⟨rfl, rfl⟩, ⟨ro, g⟩, ?_, fun l hl => ?_⟩
  · show hI (sI h 274 17 0) 274 k = _
    rw [hI_sI_self, up1, if_neg hk]
  · show hI (sI h 274 17 0) 274 17 = _
    rw [hI_sI_self]; rfl
  · rw [rJ_self]
    show (if 0 ≤ l ∧ l < 0 + 6 then hJ h 288 (0 + (l - 0)) else _) = _
    rw [if_pos (by omega), show 0 + (l - 0) = l by omega]
    exact hah l hl
end TK
