/-! JUDGED: both sides -/
def trA (S : AS) (a : AAns) : Int64 := if a.1 = 0 then (if hisP (vY S 0) (sL S) (sPc S) (dN a.2.1) then 1 else 0) else if a.1 = 1 then Int64.ofInt (tkS S 0 (dN a.2.2.1) (dN a.2.1)) else Int64.ofInt (noT S 0)
def jdL (S : AS) : List AAns → Nat → Int32
  | [], _ => -1
  | a :: r, j => if trA S a = a.2.2.2 then jdL S r (j + 1) else Int32.ofNat j
section JU
variable {X : Ctx} {d : Nat} {Q : Option Value → Hp → Prop} {h : Hp} {S : AS}
theorem m_134 {k : Nat} {a : AAns} (I : Inv h) (q : RC h S) (ok : okA S) (L : LvC h (vY S 0) (sL S) (sPc S) (sumB (sY S 0).2.2.2.2 : Nat)) (hk : k < 10) (oa : okAns S a) (ha : hI h 77 k = Int32.ofNat a.1 ∧ hI h 78 k = a.2.1 ∧ hI h 79 k = a.2.2.1) :
    Wp (K X (d + 8) 134 [.ref 62, .int (Int32.ofNat k)] h) (VJ fun v h' => v = trA S a ∧ RC h' S ∧ Cl h h' ∧ LvC h' (vY S 0) (sL S) (sPc S) (sumB (sY S 0).2.2.2.2 : Nat)) := by
  have y0 : 0 < 2 := by decide
  have ys := year_s y0
  obtain ⟨a1, a2, a3⟩ := ha
  obtain ⟨o1, o2, o3⟩ := oa
  rw [k_134]
  refine w_gL I s_62 l_62_5 ?_
  refine w_gL I s_76 l_76_1 ?_
  refine w_aIn I s_78 hk (by decide) ?_
  refine w_gL I s_62 l_62_5 ?_
  refine w_gL I s_76 l_76_0 ?_
  refine w_aIn I s_77 hk (by decide) ?_
  rw [a1, a2]
  unfold trA
  refine w_if (fun c0 => ?_) (fun c0 => ?_)
  · have n0 : a.1 ≠ 0 := fun z => c0 (by rw [z]; rfl)
    rw [if_neg n0]
    refine w_gL I s_62 l_62_5 ?_
    refine w_gL I s_76 l_76_0 ?_
    refine w_aIn I s_77 hk (by decide) ?_
    rw [a1]
    refine w_if (fun c1 => ?_) (fun c1 => ?_)
    · have n1 : a.1 ≠ 1 := fun z => c1 (by rw [z]; rfl)
      rw [if_neg n1]
      refine w_gL I s_62 l_62_8 ?_
      refine w_gL I s_62 l_62_0 ?_
      refine w_aLn (m := 0) I s_63 (by decide) (by decide) y0 (by decide) (lk_years 0 y0) ?_
      refine w_gS I s_274 ?_
      refine w_bJ I (m_20 (d := d) I q ok y0 L) (by decide) rfl ?_
      rintro x h1 I1 ⟨rfl, q1, C1, L1⟩
      exact Wp.retj ⟨rfl, q1, C1, L1⟩
    · have e1 : a.1 = 1 := (i_eq (n := 1) (by omega) (by omega)).mp (Classical.byContradiction c1)
      rw [if_pos e1]
      obtain ⟨l, l6, el⟩ := o2 (by omega)
      obtain ⟨i, hi, ei⟩ := o3 e1
      have hi : i < (sY S 0).2.2.2.2.length := hi
      have n12 : (sY S 0).2.2.2.2.length ≤ 12 := (ok.1 0 y0).2.1
      have i12 : i < 12 := by omega
      have oR := ok.r y0
      have hB := baseG oR hi
      have hT : cSum h (107 + 17 * 0 + i) ((sY S 0).2.2.2.2.getD i noS) := by
        have := (q.1.1 0 y0).2.2.2.2.at hi
        rw [(getD_mem hi).2] at this
        exact this
      refine w_gL I s_62 l_62_8 ?_
      refine w_gL I s_62 l_62_0 ?_
      refine w_aLn (m := 0) I s_63 (by decide) (by decide) y0 (by decide) (lk_years 0 y0) ?_
      refine w_gL I ys.1 ys.2.2.2.2.2.2.2.1 ?_
      refine w_gL I s_62 l_62_5 ?_
      refine w_gL I s_76 l_76_2 ?_
      refine w_aIn I s_79 hk (by decide) ?_
      rw [a3, ei, el]
      refine w_aLn I ys.2.2.2.2.1 (by decide) (by decide) i12 (by decide) (lk_sums 0 y0 i i12) ?_
      refine w_gS I s_274 ?_
      have w : Wp (K X (d + 7) 21 [.ref 274, .ref (107 + 17 * 0 + i)] h) (VJ fun x h' => x = Int64.ofInt (hV (vY S 0) (sL S) (sPc S) (sumB (sY S 0).2.2.2.2 : Nat) ((sY S 0).2.2.2.2.getD i noS)) ∧ RC h' S ∧ Cl h h' ∧ LvC h' (vY S 0) (sL S) (sPc S) (sumB (sY S 0).2.2.2.2 : Nat) ∧ ∀ l, l < 6 → hJ h' 289 l = Int64.ofInt (takP (vY S 0) (sL S) (sPc S) (sumB (sY S 0).2.2.2.2 : Nat) ((sY S 0).2.2.2.2.getD i noS) l)) := m_stl (d := d + 1) I q ok (sum_s y0 i12) (by omega) L hT (oR.2 _ (getD_mem hi).1) (by omega)
      refine w_bJ I w (by decide) rfl ?_
      rintro x h1 I1 ⟨rfl, q1, C1, L1, t1⟩
      refine w_gL I1 s_62 l_62_8 ?_
      refine w_gL I1 s_274 l_274_9 ?_
      refine w_aJn I1 s_289 l6 (by decide) ?_
      refine Wp.retj ⟨?_, q1, C1, L1⟩
      rw [t1 l l6, dN_of (by omega), dN_of (by omega)]
      rfl
  · have e0 : a.1 = 0 := (i_eq (n := 0) (by omega) (by omega)).mp (Classical.byContradiction c0)
    rw [if_pos e0]
    obtain ⟨l, l6, el⟩ := o2 (by omega)
    refine w_gL I s_62 l_62_8 ?_
    refine w_gI I s_274 ?_
    rw [L.2.1, el, dN_of (by omega)]
    refine w_eI (m_has (by omega)) ?_
    rw [bt_msk (by decide) (by omega), decide_eq_true l6, Bool.true_and]
    cases hz : hisP (vY S 0) (sL S) (sPc S) l
    · exact w_ift (by decide) (Wp.retj ⟨rfl, q, Eo.rf, L⟩)
    · exact w_iff (by decide) (Wp.retj ⟨rfl, q, Eo.rf, L⟩)
theorem c133_7 {h0 : Hp} (ok : okA S) : ∀ (r : List AAns) (k : Nat) (h : Hp), k + r.length = (sA S).length → (∀ a, a ∈ r → okAns S a) → Inv h → RC h S → Cl h0 h → LvC h (vY S 0) (sL S) (sPc S) (sumB (sY S 0).2.2.2.2 : Nat) → (∀ h', RC h' S → rA h' 77 78 79 80 k r) →
    Wp (sem (X, K X (d + 8)) 133 7 [some (.ref 62), some (.int (Int32.ofNat k))] [] h) (VI fun v h' => v = jdL S r k ∧ Cl h0 h' ∧ RC h' S)
  | [], k, h, e, o, I, q, C, L, g => by
    have l10 := ok.2.2.2.2.2.2.2.1
    have e : k = (sA S).length := by simpa using e
    rw [b_133_7]
    refine w_gL I s_62 l_62_5 ?_
    refine w_gI I s_76 ?_
    rw [q.1.2.2.2.2.2.2.1.1, e]
    exact w_ift (Int32.le_refl _) (Wp.reti ⟨rfl, C, q⟩)
  | a :: r, k, h, e, o, I, q, C, L, g => by
    have l10 := ok.2.2.2.2.2.2.2.1
    have e' : k + 1 + r.length = (sA S).length := by rw [← e, List.length_cons]; omega
    have g0 := (g h q).1
    rw [b_133_7]
    refine w_gL I s_62 l_62_5 ?_
    refine w_gI I s_76 ?_
    rw [q.1.2.2.2.2.2.2.1.1]
    refine w_iff (fun z => absurd ((i_le (by omega) (by omega)).mp z) (by omega)) ?_
    refine w_gS I s_62 ?_
    refine w_bJ I (m_134 (d := d) (a := a) I q ok L (by omega) (o a (by simp)) ⟨g0.1, g0.2.1, g0.2.2.1⟩) (by decide) rfl ?_
    rintro x h1 I1 ⟨rfl, q1, C1, L1⟩
    have g1 := (g h1 q1).1
    refine w_gL I1 s_62 l_62_5 ?_
    refine w_gL I1 s_76 l_76_3 ?_
    refine w_aJn I1 s_80 (by omega) (by decide) ?_
    rw [g1.2.2.2, i32_ofNat_succ]
    show Wp _ (VI fun v h' => v = (if trA S a = a.2.2.2 then jdL S r (k + 1) else Int32.ofNat k) ∧ Cl h0 h' ∧ RC h' S)
    refine w_if (fun c => ?_) (fun c => ?_)
    · rw [if_pos ((lg_cmp_eq _ _).mp c)]
      exact c133_7 ok r (k + 1) h1 e' (fun b hb => o b (by simp [hb])) I1 q1 (C.tr C1) L1 fun h' q' => (g h' q').2
    · rw [if_neg fun z => c ((lg_cmp_eq _ _).mpr z)]
      exact Wp.reti ⟨rfl, C.tr C1, q1⟩
theorem c_judged (I : Inv h) (q : RC h S) (ok : okA S) :
    Wp (K X (d + 9) 133 [.ref 62] h) (VI fun v h' => v = jdL S (sA S) 0 ∧ Cl h h' ∧ RC h' S) := by
  rw [k_133]
  refine w_hear (d := d + 2) (y := 0) I q ok (by decide) fun h1 I1 q1 C1 p => ?_
  have L1 := p.lv q1 ok
  exact c133_7 (d := d) ok (sA S) 0 h1 (by omega) ok.2.2.2.2.2.2.2.2 I1 q1 C1 L1 fun h' q' => q'.1.2.2.2.2.2.2.1.2
theorem c232_73 {v : Int64} {a : AAns} {k : Nat} {v2 v3 : Option Value} (I : Inv h) (hk : k < 10) (g : hJ h 362 k = a.2.2.2) (y : v = a.2.2.2 → Wp (sem (X, K X d) 232 2 [some (.ref 301), some (.int (Int32.ofNat (k + 1))), some (.long v), none] [] h) Q) (n : v ≠ a.2.2.2 → Q (some (.int (Int32.ofNat k))) h) :
    Wp (sem (X, K X d) 232 73 [some (.ref 301), some (.int (Int32.ofNat k)), v2, v3] [.long v] h) Q := by
  rw [b_232_73]
  refine w_gL I s_301 l_301_88 ?_
  refine w_aJn I s_362 hk (by decide) ?_
  rw [g, i32_ofNat_succ]
  exact w_if (fun c => y ((lg_cmp_eq _ _).mp c)) (fun c => Wp.ret (n fun z => c ((lg_cmp_eq _ _).mpr z)))
theorem c232_2 {h0 : Hp} (ok : okA S) : ∀ (r : List AAns) (k : Nat) (h : Hp) (v2 v3 : Option Value), k + r.length = (sA S).length → (∀ a, a ∈ r → okAns S a) → Inv h → RM h S → Mo h0 h → (∀ h', RM h' S → rA h' 359 360 361 362 k r) →
    Wp (sem (X, K X (d + 8)) 232 2 [some (.ref 301), some (.int (Int32.ofNat k)), v2, v3] [] h) (VI fun v h' => v = jdL S r k ∧ Mo h0 h' ∧ RM h' S)
  | [], k, h, v2, v3, e, o, I, q, C, g => by
    have l10 := ok.2.2.2.2.2.2.2.1
    have e : k = (sA S).length := by simpa using e
    rw [b_232_2]
    refine w_gI I s_301 ?_
    rw [q.2.2.2.2.2.2.2.2.1, e]
    exact w_ift (Int32.le_refl _) (Wp.reti ⟨rfl, C, q⟩)
  | a :: r, k, h, v2, v3, e, o, I, q, C, g => by
    have l10 := ok.2.2.2.2.2.2.2.1
    have e' : k + 1 + r.length = (sA S).length := by rw [← e, List.length_cons]; omega
    have k10 : k < 10 := by omega
    obtain ⟨a1, a2, a3, a4⟩ := (g h q).1
    obtain ⟨o1, o2, o3⟩ := o a (by simp)
    have fin : ∀ (v : Int64) (h1 : Hp) (v2 v3 : Option Value), v = trA S a → Inv h1 → RM h1 S → Mo h0 h1 → Wp (sem (X, K X (d + 8)) 232 73 [some (.ref 301), some (.int (Int32.ofNat k)), v2, v3] [.long v] h1) (VI fun v h' => v = jdL S (a :: r) k ∧ Mo h0 h' ∧ RM h' S) := fun v h1 v2 v3 ev I1 q1 C1 => by
      have st : jdL S (a :: r) k = if trA S a = a.2.2.2 then jdL S r (k + 1) else Int32.ofNat k := rfl
      rw [st]
      refine c232_73 (a := a) I1 k10 (g h1 q1).1.2.2.2 (fun y => ?_) (fun y => ?_)
      · rw [if_pos (by rw [← ev]; exact y)]
        exact c232_2 ok r (k + 1) h1 _ _ e' (fun b hb => o b (by simp [hb])) I1 q1 C1 fun h' q' => (g h' q').2
      · rw [if_neg (by rw [← ev]; exact y)]
        exact ⟨_, rfl, rfl, C1, q1⟩
    rw [b_232_2]
    refine w_gI I s_301 ?_
    rw [q.2.2.2.2.2.2.2.2.1]
    refine w_iff (fun z => absurd ((i_le (by omega) (by omega)).mp z) (by omega)) ?_
    refine w_gL I s_301 l_301_85 ?_
    refine w_aIn I s_359 k10 (by decide) ?_
    rw [a1]
    refine w_if (fun c0 => ?_) (fun c0 => ?_)
    · have n0 : a.1 ≠ 0 := fun z => c0 (by rw [z]; rfl)
      refine w_gL I s_301 l_301_85 ?_
      refine w_aIn I s_359 k10 (by decide) ?_
      rw [a1]
      refine w_if (fun c1 => ?_) (fun c1 => ?_)
      · have n1 : a.1 ≠ 1 := fun z => c1 (by rw [z]; rfl)
        refine w_gS I s_301 ?_
        refine w_bJ I (m_owes (d := d) (y := 0) (w := 0) I q ok) (by decide) rfl ?_
        rintro x h1 I1 ⟨ev, M1, q1⟩
        refine fin x h1 _ _ ?_ I1 q1 (C.tr M1)
        rw [ev.1 ⟨by decide, by decide, by decide⟩]
        unfold trA
        rw [if_neg n0, if_neg n1]
        show Int64.ofInt (owT S 0 (nS S 0)) = _
        rw [owT_tot]; rfl
      · have e1 : a.1 = 1 := (i_eq (n := 1) (by omega) (by omega)).mp (Classical.byContradiction c1)
        obtain ⟨l, l6, el⟩ := o2 (by omega)
        obtain ⟨i, hi, ei⟩ := o3 e1
        have n12 : nS S 0 ≤ 12 := (ok.1 0 (by decide)).2.1
        refine w_gL I s_301 l_301_87 ?_
        refine w_aIn I s_361 k10 (by decide) ?_
        refine w_gL I s_301 l_301_86 ?_
        refine w_aIn I s_360 k10 (by decide) ?_
        rw [a2, a3]
        refine w_gS I s_301 ?_
        refine w_bJ I (m_takes (d := d + 1) (y := 0) (w := 2) I q ok) (by decide) rfl ?_
        rintro x h1 I1 ⟨ev, M1, q1⟩
        refine fin x h1 _ _ ?_ I1 q1 (C.tr M1)
        have ld : isLd a.2.1 := by rw [el]; exact ⟨i_lt0 (by omega), fun z => absurd ((i_le (m := 6) (by omega) (by omega)).mp z) (by omega)⟩
        have si : ¬ a.2.2.1 < 0 ∧ ¬ Int32.ofNat (nS S (dN 0)) ≤ a.2.2.1 := by
          rw [ei]
          exact ⟨i_lt0 (by omega), fun z => absurd ((i_le (m := nS S 0) (by omega) (by omega)).mp z) (by omega)⟩
        rw [ev.1 ⟨by decide, si, by decide, Or.inr ld⟩]
        unfold trA
        rw [if_neg n0, if_pos e1]
        rfl
    · have e0 : a.1 = 0 := (i_eq (n := 0) (by omega) (by omega)).mp (Classical.byContradiction c0)
      obtain ⟨l, l6, el⟩ := o2 (by omega)
      refine w_gL I s_301 l_301_86 ?_
      refine w_aIn I s_360 k10 (by decide) ?_
      rw [a2]
      refine w_gS I s_301 ?_
      refine w_bI I (m_of (d := d + 1) (y := 0) (w := 6) I q ok) (by decide) rfl ?_
      rintro x h1 I1 ⟨ev, M1, q1⟩
      refine fin _ h1 _ _ ?_ I1 q1 (C.tr M1)
      have ld : isLd a.2.1 := by rw [el]; exact ⟨i_lt0 (by omega), fun z => absurd ((i_le (m := 6) (by omega) (by omega)).mp z) (by omega)⟩
      rw [ev]
      unfold ofP trA
      rw [if_pos ⟨by decide, ld⟩, if_pos e0]
      show (bi (hisP (vY S 0) (sL S) (sPc S) (dN a.2.1))).toInt64 = _
      cases hisP (vY S 0) (sL S) (sPc S) (dN a.2.1) <;> rfl
theorem m_judged (I : Inv h) (q : RM h S) (ok : okA S) :
    Wp (K X (d + 9) 232 [.ref 301] h) (VI fun v h' => v = jdL S (sA S) 0 ∧ Mo h h' ∧ RM h' S) := by
  rw [k_232]
  exact c232_2 (d := d) ok (sA S) 0 h none none (by omega) ok.2.2.2.2.2.2.2.2 I q Eo.rf fun h' q' => q'.2.2.2.2.2.2.2.2.2
end JU
