/-! THE MODEL FINDS WHAT IS TAKEN -/
section MF
variable {X : Ctx} {d : Nat} {Q : Option Value → Hp → Prop} {V : Sv} {AL : Nat → ALaw} {PA : Nat → APact} {Bn : Nat} {T : SumT} {r : List SumT}
theorem c207_129 {h : Hp} {i l k : Nat} (I : Inv h) (q : LvM h V AL PA Bn r) (hT : isT h i T) (o : okSm T) (hl : l < 6) (hk : k < 6) (hq : hisP V AL PA l = false) : ∀ (c m rt : Nat), m + c = 6 → rt ≤ 100 →
    Wp (sem (X, K X (d + 1)) 207 129 [some (.ref 301), some (.int (Int32.ofNat i)), some (.int (Int32.ofNat l)), some (.int (Int32.ofNat k)), some (.int (Int32.ofNat rt)), some (.int (Int32.ofNat m))] [] h) (VJ fun x h' => x = Int64.ofInt ((T.2.2.1 : Int) * lmN PA (hisP V AL PA) l k c m rt) ∧ h' = h)
  | 0, m, rt, em, hr => by
    have hi := hT.1
    have ha : T.2.2.1 < 2147483648 := by have := o.2.2.2.2.1; omega
    rw [b_207_129]
    refine w_ift ((i_le (m := 6) (by omega) (by omega)).mpr (by omega)) ?_
    refine w_gL I s_301 l_301_49 ?_
    refine w_aIn I s_338 (by omega) (by decide) ?_
    rw [hT.2.2.2.1, nat_j ha, nat_j (by omega), ← Int64.ofInt_mul, Int.mul_comm]
    exact Wp.retj ⟨rfl, rfl⟩
  | c + 1, m, rt, em, hr => by
    have hm : m < 6 := by omega
    have st : lmN PA (hisP V AL PA) l k (c + 1) m rt = lmN PA (hisP V AL PA) l k c (m + 1) (if hisP V AL PA m && decide (m ≠ l) then min (limP PA (pr m l) k) rt else rt) := rfl
    rw [b_207_129, st]
    refine w_iff (fun z => absurd ((i_le (m := 6) (by omega) (by omega)).mp z) (by omega)) ?_
    refine w_gI I s_301 ?_
    rw [q.2.1, shr_bt (by omega), bt_msk (by decide) (by omega), decide_eq_true hm, Bool.true_and, i32_ofNat_succ]
    refine w_if (fun c0 => ?_) (fun c0 => ?_)
    · have : hisP V AL PA m = false := by cases z : hisP V AL PA m; rfl; rw [z] at c0; exact absurd rfl c0
      rw [this, Bool.false_and, if_neg (by decide)]
      exact c207_129 I q hT o hl hk hq c (m + 1) rt (by omega) hr
    · have hm2 : hisP V AL PA m = true := by cases z : hisP V AL PA m; rw [z] at c0; exact absurd (by decide) c0; rfl
      have hn : m ≠ l := fun z => by rw [z, hq] at hm2; cases hm2
      rw [hm2, decide_eq_true hn, Bool.and_self, if_pos rfl]
      refine w_eI (m_186 hl hm) ?_
      refine w_gS I s_301 ?_
      refine w_eI (m_206 I q hl hm hn hk hr) ?_
      exact c207_129 I q hT o hl hk hq c (m + 1) _ (by omega) (by omega)
theorem m_207 {h : Hp} {i l : Nat} (I : Inv h) (q : LvM h V AL PA Bn r) (hT : isT h i T) (o : okSm T) (hl : l < 6) (hB : 0 < Bn ∧ Bn ≤ 99999999) :
    Wp (K X (d + 4) 207 [.ref 301, .int (Int32.ofNat i), .int (Int32.ofNat l)] h) (VJ fun x h' => x = Int64.ofInt (ahP V AL PA Bn T l) ∧ Eo (fun a => a = 333 ∨ a = 334) h h') := by
  have hi := hT.1
  have ha : T.2.2.1 < 2147483648 := by have := o.2.2.2.2.1; omega
  have kk : lkP PA (hisP V AL PA) T l < 6 := by unfold lkP; split; exact o.2.1; exact o.1
  have hp : T.2.2.2.2 < 6 := o.2.2.2.2.2.2
  have hs : T.2.2.2.1 < 6 := o.2.2.2.2.2.1
  have oL := (q.2.2.2.2.2.1 l hl).2
  rw [k_207]
  refine w_gI I s_301 ?_
  rw [q.2.1, shr_bt (by omega), bt_msk (by decide) (by omega), decide_eq_true hl, Bool.true_and]
  refine w_if (fun c => ?_) (fun c => ?_)
  · have hq : hisP V AL PA l = false := by cases z : hisP V AL PA l; rfl; rw [z] at c; exact absurd rfl c
    refine w_gS I s_301 ?_
    refine w_eI (m_203 I q hT o hl) ?_
    refine w_gS I s_301 ?_
    refine w_bV I (m_191 I hl q.2.2.2.1) (by decide) rfl ?_
    rintro h1 I1 ⟨g1, E1⟩
    have fin : ∀ w1 w2 h2, Inv h2 → Eo (fun a => a = 333 ∨ a = 334) h h2 → (∀ k, k < 5 → hI h2 334 (k + 1) = pF V l k) → hI h2 334 6 = bi (decide (T.2.2.2.1 = l)) → w2 = bi (decide (T.2.2.2.2 = l)) → Wp (sem (X, K X (d + 3)) 207 104 [some (.ref 301), some (.int (Int32.ofNat i)), some (.int (Int32.ofNat l)), some (.int (Int32.ofNat (lkP PA (hisP V AL PA) T l))), none, w1] [.int w2, .int 7, .ref 334] h2) (VJ fun x h' => x = Int64.ofInt (ahP V AL PA Bn T l) ∧ Eo (fun a => a = 333 ∨ a = 334) h h') := fun w1 w2 h2 I2 E2 p5 p6 z2 => by
      rw [b_207_104]
      refine w_wIn (m := 7) I2 s_334 (by decide) (by decide) fun I3 => ?_
      refine w_gL I3 s_301 l_301_32 ?_
      refine w_gL I3 s_301 l_301_49 ?_
      refine w_aIn I3 s_338 (by omega) (by decide) ?_
      have e3 : hI (sI h2 334 7 w2) 338 i = Int32.ofNat T.2.2.1 := by
        rw [hI_sI_ne (by decide), E2.i (by decide)]; exact hT.2.2.2.1
      rw [e3]
      refine w_wIn (m := 8) I3 s_334 (by decide) (by decide) fun I4 => ?_
      have E4 : Eo (fun a => a = 333 ∨ a = 334) h (sI (sI h2 334 7 w2) 334 8 (Int32.ofNat T.2.2.1)) := (E2.kI (Or.inr rfl)).kI (Or.inr rfl)
      have q4 := q.eo (MvE.of E4 fun x z => by omega)
      have hf : gRow (sI (sI h2 334 7 w2) 334 8 (Int32.ofNat T.2.2.1)) (fsP V T l) := fun k hk => by
        unfold fsP
        by_cases k5 : k = 5
        · rw [if_pos k5, k5, hI_sI_self, up1, if_neg (by decide), hI_sI_self, up1, if_neg (by decide)]; exact p6
        · rw [if_neg k5]
          by_cases k6 : k = 6
          · rw [if_pos k6, k6, hI_sI_self, up1, if_neg (by decide), hI_sI_self, up1, if_pos rfl, z2]
          · rw [if_neg k6]
            by_cases k7 : k = 7
            · rw [if_pos k7, k7, hI_sI_self, up1, if_pos rfl]
            · rw [if_neg k7, hI_sI_self, up1, if_neg (by omega), hI_sI_self, up1, if_neg (by omega)]
              exact p5 k (by omega)
      refine w_gS I4 s_301 ?_
      refine w_bI I4 (m_205 I4 (by omega) kk (q4.2.2.2.2.2.1 l hl).1 oL hf) (by decide) rfl ?_
      rintro x h5 I5 ⟨rfl, E5⟩
      have E6 : Eo (fun a => a = 333 ∨ a = 334) h h5 := E4.tr (E5.wk fun a z => Or.inl z)
      have M6 : MvE h h5 := MvE.of E6 fun x z => by omega
      have rt := rt_eq (fsP V T l) (lkP PA (hisP V AL PA) T l) (AL l).1
      rw [rt.1]
      refine (c207_129 (d := d + 2) I5 (q.eo M6) (hT.eo M6) o hl kk hq 6 0 _ rfl rt.2).mono ?_
      rintro _ h7 ⟨y, rfl, rfl, rfl⟩
      refine ⟨_, rfl, ?_, E6⟩
      unfold ahP
      rw [if_neg (by rw [hq]; decide)]
      rfl
    have two : ∀ w1 w2, w2 = bi (decide (T.2.2.2.1 = l)) → Wp (sem (X, K X (d + 3)) 207 82 [some (.ref 301), some (.int (Int32.ofNat i)), some (.int (Int32.ofNat l)), some (.int (Int32.ofNat (lkP PA (hisP V AL PA) T l))), none, w1] [.int w2, .int 6, .ref 334] h1) (VJ fun x h' => x = Int64.ofInt (ahP V AL PA Bn T l) ∧ Eo (fun a => a = 333 ∨ a = 334) h h') := fun w1 w2 z1 => by
      rw [b_207_82]
      refine w_wIn (m := 6) I1 s_334 (by decide) (by decide) fun I2 => ?_
      have E2 : Eo (fun a => a = 333 ∨ a = 334) h (sI h1 334 6 w2) := (E1.wk (W' := fun a => a = 333 ∨ a = 334) fun a z => Or.inr z).kI (Or.inr rfl)
      have p5 : ∀ k, k < 5 → hI (sI h1 334 6 w2) 334 (k + 1) = pF V l k := fun k hk => by
        rw [hI_sI_self, up1, if_neg (by omega)]; exact g1 k (by omega)
      have p6 : hI (sI h1 334 6 w2) 334 6 = bi (decide (T.2.2.2.1 = l)) := by
        rw [hI_sI_self]; exact (if_pos rfl).trans z1
      refine w_gL I2 s_301 l_301_32 ?_
      refine w_gL I2 s_301 l_301_51 ?_
      refine w_aIn I2 s_340 (by omega) (by decide) ?_
      have e3 : hI (sI h1 334 6 w2) 340 i = Int32.ofNat T.2.2.2.2 := by
        rw [E2.i (by decide)]; exact hT.2.2.2.2.2
      rw [e3]
      refine w_if (fun c => ?_) (fun c => ?_)
      · refine fin w1 0 _ I2 E2 p5 p6 ?_
        rw [decide_eq_false (fun z => c (by rw [z]))]; rfl
      · refine fin w1 1 _ I2 E2 p5 p6 ?_
        rw [decide_eq_true ((i_eq (by omega) (by omega)).mp (Classical.byContradiction c))]; rfl
    refine w_gL I1 s_301 l_301_32 ?_
    refine w_gL I1 s_301 l_301_50 ?_
    refine w_aIn I1 s_339 (by omega) (by decide) ?_
    have e3 : hI h1 339 i = Int32.ofNat T.2.2.2.1 := by
      rw [E1.i (by decide)]; exact hT.2.2.2.2.1
    rw [e3]
    refine w_if (fun c => ?_) (fun c => ?_)
    · refine two _ 0 ?_
      rw [decide_eq_false (fun z => c (by rw [z]))]; rfl
    · refine two _ 1 ?_
      rw [decide_eq_true ((i_eq (by omega) (by omega)).mp (Classical.byContradiction c))]; rfl
  · have hq : hisP V AL PA l = true := by cases z : hisP V AL PA l; rw [z] at c; exact absurd (by decide) c; rfl
    obtain ⟨os, _, _, _, _, l5, l6, l7, _⟩ := (q.2.2.2.2.2.1 l hl).1
    refine w_gS I s_301 ?_
    refine w_eI (m_204 I q hT o hl) ?_
    unfold ahP
    rw [if_pos hq]
    refine w_if (fun c1 => ?_) (fun c1 => ?_)
    · rw [bi_0.mp c1, if_neg (by decide)]
      refine w_gI I s_301 ?_
      rw [q.2.2.1]
      refine w_gS I s_301 ?_
      refine w_eJ (m_200 I (by omega) l5 l6 l7 oL hB.2) ?_
      refine w_gL I s_301 l_301_49 ?_
      refine w_aIn I s_338 (by omega) (by decide) ?_
      refine w_gI I s_301 ?_
      rw [q.2.2.1, hT.2.2.2.1, nat_j ha, nat_j (by omega), ← Int64.ofInt_mul]
      have jB : jr (Bn : Int) := by unfold jr; omega
      have tb := tx_20 (B := (Bn : Int)) oL (by omega)
      have hA : (T.2.2.1 : Int) ≤ 999999 := by have := o.2.2.2.2.1; omega
      refine w_gd (fun z => ?_) ?_
      · have := (j_eq (b := 0) jB (by unfold jr; omega)).mp z
        omega
      rw [j_div ?_ jB]
      · exact Wp.retj ⟨rfl, Eo.rf⟩
      · have h0 : 0 ≤ tx ((Bn : Int) - (AL l).2.2.1) (AL l).2.1 * T.2.2.1 := Int.mul_nonneg tb.1 (by omega)
        have h1 : tx ((Bn : Int) - (AL l).2.2.1) (AL l).2.1 * T.2.2.1 ≤ (2000 * (Bn : Int)) * T.2.2.1 := Int.mul_le_mul_of_nonneg_right tb.2 (by omega)
        have h2 : (2000 * (Bn : Int)) * T.2.2.1 ≤ (2000 * (Bn : Int)) * 999999 := Int.mul_le_mul_of_nonneg_left hA (by omega)
        unfold jr; omega
    · have : frT V AL PA T l = true := by cases z : frT V AL PA T l; rw [z] at c1; exact absurd rfl c1; rfl
      rw [this]
      exact Wp.retj ⟨rfl, Eo.rf⟩
end MF
