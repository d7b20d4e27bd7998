/-! THE CLASS SETTLES A SUM -/
section SE
variable {X : Ctx} {d : Nat} {Q : Option Value → Hp → Prop} {V : Sv} {AL : Nat → ALaw} {PA : Nat → APact} {B : Int} {T : SumT}
/-- what a LAND takes of a SUM -/
def takP (V : Sv) (AL : Nat → ALaw) (PA : Nat → APact) (B : Int) (T : SumT) (l : Nat) : Int := tk (hisP V AL PA) AL PA (ahP V AL PA B T) (frs (duP (offP AL PA (hisP V AL PA)) (hisP V AL PA) (ahP V AL PA B T)) (offP AL PA (hisP V AL PA)) (hisP V AL PA) 64) l
def numP (V : Sv) (AL : Nat → ALaw) (PA : Nat → APact) (B : Int) (T : SumT) : Nat := num (duP (offP AL PA (hisP V AL PA)) (hisP V AL PA) (ahP V AL PA B T)) (offP AL PA (hisP V AL PA)) (hisP V AL PA) 64
def sumTo6 (f : Nat → Int) : Nat → Int
  | 0 => 0
  | n + 1 => sumTo6 f n + f n
def Settled (h0 h : Hp) (V : Sv) (AL : Nat → ALaw) (PA : Nat → APact) (B : Int) (T : SumT) : Prop := LvE h0 h ∧ (∃ ro, Rg h ro) ∧ hI h 274 17 = Int32.ofNat (numP V AL PA B T) ∧ (∀ l, l < 6 → hJ h 289 l = Int64.ofInt (takP V AL PA B T l)) ∧ ∀ l, l < 6 → hJ h 288 l = Int64.ofInt (ahP V AL PA B T l)
theorem Rg.eo {h h' : Hp} {ro : Nat → Nat} (g : Rg h ro) (e : hP h' 292 = hP h 292) : Rg h' ro := by unfold Rg at g ⊢; rw [e]; exact g
/-- the sets' part of it -/
theorem c21_143 {h0 h : Hp} (I : Inv h) (q : Settled h0 h V AL PA B T) {v1 v2 : Option Value} : ∀ (c m : Nat), m + c = 6 →
    Wp (sem (X, K X d) 21 143 [some (.ref 274), v1, v2, some (.long (Int64.ofInt (sumTo6 (takP V AL PA B T) m))), none, some (.int (Int32.ofNat m))] [] h) (VJ fun x h' => x = Int64.ofInt (sumTo6 (takP V AL PA B T) 6) ∧ Settled h0 h' V AL PA B T)
  | 0, m, em => by
    have em : m = 6 := by omega
    subst em
    rw [b_21_143]
    exact w_ift (by decide) (Wp.retj ⟨rfl, q⟩)
  | c + 1, m, em => by
    have hm : m < 6 := by omega
    rw [b_21_143]
    refine w_iff (fun z => absurd ((i_le (m := 6) (by omega) (by omega)).mp z) (by omega)) ?_
    refine w_gL I s_274 l_274_9 ?_
    refine w_aJn I s_289 hm (by decide) ?_
    rw [q.2.2.2.1 m hm, ← Int64.ofInt_add, i32_ofNat_succ]
    exact c21_143 I q c (m + 1) (by omega)
theorem c21_58 {h0 : Hp} (q0 : LvC h0 V AL PA B) (hA : ∀ m, m < 6 → 0 ≤ ahP V AL PA B T m ∧ ahP V AL PA B T m ≤ 1999998000) {v1 : Option Value} : ∀ (c l : Nat) (h : Hp) (v4 v5 : Option Value), l + c = 6 → Inv h → LvE h0 h → (∃ ro, Rg h ro) → (∀ m, m < 6 → hJ h 288 m = Int64.ofInt (ahP V AL PA B T m)) → (∀ m, m < l → hJ h 290 m = Int64.ofInt (duP (offP AL PA (hisP V AL PA)) (hisP V AL PA) (ahP V AL PA B T) m)) →
    Wp (sem (X, K X (d + 5)) 21 58 [some (.ref 274), v1, some (.int (msk (opq (duP (offP AL PA (hisP V AL PA)) (hisP V AL PA) (ahP V AL PA B T)) (hisP V AL PA)) l)), some (.int (Int32.ofNat l)), v4, v5] [] h) (VJ fun x h' => x = Int64.ofInt (sumTo6 (takP V AL PA B T) 6) ∧ Settled h0 h' V AL PA B T)
  | 0, l, h, v4, v5, el, I, E, g, q1, q2 => by
    have el : l = 6 := by omega
    subst el
    have q := q0.eo E
    obtain ⟨ro, g⟩ := g
    rw [b_21_58]
    refine w_ift (by decide) ?_
    refine w_gS I s_274 ?_
    refine w_bV I (m_25 (ah := ahP V AL PA B T) I q.2.2.2.2.2.1 q2 q.2.1 (du_bd hA) g q1) (by decide) rfl ?_
    rintro h1 I1 ⟨e1, e2, e3, e4, e5, e6⟩
    have E1 : LvE h h1 := ⟨e1.wk fun a z => by unfold W25 at z; unfold WL; omega, e2, e3.1, e3.2, fun m hm k hk => by rw [e1.i (show ¬ W25 (276 + m) by unfold W25; omega)]⟩
    refine c21_143 I1 ⟨E.tr E1, e4, ?_, fun m hm => ?_, fun m hm => ?_⟩ 6 0 rfl
    · rw [e5]; exact congrArg Int32.ofNat (num_open _ _ 64).symm
    · rw [e6 m hm]; unfold takP tk; rw [← frs_open]
    · rw [e1.j (show ¬ W25 288 by unfold W25; omega)]; exact q1 m hm
  | c + 1, l, h, v4, v5, el, I, E, g, q1, q2 => by
    have hl : l < 6 := by omega
    have q := q0.eo E
    obtain ⟨ro, g⟩ := g
    rw [b_21_58]
    refine w_iff (fun z => absurd ((i_le (m := 6) (by omega) (by omega)).mp z) (by omega)) ?_
    refine w_gL I s_274 l_274_10 ?_
    refine w_gL I s_274 l_274_8 ?_
    refine w_aJn I s_288 hl (by decide) ?_
    refine w_gL I s_274 l_274_5 ?_
    refine w_aIn I s_285 hl (by decide) ?_
    refine w_gI I s_274 ?_
    refine w_gS I s_274 ?_
    refine w_eJ (m_24 (f := offP AL PA (hisP V AL PA)) (his := hisP V AL PA) (ah := ahP V AL PA B T) (l := l) I (fun m hm => ?_) q1) ?_
    · rw [bt_and, bt_not _ (by omega), q.2.2.2.2.2.1 l hl m (by omega), q.2.1, bt_msk (by decide) (by omega), decide_eq_true hm, Bool.true_and]
      by_cases z : m = l
      · rw [z, decide_eq_false (fun w => w.2 rfl)]
        unfold offP
        cases hisP V AL PA l <;> simp
      · rw [decide_eq_true ⟨hm, z⟩, Bool.true_and]
    rw [q1 l hl, ← Int64.ofInt_sub]
    refine w_wJn I s_290 hl (by decide) fun I => ?_
    have E1 : LvE h0 (sJ h 290 l (Int64.ofInt (ahP V AL PA B T l - tkO (offP AL PA (hisP V AL PA)) (hisP V AL PA) (ahP V AL PA B T) l 6))) := E.tr (LvE.of (W := fun a => a = 290) (Eo.rf.kJ rfl) fun x z => by omega)
    have q2' : ∀ m, m < l + 1 → hJ (sJ h 290 l (Int64.ofInt (ahP V AL PA B T l - tkO (offP AL PA (hisP V AL PA)) (hisP V AL PA) (ahP V AL PA B T) l 6))) 290 m = Int64.ofInt (duP (offP AL PA (hisP V AL PA)) (hisP V AL PA) (ahP V AL PA B T) m) := fun m hm => by
      rw [hJ_sJ_self, up1]
      by_cases z : m = l
      · rw [if_pos z, z]; rfl
      · rw [if_neg z]; exact q2 m (by omega)
    have q1' : ∀ m, m < 6 → hJ (sJ h 290 l (Int64.ofInt (ahP V AL PA B T l - tkO (offP AL PA (hisP V AL PA)) (hisP V AL PA) (ahP V AL PA B T) l 6))) 288 m = Int64.ofInt (ahP V AL PA B T m) := fun m hm => by
      rw [hJ_sJ_ne (by decide)]; exact q1 m hm
    have ih := fun v4 v5 => c21_58 q0 hA (v1 := v1) c (l + 1) _ v4 v5 (by omega) I E1 ⟨ro, g.eo rfl⟩ q1' q2'
    have sm : msk (opq (duP (offP AL PA (hisP V AL PA)) (hisP V AL PA) (ahP V AL PA B T)) (hisP V AL PA)) (l + 1) = if opq (duP (offP AL PA (hisP V AL PA)) (hisP V AL PA) (ahP V AL PA B T)) (hisP V AL PA) l then msk (opq (duP (offP AL PA (hisP V AL PA)) (hisP V AL PA) (ahP V AL PA B T)) (hisP V AL PA)) l ||| (1 <<< (Int32.ofNat l &&& 31)) else msk (opq (duP (offP AL PA (hisP V AL PA)) (hisP V AL PA) (ahP V AL PA B T)) (hisP V AL PA)) l := rfl
    have ho : opq (duP (offP AL PA (hisP V AL PA)) (hisP V AL PA) (ahP V AL PA B T)) (hisP V AL PA) l = (hisP V AL PA l && decide (0 < duP (offP AL PA (hisP V AL PA)) (hisP V AL PA) (ahP V AL PA B T) l)) := rfl
    refine w_gI I s_274 ?_
    refine w_eI (m_has (by omega)) ?_
    rw [(q0.eo E1).2.1, bt_msk (by decide) (by omega), decide_eq_true hl, Bool.true_and, i32_ofNat_succ]
    refine w_if (fun c0 => ?_) (fun c0 => ?_)
    · rw [ho, bi_0.mp c0, Bool.false_and, if_neg (by decide)] at sm
      rw [sm] at ih
      exact ih _ _
    · have hq : hisP V AL PA l = true := by cases z : hisP V AL PA l; rw [z] at c0; exact absurd rfl c0; rfl
      have jd : jr (duP (offP AL PA (hisP V AL PA)) (hisP V AL PA) (ahP V AL PA B T) l) := by
        have := du_bd (f := offP AL PA (hisP V AL PA)) (his := hisP V AL PA) hA l hl
        unfold jr; omega
      refine w_gL I s_274 l_274_10 ?_
      refine w_aJn I s_290 hl (by decide) ?_
      rw [q2' l (by omega)]
      refine w_if (fun c1 => ?_) (fun c1 => ?_)
      · have := (j_le (b := 0) jd (by unfold jr; omega)).mp ((lg_cmp_le _ _).mp c1)
        rw [ho, decide_eq_false (by omega), Bool.and_false, if_neg (by decide)] at sm
        rw [sm] at ih
        exact ih _ _
      · have : ¬ duP (offP AL PA (hisP V AL PA)) (hisP V AL PA) (ahP V AL PA B T) l ≤ 0 := fun z => c1 ((lg_cmp_le _ _).mpr ((j_le (b := 0) jd (by unfold jr; omega)).mpr z))
        rw [ho, hq, decide_eq_true (by omega), Bool.and_true, if_pos rfl] at sm
        rw [sm] at ih
        exact ih _ _
theorem c21_2 {u : Nat} {h0 : Hp} (hu : SH u = (9, 0)) (hu2 : u < 274) (q0 : LvC h0 V AL PA B) (hT : cSum h0 u T) (o : okSm T) (hB : 0 < B ∧ B ≤ 99999999) (oL : ∀ l, l < 6 → okL (AL l)) : ∀ (c l : Nat) (h : Hp) (v3 v4 v5 : Option Value), l + c = 6 → Inv h → LvE h0 h → (∃ ro, Rg h ro) → (∀ m, m < l → hJ h 288 m = Int64.ofInt (ahP V AL PA B T m)) →
    Wp (sem (X, K X (d + 5)) 21 2 [some (.ref 274), some (.ref u), some (.int (Int32.ofNat l)), v3, v4, v5] [] h) (VJ fun x h' => x = Int64.ofInt (sumTo6 (takP V AL PA B T) 6) ∧ Settled h0 h' V AL PA B T)
  | 0, l, h, v3, v4, v5, el, I, E, g, q1 => by
    have el : l = 6 := by omega
    subst el
    rw [b_21_2]
    refine w_ift (by decide) ?_
    exact c21_58 q0 (fun m hm => ah_bd (oL m hm) o hB.1) 6 0 h v4 v5 rfl I E g q1 fun m hm => absurd hm (Nat.not_lt_zero _)
  | c + 1, l, h, v3, v4, v5, el, I, E, g, q1 => by
    have hl : l < 6 := by omega
    have q := q0.eo E
    obtain ⟨ro, g⟩ := g
    rw [b_21_2]
    refine w_iff (fun z => absurd ((i_le (m := 6) (by omega) (by omega)).mp z) (by omega)) ?_
    refine w_gL I s_274 l_274_8 ?_
    refine w_gI I s_274 ?_
    refine w_eI (m_has (by omega)) ?_
    rw [q.2.1, bt_msk (by decide) (by omega), decide_eq_true hl, Bool.true_and, i32_ofNat_succ]
    have go : ∀ h1 v, Inv h1 → LvE h h1 → hJ h1 288 = hJ h 288 → hP h1 292 = hP h 292 → v = Int64.ofInt (ahP V AL PA B T l) → Wp (wJ h1 288 (Int32.ofNat l) v fun h3 => sem (X, K X (d + 5)) 21 2 [some (.ref 274), some (.ref u), some (.int (Int32.ofNat (l + 1))), v3, v4, v5] [] h3) (VJ fun x h' => x = Int64.ofInt (sumTo6 (takP V AL PA B T) 6) ∧ Settled h0 h' V AL PA B T) := fun h1 v I1 E1 n1 n2 hv => by
      refine w_wJn I1 s_288 hl (by decide) fun I2 => ?_
      refine c21_2 hu hu2 q0 hT o hB oL c (l + 1) _ _ _ _ (by omega) I2 ((E.tr E1).tr (LvE.of (W := fun a => a = 288) (Eo.rf.kJ rfl) fun x z => by omega)) ⟨ro, g.eo n2⟩ fun m hm => ?_
      rw [hJ_sJ_self, up1]
      by_cases z : m = l
      · rw [if_pos z, z]; exact hv
      · rw [if_neg z, n1]; exact q1 m (by omega)
    have hTh := E.sum hu2 hT
    refine w_if (fun c0 => ?_) (fun c0 => ?_)
    · have hq : hisP V AL PA l = false := bi_0.mp c0
      refine w_gI I hu ?_
      refine w_gS I s_274 ?_
      refine w_bI I (m_23 (d := d + 1) I hu hu2 hl q hTh o) (by decide) rfl ?_
      rintro x h1 I1 ⟨rfl, E1, F1⟩
      refine go h1 _ I1 E1 (F1.j (by unfold W23; omega)) (F1.p (by unfold W23; omega)) ?_
      have ha : T.2.2.1 < 2147483648 := by have := o.2.2.2.2.1; omega
      have hb : atP V AL PA T l ≤ 100 := atP_le
      rw [hTh.2.2.1, nat_j ha, nat_j (by omega), ← Int64.ofInt_mul]
      unfold ahP
      rw [if_neg (by rw [hq]; decide)]
    · have hq : hisP V AL PA l = true := by cases z : hisP V AL PA l; rw [z] at c0; exact absurd rfl c0; rfl
      refine w_gS I s_274 ?_
      refine w_eJ (m_22 (d := d + 2) I hu hl q hTh o (oL l hl) hB hq) ?_
      refine go h _ I LvE.rf rfl rfl ?_
      unfold ahP
      rw [if_pos hq]
/-- settle -/
theorem m_21 {u : Nat} {h : Hp} {ro : Nat → Nat} (I : Inv h) (hu : SH u = (9, 0)) (hu2 : u < 274) (q : LvC h V AL PA B) (hT : cSum h u T) (o : okSm T) (hB : 0 < B ∧ B ≤ 99999999) (oL : ∀ l, l < 6 → okL (AL l)) (g : Rg h ro) :
    Wp (K X (d + 6) 21 [.ref 274, .ref u] h) (VJ fun x h' => x = Int64.ofInt (sumTo6 (takP V AL PA B T) 6) ∧ Settled h h' V AL PA B T) := by
  rw [k_21]
  exact c21_2 hu hu2 q hT o hB oL 6 0 h none none none rfl I LvE.rf ⟨ro, g⟩ fun m hm => absurd hm (Nat.not_lt_zero _)
end SE
