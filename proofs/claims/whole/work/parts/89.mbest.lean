/-! BEST, of the model -/
theorem cnt_mono (w : Nat → Nat) (l : Nat) {a : Nat} : ∀ {b : Nat}, a ≤ b → cnt w l a ≤ cnt w l b
  | 0, h => by have : a = 0 := by omega
               rw [this]; exact Nat.le_refl _
  | b + 1, h => by
    by_cases e : a = b + 1
    · rw [e]; exact Nat.le_refl _
    · have := cnt_mono w l (a := a) (b := b) (by omega)
      show _ ≤ cnt w l b + _
      omega
theorem cnt_setW (w : Nat → Nat) {n x l : Nat} : ∀ {m : Nat}, n ≤ m → cnt (setW w n m x) l m = cnt w l n + (if l = x then m - n else 0)
  | 0, h => by
    have : n = 0 := by omega
    subst this
    show 0 = 0 + (if l = x then 0 - 0 else 0)
    split <;> rfl
  | m + 1, h => by
    have low : ∀ k, k ≤ m → cnt (setW w n (m + 1) x) l k = cnt (setW w n m x) l k := fun k => by
      induction k with
      | zero => intro _; rfl
      | succ k ih =>
        intro hk
        show cnt (setW w n (m + 1) x) l k + (if setW w n (m + 1) x k = l then 1 else 0) = cnt (setW w n m x) l k + (if setW w n m x k = l then 1 else 0)
        have e : setW w n (m + 1) x k = setW w n m x k := by
          unfold setW
          by_cases z : n ≤ k
          · rw [if_pos (by omega), if_pos (by omega)]
          · rw [if_neg (by omega), if_neg (by omega)]
        rw [ih (by omega), e]
    by_cases e : n = m + 1
    · subst e
      rw [setW_0, Nat.sub_self]
      split <;> rfl
    · have ih := cnt_setW w (n := n) (x := x) (l := l) (m := m) (by omega)
      have ex : setW w n (m + 1) x m = x := by unfold setW; rw [if_pos (by omega)]
      show cnt (setW w n (m + 1) x) l m + (if setW w n (m + 1) x m = l then 1 else 0) = _
      rw [low m (Nat.le_refl _), ih, ex]
      by_cases z : l = x
      · rw [if_pos z, if_pos z, if_pos z.symm]; omega
      · rw [if_neg z, if_neg z, if_neg fun q => z q.symm]
section MB
variable {X : Ctx} {d : Nat} {Q : Option Value → Hp → Prop} {h : Hp} {S : AS} {V : Sv} {AL : Nat → ALaw} {PA : Nat → APact} {r : List SumT}
theorem LaidM.view2 {h0 h : Hp} {V' : Sv} (q : LaidM h0 V AL PA r) (e : Eo (fun a => a = 301 ∨ a = 335) h0 h) (e2 : ∀ k, k ≠ 52 → hI h 301 k = hI h0 301 k) (v : mSv h V') : LaidM h V' AL PA r := by
  obtain ⟨_, p3, p5, p6, p7, qL, qT, oP⟩ := q
  have nW : ∀ a, a ≠ 301 → a ≠ 335 → ¬ (a = 301 ∨ a = 335) := fun a h1 h2 z => by omega
  have i : ∀ a, a ≠ 301 → a ≠ 335 → hI h a = hI h0 a := fun a h1 h2 => e.i (nW a h1 h2)
  refine ⟨v, by rw [e2 55 (by decide)]; exact p3, by rw [e2 57 (by decide)]; exact p5, ?_, p7.eo (i _ (by decide) (by decide)) (i _ (by decide) (by decide)) (i _ (by decide) (by decide)) (i _ (by decide) (by decide)), qL.eo e fun a ha => nW a (by unfold inML at ha; omega) (by unfold inML at ha; omega), ?_, oP⟩
  · exact rSums.eo (i _ (by decide) (by decide)) (i _ (by decide) (by decide)) (i _ (by decide) (by decide)) (i _ (by decide) (by decide)) (i _ (by decide) (by decide)) p6
  · exact fun a ha b hb hn => ⟨(qT a ha b hb hn).1.eo (i _ (by decide) (by decide)) (i _ (by decide) (by decide)), (qT a ha b hb hn).2⟩
theorem c220_12 {y n l k : Nat} {w : Nat → Nat} {h0 : Hp} (hy : y < 2) (hn : n < 360) (hl : l < 6) (hk : k < 20) (hw : ∀ k, w k ≤ 6) (hr : ∀ k, k < 360 → hI h0 302 (360 * y + k) = nv (w k)) (e1 : hI h0 351 k = Int32.ofNat n) (e2 : hI h0 352 k = Int32.ofNat l) : ∀ (c i : Nat) (h : Hp) (v4 : Option Value), i + c = 360 → n ≤ i → Inv h → (Eo (fun b => b = 335) h0 h ∧ ∀ j, j < 6 → hI h 335 j = Int32.ofNat (cnt w j 360 + cnt w j n - cnt w j i)) →
    (∀ h', Inv h' → (Eo (fun b => b = 301 ∨ b = 335) h0 h' ∧ (∀ k, k ≠ 52 → hI h' 301 k = hI h0 301 k) ∧ hI h' 301 52 = (1 : Int32) <<< (Int32.ofNat l &&& 31) ∧ ∀ j, j < 6 → hI h' 335 j = Int32.ofNat (cnt (setW w n 360 l) j 360)) →
      Wp (gd (hS h' 301 = (12, 0)) (bJ (K X d 215 [.ref 301] h') fun r9 h3 => some (some (.long r9), h3))) Q) →
    Wp (sem (X, K X d) 220 12 [some (.ref 301), some (.int (Int32.ofNat y)), some (.int (Int32.ofNat k)), some (.int (Int32.ofNat i)), v4] [] h) Q
  | 0, i, h, v4, e, hi, I, u, q => by
    have e : i = 360 := by omega
    subst e
    obtain ⟨u1, u2⟩ := u
    have i351 : hI h 351 = hI h0 351 := u1.i (by decide)
    have i352 : hI h 352 = hI h0 352 := u1.i (by decide)
    have sb : (360 : Int32) - Int32.ofNat n = Int32.ofNat (360 - n) := i_sub (m := 360) (by omega)
    rw [b_220_12]
    refine w_ift ((i_le (m := 360) (by omega) (by omega)).mpr (by omega)) ?_
    refine w_gL I s_301 l_301_46 ?_
    refine w_gL I s_301 l_301_75 ?_
    refine w_aIn I s_352 (by omega) (by decide) ?_
    rw [i352, e2]
    refine w_aIn I s_335 hl (by decide) ?_
    refine w_gL I s_301 l_301_74 ?_
    refine w_aIn I s_351 (by omega) (by decide) ?_
    rw [i351, e1, u2 l hl, sb, i_add]
    refine w_wIn I s_335 hl (by decide) fun I1 => ?_
    refine w_gL I1 s_301 l_301_75 ?_
    refine w_aIn I1 s_352 (by omega) (by decide) ?_
    rw [sI_other (show 352 ≠ 335 by decide), i352, e2]
    refine w_fI I1 s_301 fun I2 => ?_
    refine q _ I2 ⟨((u1.wk fun a z => Or.inr z).kI (Or.inr rfl)).kI (Or.inl rfl), fun k hk => ?_, ?_, fun j hj => ?_⟩
    · rw [hI_sI_self, up1, if_neg hk, sI_other (by decide), u1.i (by decide)]
    · rw [hI_sI_self, up1, if_pos rfl]
    · rw [sI_other (by decide), hI_sI_self, up1, cnt_setW w (show n ≤ 360 by omega)]
      by_cases z : j = l
      · rw [if_pos z, if_pos z, z]; congr 1; omega
      · rw [if_neg z, if_neg z, u2 j hj]; congr 1; omega
  | c + 1, i, h, v4, e, hi, I, u, q => by
    have h360 : i < 360 := by omega
    obtain ⟨u1, u2⟩ := u
    have x1 : (360 : Int32) * Int32.ofNat y + Int32.ofNat i = Int32.ofNat (360 * y + i) := i_lin1 360 y i
    have st : ∀ j, cnt w j (i + 1) = cnt w j i + (if w i = j then 1 else 0) := fun _ => rfl
    rw [b_220_12]
    refine w_iff (fun z => absurd ((i_le (m := 360) (by omega) (by omega)).mp z) (by omega)) ?_
    rw [x1, i32_ofNat_succ]
    refine w_gL I s_301 l_301_0 ?_
    refine w_aIn I s_302 (by omega) (by decide) ?_
    rw [u1.i (by decide), hr i h360]
    by_cases w6 : w i < 6
    · have ev : nv (w i) = Int32.ofNat (w i) := if_pos w6
      rw [ev]
      refine w_iff (i_nm1 (by omega)) ?_
      refine w_gL I s_301 l_301_46 ?_
      refine w_aIn I s_335 w6 (by decide) ?_
      have mo := cnt_mono w (w i) (a := i + 1) (b := 360) (by omega)
      rw [st, if_pos rfl] at mo
      have sb : Int32.ofNat (cnt w (w i) 360 + cnt w (w i) n - cnt w (w i) i) - 1 = Int32.ofNat (cnt w (w i) 360 + cnt w (w i) n - cnt w (w i) i - 1) := i_sub (n := 1) (by omega)
      rw [u2 _ w6, sb]
      refine w_wIn I s_335 w6 (by decide) fun I1 => ?_
      refine c220_12 hy hn hl hk hw hr e1 e2 c (i + 1) _ _ (by omega) (by omega) I1 ⟨u1.kI rfl, fun j hj => ?_⟩ q
      rw [hI_sI_self, up1, st]
      by_cases z : j = w i
      · rw [if_pos z, if_pos z.symm, z]; congr 1
      · rw [if_neg z, if_neg fun q => z q.symm, u2 j hj]; rfl
    · have ev : nv (w i) = -1 := if_neg w6
      have w6' : w i = 6 := by have := hw i; omega
      rw [ev]
      refine w_ift rfl ?_
      refine c220_12 hy hn hl hk hw hr e1 e2 c (i + 1) _ _ (by omega) (by omega) I ⟨u1, fun j hj => ?_⟩ q
      rw [st, if_neg (by omega)]; exact u2 j hj
theorem m_220 {y k : Nat} (I : Inv h) (q : RM h S) (ok : okA S) (hy : y < 2) (hk : k < (sM S).length) :
    Wp (K X (d + 8) 220 [.ref 301, .int (Int32.ofNat y), .int (Int32.ofNat k)] h) (VJ fun v h' => v = Int64.ofInt (mvT S y k) ∧ RM h' S ∧ Mo h h') := by
  have len := ok.2.2.2.2.1.1
  have om := ok.2.2.2.2.1.2 _ (List.getElem_mem hk)
  have eg : (sM S).getD k (0, 0) = (sM S)[k] := by rw [List.getD_eq_getElem?_getD, List.getElem?_eq_getElem hk]; rfl
  rw [k_220]
  refine w_lays (d := d + 5) I q ok hy fun h1 I1 q1 M1 p => ?_
  have L1 := p.laid q1 ok
  have at_ := q1.2.2.2.2.2.1.2.at hk
  rw [Nat.zero_add] at at_
  refine w_gL I1 s_301 l_301_74 ?_
  refine w_aIn I1 s_351 (by omega) (by decide) ?_
  rw [at_.1]
  have n360 : ((sM S)[k]).1 < 360 := om.1
  refine c220_12 (d := d + 7) (w := (sY S y).1) (h0 := h1) hy om.1 om.2 (by omega) (ok.1 y hy).1 (q1.1 y hy).1 at_.1 at_.2 (360 - ((sM S)[k]).1) _ h1 none (by omega) (Nat.le_refl _) I1 ⟨Eo.rf, fun j hj => ?_⟩ fun h2 I2 u => ?_
  · rw [L1.1.1 j hj]
    show Int32.ofNat (cnt (sY S y).1 j 360) = _
    congr 1; omega
  · obtain ⟨u1, u2, u3, u4⟩ := u
    have L2 : LaidM h2 (mvV (sY S y) (sM S)[k]) (sL S) (sPc S) (sY S y).2.2.2.2 := L1.view2 u1 u2 ⟨u4, u3, by rw [u2 53 (by decide)]; exact L1.1.2.2.1, by rw [u2 54 (by decide)]; exact L1.1.2.2.2⟩
    have E2 : Eo inMS h1 h2 := u1.wk fun a z => by unfold inMS; omega
    have q2 : RM h2 S := q1.scr E2 (fun k hk => u2 k (by omega))
    refine w_gS I2 s_301 ?_
    refine w_bJ I2 (g215 (d := d) I2 (ok.r hy) L2) (by decide) rfl ?_
    rintro x h3 I3 ⟨rfl, M⟩
    have R := M.rm q2
    refine Wp.retj ⟨?_, R.1, (M1.tr (inMS_mo E2)).tr R.2⟩
    unfold mvT; rw [eg]
theorem c221_66 {y : Nat} {w : Int32} (ok : okA S) (hy : y < 2) (hw : w = 0 ∨ w = 1) : ∀ (c k : Nat) (h : Hp) (v7 v8 : Option Value), k + c = (sM S).length → Inv h → RM h S →
    Wp (sem (X, K X (d + 8)) 221 66 [some (.ref 301), some (.int (Int32.ofNat y)), some (.int w), some (.long (Int64.ofInt (bst S y k).1)), none, some (.int (bst S y k).2), some (.int (Int32.ofNat k)), v7, v8] [] h) (VJ fun v h' => v = bstV S y w ∧ Mo h h' ∧ RM h' S)
  | 0, k, h, v7, v8, e, I, q => by
    have len := ok.2.2.2.2.1.1
    have e : k = (sM S).length := by omega
    rw [b_221_66]
    refine w_gI I s_301 ?_
    rw [q.2.2.2.2.2.1.1, e]
    refine w_ift (Int32.le_refl _) ?_
    unfold bstV
    rcases hw with rfl | rfl
    · exact w_iff (by decide) (Wp.retj ⟨rfl, Eo.rf, q⟩)
    · exact w_ift (by decide) (Wp.retj ⟨rfl, Eo.rf, q⟩)
  | c + 1, k, h, v7, v8, e, I, q => by
    have len := ok.2.2.2.2.1.1
    have hk : k < (sM S).length := by omega
    have st : bst S y (k + 1) = if mvT S y k < (bst S y k).1 then (mvT S y k, Int32.ofNat k) else bst S y k := rfl
    have j1 := bst_jr ok hy k
    have j2 : jr (mvT S y k) := totG_jr (ok.r hy) ok.2.1
    rw [b_221_66]
    refine w_gI I s_301 ?_
    rw [q.2.2.2.2.2.1.1]
    refine w_iff (fun z => absurd ((i_le (by omega) (by omega)).mp z) (by omega)) ?_
    refine w_gS I s_301 ?_
    refine w_bJ I (m_220 (d := d) I q ok hy hk) (by decide) rfl ?_
    rintro x h1 I1 ⟨rfl, q1, C1⟩
    have ih := fun v7 v8 => c221_66 (w := w) ok hy hw c (k + 1) h1 v7 v8 (by omega) I1 q1
    rw [i32_ofNat_succ]
    refine w_if (fun c0 => ?_) (fun c0 => ?_)
    · have : mvT S y k < (bst S y k).1 := (j_lt j2 j1).mp ((lg_cmp_lt _ _).mp c0)
      rw [st, if_pos this] at ih
      exact (ih _ _).mono (by rintro _ h2 ⟨v, rfl, e, C, R⟩; exact ⟨_, rfl, e, C1.tr C, R⟩)
    · have : ¬ mvT S y k < (bst S y k).1 := fun z => c0 ((lg_cmp_lt _ _).mpr ((j_lt j2 j1).mpr z))
      rw [st, if_neg this] at ih
      exact (ih _ _).mono (by rintro _ h2 ⟨v, rfl, e, C, R⟩; exact ⟨_, rfl, e, C1.tr C, R⟩)
theorem m_best {y w : Int32} (I : Inv h) (q : RM h S) (ok : okA S) :
    Wp (K X (d + 9) 221 [.ref 301, .int y, .int w] h) (VJ fun v h' => bestP S y w v ∧ Mo h h' ∧ RM h' S) := by
  have no : ¬ okBst S y w → bestP S y w (-1) := fun z => ⟨fun w => absurd w z, fun _ => rfl⟩
  have len := ok.2.2.2.2.1.1
  have nn : ∀ w : Int32, (w = 0 ∨ w = 1 ∨ ∃ k, k < (sM S).length ∧ w = Int32.ofNat (k + 10)) → 0 ≤ w := fun w z => by
    rcases z with rfl | rfl | ⟨k, hk, rfl⟩
    · decide
    · decide
    · exact Int32.not_lt.mp (i_lt0 (by omega))
  rw [k_221]
  refine w_eI yr_m ?_
  refine w_if (fun c => Wp.retj ⟨no fun z => bi_dec.mp c z.1, Eo.rf, q⟩) (fun c => ?_)
  have hy : isYr y := Classical.byContradiction fun z => c (bi_dec.mpr z)
  refine w_if (fun c0 => ?_) (fun c => Wp.retj ⟨no fun z => c (nn w z.2), Eo.rf, q⟩)
  obtain ⟨yn, y2, rfl⟩ := yr_nat hy
  have dy : dN (Int32.ofNat yn) = yn := dN_of (by omega)
  obtain ⟨m, m2, rfl⟩ := i_natp (Int32.not_lt.mpr c0)
  refine w_gI I s_301 ?_
  have e9 : (9 : Int32) + hI h 301 73 = Int32.ofNat (9 + (sM S).length) := by rw [q.2.2.2.2.2.1.1]; exact i_add 9 _
  rw [e9]
  refine w_eI m_142 ?_
  refine w_if (fun c => ?_) (fun c => ?_)
  · have c := bi_dec.mp c
    have nk : ¬ ∃ k, k < (sM S).length ∧ Int32.ofNat m = Int32.ofNat (k + 10) := fun ⟨k, hk, e⟩ => by
      have e := (i_eq m2 (by omega)).mp e
      subst e
      exact c ⟨fun z => absurd ((i_lt (n := 10) m2 (by omega)).mp z) (by omega), fun z => absurd ((i_lt (by omega) m2).mp z) (by omega)⟩
    refine w_if (fun c1 => ?_) (fun c1 => ?_)
    · have m1 : m ≤ 1 := (i_le (n := 1) m2 (by omega)).mp c1
      have hw : Int32.ofNat m = 0 ∨ Int32.ofNat m = 1 := by
        have : m = 0 ∨ m = 1 := by omega
        rcases this with rfl | rfl
        · exact Or.inl rfl
        · exact Or.inr rfl
      refine w_lays (d := d + 6) I q ok y2 fun h1 I1 q1 M1 p => ?_
      have L1 := p.laid q1 ok
      refine w_gS I1 s_301 ?_
      refine w_bJ I1 (g215 (d := d + 1) I1 (ok.r y2) L1) (by decide) rfl ?_
      rintro x h2 I2 ⟨rfl, M2⟩
      have R2 := M2.rm q1
      refine (c221_66 (d := d) (w := Int32.ofNat m) ok y2 hw (sM S).length 0 h2 _ _ (by omega) I2 R2.1).mono ?_
      rintro _ h3 ⟨v, rfl, e, C, R⟩
      exact ⟨_, rfl, ⟨fun _ => by rw [dy]; exact e, fun z => absurd ⟨hy, by rcases hw with z | z; exact Or.inl z; exact Or.inr (Or.inl z)⟩ z⟩, (M1.tr R2.2).tr C, R⟩
    · refine Wp.retj ⟨no fun z => ?_, Eo.rf, q⟩
      rcases z.2 with z | z | z
      · exact c1 (by rw [z]; decide)
      · exact c1 (by rw [z]; decide)
      · exact nk z
  · have c := Classical.byContradiction fun z => c (bi_dec.mpr z)
    have m10 : 10 ≤ m := Nat.le_of_not_lt fun z => c.1 ((i_lt (n := 10) m2 (by omega)).mpr z)
    have hk : m - 10 < (sM S).length := by
      have : ¬ 9 + (sM S).length < m := fun z => c.2 ((i_lt (by omega) m2).mpr z)
      omega
    have e10 : Int32.ofNat m - 10 = Int32.ofNat (m - 10) := i_sub (n := 10) m10
    rw [e10]
    refine w_gS I s_301 ?_
    refine w_bJ I (m_220 (d := d) I q ok y2 hk) (by decide) rfl ?_
    rintro x h1 I1 ⟨rfl, q1, C1⟩
    refine Wp.retj ⟨⟨fun _ => ?_, fun z => absurd ⟨hy, Or.inr (Or.inr ⟨m - 10, hk, by congr 1; omega⟩)⟩ z⟩, C1, q1⟩
    unfold bstV
    rw [if_neg (show ¬ Int32.ofNat m = 0 from fun z => absurd ((i_eq (n := 0) m2 (by omega)).mp z) (by omega)), if_neg (show ¬ Int32.ofNat m = 1 from fun z => absurd ((i_eq (n := 1) m2 (by omega)).mp z) (by omega)), dy, dN_of m2]
end MB
