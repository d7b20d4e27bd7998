/-! BEST: the mathematics, and the class -/
def mvV (A : AY) (m : Nat × Nat) : Sv := ((fun k => Int32.ofNat (cnt (setW A.1 m.1 360 m.2) k 360)), (1 : Int32) <<< (Int32.ofNat m.2 &&& 31), A.2.2.1, A.2.2.2.1)
def mvT (S : AS) (y k : Nat) : Int := totG (mvV (sY S y) ((sM S).getD k (0, 0))) (sL S) (sPc S) (sY S y).2.2.2.2
def noT (S : AS) (y : Nat) : Int := totG (vY S y) (sL S) (sPc S) (sY S y).2.2.2.2
def bst (S : AS) (y : Nat) : Nat → Int × Int32
  | 0 => (noT S y, -1)
  | n + 1 => if mvT S y n < (bst S y n).1 then (mvT S y n, Int32.ofNat n) else bst S y n
def bstV (S : AS) (y : Nat) (w : Int32) : Int64 := if w = 0 then (bst S y (sM S).length).2.toInt64 else if w = 1 then Int64.ofInt (bst S y (sM S).length).1 else Int64.ofInt (mvT S y (dN w - 10))
def okBst (S : AS) (y w : Int32) : Prop := isYr y ∧ (w = 0 ∨ w = 1 ∨ ∃ k, k < (sM S).length ∧ w = Int32.ofNat (k + 10))
def bestP (S : AS) (y w : Int32) (v : Int64) : Prop := (okBst S y w → v = bstV S (dN y) w) ∧ (¬ okBst S y w → v = -1)
theorem sumTo6_bd {t : Nat → Int} {b : Nat} (h : ∀ l, l < 6 → (t l).natAbs ≤ b) : ∀ n, n ≤ 6 → (sumTo6 t n).natAbs ≤ b * n
  | 0, _ => Nat.zero_le _
  | n + 1, hn => by
    have ih := sumTo6_bd h n (by omega)
    have a := h n (by omega)
    have e : sumTo6 t (n + 1) = sumTo6 t n + t n := rfl
    have m : b * (n + 1) = b * n + b := Nat.mul_succ b n
    rw [e]; omega
theorem owG_bd {V : Sv} {AL : Nat → ALaw} {PA : Nat → APact} {r : List SumT} (o : okRs r) (oL : ∀ l, l < 6 → okL (AL l)) : ∀ n, n ≤ r.length → (owG V AL PA (sumB r : Nat) r n).natAbs ≤ 74217034874880 * n
  | 0, _ => Nat.zero_le _
  | n + 1, hn => by
    have ih := owG_bd (V := V) (PA := PA) o oL n (by omega)
    have hB := baseG o (show n < r.length by omega)
    have oT := o.2 _ (getD_mem (show n < r.length by omega)).1
    have a := sumTo6_bd (t := takP V AL PA (sumB r : Nat) (r.getD n (0, 0, 0, 0, 0))) (fun l hl => tak_bd (V := V) (AL := AL) (PA := PA) (B := (sumB r : Nat)) oT oL (by omega) hl) 6 (Nat.le_refl _)
    have e : owG V AL PA (sumB r : Nat) r (n + 1) = owG V AL PA (sumB r : Nat) r n + sumTo6 (takP V AL PA (sumB r : Nat) (r.getD n (0, 0, 0, 0, 0))) 6 := rfl
    have m : 74217034874880 * (n + 1) = 74217034874880 * n + 74217034874880 := Nat.mul_succ _ n
    rw [e]; omega
theorem totG_bd {V : Sv} {AL : Nat → ALaw} {PA : Nat → APact} {r : List SumT} (o : okRs r) (oL : ∀ l, l < 6 → okL (AL l)) : (totG V AL PA r).natAbs ≤ 890604418498560 := by
  have a := owG_bd (V := V) (PA := PA) o oL r.length (Nat.le_refl _)
  have b := o.1
  unfold totG
  have : 74217034874880 * r.length ≤ 74217034874880 * 12 := Nat.mul_le_mul_left _ b
  omega
theorem totG_jr {V : Sv} {AL : Nat → ALaw} {PA : Nat → APact} {r : List SumT} (o : okRs r) (oL : ∀ l, l < 6 → okL (AL l)) : jr (totG V AL PA r) := by
  have := totG_bd (V := V) (PA := PA) o oL
  unfold jr; omega
theorem bst_jr {S : AS} {y : Nat} (o : okA S) (hy : y < 2) : ∀ n, jr (bst S y n).1
  | 0 => totG_jr (o.r hy) o.2.1
  | n + 1 => by
    unfold bst
    split
    · exact totG_jr (o.r hy) o.2.1
    · exact bst_jr o hy n
theorem i_natp {x : Int32} (h0 : ¬ x < 0) : ∃ m, m < 2147483648 ∧ x = Int32.ofNat m := by
  have a : ¬ x.toInt < (0 : Int32).toInt := fun z => h0 (Int32.lt_iff_toInt_lt.mpr z)
  have z : (0 : Int32).toInt = 0 := by decide
  have b := Int32.toInt_lt x
  have b' : x.toInt < 2147483648 := b
  refine ⟨x.toInt.toNat, by omega, ?_⟩
  apply Int32.toInt_inj.mp
  rw [i32_ofNat_lt (by omega)]
  omega
section BC
variable {X : Ctx} {d : Nat} {h : Hp} {S : AS} {y : Nat}
theorem m_20 {V : Sv} (I : Inv h) (q : RC h S) (ok : okA S) (hy : y < 2) (L : LvC h V (sL S) (sPc S) (sumB (sY S y).2.2.2.2 : Nat)) :
    Wp (K X (d + 7) 20 [.ref 274, .ref (102 + 17 * y)] h) (VJ fun x h' => x = Int64.ofInt (totG V (sL S) (sPc S) (sY S y).2.2.2.2) ∧ RC h' S ∧ Cl h h' ∧ LvC h' V (sL S) (sPc S) (sumB (sY S y).2.2.2.2 : Nat)) := by
  refine (g20 I hy (ok.r hy) ok.2.1 L (q.1.1 y hy).2.2.2.1 (q.1.1 y hy).2.2.2.2 q.2).mono ?_
  rintro _ h2 ⟨x, rfl, rfl, e1, e2⟩
  have R := q.lv ok e1 e2
  exact ⟨_, rfl, rfl, R.1, R.2, L.eo e1⟩
theorem c94_15 {Q : Option Value → Hp → Prop} {a x : Nat} {w : Nat → Nat} {h0 : Hp} {v1 : Option Value} (hy : y < 2) (hx : x < 6) (hw : ∀ k, w k ≤ 6) (hr : ∀ k, k < 360 → hI h0 (103 + 17 * y) k = nv (w k)) : ∀ (c i : Nat) (h : Hp), i + c = 360 → a ≤ i → Inv h → (Eo (fun b => b = 88 ∨ b = 89) h0 h ∧ cCnt h 88 (setW w a i x) ∧ (∀ k, k ≠ 1 → hI h 88 k = hI h0 88 k)) →
    (∀ h', Inv h' → (Eo (fun b => b = 88 ∨ b = 89) h0 h' ∧ cCnt h' 88 (setW w a 360 x) ∧ (∀ k, k ≠ 1 → hI h' 88 k = hI h0 88 k)) → Q none (sI h' 88 2 (1 <<< (Int32.ofNat x &&& 31)))) →
    Wp (sem (X, K X (d + 1)) 94 15 [some (.ref (102 + 17 * y)), v1, some (.int (Int32.ofNat x)), some (.ref 88), some (.int (Int32.ofNat i))] [] h) Q
  | 0, i, h, e, hi, I, u, q => by
    have e : i = 360 := by omega
    subst e
    rw [b_94_15]
    refine w_ift ((i_le (m := 360) (by omega) (by omega)).mpr (by omega)) ?_
    refine w_fI I s_88 fun _ => ?_
    exact Wp.ret (q h I u)
  | c + 1, i, h, e, hi, I, u, q => by
    obtain ⟨u1, u2, u3⟩ := u
    have ys := year_s hy
    have hs : IsStay 88 := show (88 : Nat) ∈ [88, 104, 121] by decide
    have hi6 := setW_le (a := a) (b := i) hw (show x ≤ 6 by omega) i
    have wi : setW w a i x i = w i := by unfold setW; rw [if_neg (by omega)]
    have nx : nv x = Int32.ofNat x := if_pos hx
    rw [b_94_15]
    refine w_iff (fun z => absurd ((i_le (m := 360) (by omega) (by omega)).mp z) (by omega)) ?_
    refine w_gL I ys.1 ys.2.2.2.2.2.1 ?_
    refine w_aIn I ys.2.1 (by omega) (by decide) ?_
    rw [u1.i (by omega), hr i (by omega), i32_ofNat_succ, ← wi, ← nx]
    refine w_gS I hs.s ?_
    refine w_eV (m_87 I hs) ?_
    have I1 : Inv (addH h 88 (setW w a i x i) (-1)) := addH.inv I
    refine w_gS I1 hs.s ?_
    refine w_eV (m_87 I1 hs) ?_
    have I2 : Inv (addH (addH h 88 (setW w a i x i) (-1)) 88 x 1) := addH.inv I1
    have cc := addH2 (x := x) (show i < 360 by omega) hi6 (show x ≤ 6 by omega) u2
    rw [setW_step w hi] at cc
    have E2 : Eo (fun b => b = 88 ∨ b = 88 + 1) h (addH (addH h 88 (setW w a i x i) (-1)) 88 x 1) := addH.eo (addH.eo Eo.rf (Or.inl rfl) (Or.inr rfl)) (Or.inl rfl) (Or.inr rfl)
    have k1 : ∀ (g : Hp) (z : Nat) (m : Int32) (k : Nat), k ≠ 1 → hI (addH g 88 z m) 88 k = hI g 88 k := fun g z m k hk => by
      unfold addH; split
      · rw [sI_other (by omega)]
      · rw [hI_sI_self, up1, if_neg hk]
    rw [nx]
    exact c94_15 hy hx hw hr c (i + 1) _ (by omega) (by omega) I2 ⟨u1.tr (E2.wk fun b z => by omega), cc, fun k hk => by rw [k1 _ _ _ _ hk, k1 _ _ _ _ hk]; exact u3 k hk⟩ q
theorem m_94 {n l : Nat} {A : AY} (I : Inv h) (hy : y < 2) (hn : n < 360) (hl : l < 6) (hA : cYear h y A) (oA : okY A) :
    Wp (K X (d + 2) 94 [.ref (102 + 17 * y), .int (Int32.ofNat n), .int (Int32.ofNat l), .ref 88] h) (VV fun h' => cSv h' 88 (mvV A (n, l)) ∧ Eo WT h h') := by
  have ys := year_s hy
  rw [k_94]
  refine w_gL I ys.1 ys.2.2.2.2.2.2.1 ?_
  refine w_gS I s_88 ?_
  refine w_bV I (m_85 I ys.2.2.2.2.2.2.2.2 (by omega) hA.2.1) (by decide) rfl fun h1 I1 p => ?_
  obtain ⟨p1, p2, E1⟩ := p
  rw [if_neg (i_lt0 (show n < 2147483648 by omega))]
  refine c94_15 (w := A.1) (h0 := h1) hy hl oA.1 (fun k hk => by rw [E1.i (by omega)]; exact hA.1 k hk) (360 - n) n h1 (by omega) (Nat.le_refl _) I1 ⟨Eo.rf, ?_, fun _ _ => rfl⟩ fun h2 I2 u => ?_
  · rw [setW_0]
    exact ⟨fun k hk => p1.1 k hk, by rw [p2]; exact hA.2.2.1⟩
  · obtain ⟨u1, u2, u3⟩ := u
    obtain ⟨v1, v2, v3, v4⟩ := p1
    refine ⟨rfl, ⟨fun k hk => ?_, ?_, ?_, ?_⟩, ((E1.tr u1).kI (Or.inl rfl)).wk fun a z => by unfold WT; omega⟩
    · rw [sI_other (show 88 + 1 ≠ 88 by decide)]; exact u2.1 k hk
    · rw [hI_sI_self, up1, if_pos rfl]; rfl
    · rw [hI_sI_self, up1, if_neg (by decide), u3 3 (by decide), v3]; rfl
    · rw [hI_sI_self, up1, if_neg (by decide), u3 4 (by decide), v4]; rfl
theorem m_120 {k : Nat} (I : Inv h) (q : RC h S) (ok : okA S) (hy : y < 2) (hk : k < (sM S).length) :
    Wp (K X (d + 8) 120 [.ref 62, .ref (102 + 17 * y), .int (Int32.ofNat k)] h) (VJ fun v h' => v = Int64.ofInt (mvT S y k) ∧ RC h' S ∧ Cl h h') := by
  have len := ok.2.2.2.2.1.1
  obtain ⟨p1, p2, -⟩ := q.1.2.2.2.2.2.1
  have at_ := p2.at hk
  have om := ok.2.2.2.2.1.2 _ (List.getElem_mem hk)
  have eg : (sM S).getD k (0, 0) = (sM S)[k] := by rw [List.getD_eq_getElem?_getD, List.getElem?_eq_getElem hk]; rfl
  rw [Nat.zero_add] at at_
  rw [k_120]
  refine w_iff (i_lt0 (by omega)) ?_
  refine w_gL I s_62 l_62_4 ?_
  refine w_gI I s_67 ?_
  rw [p1]
  refine w_ift ((i_lt (by omega) (by omega)).mpr hk) ?_
  refine w_gL I s_62 l_62_4 ?_
  refine w_gL I s_67 l_67_0 ?_
  refine w_aIn I s_68 (by omega) (by decide) ?_
  refine w_gL I s_62 l_62_4 ?_
  refine w_gL I s_67 l_67_1 ?_
  refine w_aIn I s_69 (by omega) (by decide) ?_
  rw [at_.1, at_.2]
  refine w_gL I s_62 l_62_9 ?_
  refine w_gS I (year_s hy).1 ?_
  refine w_bV I (m_94 (d := d + 5) I hy om.1 om.2 (q.1.1 y hy) (ok.1 y hy)) (by decide) rfl fun h1 I1 p => ?_
  obtain ⟨p3, E1⟩ := p
  have R1 := q.wt ok E1
  refine w_hear88 (d := d + 2) I1 R1.1 ok hy p3 fun h2 I2 q2 C2 L2 => ?_
  refine w_gL I2 s_62 l_62_8 ?_
  refine w_gS I2 s_274 ?_
  refine w_bJ I2 (m_20 (d := d) I2 q2 ok hy L2) (by decide) rfl ?_
  rintro x h3 I3 ⟨rfl, q3, C3, -⟩
  refine Wp.retj ⟨?_, q3, (R1.2.tr C2).tr C3⟩
  unfold mvT; rw [eg]
theorem c119_84 {w : Int32} (ok : okA S) (hy : y < 2) (hw : w = 0 ∨ w = 1) : ∀ (c k : Nat) (h : Hp) (v7 v8 : Option Value), k + c = (sM S).length → Inv h → RC h S →
    Wp (sem (X, K X (d + 8)) 119 84 [some (.ref 62), some (.int (Int32.ofNat y)), some (.int w), some (.long (Int64.ofInt (bst S y k).1)), none, some (.int (bst S y k).2), some (.int (Int32.ofNat k)), v7, v8] [] h) (VJ fun v h' => v = bstV S y w ∧ Cl h h' ∧ RC h' S)
  | 0, k, h, v7, v8, e, I, q => by
    have len := ok.2.2.2.2.1.1
    have e : k = (sM S).length := by omega
    obtain ⟨p1, p2, -⟩ := q.1.2.2.2.2.2.1
    rw [b_119_84]
    refine w_gL I s_62 l_62_4 ?_
    refine w_gI I s_67 ?_
    rw [p1, e]
    refine w_ift (Int32.le_refl _) ?_
    unfold bstV
    rcases hw with rfl | rfl
    · exact w_iff (by decide) (Wp.retj ⟨rfl, Eo.rf, q⟩)
    · exact w_ift (by decide) (Wp.retj ⟨rfl, Eo.rf, q⟩)
  | c + 1, k, h, v7, v8, e, I, q => by
    have len := ok.2.2.2.2.1.1
    have hk : k < (sM S).length := by omega
    obtain ⟨p1, p2, -⟩ := q.1.2.2.2.2.2.1
    have st : bst S y (k + 1) = if mvT S y k < (bst S y k).1 then (mvT S y k, Int32.ofNat k) else bst S y k := rfl
    have j1 := bst_jr ok hy k
    have j2 : jr (mvT S y k) := totG_jr (ok.r hy) ok.2.1
    rw [b_119_84]
    refine w_gL I s_62 l_62_4 ?_
    refine w_gI I s_67 ?_
    rw [p1]
    refine w_iff (fun z => absurd ((i_le (by omega) (by omega)).mp z) (by omega)) ?_
    refine w_gL I s_62 l_62_0 ?_
    refine w_aLn I s_63 (by decide) (by decide) hy (by decide) (lk_years y hy) ?_
    refine w_gS I s_62 ?_
    refine w_bJ I (m_120 (d := d) I q ok hy hk) (by decide) rfl ?_
    rintro x h1 I1 ⟨rfl, q1, C1⟩
    have ih := fun v7 v8 => c119_84 (w := w) ok hy hw c (k + 1) h1 v7 v8 (by omega) I1 q1
    rw [i32_ofNat_succ]
    refine w_if (fun c0 => ?_) (fun c0 => ?_)
    · have : ¬ mvT S y k < (bst S y k).1 := fun z => absurd ((j_le j1 j2).mp ((lg_cmp_ge _ _).mp c0)) (by omega)
      rw [st, if_neg this] at ih
      exact (ih _ _).mono (by rintro _ h2 ⟨v, rfl, e, C, R⟩; exact ⟨_, rfl, e, C1.tr C, R⟩)
    · have : mvT S y k < (bst S y k).1 := by
        apply Classical.byContradiction
        intro z
        exact c0 ((lg_cmp_ge _ _).mpr ((j_le j1 j2).mpr (by omega)))
      rw [st, if_pos this] at ih
      exact (ih _ _).mono (by rintro _ h2 ⟨v, rfl, e, C, R⟩; exact ⟨_, rfl, e, C1.tr C, R⟩)
theorem c119_59 {w : Int32} {v2 v3 v4 v5 v6 v7 v8 : Option Value} (I : Inv h) (q : RC h S) (ok : okA S) (hy : y < 2) (hw : w = 0 ∨ w = 1) (h2 : v2 = some (.int w)) :
    Wp (sem (X, K X (d + 8)) 119 59 [some (.ref 62), some (.int (Int32.ofNat y)), v2, v3, v4, v5, v6, v7, v8] [] h) (VJ fun v h' => v = bstV S y w ∧ Cl h h' ∧ RC h' S) := by
  subst h2
  rw [b_119_59]
  refine w_hear (d := d + 2) I q ok hy fun h1 I1 q1 C1 p => ?_
  have L1 := p.lv q1 ok
  refine w_gL I1 s_62 l_62_8 ?_
  refine w_gL I1 s_62 l_62_0 ?_
  refine w_aLn I1 s_63 (by decide) (by decide) hy (by decide) (lk_years y hy) ?_
  refine w_gS I1 s_274 ?_
  refine w_bJ I1 (m_20 (d := d + 1) I1 q1 ok hy L1) (by decide) rfl ?_
  rintro x h2 I2 ⟨rfl, q2, C2, -⟩
  refine (c119_84 (d := d) (w := w) ok hy hw (sM S).length 0 h2 _ _ (by omega) I2 q2).mono ?_
  rintro _ h3 ⟨v, rfl, e, C, R⟩
  exact ⟨_, rfl, e, (C1.tr C2).tr C, R⟩
theorem c_best {y w : Int32} (I : Inv h) (q : RC h S) (ok : okA S) :
    Wp (K X (d + 9) 119 [.ref 62, .int y, .int w] h) (VJ fun v h' => bestP S y w v ∧ Cl h h' ∧ RC h' S) := by
  have no : ¬ okBst S y w → bestP S y w (-1) := fun z => ⟨fun w => absurd w z, fun _ => rfl⟩
  have len := ok.2.2.2.2.1.1
  obtain ⟨p1, p2, -⟩ := q.1.2.2.2.2.2.1
  rw [k_119]
  refine w_eI yr_c ?_
  refine w_if (fun c => ?_) (fun c => Wp.retj ⟨no fun z => bi_dec.mp (Classical.byContradiction c) z.1, Eo.rf, q⟩)
  have hy : isYr y := Classical.byContradiction fun z => c (bi_dec.mpr z)
  obtain ⟨yn, y2, rfl⟩ := yr_nat hy
  have dy : dN (Int32.ofNat yn) = yn := dN_of (by omega)
  have go : (w = 0 ∨ w = 1) → Wp (sem (X, K X (d + 8)) 119 59 [some (.ref 62), some (.int (Int32.ofNat yn)), some (.int w), none, none, none, none, none, none] [] h) (VJ fun v h' => bestP S (Int32.ofNat yn) w v ∧ Cl h h' ∧ RC h' S) := fun hw => by
    refine (c119_59 I q ok y2 hw rfl).mono ?_
    rintro _ h3 ⟨v, rfl, e, C, R⟩
    exact ⟨_, rfl, ⟨fun _ => by rw [dy]; exact e, fun z => absurd ⟨hy, by rcases hw with z | z; exact Or.inl z; exact Or.inr (Or.inl z)⟩ z⟩, C, R⟩
  have tail : ¬ (∃ k, k < (sM S).length ∧ w = Int32.ofNat (k + 10)) → Wp (if w = 0 then sem (X, K X (d + 8)) 119 59 [some (.ref 62), some (.int (Int32.ofNat yn)), some (.int w), none, none, none, none, none, none] [] h else if w = 1 then sem (X, K X (d + 8)) 119 59 [some (.ref 62), some (.int (Int32.ofNat yn)), some (.int w), none, none, none, none, none, none] [] h else some (some (.long (-1)), h)) (VJ fun v h' => bestP S (Int32.ofNat yn) w v ∧ Cl h h' ∧ RC h' S) := fun nk => by
    refine w_if (fun c => go (Or.inl c)) (fun c0 => ?_)
    refine w_if (fun c => go (Or.inr c)) (fun c1 => ?_)
    exact Wp.retj ⟨no fun z => by rcases z.2 with z | z | z; exact c0 z; exact c1 z; exact nk z, Eo.rf, q⟩
  refine w_if (fun c => tail fun z => ?_) (fun c10 => ?_)
  · obtain ⟨k, hk, rfl⟩ := z
    exact absurd ((i_lt (n := 10) (by omega) (by omega)).mp c) (by omega)
  · have n0 : ¬ w < 0 := fun z => c10 (Int32.lt_trans z (by decide))
    obtain ⟨m, m2, rfl⟩ := i_natp n0
    have m10 : 10 ≤ m := Nat.le_of_not_lt fun z => c10 ((i_lt (n := 10) m2 (by omega)).mpr z)
    have e10 : Int32.ofNat m - 10 = Int32.ofNat (m - 10) := i_sub (n := 10) m10
    rw [e10]
    refine w_gL I s_62 l_62_4 ?_
    refine w_gI I s_67 ?_
    rw [p1]
    refine w_if (fun c => tail fun z => ?_) (fun c => ?_)
    · obtain ⟨k, hk, e⟩ := z
      have := (i_eq m2 (by omega)).mp e
      exact absurd ((i_le (by omega) (by omega)).mp c) (by omega)
    · have hk : m - 10 < (sM S).length := Nat.lt_of_not_le fun z => c ((i_le (by omega) (by omega)).mpr z)
      refine w_gL I s_62 l_62_0 ?_
      refine w_aLn I s_63 (by decide) (by decide) y2 (by decide) (lk_years yn y2) ?_
      refine w_gS I s_62 ?_
      refine w_bJ I (m_120 (d := d) I q ok y2 hk) (by decide) rfl ?_
      rintro x h1 I1 ⟨rfl, q1, C1⟩
      refine Wp.retj ⟨⟨fun _ => ?_, fun z => absurd ⟨hy, Or.inr (Or.inr ⟨m - 10, hk, by congr 1; omega⟩)⟩ z⟩, C1, q1⟩
      unfold bstV
      rw [if_neg (show ¬ Int32.ofNat m = 0 from fun z => absurd ((i_eq (n := 0) m2 (by omega)).mp z) (by omega)), if_neg (show ¬ Int32.ofNat m = 1 from fun z => absurd ((i_eq (n := 1) m2 (by omega)).mp z) (by omega)), dy, dN_of m2]
end BC
