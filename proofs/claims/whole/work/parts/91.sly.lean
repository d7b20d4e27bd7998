/-! SLY, of the class -/
def VR (P : Nat → Hp → Prop) : Option Value → Hp → Prop := fun v h => ∃ x, v = some (.ref x) ∧ P x h
def slB (V : Sv) (AL : Nat → ALaw) (PA : Nat → APact) (r : List SumT) (U : List ATurn) (i k : Nat) : Bool := decide (k < U.length ∧ uI U k < i ∧ (pk V AL PA r U (uI U k) U.length).2 = some k)
def slyV (S : AS) (w : Int32) : Int64 := if w = 0 then (Int32.ofNat (slyA (vY S 0) (sL S) (sPc S) (sY S 0).2.2.2.2 (sU S)).2).toInt64 else Int64.ofInt (slyA (vY S 0) (sL S) (sPc S) (sY S 0).2.2.2.2 (sU S)).1
def slyP (S : AS) (w : Int32) (v : Int64) : Prop := (w = 0 ∨ w = 1 → v = slyV S w) ∧ (¬ (w = 0 ∨ w = 1) → v = -1)
section SC
variable {X : Ctx} {d : Nat} {Q : Option Value → Hp → Prop} {h : Hp} {S : AS} {V : Sv} {PA : Nat → APact}
theorem w_bR {P : Nat → Hp → Prop} {y : Nat} {vs : List Value} {f : Nat → Hp → Option (Option Value × Hp)} (I : Inv h) (w : Wp (K X d y vs h) (VR P)) (hy : y < 247) (hq : mIni y = false) (k : ∀ x h', Inv h' → P x h' → Wp (f x h') Q) : Wp (bR (K X d y vs h) f) Q := by
  obtain ⟨_, h', e, x, rfl, p⟩ := w
  rw [e]
  exact k x h' (K_inv X d y vs h _ h' hy hq I e) p
theorem uOk (ok : okA S) {k : Nat} (hk : k < (sU S).length) : uI (sU S) k < (sY S 0).2.2.2.2.length ∧ uP (sU S) k < 6 ∧ ((sU S).getD k (0, 0, 0)).2.2 ≤ 999999 ∧ (sU S)[k] = (sU S).getD k (0, 0, 0) := by
  have e : (sU S).getD k (0, 0, 0) = (sU S)[k] := by rw [List.getD_eq_getElem?_getD, List.getElem?_eq_getElem hk]; rfl
  have m := ok.2.2.2.2.2.1.2 _ (List.getElem_mem hk)
  unfold uI uP
  rw [e]
  exact ⟨m.1, m.2.1, m.2.2, rfl⟩
theorem u6 (ok : okA S) : (sU S).length ≤ 6 := ok.2.2.2.2.2.1.1
theorem turn_c (q : RC h S) (ok : okA S) {k : Nat} (hk : k < (sU S).length) : hI h 70 k = Int32.ofNat (uI (sU S) k) ∧ hI h 71 k = Int32.ofNat (uP (sU S) k) ∧ hI h 72 k = Int32.ofNat ((sU S).getD k (0, 0, 0)).2.2 := by
  obtain ⟨p1, p2, p3, p4, -⟩ := q.1.2.2.2.2.2.1
  have a := p4.at hk
  rw [Nat.zero_add, (uOk ok hk).2.2.2] at a
  exact a
theorem LvC.e90 {AL : Nat → ALaw} {B : Int} {h' : Hp} (q : LvC h V AL PA B) (e : Eo (fun a => a = 90) h h') : LvC h' V AL PA B := by
  obtain ⟨q1, q2, q3, q4, q5, q6, q7, ⟨po, r1, r2, r3⟩, q9⟩ := q
  refine ⟨fun l hl k hk => by rw [e.i (show ¬ (276 + l = 90) by omega)]; exact q1 l hl k hk, by rw [e.i (show ¬ (274 = 90) by decide)]; exact q2, by rw [e.j (show ¬ (274 = 90) by decide)]; exact q3, by rw [e.j (show ¬ (287 = 90) by decide)]; exact q4, by rw [e.i (show ¬ (274 = 90) by decide)]; exact q5, ?_, by rw [e.i (show ¬ (286 = 90) by decide)]; exact q7, ⟨po, r1, by rw [e.p (show ¬ (274 = 90) by decide)]; exact r2, fun p hp => ?_⟩, q9.eo e (by decide) (fun a h1 h2 => by omega)⟩
  · unfold offR at q6 ⊢
    rw [e.i (show ¬ (285 = 90) by decide)]; exact q6
  · obtain ⟨P, p1, p2, p3, p4⟩ := r3 p hp
    have rg := p2.rg
    exact ⟨P, by rw [e.p (show ¬ (po = 90) by omega)]; exact p1, p2, p3.eo (e.i (show ¬ (P = 90) by omega)) (e.i (show ¬ (P + 2 = 90) by omega)), p4⟩
theorem m_stl {u : Nat} {T : SumT} {B : Int} (I : Inv h) (q : RC h S) (ok : okA S) (hu : SH u = (9, 0)) (hu2 : u < 274) (L : LvC h V (sL S) PA B) (hT : cSum h u T) (o : okSm T) (hB : 0 < B ∧ B ≤ 99999999) :
    Wp (K X (d + 6) 21 [.ref 274, .ref u] h) (VJ fun x h' => x = Int64.ofInt (hV V (sL S) PA B T) ∧ RC h' S ∧ Cl h h' ∧ LvC h' V (sL S) PA B ∧ ∀ l, l < 6 → hJ h' 289 l = Int64.ofInt (takP V (sL S) PA B T l)) := by
  obtain ⟨ro, g⟩ := q.2
  refine (m_21 I hu hu2 L hT o hB ok.2.1 g).mono ?_
  rintro _ h' ⟨x, rfl, rfl, e1, e2, e3, e4, e5⟩
  have R := q.lv ok e1 e2
  exact ⟨_, rfl, rfl, R.1, R.2, L.eo e1, e4⟩
theorem m_123 {k : Nat} (I : Inv h) (q : RC h S) (ok : okA S) (hk : k < (sU S).length) :
    Wp (K X (d + 1) 123 [.ref 62, .int (Int32.ofNat k)] h) (VR fun x h' => x = 90 ∧ cSum h' 90 (trnS ((sY S 0).2.2.2.2.getD (uI (sU S) k) noS) (uP (sU S) k)) ∧ Eo (fun a => a = 90) h h') := by
  have y0 : 0 < 2 := by decide
  have ys := year_s y0
  have u := uOk ok hk
  have u6 := u6 ok
  have n12 : (sY S 0).2.2.2.2.length ≤ 12 := (ok.1 0 y0).2.1
  have t := turn_c q ok hk
  have i12 : uI (sU S) k < 12 := by omega
  have s := sum_s y0 i12
  have hT : cSum h (107 + 17 * 0 + uI (sU S) k) ((sY S 0).2.2.2.2.getD (uI (sU S) k) noS) := by
    have := (q.1.1 0 y0).2.2.2.2.at u.1
    rw [(getD_mem u.1).2] at this
    exact this
  obtain ⟨t1, t2, t3, t4, t5⟩ := hT
  have n90 : 107 + 17 * 0 + uI (sU S) k ≠ 90 := by omega
  rw [k_123]
  refine w_gL I s_62 l_62_0 ?_
  refine w_aLn (m := 0) I s_63 (by decide) (by decide) y0 (by decide) (lk_years 0 y0) ?_
  refine w_gL I ys.1 ys.2.2.2.2.2.2.2.1 ?_
  refine w_gL I s_62 l_62_4 ?_
  refine w_gL I s_67 l_67_2 ?_
  refine w_aIn I s_70 (by omega) (by decide) ?_
  rw [t.1]
  refine w_aLn I ys.2.2.2.2.1 (by decide) (by decide) i12 (by decide) (lk_sums 0 y0 _ i12) ?_
  refine w_gL I s_62 l_62_10 ?_
  refine w_fI I s_90 fun I1 => ?_
  refine w_gL I1 s_62 l_62_10 ?_
  refine w_gI I1 s ?_
  rw [sI_other n90, t2]
  refine w_fI I1 s_90 fun I2 => ?_
  refine w_gL I2 s_62 l_62_10 ?_
  refine w_gI I2 s ?_
  rw [sI_other n90, sI_other n90, t3]
  refine w_fI I2 s_90 fun I3 => ?_
  refine w_gL I3 s_62 l_62_10 ?_
  refine w_gL I3 s_62 l_62_4 ?_
  refine w_gL I3 s_67 l_67_3 ?_
  refine w_aIn I3 s_71 (by omega) (by decide) ?_
  rw [sI_other (b := 71) (by decide), sI_other (b := 71) (by decide), sI_other (b := 71) (by decide), t.2.1]
  refine w_fI I3 s_90 fun I4 => ?_
  refine w_gL I4 s_62 l_62_10 ?_
  refine w_gL I4 s_62 l_62_4 ?_
  refine w_gL I4 s_67 l_67_3 ?_
  refine w_aIn I4 s_71 (by omega) (by decide) ?_
  rw [sI_other (b := 71) (by decide), sI_other (b := 71) (by decide), sI_other (b := 71) (by decide), sI_other (b := 71) (by decide), t.2.1]
  refine w_fI I4 s_90 fun I5 => ?_
  refine w_gL I5 s_62 l_62_10 ?_
  refine ⟨_, _, rfl, _, rfl, rfl, ⟨?_, ?_, ?_, ?_, ?_⟩, (((((Eo.rf (W := fun a => a = 90)).kI rfl).kI rfl).kI rfl).kI rfl).kI rfl⟩
  all_goals (simp only [hI_sI_self]; rfl)
theorem m_36 {k : Nat} (I : Inv h) (q : RC h S) (ok : okA S) (hk : k < (sU S).length) : K X (d + 1) 36 [.ref 67, .int (Int32.ofNat k)] h = some (some (.long (Int64.ofInt (uC (sU S) k))), h) := by
  have u6 := u6 ok
  have u := uOk ok hk
  have t := turn_c q ok hk
  refine Wp.eqJ ?_
  rw [k_36]
  refine w_gL I s_67 l_67_4 ?_
  refine w_aIn I s_72 (by omega) (by decide) ?_
  rw [t.2.2, nat_j (by omega)]
  refine Wp.retj ⟨?_, rfl⟩
  show Int64.ofInt _ * Int64.ofInt 100 = _
  rw [← Int64.ofInt_mul]
  congr 1
  unfold uC
  omega
/-- settles a SUM as turned, its PRICE with it -/
theorem cst_bd {r : List SumT} {U : List ATurn} {AL : Nat → ALaw} {i : Nat} {o : Option Nat} (oR : okRs r) (oL : ∀ l, l < 6 → okL (AL l)) (hi : i < r.length) (hu : ∀ k, o = some k → uP U k < 6 ∧ (U.getD k (0, 0, 0)).2.2 ≤ 999999) : (hV V AL PA (sumB r : Nat) (apU U r i o)).natAbs ≤ 74217034874880 ∧ (cst V AL PA r U i o).natAbs ≤ 74217134874780 := by
  have hB := baseG oR hi
  have oT : okSm (apU U r i o) := by
    cases o with
    | none => exact oR.2 _ (getD_mem hi).1
    | some k => exact trnS_ok (oR.2 _ (getD_mem hi).1) (hu k rfl).1
  have a := sumTo6_bd (t := takP V AL PA (sumB r : Nat) (apU U r i o)) (fun l hl => tak_bd (V := V) (AL := AL) (PA := PA) (B := (sumB r : Nat)) oT oL (by omega) hl) 6 (Nat.le_refl _)
  have b : (prU U o).natAbs ≤ 99999900 := by
    cases o with
    | none => exact Nat.zero_le _
    | some k =>
      have := (hu k rfl).2
      show (uC U k).natAbs ≤ _
      unfold uC; omega
  unfold cst hV
  omega
theorem cst_jr {r : List SumT} {U : List ATurn} {AL : Nat → ALaw} {i : Nat} {o : Option Nat} (oR : okRs r) (oL : ∀ l, l < 6 → okL (AL l)) (hi : i < r.length) (hu : ∀ k, o = some k → uP U k < 6 ∧ (U.getD k (0, 0, 0)).2.2 ≤ 999999) : jr (cst V AL PA r U i o) := by
  have := (cst_bd (V := V) (PA := PA) oR oL hi hu).2
  unfold jr; omega
theorem m_turned {k : Nat} {f : Int64 → Hp → Option (Option Value × Hp)} (I : Inv h) (q : RC h S) (ok : okA S) (hk : k < (sU S).length) (L : LvC h V (sL S) PA (sumB (sY S 0).2.2.2.2 : Nat))
    (kk : ∀ h', Inv h' → RC h' S → Cl h h' → LvC h' V (sL S) PA (sumB (sY S 0).2.2.2.2 : Nat) → Wp (f (Int64.ofInt (cst V (sL S) PA (sY S 0).2.2.2.2 (sU S) (uI (sU S) k) (some k))) h') Q) :
    Wp (gR h 10 62 8 fun g6 => gd (hS h 62 = (11, 0)) (bR (K X (d + 6) 123 [.ref 62, .int (Int32.ofNat k)] h) fun r7 h1 => gd (hS h1 g6 = (3, 0)) (bJ (K X (d + 6) 21 [.ref g6, .ref r7] h1) fun r8 h2 => gR h2 10 62 4 fun g9 => gd (hS h2 g9 = (5, 0)) (bJ (K X (d + 6) 36 [.ref g9, .int (Int32.ofNat k)] h2) fun r10 h3 => f (r8 + r10) h3)))) Q := by
  have oR := ok.r (y := 0) (by decide)
  have u := uOk ok hk
  have hB := baseG oR u.1
  refine w_gL I s_62 l_62_8 ?_
  refine w_gS I s_62 ?_
  refine w_bR I (m_123 (d := d + 5) I q ok hk) (by decide) rfl ?_
  rintro x h1 I1 ⟨rfl, c1, E1⟩
  have q1 : RC h1 S := q.scr ok E1 fun a z => by unfold WX; omega
  have L1 := L.e90 E1
  refine w_gS I1 s_274 ?_
  refine w_bJ I1 (m_stl (d := d) I1 q1 ok s_90 (by decide) L1 c1 (trnS_ok (oR.2 _ (getD_mem u.1).1) u.2.1) (by omega)) (by decide) rfl ?_
  rintro x h2 I2 ⟨rfl, q2, C2, L2, -⟩
  refine w_gL I2 s_62 l_62_4 ?_
  refine w_gS I2 s_67 ?_
  refine w_eJ (m_36 (d := d + 5) I2 q2 ok hk) ?_
  rw [← Int64.ofInt_add]
  exact kk h2 I2 q2 ((E1.wk fun a z => by omega).tr C2) L2
theorem pk_opt {r : List SumT} {AL : Nat → ALaw} {i n : Nat} (ok : okA S) (hn : n ≤ (sU S).length) : ∀ k, (pk V AL PA r (sU S) i n).2 = some k → uP (sU S) k < 6 ∧ ((sU S).getD k (0, 0, 0)).2.2 ≤ 999999 := fun k e => by
  have a := pk_some e
  have b := uOk ok (show k < (sU S).length by omega)
  exact ⟨b.2.1, b.2.2.1⟩
theorem pk_jr {i n : Nat} (ok : okA S) (hi : i < (sY S 0).2.2.2.2.length) (hn : n ≤ (sU S).length) : jr (pk V (sL S) PA (sY S 0).2.2.2.2 (sU S) i n).1 := by
  rw [pk_val]
  exact cst_jr (ok.r (by decide)) ok.2.1 hi (pk_opt ok hn)
theorem c122_66 {h0 : Hp} {v1 : Option Value} {i : Nat} {x2 : Int32} {x3 : Int64} (ok : okA S) (hi : i < (sY S 0).2.2.2.2.length)
    (kk : ∀ h' v8 v9 v10 v11, Inv h' → RC h' S → Cl h0 h' → LvC h' V (sL S) (sPc S) (sumB (sY S 0).2.2.2.2 : Nat) →
      Wp (sem (X, K X (d + 6)) 122 25 [some (.ref 62), v1, some (.int (match (pk V (sL S) (sPc S) (sY S 0).2.2.2.2 (sU S) i (sU S).length).2 with | none => x2 | some w => x2 ||| (1 <<< (Int32.ofNat w &&& 31)))), some (.long (x3 + Int64.ofInt (pk V (sL S) (sPc S) (sY S 0).2.2.2.2 (sU S) i (sU S).length).1)), none, some (.int (Int32.ofNat (i + 1))), some (.long (Int64.ofInt (pk V (sL S) (sPc S) (sY S 0).2.2.2.2 (sU S) i (sU S).length).1)), none, v8, v9, v10, v11] [] h') Q) : ∀ (c k : Nat) (h : Hp) (v10 v11 : Option Value), k + c = (sU S).length → Inv h → RC h S → Cl h0 h → LvC h V (sL S) (sPc S) (sumB (sY S 0).2.2.2.2 : Nat) →
    Wp (sem (X, K X (d + 6)) 122 66 [some (.ref 62), v1, some (.int x2), some (.long x3), none, some (.int (Int32.ofNat i)), some (.long (Int64.ofInt (pk V (sL S) (sPc S) (sY S 0).2.2.2.2 (sU S) i k).1)), none, some (.int (decI (pk V (sL S) (sPc S) (sY S 0).2.2.2.2 (sU S) i k).2)), some (.int (Int32.ofNat k)), v10, v11] [] h) Q
  | 0, k, h, v10, v11, e, I, q, C, L => by
    have u6 := u6 ok
    have e : k = (sU S).length := by omega
    subst e
    obtain ⟨p1, p2, p3, -⟩ := q.1.2.2.2.2.2.1
    rw [b_122_66]
    refine w_gL I s_62 l_62_4 ?_
    refine w_gI I s_67 ?_
    rw [p3]
    refine w_ift (Int32.le_refl _) ?_
    rw [i32_ofNat_succ]
    have kk := fun v8 v9 v10 v11 => kk h v8 v9 v10 v11 I q C L
    cases eo : (pk V (sL S) (sPc S) (sY S 0).2.2.2.2 (sU S) i (sU S).length).2 with
    | none =>
      rw [eo] at kk
      exact w_iff (fun z => z rfl) (kk _ _ _ _)
    | some w =>
      rw [eo] at kk
      have := pk_some eo
      exact w_ift (i_nm1 (by omega)) (kk _ _ _ _)
  | c + 1, k, h, v10, v11, e, I, q, C, L => by
    have u6 := u6 ok
    have hk : k < (sU S).length := by omega
    have u := uOk ok hk
    have n12 : (sY S 0).2.2.2.2.length ≤ 12 := (ok.1 0 (by decide)).2.1
    obtain ⟨p1, p2, p3, -⟩ := q.1.2.2.2.2.2.1
    have t := turn_c q ok hk
    have st : pk V (sL S) (sPc S) (sY S 0).2.2.2.2 (sU S) i (k + 1) = if uI (sU S) k = i ∧ cst V (sL S) (sPc S) (sY S 0).2.2.2.2 (sU S) i (some k) < (pk V (sL S) (sPc S) (sY S 0).2.2.2.2 (sU S) i k).1 then (cst V (sL S) (sPc S) (sY S 0).2.2.2.2 (sU S) i (some k), some k) else pk V (sL S) (sPc S) (sY S 0).2.2.2.2 (sU S) i k := rfl
    rw [b_122_66]
    refine w_gL I s_62 l_62_4 ?_
    refine w_gI I s_67 ?_
    rw [p3]
    refine w_iff (fun z => absurd ((i_le (by omega) (by omega)).mp z) (by omega)) ?_
    refine w_gL I s_62 l_62_4 ?_
    refine w_gL I s_67 l_67_2 ?_
    refine w_aIn I s_70 (by omega) (by decide) ?_
    rw [t.1, i32_ofNat_succ]
    refine w_if (fun c0 => ?_) (fun c0 => ?_)
    · have : uI (sU S) k ≠ i := fun z => c0 (by rw [z])
      have ih := fun v10 v11 => c122_66 (v1 := v1) ok hi kk c (k + 1) h v10 v11 (by omega) I q C L
      rw [st, if_neg (fun z => this z.1)] at ih
      exact ih _ _
    · have ei : uI (sU S) k = i := (i_eq (by omega) (by omega)).mp (Classical.byContradiction c0)
      refine m_turned (d := d) (f := fun v h3 => if 0 ≤ (lg_cmp v (Int64.ofInt (pk V (sL S) (sPc S) (sY S 0).2.2.2.2 (sU S) i k).1)) then sem (X, K X (d + 6)) 122 66 [some (.ref 62), v1, some (.int x2), some (.long x3), none, some (.int (Int32.ofNat i)), some (.long (Int64.ofInt (pk V (sL S) (sPc S) (sY S 0).2.2.2.2 (sU S) i k).1)), none, some (.int (decI (pk V (sL S) (sPc S) (sY S 0).2.2.2.2 (sU S) i k).2)), some (.int (Int32.ofNat (k + 1))), some (.long v), none] [] h3 else sem (X, K X (d + 6)) 122 66 [some (.ref 62), v1, some (.int x2), some (.long x3), none, some (.int (Int32.ofNat i)), some (.long v), none, some (.int (Int32.ofNat k)), some (.int (Int32.ofNat (k + 1))), some (.long v), none] [] h3) I q ok hk L fun h1 I1 q1 C1 L1 => ?_
      have ih := fun v10 v11 => c122_66 (v1 := v1) ok hi kk c (k + 1) h1 v10 v11 (by omega) I1 q1 (C.tr C1) L1
      have j1 := pk_jr (V := V) (PA := sPc S) ok hi (show k ≤ (sU S).length by omega)
      have j2 : jr (cst V (sL S) (sPc S) (sY S 0).2.2.2.2 (sU S) i (some k)) := cst_jr (ok.r (by decide)) ok.2.1 hi fun j z => by injection z with z; subst z; exact ⟨u.2.1, u.2.2.1⟩
      rw [ei]
      refine w_if (fun c1 => ?_) (fun c1 => ?_)
      · have := (j_le j1 j2).mp ((lg_cmp_ge _ _).mp c1)
        rw [st, if_neg (fun z => by have := z.2; omega)] at ih
        exact ih _ _
      · have : cst V (sL S) (sPc S) (sY S 0).2.2.2.2 (sU S) i (some k) < (pk V (sL S) (sPc S) (sY S 0).2.2.2.2 (sU S) i k).1 := by
          apply Classical.byContradiction
          intro z
          exact c1 ((lg_cmp_ge _ _).mpr ((j_le j1 j2).mpr (by omega)))
        rw [st, if_pos ⟨ei, this⟩] at ih
        exact ih _ _
theorem slB_step {AL : Nat → ALaw} {r : List SumT} {U : List ATurn} {i : Nat} {x2 : Int32} (h6 : U.length ≤ 6) (b : ∀ k, k < 32 → bt x2 k = slB V AL PA r U i k) : ∀ k, k < 32 → bt (match (pk V AL PA r U i U.length).2 with | none => x2 | some w => x2 ||| (1 <<< (Int32.ofNat w &&& 31))) k = slB V AL PA r U (i + 1) k := by
  intro k hk
  cases eo : (pk V AL PA r U i U.length).2 with
  | none =>
    show bt x2 k = _
    rw [b k hk]
    refine decide_eq_decide.mpr ⟨fun z => ⟨z.1, by omega, z.2.2⟩, fun z => ⟨z.1, ?_, z.2.2⟩⟩
    by_cases e : uI U k = i
    · rw [e, eo] at z; cases z.2.2
    · omega
  | some w =>
    have pw := pk_some eo
    show bt (x2 ||| (1 <<< (Int32.ofNat w &&& 31))) k = _
    rw [bt_set (by omega) hk, b k hk]
    show (decide _ || decide _) = decide _
    rw [← Bool.decide_or]
    refine decide_eq_decide.mpr ⟨fun z => ?_, fun z => ?_⟩
    · rcases z with z | z
      · exact ⟨z.1, by omega, z.2.2⟩
      · subst z; exact ⟨pw.1, by omega, by rw [pw.2.1]; exact eo⟩
    · by_cases e : uI U k = i
      · rw [e, eo] at z
        have := z.2.2
        injection this with this
        exact Or.inr this.symm
      · exact Or.inl ⟨z.1, by omega, z.2.2⟩
theorem c122_25 {w : Int32} {h0 : Hp} (ok : okA S) (hw : w = 0 ∨ w = 1) : ∀ (c i : Nat) (h : Hp) (x2 : Int32) (v6 v7 v8 v9 v10 v11 : Option Value), i + c = (sY S 0).2.2.2.2.length → Inv h → RC h S → Cl h0 h → LvC h (vY S 0) (sL S) (sPc S) (sumB (sY S 0).2.2.2.2 : Nat) → (∀ k, k < 32 → bt x2 k = slB (vY S 0) (sL S) (sPc S) (sY S 0).2.2.2.2 (sU S) i k) →
    Wp (sem (X, K X (d + 6)) 122 25 [some (.ref 62), some (.int w), some (.int x2), some (.long (Int64.ofInt (sumTo6 (fun i => (pk (vY S 0) (sL S) (sPc S) (sY S 0).2.2.2.2 (sU S) i (sU S).length).1) i))), none, some (.int (Int32.ofNat i)), v6, v7, v8, v9, v10, v11] [] h) (VJ fun v h' => v = slyV S w ∧ Cl h0 h' ∧ RC h' S)
  | 0, i, h, x2, v6, v7, v8, v9, v10, v11, e, I, q, C, L, b => by
    have u6 := u6 ok
    have y0 : 0 < 2 := by decide
    have ys := year_s y0
    have n12 : (sY S 0).2.2.2.2.length ≤ 12 := (ok.1 0 y0).2.1
    have e : i = (sY S 0).2.2.2.2.length := by omega
    subst e
    have sc := sly_class (V := vY S 0) (AL := sL S) (PA := sPc S) (U := sU S) u6 fun k hk => (uOk ok hk).1
    have ex : x2 = msk (qB (vY S 0) (sL S) (sPc S) (sY S 0).2.2.2.2 (sU S)) 6 := bt_ext fun k hk => by
      rw [b k hk, bt_msk (by decide) hk]
      show decide _ = (decide (k < 6) && decide _)
      rw [← Bool.decide_and]
      exact decide_eq_decide.mpr ⟨fun z => ⟨by omega, z.1, z.2.2⟩, fun z => ⟨z.2.1, (uOk ok z.2.1).1, z.2.2⟩⟩
    rw [b_122_25]
    refine w_gL I s_62 l_62_0 ?_
    refine w_aLn (m := 0) I s_63 (by decide) (by decide) y0 (by decide) (lk_years 0 y0) ?_
    refine w_gI I ys.1 ?_
    rw [(q.1.1 0 y0).2.2.2.1]
    refine w_ift (Int32.le_refl _) ?_
    unfold slyV
    rcases hw with rfl | rfl
    · exact w_iff (by decide) (Wp.retj ⟨by rw [if_pos rfl, ex, sc.1], C, q⟩)
    · exact w_ift (by decide) (Wp.retj ⟨by rw [if_neg (by decide), sc.2], C, q⟩)
  | c + 1, i, h, x2, v6, v7, v8, v9, v10, v11, e, I, q, C, L, b => by
    have u6 := u6 ok
    have y0 : 0 < 2 := by decide
    have ys := year_s y0
    have oR := ok.r y0
    have n12 : (sY S 0).2.2.2.2.length ≤ 12 := (ok.1 0 y0).2.1
    have hi : i < (sY S 0).2.2.2.2.length := by omega
    have i12 : i < 12 := by omega
    have hB := baseG oR hi
    rw [b_122_25]
    refine w_gL I s_62 l_62_0 ?_
    refine w_aLn (m := 0) I s_63 (by decide) (by decide) y0 (by decide) (lk_years 0 y0) ?_
    refine w_gI I ys.1 ?_
    rw [(q.1.1 0 y0).2.2.2.1]
    refine w_iff (fun z => absurd ((i_le (by omega) (by omega)).mp z) (by omega)) ?_
    refine w_gL I s_62 l_62_8 ?_
    refine w_gL I s_62 l_62_0 ?_
    refine w_aLn (m := 0) I s_63 (by decide) (by decide) y0 (by decide) (lk_years 0 y0) ?_
    refine w_gL I ys.1 ys.2.2.2.2.2.2.2.1 ?_
    refine w_aLn I ys.2.2.2.2.1 (by decide) (by decide) i12 (by decide) (lk_sums 0 y0 i i12) ?_
    refine w_gS I s_274 ?_
    have hT : cSum h (107 + 17 * 0 + i) ((sY S 0).2.2.2.2.getD i noS) := by
      have := (q.1.1 0 y0).2.2.2.2.at hi
      rw [(getD_mem hi).2] at this
      exact this
    refine w_bJ I (m_stl (d := d) I q ok (sum_s y0 i12) (by omega) L hT (oR.2 _ (getD_mem hi).1) (by omega)) (by decide) rfl ?_
    rintro x h1 I1 ⟨rfl, q1, C1, L1, -⟩
    have p0 : Int64.ofInt (hV (vY S 0) (sL S) (sPc S) (sumB (sY S 0).2.2.2.2 : Nat) ((sY S 0).2.2.2.2.getD i noS)) = Int64.ofInt (pk (vY S 0) (sL S) (sPc S) (sY S 0).2.2.2.2 (sU S) i 0).1 := by
      congr 1
      show _ = hV (vY S 0) (sL S) (sPc S) (sumB (sY S 0).2.2.2.2 : Nat) ((sY S 0).2.2.2.2.getD i noS) + 0
      omega
    rw [p0]
    refine c122_66 (d := d) (V := vY S 0) (h0 := h0) (i := i) ok hi (fun h2 v8 v9 v10 v11 I2 q2 C2 L2 => ?_) (sU S).length 0 h1 _ _ (by omega) I1 q1 (C.tr C1) L1
    have ih := c122_25 (h0 := h0) ok hw c (i + 1) h2 _ (some (.long (Int64.ofInt (pk (vY S 0) (sL S) (sPc S) (sY S 0).2.2.2.2 (sU S) i (sU S).length).1))) none v8 v9 v10 v11 (by omega) I2 q2 C2 L2 (slB_step (x2 := x2) u6 b)
    rw [← Int64.ofInt_add]
    exact ih
theorem c_sly {w : Int32} (I : Inv h) (q : RC h S) (ok : okA S) :
    Wp (K X (d + 7) 122 [.ref 62, .int w] h) (VJ fun v h' => slyP S w v ∧ Cl h h' ∧ RC h' S) := by
  rw [k_122]
  refine w_if (fun c => Wp.retj ⟨⟨fun z => by rcases z with rfl | rfl <;> exact absurd c (by decide), fun _ => rfl⟩, Eo.rf, q⟩) (fun c0 => ?_)
  refine w_if (fun c1 => ?_) (fun c => Wp.retj ⟨⟨fun z => by rcases z with rfl | rfl <;> exact absurd (by decide) c, fun _ => rfl⟩, Eo.rf, q⟩)
  have hw : w = 0 ∨ w = 1 := by
    obtain ⟨m, m2, rfl⟩ := i_natp c0
    have := (i_le (n := 1) m2 (by omega)).mp c1
    have : m = 0 ∨ m = 1 := by omega
    rcases this with rfl | rfl
    · exact Or.inl rfl
    · exact Or.inr rfl
  refine w_hear (d := d) (y := 0) I q ok (by decide) fun h1 I1 q1 C1 p => ?_
  have L1 := p.lv q1 ok
  refine (c122_25 (d := d) (h0 := h) ok hw (sY S 0).2.2.2.2.length 0 h1 0 none none none none none none (by omega) I1 q1 C1 L1 fun k hk => ?_).mono ?_
  · rw [bt_zero]; exact (decide_eq_false fun z => absurd z.2.1 (Nat.not_lt_zero _)).symm
  · rintro _ h2 ⟨v, rfl, e, C, R⟩
    exact ⟨_, rfl, ⟨fun _ => e, fun z => absurd hw z⟩, C, R⟩
end SC
