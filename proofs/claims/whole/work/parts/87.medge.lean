/-! EDGE, of the model -/
section ME
variable {X : Ctx} {d : Nat} {Q : Option Value → Hp → Prop} {V : Sv} {AL : Nat → ALaw} {PA : Nat → APact} {r : List SumT} {l o : Nat}
def W335 (a : Nat) : Prop := a = 333 ∨ a = 334 ∨ a = 335
/-- while it tries -/
def Ed (h0 h : Hp) (V : Sv) (l o : Nat) : Prop := Eo W335 h0 h ∧ ∀ j, j < 6 → j ≠ l → j ≠ o → hI h 335 j = V.1 j
theorem LaidM.view {h0 h : Hp} {V' : Sv} (q : LaidM h0 V AL PA r) (e : Eo W335 h0 h) (v : mSv h V') : LaidM h V' AL PA r := by
  obtain ⟨_, p3, p5, p6, p7, qL, qT, oP⟩ := q
  have nW : ∀ a, a ≠ 333 → a ≠ 334 → a ≠ 335 → ¬ W335 a := fun a h1 h2 h3 z => by unfold W335 at z; omega
  refine ⟨v, by rw [e.i (nW _ (by decide) (by decide) (by decide))]; exact p3, by rw [e.i (nW _ (by decide) (by decide) (by decide))]; exact p5, ?_, p7.eo (e.i (nW _ (by decide) (by decide) (by decide))) (e.i (nW _ (by decide) (by decide) (by decide))) (e.i (nW _ (by decide) (by decide) (by decide))) (e.i (nW _ (by decide) (by decide) (by decide))), qL.eo e fun a ha => nW a (by unfold inML at ha; omega) (by unfold inML at ha; omega) (by unfold inML at ha; omega), ?_, oP⟩
  · exact rSums.eo (e.i (nW _ (by decide) (by decide) (by decide))) (e.i (nW _ (by decide) (by decide) (by decide))) (e.i (nW _ (by decide) (by decide) (by decide))) (e.i (nW _ (by decide) (by decide) (by decide))) (e.i (nW _ (by decide) (by decide) (by decide))) p6
  · exact fun a ha b hb hn => ⟨(qT a ha b hb hn).1.eo (e.i (nW _ (by decide) (by decide) (by decide))) (e.i (nW _ (by decide) (by decide) (by decide))), (qT a ha b hb hn).2⟩
def x13 (p : Bool) : Int32 := if p then 0 else 1
theorem c217_159 {n : Nat} {p b : Bool} {h0 h : Hp} {v1 v5 v6 v8 v10 v11 : Option Value} {w : Int32} {t0 : Int64} (I : Inv h) (oR : okRs r) (L : LaidM h0 V AL PA r) (E : Ed h0 h V l o) (hl : l < 6) (ho : o < 6) (hlo : o ≠ l)
    (kn : edS V AL l o (sgE n p) = b → ∀ h', Inv h' → Ed h0 h' V l o → Wp (sem (X, K X (d + 7)) 217 110 [some (.ref 301), v1, some (.int (Int32.ofNat l)), some (.int (Int32.ofNat o)), some (.int w), v5, v6, some (.long t0), none, some (.int (bi b)), v10, some (.int (V.1 o)), some (.int (Int32.ofNat n)), some (.int (x13 p + 1))] [] h') Q)
    (k0 : edS V AL l o (sgE n p) ≠ b → w = 0 → ∀ h', Eo W335 h0 h' → Q (some (.long (Int32.ofNat n).toInt64)) h')
    (k1 : edS V AL l o (sgE n p) ≠ b → w ≠ 0 → ∀ h' h'', Eo W335 h0 h' → MvT h' h'' → Q (some (.long (Int64.ofInt (totG (eV V l o (sgE n p)) AL PA r) - t0))) h'') (hv : v11 = some (.int (V.1 o))) :
    Wp (sem (X, K X (d + 7)) 217 159 [some (.ref 301), v1, some (.int (Int32.ofNat l)), some (.int (Int32.ofNat o)), some (.int w), v5, v6, some (.long t0), none, some (.int (bi b)), v10, v11, some (.int (Int32.ofNat n)), some (.int (x13 p))] [.int (V.1 l - sgE n p), .int (Int32.ofNat l), .ref 335] h) Q := by
  subst hv
  rw [b_217_159]
  refine w_wIn I s_335 hl (by decide) fun I1 => ?_
  refine w_gL I1 s_301 l_301_46 ?_
  have fin : Wp (sem (X, K X (d + 7)) 217 183 [some (.ref 301), v1, some (.int (Int32.ofNat l)), some (.int (Int32.ofNat o)), some (.int w), v5, v6, some (.long t0), none, some (.int (bi b)), v10, some (.int (V.1 o)), some (.int (Int32.ofNat n)), some (.int (x13 p))] [.int (V.1 o + sgE n p), .int (Int32.ofNat o), .ref 335] (sI h 335 l (V.1 l - sgE n p))) Q := by
    rw [b_217_183]
    refine w_wIn I1 s_335 ho (by decide) fun I2 => ?_
    have E2 : Eo W335 h0 (sI (sI h 335 l (V.1 l - sgE n p)) 335 o (V.1 o + sgE n p)) := (E.1.kI (Or.inr (Or.inr rfl))).kI (Or.inr (Or.inr rfl))
    have V2 : mSv (sI (sI h 335 l (V.1 l - sgE n p)) 335 o (V.1 o + sgE n p)) (eV V l o (sgE n p)) := by
      have n301 : hI (sI (sI h 335 l (V.1 l - sgE n p)) 335 o (V.1 o + sgE n p)) 301 = hI h0 301 := E2.i (show ¬ W335 301 by unfold W335; omega)
      refine ⟨fun j hj => ?_, by rw [n301]; exact L.1.2.1, by rw [n301]; exact L.1.2.2.1, by rw [n301]; exact L.1.2.2.2⟩
      show _ = if j = o then V.1 o + sgE n p else if j = l then V.1 l - sgE n p else V.1 j
      rw [hI_sI_self, up1, hI_sI_self, up1]
      by_cases z : j = o
      · rw [if_pos z, if_pos z]
      · rw [if_neg z, if_neg z]
        by_cases z2 : j = l
        · rw [if_pos z2, if_pos z2]
        · rw [if_neg z2, if_neg z2]; exact E.2 j hj z2 z
    have L2 := L.view E2 V2
    refine w_gS I2 s_301 ?_
    refine w_bI I2 (m_192 (d := d + 4) I2 hl V2 (L2.2.2.2.2.2.1 l hl).1 (L2.2.2.2.2.2.1 l hl).2) (by decide) rfl ?_
    rintro x h3 I3 ⟨rfl, -, E3r⟩
    have E3 : Eo W335 (sI (sI h 335 l (V.1 l - sgE n p)) 335 o (V.1 o + sgE n p)) h3 := E3r.wk fun a z => by unfold W335; omega
    have e335 : hI h3 335 = hI (sI (sI h 335 l (V.1 l - sgE n p)) 335 o (V.1 o + sgE n p)) 335 := E3r.i (show ¬ (335 = 333 ∨ 335 = 334) by decide)
    have es : says (pF (eV V l o (sgE n p)) l) (AL l).1 = edS V AL l o (sgE n p) := rfl
    rw [es]
    refine w_if (fun c => ?_) (fun c => ?_)
    · refine kn (bi_inj.mp c) h3 I3 ⟨E2.tr E3, fun j hj h1 h2 => ?_⟩
      rw [e335, hI_sI_self, up1, if_neg h2, hI_sI_self, up1, if_neg h1]
      exact E.2 j hj h1 h2
    · have ne : edS V AL l o (sgE n p) ≠ b := fun z => c (by rw [z])
      refine w_if (fun cw => ?_) (fun cw => ?_)
      · refine w_gS I3 s_301 ?_
        have V3 : LaidM h3 (eV V l o (sgE n p)) AL PA r := L.view (E2.tr E3) (V2.eo (E3r.i (show ¬ (301 = 333 ∨ 301 = 334) by decide)) e335)
        refine w_bJ I3 (g215 (d := d) I3 oR V3) (by decide) rfl ?_
        rintro x h4 I4 ⟨rfl, M⟩
        exact Wp.ret (k1 ne cw h3 h4 (E2.tr E3) M)
      · have w0 : w = 0 := Classical.byContradiction cw
        exact Wp.ret (k0 ne w0 h3 (E2.tr E3))
  cases p
  · have e : V.1 o - Int32.ofNat n = V.1 o + sgE n false := Int32.sub_eq_add_neg _ _
    refine w_ift (by decide) ?_
    rw [e]; exact fin
  · exact w_iff (by decide) fin
theorem c217_130 {n : Nat} {p b : Bool} {h0 h : Hp} {v1 v5 v6 v8 : Option Value} {w : Int32} {t0 : Int64} {x y : Int32} (I : Inv h) (oR : okRs r) (L : LaidM h0 V AL PA r) (E : Ed h0 h V l o) (hl : l < 6) (ho : o < 6) (hlo : o ≠ l)
    (hx : x = Int32.ofNat n) (hy : y = if p then V.1 l else V.1 o)
    (kn : ¬ (Int32.ofNat n ≤ (if p then V.1 l else V.1 o) ∧ edS V AL l o (sgE n p) ≠ b) → ∀ h', Inv h' → Ed h0 h' V l o → Wp (sem (X, K X (d + 7)) 217 110 [some (.ref 301), v1, some (.int (Int32.ofNat l)), some (.int (Int32.ofNat o)), some (.int w), v5, v6, some (.long t0), none, some (.int (bi b)), some (.int (V.1 l)), some (.int (V.1 o)), some (.int (Int32.ofNat n)), some (.int (x13 p + 1))] [] h') Q)
    (k0 : Int32.ofNat n ≤ (if p then V.1 l else V.1 o) ∧ edS V AL l o (sgE n p) ≠ b → w = 0 → ∀ h', Eo W335 h0 h' → Q (some (.long (Int32.ofNat n).toInt64)) h')
    (k1 : Int32.ofNat n ≤ (if p then V.1 l else V.1 o) ∧ edS V AL l o (sgE n p) ≠ b → w ≠ 0 → ∀ h' h'', Eo W335 h0 h' → MvT h' h'' → Q (some (.long (Int64.ofInt (totG (eV V l o (sgE n p)) AL PA r) - t0))) h'') :
    Wp (sem (X, K X (d + 7)) 217 130 [some (.ref 301), v1, some (.int (Int32.ofNat l)), some (.int (Int32.ofNat o)), some (.int w), v5, v6, some (.long t0), none, some (.int (bi b)), some (.int (V.1 l)), some (.int (V.1 o)), some (.int (Int32.ofNat n)), some (.int (x13 p))] [.int y, .int x] h) Q := by
  subst hx; subst hy
  rw [b_217_130]
  refine w_if (fun c => ?_) (fun c => kn (fun z => c z.1) h I E)
  refine w_gL I s_301 l_301_46 ?_
  have fin := c217_159 (X := X) (d := d) (Q := Q) (n := n) (p := p) (b := b) (v1 := v1) (v5 := v5) (v6 := v6) (v8 := none) (v10 := some (.int (V.1 l))) (w := w) (t0 := t0) I oR L E hl ho hlo (fun e => kn fun z => z.2 e) (fun ne => k0 ⟨c, ne⟩) (fun ne => k1 ⟨c, ne⟩) rfl
  cases p
  · have e : V.1 l + Int32.ofNat n = V.1 l - sgE n false := by
      show _ = V.1 l - -Int32.ofNat n
      rw [Int32.sub_neg]
    refine w_ift (by decide) ?_
    rw [e]; exact fin
  · exact w_iff (by decide) fin
theorem c217_93 {b : Bool} {A B : Nat} {h0 : Hp} {v1 : Option Value} {w : Int32} {s0 t0 : Int64} (oR : okRs r) (L : LaidM h0 V AL PA r) (hl : l < 6) (ho : o < 6) (hlo : o ≠ l) (hA : V.1 l = Int32.ofNat A) (hB : V.1 o = Int32.ofNat B) (a360 : A ≤ 360) (b360 : B ≤ 360) (hw : w = 0 ∨ w = 1)
    (kn : edO A B (edS V AL l o) b 360 1 = none → ∀ h', Eo W335 h0 h' → Q (some (.long s0)) h')
    (k0 : ∀ n p, edO A B (edS V AL l o) b 360 1 = some (n, p) → w = 0 → ∀ h', Eo W335 h0 h' → Q (some (.long (Int32.ofNat n).toInt64)) h')
    (k1 : ∀ n p, edO A B (edS V AL l o) b 360 1 = some (n, p) → w ≠ 0 → ∀ h' h'', Eo W335 h0 h' → MvT h' h'' → Q (some (.long (Int64.ofInt (totG (eV V l o (sgE n p)) AL PA r) - t0))) h'') :
    ∀ (c n : Nat) (h : Hp) (v13 : Option Value), n + c = 361 → 1 ≤ n → edO A B (edS V AL l o) b c n = edO A B (edS V AL l o) b 360 1 → Inv h → Ed h0 h V l o →
    Wp (sem (X, K X (d + 7)) 217 93 [some (.ref 301), v1, some (.int (Int32.ofNat l)), some (.int (Int32.ofNat o)), some (.int w), some (.long s0), none, some (.long t0), none, some (.int (bi b)), some (.int (V.1 l)), some (.int (V.1 o)), some (.int (Int32.ofNat n)), v13] [] h) Q
  | 0, n, h, v13, en, n1, ee, I, E => by
    rw [b_217_93, hA, hB]
    refine w_iff (fun z => absurd ((i_le (by omega) (by omega)).mp z) (by omega)) ?_
    refine w_ift ((i_lt (by omega) (by omega)).mpr (by omega)) ?_
    exact Wp.ret (kn (ee.symm.trans rfl) h E.1)
  | c + 1, n, h, v13, en, n1, ee, I, E => by
    have st : edO A B (edS V AL l o) b (c + 1) n = if n ≤ A ∧ edS V AL l o (Int32.ofNat n) ≠ b then some (n, true) else if n ≤ B ∧ edS V AL l o (-Int32.ofNat n) ≠ b then some (n, false) else edO A B (edS V AL l o) b c (n + 1) := rfl
    have cA : Int32.ofNat n ≤ V.1 l ↔ n ≤ A := by rw [hA]; exact i_le (by omega) (by omega)
    have cB : Int32.ofNat n ≤ V.1 o ↔ n ≤ B := by rw [hB]; exact i_le (by omega) (by omega)
    have go : Wp (sem (X, K X (d + 7)) 217 110 [some (.ref 301), v1, some (.int (Int32.ofNat l)), some (.int (Int32.ofNat o)), some (.int w), some (.long s0), none, some (.long t0), none, some (.int (bi b)), some (.int (V.1 l)), some (.int (V.1 o)), some (.int (Int32.ofNat n)), some (.int 0)] [] h) Q := by
      rw [b_217_110]
      refine w_iff (by decide) ?_
      refine w_iff (by decide) ?_
      refine c217_130 (d := d) (n := n) (p := true) (b := b) (v8 := none) I oR L E hl ho hlo rfl rfl (fun no h1 I1 E1 => ?_) (fun yes w0 => k0 n true (ee.symm.trans (st.trans (if_pos ⟨cA.mp yes.1, yes.2⟩))) w0) (fun yes w0 => k1 n true (ee.symm.trans (st.trans (if_pos ⟨cA.mp yes.1, yes.2⟩))) w0)
      have no' : ¬ (n ≤ A ∧ edS V AL l o (Int32.ofNat n) ≠ b) := fun z => no ⟨cA.mpr z.1, z.2⟩
      show Wp (sem (X, K X (d + 7)) 217 110 [some (.ref 301), v1, some (.int (Int32.ofNat l)), some (.int (Int32.ofNat o)), some (.int w), some (.long s0), none, some (.long t0), none, some (.int (bi b)), some (.int (V.1 l)), some (.int (V.1 o)), some (.int (Int32.ofNat n)), some (.int 1)] [] h1) Q
      rw [b_217_110]
      refine w_iff (by decide) ?_
      refine w_ift (by decide) ?_
      refine c217_130 (d := d) (n := n) (p := false) (b := b) (v8 := none) I1 oR L E1 hl ho hlo rfl rfl (fun no2 h2 I2 E2 => ?_) (fun yes w0 => k0 n false (ee.symm.trans (st.trans ((if_neg no').trans (if_pos ⟨cB.mp yes.1, yes.2⟩)))) w0) (fun yes w0 => k1 n false (ee.symm.trans (st.trans ((if_neg no').trans (if_pos ⟨cB.mp yes.1, yes.2⟩)))) w0)
      have no2' : ¬ (n ≤ B ∧ edS V AL l o (-Int32.ofNat n) ≠ b) := fun z => no2 ⟨cB.mpr z.1, z.2⟩
      show Wp (sem (X, K X (d + 7)) 217 110 [some (.ref 301), v1, some (.int (Int32.ofNat l)), some (.int (Int32.ofNat o)), some (.int w), some (.long s0), none, some (.long t0), none, some (.int (bi b)), some (.int (V.1 l)), some (.int (V.1 o)), some (.int (Int32.ofNat n)), some (.int 2)] [] h2) Q
      rw [b_217_110]
      refine w_ift (by decide) ?_
      rw [i32_ofNat_succ]
      refine c217_93 oR L hl ho hlo hA hB a360 b360 hw kn k0 k1 c (n + 1) h2 _ (by omega) (by omega) ?_ I2 E2
      rw [← ee, st, if_neg no', if_neg no2']
    rw [b_217_93]
    refine w_if (fun _ => go) (fun c0 => ?_)
    refine w_if (fun c1 => ?_) (fun _ => go)
    refine Wp.ret (kn ?_ h E.1)
    have c0' : ¬ n ≤ A := fun z => c0 (cA.mpr z)
    have c1' : B < n := by rw [hB] at c1; exact (i_lt (by omega) (by omega)).mp c1
    rw [← ee]
    exact edO_none (by omega) c1'
end ME
section MN2
variable {X : Ctx} {d : Nat} {S : AS} {h : Hp}
theorem m_edge {y l o w : Int32} (I : Inv h) (q : RM h S) (ok : okA S) :
    Wp (K X (d + 8) 217 [.ref 301, .int y, .int l, .int o, .int w] h) (VJ fun v h' => edgeP S y l o w v ∧ Mo h h' ∧ RM h' S) := by
  have wc : bi (decide (¬ w < 0 ∧ ¬ (1 : Int32) < w)) = 0 ↔ ¬ (w = 0 ∨ w = 1) := by
    rw [bi_dec]
    constructor
    · rintro a (rfl | rfl)
      · exact a (by decide)
      · exact a (by decide)
    · rintro a ⟨c0, c1⟩
      have b := Int32.le_iff_toInt_le.mp (Int32.not_lt.mp c0)
      have c := Int32.le_iff_toInt_le.mp (Int32.not_lt.mp c1)
      have z0 : (0 : Int32).toInt = 0 := by decide
      have z1 : (1 : Int32).toInt = 1 := by decide
      have : w.toInt = 0 ∨ w.toInt = 1 := by omega
      rcases this with z | z
      · exact a (Or.inl (Int32.toInt_inj.mp (z.trans z0.symm)))
      · exact a (Or.inr (Int32.toInt_inj.mp (z.trans z1.symm)))
  have go : ∀ s0 : Int64, s0 = (if w = 1 then -1000000000000 else -1) → Wp (sem (X, K X (d + 7)) 217 15 [some (.ref 301), some (.int y), some (.int l), some (.int o), some (.int w), none, none, none, none, none, none, none, none, none] [.long s0] h) (VJ fun v h' => edgeP S y l o w v ∧ Mo h h' ∧ RM h' S) := fun s0 hs => by
    have no : ¬ okE y l o → Wp (some (some (Value.long s0), h)) (VJ fun v h' => edgeP S y l o w v ∧ Mo h h' ∧ RM h' S) := fun z => Wp.retj ⟨edgeP_no (fun _ => ⟨z, hs⟩) (fun a => by rw [hs, if_neg fun b => a (Or.inr b)]), Eo.rf, q⟩
    rw [b_217_15]
    refine w_eI yr_m ?_
    refine w_if (fun c => no fun z => bi_dec.mp c z.1) (fun c => ?_)
    have hy : isYr y := Classical.byContradiction fun z => c (bi_dec.mpr z)
    refine w_eI ld_m ?_
    refine w_if (fun c => no fun z => bi_dec.mp c z.2.1) (fun c => ?_)
    have hl : isLd l := Classical.byContradiction fun z => c (bi_dec.mpr z)
    refine w_eI ld_m ?_
    refine w_if (fun c => no fun z => bi_dec.mp c z.2.2.1) (fun c => ?_)
    have ho : isLd o := Classical.byContradiction fun z => c (bi_dec.mpr z)
    refine w_if (fun c => no fun z => z.2.2.2 c) (fun hlo => ?_)
    refine w_eI m_142 ?_
    refine w_if (fun c => ?_) (fun c => ?_)
    · have hw : w = 0 ∨ w = 1 := Classical.byContradiction fun z => c (wc.mpr z)
      have yes : ∀ v, v = edV S (dN y) (dN l) (dN o) w → edgeP S y l o w v := fun v e => ⟨fun _ => ⟨fun _ => e, fun z => absurd ⟨hy, hl, ho, hlo⟩ z⟩, fun z => absurd hw z⟩
      obtain ⟨yn, y2, rfl⟩ := yr_nat hy
      obtain ⟨ln, l6, rfl⟩ := ld_nat hl
      obtain ⟨on, o6, rfl⟩ := ld_nat ho
      have hne : on ≠ ln := fun z => hlo (by rw [z])
      rw [dN_of (show yn < 2147483648 by omega), dN_of (show ln < 2147483648 by omega), dN_of (show on < 2147483648 by omega)] at yes
      refine w_lays (d := d + 5) I q ok y2 fun h1 I1 q1 M1 p => ?_
      have L1 := p.laid q1 ok
      have oR := ok.r (y := yn) y2
      refine w_gS I1 s_301 ?_
      refine w_bJ I1 (g215 (d := d) I1 oR L1) (by decide) rfl ?_
      rintro x h2 I2 ⟨rfl, M2⟩
      have L2 := L1.mv M2
      have R2 := M2.rm q1
      refine w_gS I2 s_301 ?_
      refine w_bI I2 (m_192 (d := d + 4) I2 l6 L2.1 (L2.2.2.2.2.2.1 ln l6).1 (L2.2.2.2.2.2.1 ln l6).2) (by decide) rfl ?_
      rintro x h3 I3 ⟨rfl, -, E3⟩
      have e301 := E3.i (show ¬ (301 = 333 ∨ 301 = 334) by decide)
      have e335 := E3.i (show ¬ (335 = 333 ∨ 335 = 334) by decide)
      have V3 : mSv h3 (vY S yn) := L2.1.eo e301 e335
      have L3 : LaidM h3 (vY S yn) (sL S) (sPc S) (sY S yn).2.2.2.2 := L2.view (E3.wk fun a z => by unfold W335; omega) V3
      have E3m : Eo inMS h2 h3 := E3.wk fun a z => by unfold inMS; omega
      have q3 : RM h3 S := R2.1.scr E3m (fun k _ => by rw [e301])
      have M3 : Mo h h3 := (M1.tr R2.2).tr (inMS_mo E3m)
      refine w_gL I3 s_301 l_301_46 ?_
      refine w_aIn I3 s_335 l6 (by decide) ?_
      refine w_gL I3 s_301 l_301_46 ?_
      refine w_aIn I3 s_335 o6 (by decide) ?_
      rw [V3.1 ln l6, V3.1 on o6]
      have fr : ∀ h', Eo W335 h3 h' → Mo h h' ∧ RM h' S := fun h' E => by
        have Em : Eo inMS h3 h' := E.wk fun a z => by unfold W335 at z; unfold inMS; omega
        exact ⟨M3.tr (inMS_mo Em), q3.scr Em (fun k _ => by rw [E.i (show ¬ W335 301 by unfold W335; omega)])⟩
      have ed : edO (cnt (sY S yn).1 ln 360) (cnt (sY S yn).1 on 360) (edS (vY S yn) (sL S) ln on) (syP (vY S yn) (sL S) ln) 360 1 = edY S yn ln on := rfl
      refine c217_93 (d := d) (A := cnt (sY S yn).1 ln 360) (B := cnt (sY S yn).1 on 360) (b := syP (vY S yn) (sL S) ln) oR L3 l6 o6 hne rfl rfl (cnt_le _ _ _) (cnt_le _ _ _) hw (fun e h' E => ?_) (fun n p e w0 h' E => ?_) (fun n p e w0 h' h'' E M => ?_) 360 1 h3 none rfl (Nat.le_refl _) rfl I3 ⟨Eo.rf, fun j hj _ _ => V3.1 j hj⟩
      · refine ⟨_, rfl, yes _ ?_, fr h' E⟩
        rw [ed] at e
        unfold edV
        rw [e, hs]
      · refine ⟨_, rfl, yes _ ?_, fr h' E⟩
        rw [ed] at e
        unfold edV
        rw [e, w0]; rfl
      · have w1 : w = 1 := hw.resolve_left w0
        have F := fr h' E
        have R := M.rm F.2
        refine ⟨_, rfl, yes _ ?_, F.1.tr R.2, R.1⟩
        rw [ed] at e
        unfold edV
        rw [e, w1, ← Int64.ofInt_sub]; rfl
    · have hw : ¬ (w = 0 ∨ w = 1) := wc.mp (Classical.byContradiction c)
      exact Wp.retj ⟨⟨fun a => absurd a hw, fun _ => by rw [hs, if_neg fun b => hw (Or.inr b)]⟩, Eo.rf, q⟩
  rw [k_217]
  refine w_if (fun c => go _ (by rw [if_neg c])) (fun c => go _ (by rw [if_pos (Classical.byContradiction c)]))
end MN2
