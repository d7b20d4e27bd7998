/-! EDGE: the mathematics, and the class -/
def eV (V : Sv) (l o : Nat) (x : Int32) : Sv := (fun j => if j = o then V.1 o + x else if j = l then V.1 l - x else V.1 j, V.2.1, V.2.2.1, V.2.2.2)
def edS (V : Sv) (AL : Nat → ALaw) (l o : Nat) (x : Int32) : Bool := syP (eV V l o x) AL l
def sgE (n : Nat) (p : Bool) : Int32 := if p then Int32.ofNat n else -Int32.ofNat n
/-- the fewest NIGHTS, and whether they are moved to the other one -/
def edO (A B : Nat) (f : Int32 → Bool) (b : Bool) : Nat → Nat → Option (Nat × Bool)
  | 0, _ => none
  | c + 1, n => if n ≤ A ∧ f (Int32.ofNat n) ≠ b then some (n, true) else if n ≤ B ∧ f (-Int32.ofNat n) ≠ b then some (n, false) else edO A B f b c (n + 1)
def edY (S : AS) (y l o : Nat) : Option (Nat × Bool) := edO (cnt (sY S y).1 l 360) (cnt (sY S y).1 o 360) (edS (vY S y) (sL S) l o) (syP (vY S y) (sL S) l) 360 1
def okE (y l o : Int32) : Prop := isYr y ∧ isLd l ∧ isLd o ∧ l ≠ o
def edV (S : AS) (y l o : Nat) (w : Int32) : Int64 :=
  match edY S y l o with
  | none => if w = 1 then -1000000000000 else -1
  | some (n, p) => if w = 1 then Int64.ofInt (totG (eV (vY S y) l o (sgE n p)) (sL S) (sPc S) (sY S y).2.2.2.2 - totG (vY S y) (sL S) (sPc S) (sY S y).2.2.2.2) else (Int32.ofNat n).toInt64
def edgeP (S : AS) (y l o w : Int32) (v : Int64) : Prop := (w = 0 ∨ w = 1 → (okE y l o → v = edV S (dN y) (dN l) (dN o) w) ∧ (¬ okE y l o → v = if w = 1 then -1000000000000 else -1)) ∧ (¬ (w = 0 ∨ w = 1) → v = -1)
theorem edO_some {A B : Nat} {f : Int32 → Bool} {b : Bool} {m : Nat} {p : Bool} : ∀ {c n : Nat}, 1 ≤ n → edO A B f b c n = some (m, p) → 1 ≤ m ∧ m < n + c
  | 0, n, _, e => by unfold edO at e; cases e
  | c + 1, n, h, e => by
    unfold edO at e
    split at e
    · injection e with e; injection e with e1 e2; omega
    · split at e
      · injection e with e; injection e with e1 e2; omega
      · have := edO_some (c := c) (n := n + 1) (by omega) e
        omega
theorem edO_none {A B : Nat} {f : Int32 → Bool} {b : Bool} : ∀ {c n : Nat}, A < n → B < n → edO A B f b c n = none
  | 0, n, _, _ => rfl
  | c + 1, n, h1, h2 => by
    unfold edO
    rw [if_neg (show ¬ (n ≤ A ∧ f (Int32.ofNat n) ≠ b) from fun z => by omega), if_neg (show ¬ (n ≤ B ∧ f (-Int32.ofNat n) ≠ b) from fun z => by omega)]
    exact edO_none (by omega) (by omega)
theorem sgE_rows : ∀ n, n < 361 → 1 ≤ n → ¬ Int32.ofNat n = 0 ∧ 0 ≤ Int32.ofNat n ∧ ¬ (-Int32.ofNat n) = 0 ∧ ¬ 0 ≤ -Int32.ofNat n ∧ 0 - -Int32.ofNat n = Int32.ofNat n := by decide +kernel
theorem sgE_abs {n : Nat} {p : Bool} (h : n < 361) (h1 : 1 ≤ n) : ¬ sgE n p = 0 ∧ (if 0 ≤ sgE n p then sgE n p else 0 - sgE n p) = Int32.ofNat n := by
  have := sgE_rows n h h1
  cases p
  · show ¬ (-Int32.ofNat n) = 0 ∧ (if 0 ≤ -Int32.ofNat n then -Int32.ofNat n else 0 - -Int32.ofNat n) = Int32.ofNat n
    exact ⟨this.2.2.1, by rw [if_neg this.2.2.2.1]; exact this.2.2.2.2⟩
  · show ¬ Int32.ofNat n = 0 ∧ (if 0 ≤ Int32.ofNat n then Int32.ofNat n else 0 - Int32.ofNat n) = Int32.ofNat n
    exact ⟨this.1, by rw [if_pos this.2.1]⟩
theorem bi_inj {a b : Bool} : bi a = bi b ↔ a = b := by cases a <;> cases b <;> decide
theorem okA.r {S : AS} {y : Nat} (o : okA S) (hy : y < 2) : okRs (sY S y).2.2.2.2 := ⟨(o.1 y hy).2.1, (o.1 y hy).2.2⟩
section CE
variable {X : Ctx} {d : Nat} {h : Hp} {S : AS} {V : Sv} {y l o : Nat}
theorem m_86 {x : Int32} (I : Inv h) (hl : l < 6) (ho : o < 6) (hn : o ≠ l) (hV : cSv h 88 V) :
    Wp (K X (d + 1) 86 [.ref 88, .int (Int32.ofNat l), .int (Int32.ofNat o), .int x] h) (VV fun h' => cSv h' 88 (eV V l o x) ∧ Eo (fun a => a = 89) h h') := by
  obtain ⟨v1, v2, v3, v4⟩ := hV
  have v1 : ∀ k, k < 6 → hI h 89 k = V.1 k := v1
  rw [k_86]
  refine w_gL I s_88 l_88_0 ?_
  refine w_aIn I s_89 hl (by decide) ?_
  refine w_wIn I s_89 hl (by decide) fun I1 => ?_
  refine w_gL I1 s_88 l_88_0 ?_
  refine w_aIn I1 s_89 ho (by decide) ?_
  refine w_wIn I1 s_89 ho (by decide) fun I2 => ?_
  have e1 : hI (sI h 89 l (hI h 89 l - x)) 89 o = V.1 o := by
    rw [hI_sI_self, up1, if_neg hn]; exact v1 o ho
  refine Wp.retv ⟨⟨fun j hj => ?_, ?_, ?_, ?_⟩, ?_⟩
  · show _ = if j = o then V.1 o + x else if j = l then V.1 l - x else V.1 j
    show hI (sI (sI h 89 l (hI h 89 l - x)) 89 o (hI (sI h 89 l (hI h 89 l - x)) 89 o + x)) 89 j = _
    rw [e1, hI_sI_self, up1]
    by_cases z : j = o
    · rw [if_pos z, if_pos z]
    · rw [if_neg z, if_neg z, hI_sI_self, up1]
      by_cases z2 : j = l
      · rw [if_pos z2, if_pos z2, v1 l hl]
      · rw [if_neg z2, if_neg z2]; exact v1 j hj
  · exact v2
  · exact v3
  · exact v4
  · exact (Eo.kI (W := fun a => a = 89) Eo.rf rfl).kI rfl
theorem m_115 {AL : Nat → ALaw} {s : Nat} {x : Int32} (I : Inv h) (hs : IsStay s) (hn : s ≠ 88) (hV : cSv h s V) (hl : l < 6) (ho : o < 6) (hlo : o ≠ l) (hL : cLaws h AL) :
    Wp (K X (d + 5) 115 [.ref 62, .ref s, .int (Int32.ofNat l), .int (Int32.ofNat o), .int x] h) (VI fun r h' => r = bi (edS V AL l o x) ∧ Eo WT h h') := by
  rw [k_115]
  refine w_gL I s_62 l_62_9 ?_
  refine w_gS I s_88 ?_
  refine w_bV I (m_85 I hs hn hV) (by decide) rfl fun h1 I1 p => ?_
  obtain ⟨p1, p5, E1⟩ := p
  refine w_gL I1 s_62 l_62_9 ?_
  refine w_gS I1 s_88 ?_
  refine w_bV I1 (m_86 (x := x) I1 hl ho hlo p1) (by decide) rfl fun h2 I2 p => ?_
  obtain ⟨p2, E2⟩ := p
  have E3 : Eo (fun a => a = 88 ∨ a = 89) h h2 := E1.tr (E2.wk fun a z => Or.inr z)
  refine w_gL I2 s_62 l_62_8 ?_
  refine w_gL I2 s_62 l_62_9 ?_
  obtain ⟨L, a1, a2, a3, a4⟩ := hL l hl
  refine w_gS I2 s_274 ?_
  refine w_bI I2 (m_12 (A := AL l) (L := L) I2 (show IsStay 88 by show (88 : Nat) ∈ [88, 104, 121]; decide) hl p2 ((E3.p (a := 64) (by rintro (z | z) <;> omega)).symm ▸ a1) a2 (a3.eo fun j hj => E3.i (by
    have := IsLaw.rg a2
    rintro (z | z) <;> omega)) a4) (by decide) rfl ?_
  rintro x h4 I4 ⟨rfl, -, E4⟩
  refine w_gd (by unfold bi; split <;> decide) (Wp.reti ⟨rfl, (E3.wk fun a z => ?_).tr (E4.wk fun a z => ?_)⟩)
  · unfold WT; omega
  · unfold WT; omega
/-- the way that comes next -/
def edI (A B : Nat) (f : Int32 → Bool) (b : Bool) (c n : Nat) : Int32 := match edO A B f b c n with | none => 0 | some (m, p) => sgE m p
theorem c114_26 {h0 : Hp} {v1 : Option Value} {b : Bool} (ok : okA S) (q0 : RC h0 S) (hy : y < 2) (hl : l < 6) (ho : o < 6) (hlo : o ≠ l) : ∀ (c n : Nat) (h : Hp), n + c = 361 → 1 ≤ n → Inv h → Eo WT h0 h →
    Wp (sem (X, K X (d + 5)) 114 26 [some (.ref 62), v1, some (.int (Int32.ofNat l)), some (.int (Int32.ofNat o)), some (.ref (104 + 17 * y)), some (.int (bi b)), some (.int (Int32.ofNat n))] [] h) (VI fun x h' => x = edI (cnt (sY S y).1 l 360) (cnt (sY S y).1 o 360) (edS (vY S y) (sL S) l o) b c n ∧ Eo WT h0 h')
  | 0, n, h, en, n1, I, g => by
    have en : n = 361 := by omega
    subst en
    rw [b_114_26]
    exact w_ift (by decide) (Wp.reti ⟨rfl, g⟩)
  | c + 1, n, h, en, n1, I, g => by
    have ys := year_s hy
    have qc : RC h S := q0.scr ok g fun a z => z.x
    have hc := (qc.1.1 y hy).2.1
    have ul : cnt (sY S y).1 l 360 ≤ 360 := cnt_le _ _ _
    have uo : cnt (sY S y).1 o 360 ≤ 360 := cnt_le _ _ _
    have st : edO (cnt (sY S y).1 l 360) (cnt (sY S y).1 o 360) (edS (vY S y) (sL S) l o) b (c + 1) n = if n ≤ cnt (sY S y).1 l 360 ∧ edS (vY S y) (sL S) l o (Int32.ofNat n) ≠ b then some (n, true) else if n ≤ cnt (sY S y).1 o 360 ∧ edS (vY S y) (sL S) l o (-Int32.ofNat n) ≠ b then some (n, false) else edO (cnt (sY S y).1 l 360) (cnt (sY S y).1 o 360) (edS (vY S y) (sL S) l o) b c (n + 1) := rfl
    have second : ¬ (n ≤ cnt (sY S y).1 l 360 ∧ edS (vY S y) (sL S) l o (Int32.ofNat n) ≠ b) → ∀ h2, Inv h2 → Eo WT h0 h2 → Wp (sem (X, K X (d + 5)) 114 64 [some (.ref 62), v1, some (.int (Int32.ofNat l)), some (.int (Int32.ofNat o)), some (.ref (104 + 17 * y)), some (.int (bi b)), some (.int (Int32.ofNat n))] [] h2) (VI fun x h' => x = edI (cnt (sY S y).1 l 360) (cnt (sY S y).1 o 360) (edS (vY S y) (sL S) l o) b (c + 1) n ∧ Eo WT h0 h') := fun no h2 I2 g2 => by
      have q2 : RC h2 S := q0.scr ok g2 fun a z => z.x
      have hc2 := (q2.1.1 y hy).2.1
      have next : ¬ (n ≤ cnt (sY S y).1 o 360 ∧ edS (vY S y) (sL S) l o (-Int32.ofNat n) ≠ b) → ∀ h3, Inv h3 → Eo WT h0 h3 → Wp (sem (X, K X (d + 5)) 114 26 [some (.ref 62), v1, some (.int (Int32.ofNat l)), some (.int (Int32.ofNat o)), some (.ref (104 + 17 * y)), some (.int (bi b)), some (.int (Int32.ofNat n + 1))] [] h3) (VI fun x h' => x = edI (cnt (sY S y).1 l 360) (cnt (sY S y).1 o 360) (edS (vY S y) (sL S) l o) b (c + 1) n ∧ Eo WT h0 h') := fun no2 h3 I3 g3 => by
        have ih := c114_26 (v1 := v1) (b := b) ok q0 hy hl ho hlo c (n + 1) h3 (by omega) (by omega) I3 g3
        rw [i32_ofNat_succ]
        have e : edI (cnt (sY S y).1 l 360) (cnt (sY S y).1 o 360) (edS (vY S y) (sL S) l o) b (c + 1) n = edI (cnt (sY S y).1 l 360) (cnt (sY S y).1 o 360) (edS (vY S y) (sL S) l o) b c (n + 1) := by
          unfold edI
          rw [st, if_neg no, if_neg no2]
        rw [e]
        exact ih
      rw [b_114_64]
      refine w_gL I2 ys.2.2.1 ys.2.2.2.2.2.2.2.2.l0 ?_
      refine w_aIn I2 ys.2.2.2.2.2.2.2.2.s1 ho (by decide) ?_
      rw [hc2.1 o ho]
      have eo : (viewY (sY S y)).1 o = Int32.ofNat (cnt (sY S y).1 o 360) := rfl
      rw [eo]
      refine w_if (fun c0 => ?_) (fun c0 => ?_)
      · exact next (fun z => absurd ((i_lt (by omega) (by omega)).mp c0) (by omega)) h2 I2 g2
      · have hle : n ≤ cnt (sY S y).1 o 360 := Nat.le_of_not_lt fun z => c0 ((i_lt (by omega) (by omega)).mpr z)
        refine w_gS I2 s_62 ?_
        refine w_bI I2 (m_115 (d := d) (x := -Int32.ofNat n) I2 ys.2.2.2.2.2.2.2.2 (by omega) hc2 hl ho hlo (q2.laws ok)) (by decide) rfl ?_
        rintro x h3 I3 ⟨rfl, E3⟩
        refine w_if (fun c1 => ?_) (fun c1 => ?_)
        · exact next (fun z => z.2 (bi_inj.mp c1)) h3 I3 (g2.tr E3)
        · have yes : n ≤ cnt (sY S y).1 o 360 ∧ edS (vY S y) (sL S) l o (-Int32.ofNat n) ≠ b := ⟨hle, fun z => c1 (congrArg bi z)⟩
          refine Wp.reti ⟨?_, g2.tr E3⟩
          unfold edI
          rw [st, if_neg no, if_pos yes]
          rfl
    rw [b_114_26]
    refine w_iff (fun z => absurd ((i_lt (m := 360) (by omega) (by omega)).mp z) (by omega)) ?_
    refine w_gL I ys.2.2.1 ys.2.2.2.2.2.2.2.2.l0 ?_
    refine w_aIn I ys.2.2.2.2.2.2.2.2.s1 hl (by decide) ?_
    rw [hc.1 l hl]
    have el : (viewY (sY S y)).1 l = Int32.ofNat (cnt (sY S y).1 l 360) := rfl
    rw [el]
    refine w_if (fun c0 => ?_) (fun c0 => ?_)
    · exact second (fun z => absurd ((i_lt (by omega) (by omega)).mp c0) (by omega)) h I g
    · have hle : n ≤ cnt (sY S y).1 l 360 := Nat.le_of_not_lt fun z => c0 ((i_lt (by omega) (by omega)).mpr z)
      refine w_gS I s_62 ?_
      refine w_bI I (m_115 (d := d) (x := Int32.ofNat n) I ys.2.2.2.2.2.2.2.2 (by omega) hc hl ho hlo (qc.laws ok)) (by decide) rfl ?_
      rintro x h3 I3 ⟨rfl, E3⟩
      refine w_if (fun c1 => ?_) (fun c1 => ?_)
      · exact second (fun z => z.2 (bi_inj.mp c1)) h3 I3 (g.tr E3)
      · have yes : n ≤ cnt (sY S y).1 l 360 ∧ edS (vY S y) (sL S) l o (Int32.ofNat n) ≠ b := ⟨hle, fun z => c1 (congrArg bi z)⟩
        refine Wp.reti ⟨?_, g.tr E3⟩
        unfold edI
        rw [st, if_pos yes]
        rfl
theorem m_114 (I : Inv h) (q : RC h S) (ok : okA S) (hy : y < 2) (hl : l < 6) (ho : o < 6) (hlo : o ≠ l) :
    Wp (K X (d + 6) 114 [.ref 62, .int (Int32.ofNat y), .int (Int32.ofNat l), .int (Int32.ofNat o)] h) (VI fun x h' => x = (match edY S y l o with | none => 0 | some (m, p) => sgE m p) ∧ Eo WT h h') := by
  have ys := year_s hy
  have hc := (q.1.1 y hy).2.1
  obtain ⟨L, a1, a2, a3, a4⟩ := q.laws ok l hl
  rw [k_114]
  refine w_gL I s_62 l_62_0 ?_
  refine w_aLn I s_63 (by decide) (by decide) hy (by decide) (lk_years y hy) ?_
  refine w_gL I ys.1 ys.2.2.2.2.2.2.1 ?_
  refine w_gL I s_62 l_62_8 ?_
  refine w_gS I s_274 ?_
  refine w_bI I (m_12 (d := d + 1) (A := sL S l) (L := L) I ys.2.2.2.2.2.2.2.2 hl hc a1 a2 a3 a4) (by decide) rfl ?_
  rintro x h1 I1 ⟨rfl, -, E1⟩
  exact c114_26 (d := d) (b := syP (vY S y) (sL S) l) ok q hy hl ho hlo 360 1 h1 rfl (Nat.le_refl _) I1 (E1.wk fun a z => by unfold WT; omega)
end CE
