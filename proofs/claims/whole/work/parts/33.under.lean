/-! UNDER: what PACTS do to those that are HIS; the class's side -/
def looksP (PA : Nat → APact) (l m : Nat) : Bool := (PA (pr l m)).2.2.2.2
def relP (AL : Nat → ALaw) (PA : Nat → APact) (l m : Nat) : Nat := if (PA (pr l m)).2.2.2.1 = 0 then (AL l).2.2.2 else (PA (pr l m)).2.2.2.1
def seeP (PA : Nat → APact) (his : Nat → Bool) (l : Nat) : Bool := (List.range 6).any fun m => decide (m ≠ l) && (looksP PA l m && (his l || his m))
def offP (AL : Nat → ALaw) (PA : Nat → APact) (his : Nat → Bool) (l m : Nat) : Bool := his l && decide (relP AL PA l m = 1)
def frP (AL : Nat → ALaw) (PA : Nat → APact) (his : Nat → Bool) (l m : Nat) : Bool := his l && decide (relP AL PA l m = 2)
theorem rel_le {AL : Nat → ALaw} {PA : Nat → APact} {l m : Nat} (ha : (AL l).2.2.2 ≤ 2) (hp : (PA (pr l m)).2.2.2.1 ≤ 2) : relP AL PA l m ≤ 2 := by
  unfold relP; split <;> omega
def W3 (a : Nat) : Prop := a = 274 ∨ a = 285 ∨ a = 286
section UN
variable {X : Ctx} {d : Nat} {P l m L : Nat} {Q : Option Value → Hp → Prop}
/-- what stands behind meet -/
def MeetP (AL : Nat → ALaw) (PA : Nat → APact) (his : Nat → Bool) (l m : Nat) (h h' : Hp) : Prop :=
  Eo W3 h h' ∧ hP h' = hP h ∧ hJ h' = hJ h ∧ (∀ k, k ≠ 16 → hI h' 274 k = hI h 274 k) ∧
  (∀ k, k < 32 → bt (hI h' 274 16) k = (bt (hI h 274 16) k || (decide (k = l) && (looksP PA l m && (his l || his m))))) ∧
  (∀ x, x ≠ l → hI h' 285 x = hI h 285 x) ∧ (∀ k, k < 32 → bt (hI h' 285 l) k = (bt (hI h 285 l) k || (decide (k = m) && offP AL PA his l m))) ∧
  (∀ x, x ≠ l → hI h' 286 x = hI h 286 x) ∧ (∀ k, k < 32 → bt (hI h' 286 l) k = (bt (hI h 286 l) k || (decide (k = m) && frP AL PA his l m)))
theorem meet95 {h : Hp} {v3 : Option Value} {c : Bool} {r : Nat} (I : Inv h) (hl : l < 6) (hm : m < 6) (hr : r ≤ 2)
    (q : ∀ h', Inv h' → Eo (fun x => x = 286) h h' → hP h' = hP h → hJ h' = hJ h → (∀ x, x ≠ l → hI h' 286 x = hI h 286 x) → (∀ k, k < 32 → bt (hI h' 286 l) k = (bt (hI h 286 l) k || (decide (k = m) && (c && decide (r = 2))))) → Q none h') :
    Wp (sem (X, K X d) 17 95 [some (.ref 274), some (.int (Int32.ofNat l)), some (.int (Int32.ofNat m)), v3, some (.int (bi c)), some (.int (Int32.ofNat r))] [] h) Q := by
  rw [b_17_95]
  have no : (c && decide (r = 2)) = false → Wp (some (none, h)) Q := fun z => Wp.ret (q h I Eo.rf rfl rfl (fun _ _ => rfl) (fun k _ => by rw [z, Bool.and_false, Bool.or_false]))
  refine w_if (fun c0 => no (by rw [bi_0.mp c0]; rfl)) (fun c0 => ?_)
  have ct : c = true := by cases c; exact absurd rfl c0; rfl
  refine w_if (fun c1 => ?_) (fun c1 => ?_)
  · have : r ≠ 2 := fun z => c1 (by rw [z]; rfl)
    exact no (by rw [decide_eq_false this, Bool.and_false])
  · have r2 : r = 2 := (i_eq (n := 2) (by omega) (by decide)).mp (Classical.byContradiction c1)
    refine w_gL I s_274 l_274_6 ?_
    refine w_aIn I s_286 hl (by decide) ?_
    refine w_wIn I s_286 hl (by decide) fun I => ?_
    refine Wp.ret (q _ I (Eo.rf.kI rfl) rfl rfl (fun x hx => by rw [hI_sI_self, up1, if_neg hx]) (fun k hk => ?_))
    rw [hI_sI_self, up1, if_pos rfl, bt_set (by omega) hk, ct, decide_eq_true r2]
    simp
theorem meet70 {h : Hp} {v3 v5 : Option Value} {c : Bool} {r : Nat} (I : Inv h) (hl : l < 6) (hm : m < 6) (hr : r ≤ 2)
    (q : ∀ h', Inv h' → Eo (fun x => x = 285 ∨ x = 286) h h' → hP h' = hP h → hJ h' = hJ h → (∀ x, x ≠ l → hI h' 285 x = hI h 285 x) → (∀ k, k < 32 → bt (hI h' 285 l) k = (bt (hI h 285 l) k || (decide (k = m) && (c && decide (r = 1))))) → (∀ x, x ≠ l → hI h' 286 x = hI h 286 x) → (∀ k, k < 32 → bt (hI h' 286 l) k = (bt (hI h 286 l) k || (decide (k = m) && (c && decide (r = 2))))) → Q none h') :
    Wp (sem (X, K X d) 17 70 [some (.ref 274), some (.int (Int32.ofNat l)), some (.int (Int32.ofNat m)), v3, some (.int (bi c)), v5] [.int (Int32.ofNat r)] h) Q := by
  rw [b_17_70]
  have no : (c && decide (r = 1)) = false → Wp (sem (X, K X d) 17 95 [some (.ref 274), some (.int (Int32.ofNat l)), some (.int (Int32.ofNat m)), v3, some (.int (bi c)), some (.int (Int32.ofNat r))] [] h) Q := fun z => by
    refine meet95 I hl hm hr fun h' I' E e1 e2 e3 e4 => q h' I' (E.wk fun x z => Or.inr z) e1 e2 (fun x _ => by rw [E.i (by decide)]) (fun k _ => by rw [E.i (by decide), z, Bool.and_false, Bool.or_false]) e3 e4
  refine w_if (fun c0 => no (by rw [bi_0.mp c0]; rfl)) (fun c0 => ?_)
  have ct : c = true := by cases c; exact absurd rfl c0; rfl
  refine w_if (fun c1 => ?_) (fun c1 => ?_)
  · have : r ≠ 1 := fun z => c1 (by rw [z]; rfl)
    exact no (by rw [decide_eq_false this, Bool.and_false])
  · have r1 : r = 1 := (i_eq (n := 1) (by omega) (by decide)).mp (Classical.byContradiction c1)
    refine w_gL I s_274 l_274_5 ?_
    refine w_aIn I s_285 hl (by decide) ?_
    refine w_wIn I s_285 hl (by decide) fun I1 => ?_
    refine meet95 I1 hl hm hr fun h' I' E e1 e2 e3 e4 => ?_
    have E1 : Eo (fun x => x = 285 ∨ x = 286) h (sI h 285 l (hI h 285 l ||| (1 <<< (Int32.ofNat m &&& 31)))) := Eo.rf.kI (Or.inl rfl)
    refine q h' I' (E1.tr (E.wk fun x z => Or.inr z)) e1 e2 (fun x hx => ?_) (fun k hk => ?_) (fun x hx => ?_) (fun k hk => ?_)
    · rw [E.i (by decide), hI_sI_self, up1, if_neg hx]
    · rw [E.i (by decide), hI_sI_self, up1, if_pos rfl, bt_set (by omega) hk, ct, decide_eq_true r1]; simp
    · rw [e3 x hx]; rfl
    · rw [e4 k hk]; rfl
theorem m_17 {h : Hp} {AL : Nat → ALaw} {PA : Nat → APact} {his : Nat → Bool} (I : Inv h) (hl : l < 6) (hm : m < 6) (hh : ∀ k, k < 6 → bt (hI h 274 15) k = his k) (hP' : IsPact P) (hc : cTerms h P (PA (pr l m))) (hp2 : (PA (pr l m)).2.2.2.1 ≤ 2)
    (hL1 : hP h 64 l = some L) (hL : IsLaw L) (hr : hI h L 11 = Int32.ofNat (AL l).2.2.2) (hr2 : (AL l).2.2.2 ≤ 2) :
    Wp (K X (d + 2) 17 [.ref 274, .int (Int32.ofNat l), .int (Int32.ofNat m), .ref P] h) (VV fun h' => MeetP AL PA his l m h h') := by
  have p274 : P ≠ 274 := fun z => by have := hP'.s; rw [z] at this; rw [s_274] at this; cases this
  have L274 : L ≠ 274 := fun z => by have := hL.s; rw [z] at this; rw [s_274] at this; cases this
  obtain ⟨-, -, c3, c4⟩ := hc
  rw [k_17]
  refine w_gI I s_274 ?_
  refine w_eI (m_has (by omega)) ?_
  rw [hh l hl]
  refine w_gI I hP'.s ?_
  rw [c4]
  have k47 : ∀ (g : Hp), Inv g → Eo (fun x => x = 274) h g → hP g = hP h → hJ g = hJ h → (∀ k, k ≠ 16 → hI g 274 k = hI h 274 k) → (∀ k, k < 32 → bt (hI g 274 16) k = (bt (hI h 274 16) k || (decide (k = l) && (looksP PA l m && (his l || his m))))) →
      Wp (sem (X, K X (d + 1)) 17 47 [some (.ref 274), some (.int (Int32.ofNat l)), some (.int (Int32.ofNat m)), some (.ref P), some (.int (bi (his l))), none] [] g) (VV fun h' => MeetP AL PA his l m h h') := by
    intro g I Eg g1 g2 g3 g4
    have fin : Wp (sem (X, K X (d + 1)) 17 70 [some (.ref 274), some (.int (Int32.ofNat l)), some (.int (Int32.ofNat m)), some (.ref P), some (.int (bi (his l))), none] [.int (Int32.ofNat (relP AL PA l m))] g) (VV fun h' => MeetP AL PA his l m h h') := by
      refine meet70 I hl hm (rel_le hr2 hp2) fun h' I' E e1 e2 e3 e4 e5 e6 => ⟨rfl, ?_⟩
      refine ⟨(Eg.wk fun x z => Or.inl z).tr (E.wk fun x z => Or.inr z), e1.trans g1, e2.trans g2, fun k hk => ?_, fun k hk => ?_, fun x hx => ?_, fun k hk => ?_, fun x hx => ?_, fun k hk => ?_⟩
      · rw [E.i (by decide)]; exact g3 k hk
      · rw [E.i (by decide)]; exact g4 k hk
      · rw [e3 x hx, Eg.i (by decide)]
      · rw [e4 k hk, Eg.i (by decide)]; rfl
      · rw [e5 x hx, Eg.i (by decide)]
      · rw [e6 k hk, Eg.i (by decide)]; rfl
    rw [b_17_47]
    refine w_gI I hP'.s ?_
    rw [Eg.i p274, c3]
    refine w_if (fun c => ?_) (fun c => ?_)
    · have c : (PA (pr l m)).2.2.2.1 = 0 := (i_eq (n := 0) (by omega) (by decide)).mp c
      have er : relP AL PA l m = (AL l).2.2.2 := by unfold relP; rw [if_pos c]
      rw [er] at fin
      refine w_gL I s_274 l_274_0 ?_
      refine w_aRn I s_64 (by decide) (by decide) hl (by decide) (by rw [g1]; exact hL1) ?_
      refine w_gI I hL.s ?_
      rw [Eg.i L274, hr]
      exact fin
    · have c : (PA (pr l m)).2.2.2.1 ≠ 0 := fun z => c (by rw [z]; rfl)
      have er : relP AL PA l m = (PA (pr l m)).2.2.2.1 := by unfold relP; rw [if_neg c]
      rw [er] at fin
      refine w_gI I hP'.s ?_
      rw [Eg.i p274, c3]
      exact fin
  have no : (looksP PA l m && (his l || his m)) = false → Wp (sem (X, K X (d + 1)) 17 47 [some (.ref 274), some (.int (Int32.ofNat l)), some (.int (Int32.ofNat m)), some (.ref P), some (.int (bi (his l))), none] [] h) (VV fun h' => MeetP AL PA his l m h h') := fun z =>
    k47 h I Eo.rf rfl rfl (fun _ _ => rfl) (fun k _ => by rw [z, Bool.and_false, Bool.or_false])
  have yes : (looksP PA l m && (his l || his m)) = true → ∀ I1 : Inv (sI h 274 16 (hI h 274 16 ||| (1 <<< (Int32.ofNat l &&& 31)))), Wp (sem (X, K X (d + 1)) 17 47 [some (.ref 274), some (.int (Int32.ofNat l)), some (.int (Int32.ofNat m)), some (.ref P), some (.int (bi (his l))), none] [] (sI h 274 16 (hI h 274 16 ||| (1 <<< (Int32.ofNat l &&& 31))))) (VV fun h' => MeetP AL PA his l m h h') := fun z I1 =>
    k47 _ I1 (Eo.rf.kI rfl) rfl rfl (fun k hk => by rw [hI_sI_self, up1, if_neg hk]) (fun k hk => by rw [hI_sI_self, up1, if_pos rfl, bt_set (by omega) hk, z, Bool.and_true])
  refine w_if (fun c => no (by unfold looksP; rw [bi_0.mp c]; rfl)) (fun c => ?_)
  have lk : looksP PA l m = true := by unfold looksP; cases z : (PA (pr l m)).2.2.2.2; rw [z] at c; exact absurd rfl c; rfl
  refine w_if (fun c1 => ?_) (fun c1 => ?_)
  · have hl1 : his l = true := by cases z : his l; rw [z] at c1; exact absurd rfl c1; rfl
    refine w_gI I s_274 ?_
    refine w_fI I s_274 fun I1 => ?_
    exact yes (by rw [lk, hl1]; rfl) I1
  · have hl1 : his l = false := bi_0.mp (Classical.byContradiction c1)
    refine w_gI I s_274 ?_
    refine w_eI (m_has (by omega)) ?_
    rw [hh m hm]
    refine w_if (fun c2 => no (by rw [hl1, bi_0.mp c2]; simp)) (fun c2 => ?_)
    have hm1 : his m = true := by cases z : his m; rw [z] at c2; exact absurd rfl c2; rfl
    refine w_gI I s_274 ?_
    refine w_fI I s_274 fun I1 => ?_
    exact yes (by rw [lk, hm1]; simp) I1
end UN
