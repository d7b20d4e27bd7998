/-! WHAT A LAND TAKES AHEAD: the mathematics, and the class's levy as it stands -/
theorem clamp_nat (v : Int32) : ∃ n, n ≤ 100 ∧ clamp v = Int32.ofNat n := by
  unfold clamp
  by_cases c : v < 0
  · rw [if_pos c]; exact ⟨0, by decide, rfl⟩
  · rw [if_neg c]
    by_cases c2 : (100 : Int32) < v
    · rw [if_pos c2]; exact ⟨100, by decide, rfl⟩
    · rw [if_neg c2]
      obtain ⟨n, hn, e⟩ := i_nat (n := 101) (by decide) c (fun z => c2 ((lt_le (n := 100) (by decide)).mpr z))
      exact ⟨n, by omega, e⟩
theorem rate_nat (f : Nat → Int32) (k : Nat) : ∀ rs : List Rule, ∃ n, n ≤ 100 ∧ rateP f k rs = Int32.ofNat n
  | [] => ⟨0, by decide, rfl⟩
  | r :: rs => by
    show ∃ n, n ≤ 100 ∧ (if r.1 = k ∧ (r.2.2 = [] ∨ evv f r.2.2 = 1) then clamp (evv f r.2.1) else rateP f k rs) = _
    split
    · exact clamp_nat _
    · exact rate_nat f k rs
def rtN (f : Nat → Int32) (k : Nat) (rs : List Rule) : Nat := (rateP f k rs).toNatClampNeg
theorem rt_eq (f : Nat → Int32) (k : Nat) (rs : List Rule) : rateP f k rs = Int32.ofNat (rtN f k rs) ∧ rtN f k rs ≤ 100 := by
  obtain ⟨n, hn, e⟩ := rate_nat f k rs
  have : rtN f k rs = n := by unfold rtN; rw [e, i32_ofNat_clamp (by omega)]
  rw [this]; exact ⟨e, hn⟩
/-- the kind a LAND sees -/
def lkP (PA : Nat → APact) (his : Nat → Bool) (T : SumT) (l : Nat) : Nat := if seeP PA his l then T.2.1 else T.1
def fsP (V : Sv) (T : SumT) (l k : Nat) : Int32 := if k = 5 then bi (decide (T.2.2.2.1 = l)) else if k = 6 then bi (decide (T.2.2.2.2 = l)) else if k = 7 then Int32.ofNat T.2.2.1 else pF V l k
def limP (PA : Nat → APact) (p k : Nat) : Nat := if (PA p).2.1 k then 0 else (PA p).2.2.1 k
def lmN (PA : Nat → APact) (his : Nat → Bool) (l k : Nat) : Nat → Nat → Nat → Nat
  | 0, _, r => r
  | c + 1, m, r => lmN PA his l k c (m + 1) (if his m && decide (m ≠ l) then min (limP PA (pr m l) k) r else r)
theorem lmN_le {PA : Nat → APact} {his : Nat → Bool} {l k : Nat} : ∀ (c m r : Nat), lmN PA his l k c m r ≤ r
  | 0, _, _ => Nat.le_refl _
  | c + 1, m, r => by
    have := lmN_le (PA := PA) (his := his) (l := l) (k := k) c (m + 1) (if his m && decide (m ≠ l) then min (limP PA (pr m l) k) r else r)
    show lmN PA his l k c (m + 1) _ ≤ r
    split at this
    · rename_i z; rw [if_pos z]; omega
    · rename_i z; rw [if_neg z]; exact this
def atP (V : Sv) (AL : Nat → ALaw) (PA : Nat → APact) (T : SumT) (l : Nat) : Nat := lmN PA (hisP V AL PA) l (lkP PA (hisP V AL PA) T l) 6 0 (rtN (fsP V T l) (lkP PA (hisP V AL PA) T l) (AL l).1)
theorem atP_le {V : Sv} {AL : Nat → ALaw} {PA : Nat → APact} {T : SumT} {l : Nat} : atP V AL PA T l ≤ 100 := Nat.le_trans (lmN_le _ _ _) (rt_eq _ _ _).2
def frT (V : Sv) (AL : Nat → ALaw) (PA : Nat → APact) (T : SumT) (l : Nat) : Bool := decide (T.2.2.2.1 ≠ l) && frP AL PA (hisP V AL PA) l T.2.2.2.1
def ownP (AL : Nat → ALaw) (B : Int) (T : SumT) (l : Nat) : Int := (tx (B - (AL l).2.2.1) (AL l).2.1 * T.2.2.1).tdiv B
def ahP (V : Sv) (AL : Nat → ALaw) (PA : Nat → APact) (B : Int) (T : SumT) (l : Nat) : Int := if hisP V AL PA l then (if frT V AL PA T l then 0 else ownP AL B T l) else (T.2.2.1 : Int) * atP V AL PA T l
section AH
variable {V : Sv} {AL : Nat → ALaw} {PA : Nat → APact} {B : Int} {T : SumT}
theorem tx_20 {A : ALaw} (o : okL A) (hB : 0 < B) : 0 ≤ tx (B - A.2.2.1) A.2.1 ∧ tx (B - A.2.2.1) A.2.1 ≤ 2000 * B := by
  obtain ⟨-, -, o3, o4, -, -⟩ := o
  have b := tx_bd (x := B - A.2.2.1) A.2.1 fun s hs => (o4 s hs).2
  have h1 : (A.2.1.length : Int) * (100 * (if B - A.2.2.1 < 0 then 0 else B - A.2.2.1)) ≤ 20 * (100 * (if B - A.2.2.1 < 0 then 0 else B - A.2.2.1)) := Int.mul_le_mul_of_nonneg_right (by omega) (by split <;> omega)
  refine ⟨b.1, ?_⟩
  have := Int.le_trans b.2 h1
  split at this <;> omega
theorem own_bd {l : Nat} (o : okL (AL l)) (hT : okSm T) (hB : 0 < B) : 0 ≤ ownP AL B T l ∧ ownP AL B T l ≤ 1999998000 := by
  have b := tx_20 o hB
  have ha : (T.2.2.1 : Int) ≤ 999999 := by have := hT.2.2.2.2.1; omega
  unfold ownP
  have h0 : 0 ≤ tx (B - (AL l).2.2.1) (AL l).2.1 * T.2.2.1 := Int.mul_nonneg b.1 (by omega)
  rw [Int.tdiv_eq_ediv_of_nonneg h0]
  refine ⟨Int.ediv_nonneg h0 (by omega), ?_⟩
  refine Int.ediv_le_of_le_mul hB ?_
  have h1 : tx (B - (AL l).2.2.1) (AL l).2.1 * T.2.2.1 ≤ (2000 * B) * T.2.2.1 := Int.mul_le_mul_of_nonneg_right b.2 (by omega)
  have h2 : (2000 * B) * T.2.2.1 ≤ (2000 * B) * 999999 := Int.mul_le_mul_of_nonneg_left ha (by omega)
  omega
theorem ah_bd {l : Nat} (o : okL (AL l)) (hT : okSm T) (hB : 0 < B) : 0 ≤ ahP V AL PA B T l ∧ ahP V AL PA B T l ≤ 1999998000 := by
  unfold ahP
  split
  · split
    · decide
    · exact own_bd o hT hB
  · have h1 : atP V AL PA T l ≤ 100 := atP_le
    have h2 : (T.2.2.1 : Int) ≤ 999999 := by have := hT.2.2.2.2.1; omega
    constructor
    · exact Int.mul_nonneg (by omega) (by omega)
    · have : (T.2.2.1 : Int) * atP V AL PA T l ≤ 999999 * 100 := by
        refine Int.le_trans (Int.mul_le_mul_of_nonneg_right h2 (by omega)) ?_
        exact Int.mul_le_mul_of_nonneg_left (by omega) (by decide)
      omega
theorem tkO_bd {f : Nat → Nat → Bool} {his : Nat → Bool} {ah : Nat → Int} {l : Nat} (h : ∀ m, m < 6 → 0 ≤ ah m ∧ ah m ≤ 1999998000) : ∀ {m : Nat}, m ≤ 6 → 0 ≤ tkO f his ah l m ∧ tkO f his ah l m ≤ m * 1999998000
  | 0, _ => by simp [tkO]
  | m + 1, hm => by
    have ih := tkO_bd (f := f) (his := his) (l := l) h (m := m) (by omega)
    have := h m (by omega)
    show 0 ≤ tkO f his ah l m + _ ∧ tkO f his ah l m + _ ≤ _
    split <;> omega
theorem du_bd {f : Nat → Nat → Bool} {his : Nat → Bool} {ah : Nat → Int} (h : ∀ m, m < 6 → 0 ≤ ah m ∧ ah m ≤ 1999998000) : ∀ l, l < 6 → (duP f his ah l).natAbs ≤ 17179869184 := fun l hl => by
  have a := tkO_bd (f := f) (his := his) (l := l) h (m := 6) (Nat.le_refl _)
  have b := h l hl
  unfold duP
  omega
/-- the pacts that the levy of the class has in hand: those told, or those amended -/
def cPk (h : Hp) (PA : Nat → APact) : Prop := ∃ po, (po = 65 ∨ po = 66) ∧ hP h 274 12 = some po ∧ ∀ p, p < 15 → ∃ P, hP h po p = some P ∧ IsPact P ∧ cTerms h P (PA p) ∧ okP (PA p)
theorem cPacts.terms2 {h : Hp} {PA : Nat → APact} (q : cPacts h PA) : ∀ p, p < 15 → ∃ P, hP h 65 p = some P ∧ IsPact P ∧ cTerms h P (PA p) ∧ okP (PA p) := fun p hp => by
  obtain ⟨P, p1, p2, p3, p4⟩ := q p hp
  exact ⟨P, p1, p2, p3.2.2, p4⟩
/-- the levy of the class, having heard a year -/
def LvC (h : Hp) (V : Sv) (AL : Nat → ALaw) (PA : Nat → APact) (B : Int) : Prop := (∀ l, l < 6 → ∀ k, k < 5 → hI h (276 + l) k = pF V l k) ∧ hI h 274 15 = msk (hisP V AL PA) 6 ∧ hJ h 274 13 = Int64.ofInt B ∧ (∀ l, l < 6 → hJ h 287 l = whoP V AL PA B l) ∧ (∀ k, k < 32 → bt (hI h 274 16) k = (decide (k < 6) && seeP PA (hisP V AL PA) k)) ∧ offR h (offP AL PA (hisP V AL PA)) ∧ (∀ x, x < 6 → ∀ k, k < 32 → bt (hI h 286 x) k = (decide (k < 6 ∧ k ≠ x) && frP AL PA (hisP V AL PA) x k)) ∧ cPk h PA ∧ cLaws h AL
/-- what a levy changes at work -/
def WL (a : Nat) : Prop := a = 274 ∨ (276 ≤ a ∧ a ≤ 281) ∨ a = 283 ∨ (288 ≤ a ∧ a ≤ 300)
def LvE (h h' : Hp) : Prop := Eo WL h h' ∧ (∀ k, k ≠ 17 → hI h' 274 k = hI h 274 k) ∧ hJ h' 274 = hJ h 274 ∧ hP h' 274 = hP h 274 ∧ ∀ l, l < 6 → ∀ k, k < 5 → hI h' (276 + l) k = hI h (276 + l) k
theorem LvE.rf {h : Hp} : LvE h h := ⟨Eo.rf, fun _ _ => rfl, rfl, rfl, fun _ _ _ _ => rfl⟩
theorem LvE.tr {h h' h'' : Hp} (a : LvE h h') (b : LvE h' h'') : LvE h h'' := ⟨a.1.tr b.1, fun k hk => (b.2.1 k hk).trans (a.2.1 k hk), b.2.2.1.trans a.2.2.1, b.2.2.2.1.trans a.2.2.2.1, fun l hl k hk => (b.2.2.2.2 l hl k hk).trans (a.2.2.2.2 l hl k hk)⟩
theorem LvE.of {W : Nat → Prop} {h h' : Hp} (a : Eo W h h') (w : ∀ x, W x → x = 283 ∨ (288 ≤ x ∧ x ≤ 300)) : LvE h h' := by
  have n : ∀ x, (274 ≤ x ∧ x ≤ 281) → ¬ W x := fun x hx z => by have := w x z; omega
  exact ⟨a.wk fun x z => Or.inr (Or.inr (w x z)), fun k _ => by rw [a.i (n 274 (by decide))], a.j (n 274 (by decide)), a.p (n 274 (by decide)), fun l hl k _ => by rw [a.i (n _ (by omega))]⟩
theorem LvC.eo {h h' : Hp} (q : LvC h V AL PA B) (e : LvE h h') : LvC h' V AL PA B := by
  obtain ⟨q1, q2, q3, q4, q5, q6, q7, ⟨po, r1, r2, r3⟩, q9⟩ := q
  obtain ⟨e1, e2, e3, e4, e5⟩ := e
  refine ⟨fun l hl k hk => by rw [e5 l hl k hk]; exact q1 l hl k hk, by rw [e2 15 (by decide)]; exact q2, by rw [e3]; exact q3, ?_, by rw [e2 16 (by decide)]; exact q5, ?_, ?_, ⟨po, r1, by rw [e4]; exact r2, fun p hp => ?_⟩, q9.eo e1 (by unfold WL; omega) (fun a h1 h2 => by unfold WL; omega)⟩
  · rw [e1.j (show ¬ WL 287 by unfold WL; omega)]; exact q4
  · unfold offR at q6 ⊢
    rw [e1.i (show ¬ WL 285 by unfold WL; omega)]; exact q6
  · rw [e1.i (show ¬ WL 286 by unfold WL; omega)]; exact q7
  · obtain ⟨P, p1, p2, p3, p4⟩ := r3 p hp
    have rg := p2.rg
    have n : ∀ a, a < 274 → ¬ WL a := fun a ha z => by unfold WL at z; omega
    exact ⟨P, by rw [e1.p (n _ (by omega))]; exact p1, p2, p3.eo (e1.i (n _ (by omega))) (e1.i (n _ (by omega))), p4⟩
end AH
