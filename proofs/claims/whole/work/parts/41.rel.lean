/-! THE STATE, and what of the heap tells it on both sides -/
abbrev ATurn : Type := Nat × Nat × Nat
abbrev AAns : Type := Nat × Int32 × Int32 × Int64
abbrev AS : Type := (Nat → AY) × (Nat → ALaw) × (Nat → APact) × ((Nat → Nat) × Nat) × (Int32 × Int32) × List (Nat × Nat) × List ATurn × List AWord × List AAns
def sY (S : AS) : Nat → AY := S.1
def sL (S : AS) : Nat → ALaw := S.2.1
def sPc (S : AS) : Nat → APact := S.2.2.1
def sT (S : AS) : (Nat → Nat) × Nat := S.2.2.2.1
def sF (S : AS) : Int32 × Int32 := S.2.2.2.2.1
def sM (S : AS) : List (Nat × Nat) := S.2.2.2.2.2.1
def sU (S : AS) : List ATurn := S.2.2.2.2.2.2.1
def sW (S : AS) : List AWord := S.2.2.2.2.2.2.2.1
def sA (S : AS) : List AAns := S.2.2.2.2.2.2.2.2
def nS (S : AS) (y : Nat) : Nat := (sY S y).2.2.2.2.length
def okAns (S : AS) (a : AAns) : Prop := a.1 ≤ 2 ∧ (a.1 < 2 → ∃ l, l < 6 ∧ a.2.1 = Int32.ofNat l) ∧ (a.1 = 1 → ∃ i, i < nS S 0 ∧ a.2.2.1 = Int32.ofNat i)
def okTurn (S : AS) (t : ATurn) : Prop := t.1 < nS S 0 ∧ t.2.1 < 6 ∧ t.2.2 ≤ 999999
def okMv (m : Nat × Nat) : Prop := m.1 < 360 ∧ m.2 < 6
def okA (S : AS) : Prop := (∀ y, y < 2 → okY (sY S y)) ∧ (∀ l, l < 6 → okL (sL S l)) ∧ (∀ p, p < 15 → okP (sPc S p)) ∧ ((sT S).2 ≤ 600 ∧ ∀ k, (sT S).1 k < 256) ∧
  ((sM S).length ≤ 20 ∧ ∀ m, m ∈ sM S → okMv m) ∧ ((sU S).length ≤ 6 ∧ ∀ t, t ∈ sU S → okTurn S t) ∧ ((sW S).length ≤ 6 ∧ ∀ w, w ∈ sW S → okW w) ∧ ((sA S).length ≤ 10 ∧ ∀ a, a ∈ sA S → okAns S a)
/-- rows of pairs, triples .. in rows of ints -/
def r2 (h : Hp) (a b : Nat) : Nat → List (Nat × Nat) → Prop
  | _, [] => True
  | j, m :: r => (hI h a j = Int32.ofNat m.1 ∧ hI h b j = Int32.ofNat m.2) ∧ r2 h a b (j + 1) r
def r3 (h : Hp) (a b c : Nat) : Nat → List ATurn → Prop
  | _, [] => True
  | j, m :: r => (hI h a j = Int32.ofNat m.1 ∧ hI h b j = Int32.ofNat m.2.1 ∧ hI h c j = Int32.ofNat m.2.2) ∧ r3 h a b c (j + 1) r
def rW (h : Hp) (a b c : Nat) (f : Nat → Nat) : Nat → List AWord → Prop
  | _, [] => True
  | j, m :: r => (hI h a j = Int32.ofNat (f m.1) ∧ hI h b j = Int32.ofNat m.2.1 ∧ hI h c j = m.2.2) ∧ rW h a b c f (j + 1) r
def rA (h : Hp) (a b c d : Nat) : Nat → List AAns → Prop
  | _, [] => True
  | j, m :: r => (hI h a j = Int32.ofNat m.1 ∧ hI h b j = m.2.1 ∧ hI h c j = m.2.2.1 ∧ hJ h d j = m.2.2.2) ∧ rA h a b c d (j + 1) r
theorem r2.eo {h h' : Hp} {a b : Nat} (e1 : hI h' a = hI h a) (e2 : hI h' b = hI h b) : ∀ {r : List (Nat × Nat)} {j : Nat}, r2 h a b j r → r2 h' a b j r
  | [], _, _ => trivial
  | _ :: _, _, q => ⟨by rw [e1, e2]; exact q.1, r2.eo e1 e2 q.2⟩
theorem r3.eo {h h' : Hp} {a b c : Nat} (e1 : hI h' a = hI h a) (e2 : hI h' b = hI h b) (e3 : hI h' c = hI h c) : ∀ {r : List ATurn} {j : Nat}, r3 h a b c j r → r3 h' a b c j r
  | [], _, _ => trivial
  | _ :: _, _, q => ⟨by rw [e1, e2, e3]; exact q.1, r3.eo e1 e2 e3 q.2⟩
theorem rW.eo {h h' : Hp} {a b c : Nat} {f : Nat → Nat} (e1 : hI h' a = hI h a) (e2 : hI h' b = hI h b) (e3 : hI h' c = hI h c) : ∀ {r : List AWord} {j : Nat}, rW h a b c f j r → rW h' a b c f j r
  | [], _, _ => trivial
  | _ :: _, _, q => ⟨by rw [e1, e2, e3]; exact q.1, rW.eo e1 e2 e3 q.2⟩
theorem rA.eo {h h' : Hp} {a b c d : Nat} (e1 : hI h' a = hI h a) (e2 : hI h' b = hI h b) (e3 : hI h' c = hI h c) (e4 : hJ h' d = hJ h d) : ∀ {r : List AAns} {j : Nat}, rA h a b c d j r → rA h' a b c d j r
  | [], _, _ => trivial
  | _ :: _, _, q => ⟨by rw [e1, e2, e3, e4]; exact q.1, rA.eo e1 e2 e3 e4 q.2⟩
theorem r2.at {h : Hp} {a b : Nat} : ∀ {r : List (Nat × Nat)} {j i : Nat}, r2 h a b j r → (hi : i < r.length) → hI h a (j + i) = Int32.ofNat (r[i]).1 ∧ hI h b (j + i) = Int32.ofNat (r[i]).2
  | [], _, _, _, hi => absurd hi (Nat.not_lt_zero _)
  | m :: r, j, 0, q, _ => q.1
  | m :: r, j, i + 1, q, hi => by
    have := r2.at (i := i) q.2 (by simpa using hi)
    have e : j + (i + 1) = j + 1 + i := by omega
    rw [e]; exact this
theorem r3.at {h : Hp} {a b c : Nat} : ∀ {r : List ATurn} {j i : Nat}, r3 h a b c j r → (hi : i < r.length) → hI h a (j + i) = Int32.ofNat (r[i]).1 ∧ hI h b (j + i) = Int32.ofNat (r[i]).2.1 ∧ hI h c (j + i) = Int32.ofNat (r[i]).2.2
  | [], _, _, _, hi => absurd hi (Nat.not_lt_zero _)
  | m :: r, j, 0, q, _ => q.1
  | m :: r, j, i + 1, q, hi => by
    have := r3.at (i := i) q.2 (by simpa using hi)
    have e : j + (i + 1) = j + 1 + i := by omega
    rw [e]; exact this
theorem rA.at {h : Hp} {a b c d : Nat} : ∀ {r : List AAns} {j i : Nat}, rA h a b c d j r → (hi : i < r.length) → hI h a (j + i) = Int32.ofNat (r[i]).1 ∧ hI h b (j + i) = (r[i]).2.1 ∧ hI h c (j + i) = (r[i]).2.2.1 ∧ hJ h d (j + i) = (r[i]).2.2.2
  | [], _, _, _, hi => absurd hi (Nat.not_lt_zero _)
  | m :: r, j, 0, q, _ => q.1
  | m :: r, j, i + 1, q, hi => by
    have := rA.at (i := i) q.2 (by simpa using hi)
    have e : j + (i + 1) = j + 1 + i := by omega
    rw [e]; exact this
/-- one more at the end of a row: what was written there before stays -/
theorem r2.snoc {h h' : Hp} {a b : Nat} {m : Nat × Nat} : ∀ {r : List (Nat × Nat)} {j : Nat}, r2 h a b j r → (∀ i, i < j + r.length → hI h' a i = hI h a i ∧ hI h' b i = hI h b i) → hI h' a (j + r.length) = Int32.ofNat m.1 → hI h' b (j + r.length) = Int32.ofNat m.2 → r2 h' a b j (r ++ [m])
  | [], j, _, _, e1, e2 => ⟨⟨e1, e2⟩, trivial⟩
  | n :: r, j, q, e, e1, e2 => by
    have l : j + (n :: r).length = j + 1 + r.length := by simp; omega
    rw [l] at e e1 e2
    exact ⟨by have := e j (by omega); rw [this.1, this.2]; exact q.1, r2.snoc q.2 e e1 e2⟩
theorem r3.snoc {h h' : Hp} {a b c : Nat} {m : ATurn} : ∀ {r : List ATurn} {j : Nat}, r3 h a b c j r → (∀ i, i < j + r.length → hI h' a i = hI h a i ∧ hI h' b i = hI h b i ∧ hI h' c i = hI h c i) → hI h' a (j + r.length) = Int32.ofNat m.1 → hI h' b (j + r.length) = Int32.ofNat m.2.1 → hI h' c (j + r.length) = Int32.ofNat m.2.2 → r3 h' a b c j (r ++ [m])
  | [], j, _, _, e1, e2, e3 => ⟨⟨e1, e2, e3⟩, trivial⟩
  | n :: r, j, q, e, e1, e2, e3 => by
    have l : j + (n :: r).length = j + 1 + r.length := by simp; omega
    rw [l] at e e1 e2 e3
    exact ⟨by have := e j (by omega); rw [this.1, this.2.1, this.2.2]; exact q.1, r3.snoc q.2 e e1 e2 e3⟩
theorem rW.snoc {h h' : Hp} {a b c : Nat} {f : Nat → Nat} {m : AWord} : ∀ {r : List AWord} {j : Nat}, rW h a b c f j r → (∀ i, i < j + r.length → hI h' a i = hI h a i ∧ hI h' b i = hI h b i ∧ hI h' c i = hI h c i) → hI h' a (j + r.length) = Int32.ofNat (f m.1) → hI h' b (j + r.length) = Int32.ofNat m.2.1 → hI h' c (j + r.length) = m.2.2 → rW h' a b c f j (r ++ [m])
  | [], j, _, _, e1, e2, e3 => ⟨⟨e1, e2, e3⟩, trivial⟩
  | n :: r, j, q, e, e1, e2, e3 => by
    have l : j + (n :: r).length = j + 1 + r.length := by simp; omega
    rw [l] at e e1 e2 e3
    exact ⟨by have := e j (by omega); rw [this.1, this.2.1, this.2.2]; exact q.1, rW.snoc q.2 e e1 e2 e3⟩
theorem rA.snoc {h h' : Hp} {a b c d : Nat} {m : AAns} : ∀ {r : List AAns} {j : Nat}, rA h a b c d j r → (∀ i, i < j + r.length → hI h' a i = hI h a i ∧ hI h' b i = hI h b i ∧ hI h' c i = hI h c i ∧ hJ h' d i = hJ h d i) → hI h' a (j + r.length) = Int32.ofNat m.1 → hI h' b (j + r.length) = m.2.1 → hI h' c (j + r.length) = m.2.2.1 → hJ h' d (j + r.length) = m.2.2.2 → rA h' a b c d j (r ++ [m])
  | [], j, _, _, e1, e2, e3, e4 => ⟨⟨e1, e2, e3, e4⟩, trivial⟩
  | n :: r, j, q, e, e1, e2, e3, e4 => by
    have l : j + (n :: r).length = j + 1 + r.length := by simp; omega
    rw [l] at e e1 e2 e3 e4
    exact ⟨by have := e j (by omega); rw [this.1, this.2.1, this.2.2.1, this.2.2.2]; exact q.1, rA.snoc q.2 e e1 e2 e3 e4⟩
/-- PACTS that are told, or spare: not those amended -/
def IsPT (a : Nat) : Prop := a = 99 ∨ (184 ≤ a ∧ a ≤ 268 ∧ (a - 184) % 6 = 0)
theorem IsPT.pact {a : Nat} (h : IsPT a) : IsPact a := by
  have : ∀ a, a < 300 → (a = 99 ∨ (184 ≤ a ∧ a ≤ 268 ∧ (a - 184) % 6 = 0)) → a ∈ [99, 184, 190, 196, 202, 208, 214, 220, 226, 232, 238, 244, 250, 256, 262, 268, 187, 193, 199, 205, 211, 217, 223, 229, 235, 241, 247, 253, 259, 265, 271] := by decide +kernel
  exact this a (by unfold IsPT at h; omega) h
def lawsC (h : Hp) (AL : Nat → ALaw) : Prop := ∃ LO : Nat → Nat, (∀ l, l < 6 → hP h 64 l = some (LO l)) ∧ hP h 62 11 = some (LO 6) ∧ (∀ l, l < 7 → IsLaw (LO l)) ∧ (∀ i, i < 7 → ∀ j, j < 7 → LO i = LO j → i = j) ∧ ∀ l, l < 6 → cLaw h (LO l) (AL l)
def pactsC (h : Hp) (PA : Nat → APact) : Prop := ∃ PO : Nat → Nat, (∀ p, p < 15 → hP h 65 p = some (PO p)) ∧ hP h 62 12 = some (PO 15) ∧ (∀ p, p < 16 → IsPT (PO p)) ∧ (∀ i, i < 16 → ∀ j, j < 16 → PO i = PO j → i = j) ∧ ∀ p, p < 15 → cPact h (PO p) (PA p)
def ringC (h : Hp) : Prop := ∃ ro : Nat → Nat, (∀ i, i < 6 → hP h 292 i = some (293 + ro i) ∧ ro i < 6) ∧ ∀ i, i < 6 → ∀ j, j < 6 → ro i = ro j → i = j
def legF (k : Nat) : Int32 := if k = 5 then 1 else if k = 6 then 1 else if k = 7 then 100 else 0
/-- each KEYWORD as one number -/
def keyN (k : Nat) : Int64 := Int64.ofNat ((["nights", "home", "bond", "birth", "most", "in", "pays", "amount", "pay", "let", "gain", "share", "pension", "through", "mine", "take", "free", "step", "relief", "when", "no", "off", "or", "and", "not", "test", "only", "top", "look"].getD k "").toList.foldl (fun n c => n * 256 + c.toNat) 0)
def plansC (h : Hp) (S : AS) : Prop := hI h 67 8 = Int32.ofNat (sM S).length ∧ r2 h 68 69 0 (sM S) ∧ hI h 67 9 = Int32.ofNat (sU S).length ∧ r3 h 70 71 72 0 (sU S) ∧ hI h 67 10 = Int32.ofNat (sW S).length ∧ rW h 73 74 75 id 0 (sW S)
def RC0 (h : Hp) (S : AS) : Prop := (∀ y, y < 2 → cYear h y (sY S y)) ∧ lawsC h (sL S) ∧ pactsC h (sPc S) ∧ (hI h 62 13 = Int32.ofNat (sT S).2 ∧ ∀ k, k < (sT S).2 → hI h 81 k = Int32.ofNat ((sT S).1 k)) ∧ (hI h 82 11 = (sF S).1 ∧ hI h 82 12 = (sF S).2) ∧
  plansC h S ∧ (hI h 76 4 = Int32.ofNat (sA S).length ∧ rA h 77 78 79 80 0 (sA S)) ∧ fRow h 282 legF ∧ (∀ k, k < 29 → hJ h 83 k = keyN k)
def RC (h : Hp) (S : AS) : Prop := RC0 h S ∧ ringC h
def RM (h : Hp) (S : AS) : Prop := (∀ y, y < 2 → mYear h y (sY S y)) ∧ (∀ l, l < 6 → mLaw h l (sL S l)) ∧ (mKeep h (sPc S) ∧ ∀ a, a < 6 → ∀ b, b < 6 → a ≠ b → mTests h (pm a b) (sPc S (pr a b)).1) ∧
  (hI h 301 35 = Int32.ofNat (sT S).2 ∧ ∀ k, k < (sT S).2 → hI h 332 k = Int32.ofNat ((sT S).1 k)) ∧ (hI h 301 42 = (sF S).1 ∧ hI h 301 44 = (sF S).2) ∧
  (hI h 301 73 = Int32.ofNat (sM S).length ∧ r2 h 351 352 0 (sM S)) ∧ (hI h 301 76 = Int32.ofNat (sU S).length ∧ r3 h 353 354 355 0 (sU S)) ∧ (hI h 301 77 = Int32.ofNat (sW S).length ∧ rW h 356 357 358 pmOf 0 (sW S)) ∧ (hI h 301 84 = Int32.ofNat (sA S).length ∧ rA h 359 360 361 362 0 (sA S))
/-- what the class writes anew each time -/
def WX (a : Nat) : Prop := (88 ≤ a ∧ a ≤ 90) ∨ (187 ≤ a ∧ a ≤ 273 ∧ 3 ≤ (a - 184) % 6) ∨ (WS a ∧ a ≠ 292)
theorem lawsC.eo {h h' : Hp} {AL : Nat → ALaw} (q : lawsC h AL) (e1 : ∀ a, 91 ≤ a → a ≤ 183 → (a ≤ 98 ∨ 136 ≤ a) → hI h' a = hI h a) (e2 : hP h' 64 = hP h 64) (e3 : hP h' 62 = hP h 62) : lawsC h' AL := by
  obtain ⟨LO, q1, q2, q3, q4, q5⟩ := q
  refine ⟨LO, fun l hl => by rw [e2]; exact q1 l hl, by rw [e3]; exact q2, q3, q4, fun l hl => (q5 l hl).eo fun k hk => ?_⟩
  have : ∀ a ∈ [91, 136, 144, 152, 160, 168, 176], 91 ≤ a ∧ (a = 91 ∨ 136 ≤ a) ∧ a ≤ 176 := by decide
  have := this _ (q3 l (by omega))
  exact e1 _ (by omega) (by omega) (by omega)
theorem pactsC.eo {h h' : Hp} {PA : Nat → APact} (q : pactsC h PA) (e1 : ∀ a, (99 ≤ a ∧ a ≤ 101) ∨ (184 ≤ a ∧ a ≤ 273 ∧ (a - 184) % 6 < 3) → hI h' a = hI h a) (e2 : hP h' 65 = hP h 65) (e3 : hP h' 62 = hP h 62) : pactsC h' PA := by
  obtain ⟨PO, q1, q2, q3, q4, q5⟩ := q
  refine ⟨PO, fun l hl => by rw [e2]; exact q1 l hl, by rw [e3]; exact q2, q3, q4, fun p hp => ?_⟩
  have := q3 p (by omega)
  unfold IsPT at this
  exact (q5 p hp).eo (e1 _ (by omega)) (e1 _ (by omega)) (e1 _ (by omega))
theorem RC0.eo {h h' : Hp} {S : AS} (q : RC0 h S) (o : okA S) (e : ∀ a, a < 301 → ¬ WX a → a ≠ 292 → hI h' a = hI h a ∧ hJ h' a = hJ h a ∧ hP h' a = hP h a) : RC0 h' S := by
  obtain ⟨q1, q2, q3, q4, q5, q6, q7, q8, q9⟩ := q
  have i : ∀ a, a < 301 → ¬ WX a → a ≠ 292 → hI h' a = hI h a := fun a h1 h2 h3 => (e a h1 h2 h3).1
  refine ⟨fun y hy => (q1 y hy).eo (fun a h1 h2 => i a (by omega) (by unfold WX WS; omega) (by omega)) (o.1 y hy).2.1, q2.eo (fun a h1 h2 h3 => i a (by omega) (by unfold WX WS; omega) (by omega)) (e 64 (by decide) (by unfold WX WS; omega) (by decide)).2.2 (e 62 (by decide) (by unfold WX WS; omega) (by decide)).2.2, q3.eo (fun a h1 => i a (by omega) (by unfold WX WS; omega) (by omega)) (e 65 (by decide) (by unfold WX WS; omega) (by decide)).2.2 (e 62 (by decide) (by unfold WX WS; omega) (by decide)).2.2, ?_, ?_, ?_, ?_, ?_, ?_⟩
  · rw [i 62 (by decide) (by unfold WX WS; omega) (by decide), i 81 (by decide) (by unfold WX WS; omega) (by decide)]; exact q4
  · rw [i 82 (by decide) (by unfold WX WS; omega) (by decide)]; exact q5
  · unfold plansC at q6 ⊢
    rw [i 67 (by decide) (by unfold WX WS; omega) (by decide)]
    obtain ⟨p1, p2, p3, p4, p5, p6⟩ := q6
    exact ⟨p1, p2.eo (i _ (by decide) (by unfold WX WS; omega) (by decide)) (i _ (by decide) (by unfold WX WS; omega) (by decide)), p3, p4.eo (i _ (by decide) (by unfold WX WS; omega) (by decide)) (i _ (by decide) (by unfold WX WS; omega) (by decide)) (i _ (by decide) (by unfold WX WS; omega) (by decide)), p5, p6.eo (i _ (by decide) (by unfold WX WS; omega) (by decide)) (i _ (by decide) (by unfold WX WS; omega) (by decide)) (i _ (by decide) (by unfold WX WS; omega) (by decide))⟩
  · rw [i 76 (by decide) (by unfold WX WS; omega) (by decide)]
    exact ⟨q7.1, q7.2.eo (i _ (by decide) (by unfold WX WS; omega) (by decide)) (i _ (by decide) (by unfold WX WS; omega) (by decide)) (i _ (by decide) (by unfold WX WS; omega) (by decide)) (e 80 (by decide) (by unfold WX WS; omega) (by decide)).2.1⟩
  · exact q8.eo (i 282 (by decide) (by unfold WX WS; omega) (by decide))
  · rw [(e 83 (by decide) (by unfold WX WS; omega) (by decide)).2.1]; exact q9
theorem ringC.eo {h h' : Hp} (q : ringC h) (e : hP h' 292 = hP h 292) : ringC h' := by unfold ringC; rw [e]; exact q
/-- what the model writes anew each time, and what it keeps -/
def inMS (a : Nat) : Prop := a = 301 ∨ (333 ≤ a ∧ a ≤ 350)
theorem RM.eo {h h' : Hp} {S : AS} (q : RM h S) (e : ∀ a, 302 ≤ a → a ≤ 362 → ¬ inMS a → hI h' a = hI h a ∧ hJ h' a = hJ h a) (e1 : ∀ k, k = 35 ∨ k = 42 ∨ k = 44 ∨ k = 73 ∨ k = 76 ∨ k = 77 ∨ k = 84 → hI h' 301 k = hI h 301 k) : RM h' S := by
  obtain ⟨q1, q2, ⟨q3, q3'⟩, q4, q5, q6, q7, q8, q9⟩ := q
  have i : ∀ a, 302 ≤ a → a ≤ 362 → ¬ inMS a → hI h' a = hI h a := fun a h1 h2 h3 => (e a h1 h2 h3).1
  have ml : mlEq h h' := fun a ha => by unfold inML at ha; exact i a (by omega) (by omega) (by unfold inMS; omega)
  refine ⟨fun y hy => ?_, fun l hl => (q2 l hl).eo ml, ⟨q3.eo (i _ (by decide) (by decide) (by unfold inMS; omega)) (i _ (by decide) (by decide) (by unfold inMS; omega)) (i _ (by decide) (by decide) (by unfold inMS; omega)) (i _ (by decide) (by decide) (by unfold inMS; omega)), fun a ha b hb hn => (q3' a ha b hb hn).eo (i _ (by decide) (by decide) (by unfold inMS; omega)) (i _ (by decide) (by decide) (by unfold inMS; omega))⟩, ?_, ?_, ?_, ?_, ?_, ?_⟩
  · obtain ⟨a1, a2, a3, a4, a5, a6⟩ := q1 y hy
    exact ⟨fun k hk => by rw [i 302 (by decide) (by decide) (by unfold inMS; omega)]; exact a1 k hk, by rw [i 303 (by decide) (by decide) (by unfold inMS; omega)]; exact a2, by rw [i 304 (by decide) (by decide) (by unfold inMS; omega)]; exact a3, by rw [i 304 (by decide) (by decide) (by unfold inMS; omega)]; exact a4, by rw [i 305 (by decide) (by decide) (by unfold inMS; omega)]; exact a5, a6.eo (i _ (by decide) (by decide) (by unfold inMS; omega)) (i _ (by decide) (by decide) (by unfold inMS; omega)) (i _ (by decide) (by decide) (by unfold inMS; omega)) (i _ (by decide) (by decide) (by unfold inMS; omega)) (i _ (by decide) (by decide) (by unfold inMS; omega))⟩
  · rw [e1 35 (by omega), i 332 (by decide) (by decide) (by unfold inMS; omega)]; exact q4
  · rw [e1 42 (by omega), e1 44 (by omega)]; exact q5
  · rw [e1 73 (by omega)]
    exact ⟨q6.1, q6.2.eo (i _ (by decide) (by decide) (by unfold inMS; omega)) (i _ (by decide) (by decide) (by unfold inMS; omega))⟩
  · rw [e1 76 (by omega)]
    exact ⟨q7.1, q7.2.eo (i _ (by decide) (by decide) (by unfold inMS; omega)) (i _ (by decide) (by decide) (by unfold inMS; omega)) (i _ (by decide) (by decide) (by unfold inMS; omega))⟩
  · rw [e1 77 (by omega)]
    exact ⟨q8.1, q8.2.eo (i _ (by decide) (by decide) (by unfold inMS; omega)) (i _ (by decide) (by decide) (by unfold inMS; omega)) (i _ (by decide) (by decide) (by unfold inMS; omega))⟩
  · rw [e1 84 (by omega)]
    exact ⟨q9.1, q9.2.eo (i _ (by decide) (by decide) (by unfold inMS; omega)) (i _ (by decide) (by decide) (by unfold inMS; omega)) (i _ (by decide) (by decide) (by unfold inMS; omega)) (e 362 (by decide) (by decide) (by unfold inMS; omega)).2⟩
theorem RC.laws {h : Hp} {S : AS} (q : RC h S) (o : okA S) : cLaws h (sL S) := fun l hl => by
  obtain ⟨LO, q1, q2, q3, q4, q5⟩ := q.1.2.1
  exact ⟨LO l, q1 l hl, q3 l (by omega), q5 l hl, o.2.1 l hl⟩
theorem RC.pacts {h : Hp} {S : AS} (q : RC h S) (o : okA S) : cPacts h (sPc S) := fun p hp => by
  obtain ⟨PO, q1, q2, q3, q4, q5⟩ := q.1.2.2.1
  exact ⟨PO p, q1 p hp, (q3 p (by omega)).pact, q5 p hp, o.2.2.1 p hp⟩
theorem RM.laws {h : Hp} {S : AS} (q : RM h S) (o : okA S) : mLaws h (sL S) := fun l hl => ⟨q.2.1 l hl, o.2.1 l hl⟩
theorem RM.tests {h : Hp} {S : AS} (q : RM h S) (o : okA S) : mPTs h (sPc S) := fun a ha b hb hn => ⟨q.2.2.1.2 a ha b hb hn, (o.2.2.1 _ (pr_lt a ha b hb hn)).1⟩
theorem RM.words {h : Hp} {S : AS} (q : RM h S) : mWords h 0 (sW S) := by
  have : ∀ (ws : List AWord) (j : Nat), rW h 356 357 358 pmOf j ws → mWords h j ws := fun ws => by
    induction ws with
    | nil => intro _ _; trivial
    | cons w ws ih => intro j t; exact ⟨t.1, ih _ t.2⟩
  exact this _ _ q.2.2.2.2.2.2.2.1.2
/-- what a call of the class, or of the model, leaves alone -/
def Cl (h h' : Hp) : Prop := Eo (fun a => a < 301) h h'
def Mo (h h' : Hp) : Prop := Eo (fun a => 301 ≤ a) h h'
theorem Cl.rm {h h' : Hp} {S : AS} (c : Cl h h') (q : RM h S) : RM h' S := q.eo (fun a h1 h2 h3 => ⟨c.i (by omega), c.j (by omega)⟩) (fun k _ => by rw [c.i (show ¬ (301 < 301) by omega)])
theorem Mo.rc {h h' : Hp} {S : AS} (c : Mo h h') (o : okA S) (q : RC h S) : RC h' S := ⟨q.1.eo o (fun a h1 _ _ => c a (by omega)), q.2.eo (c.p (by omega))⟩
/-- a call of the class that writes only what it writes anew each time -/
theorem RC.scr {h h' : Hp} {S : AS} {W : Nat → Prop} (q : RC h S) (o : okA S) (e : Eo W h h') (w : ∀ a, W a → WX a) : RC h' S := ⟨q.1.eo o (fun a _ h2 _ => e a (fun z => h2 (w a z))), q.2.eo (e.p (fun z => absurd (w _ z) (by unfold WX WS; omega)))⟩
