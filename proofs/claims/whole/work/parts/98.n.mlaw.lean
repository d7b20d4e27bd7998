/-! TEXT: the model reads lines of a LAW -/
def lowM (a j : Nat) : Prop := (a = 317 ∧ j < 7320) ∨ (((312 ≤ a ∧ a ≤ 316) ∨ a = 320 ∨ a = 321) ∧ j < 120) ∨ ((a = 318 ∨ a = 319 ∨ a = 322) ∧ j < 6)
def FrM (h0 h : Hp) : Prop := Eo (fun a => a = 301 ∨ (312 ≤ a ∧ a ≤ 324)) h0 h ∧ (∀ k, ¬ (k = 33 ∨ k = 34 ∨ (36 ≤ k ∧ k ≤ 41) ∨ k = 43) → hI h 301 k = hI h0 301 k) ∧ ∀ a j, lowM a j → hI h a j = hI h0 a j
theorem FrM.rf {h : Hp} : FrM h h := ⟨Eo.rf, fun _ _ => rfl, fun _ _ _ => rfl⟩
theorem FrM.mf {h0 h h' : Hp} (a : FrM h0 h) (b : MFr h h') : FrM h0 h' := ⟨a.1.tr (b.1.wk fun x z => by omega), fun k hk => (b.2.1 k (by omega)).trans (a.2.1 k hk), fun x j hj => by
  by_cases e : x = 317
  · rw [e] at hj ⊢
    rw [b.2.2 j (by unfold lowM at hj; omega)]; exact a.2.2 317 j hj
  · rw [b.1.i (show ¬ (x = 301 ∨ x = 317) by unfold lowM at hj; omega)]; exact a.2.2 x j hj⟩
theorem FrM.w {h0 h : Hp} {a j : Nat} {v : Int32} (f : FrM h0 h) (ha : 312 ≤ a ∧ a ≤ 324) (hj : ¬ lowM a j) : FrM h0 (sI h a j v) := ⟨f.1.kI (Or.inr ha), fun k hk => by rw [sI_other (by omega)]; exact f.2.1 k hk, fun x i hi => by
  by_cases e : x = a
  · subst e
    rw [hI_sI_self, up1, if_neg (fun z : i = j => hj (z ▸ hi))]; exact f.2.2 x i hi
  · rw [sI_other e]; exact f.2.2 x i hi⟩
theorem FrM.s {h0 h : Hp} {j : Nat} {v : Int32} (f : FrM h0 h) (hj : j = 33 ∨ j = 34 ∨ (36 ≤ j ∧ j ≤ 41) ∨ j = 43) : FrM h0 (sI h 301 j v) := ⟨f.1.kI (Or.inl rfl), fun k hk => by rw [hI_sI_self, up1, if_neg (by omega)]; exact f.2.1 k hk, fun x i hi => by rw [sI_other (by unfold lowM at hi; omega)]; exact f.2.2 x i hi⟩
theorem MP.w {T : Nat → Nat} {L k dd e a j : Nat} {h : Hp} {v : Int32} {st : List Op} (q : MP T L h k st dd e) (h1 : a ≠ 301) (h2 : a ≠ 317) (h3 : a ≠ 332) : MP T L (sI h a j v) k st dd e := by
  obtain ⟨q1, q2, q3, q4, q5, q6, q7⟩ := q
  have f := sI_other (h := h) (k := j) (v := v) (show 301 ≠ a from fun z => h1 z.symm)
  exact ⟨⟨by rw [f]; exact q1.1, fun i hi => by rw [sI_other (fun z => h3 z.symm)]; exact q1.2.1 i hi, q1.2.2⟩, ⟨by rw [f]; exact q2.1, by rw [f]; exact q2.2.1, fun z => by rw [f]; exact q2.2.2.1 z, by rw [f]; exact q2.2.2.2⟩, q3, by rw [f]; exact q4, q5.eo (sI_other (fun z => h2 z.symm)), q6, by rw [f]; exact q7⟩
theorem MP.s {T : Nat → Nat} {L k dd e j : Nat} {h : Hp} {v : Int32} {st : List Op} (q : MP T L h k st dd e) (hj : ¬ (j = 33 ∨ (35 ≤ j ∧ j ≤ 40) ∨ j = 43)) : MP T L (sI h 301 j v) k st dd e := by
  obtain ⟨q1, q2, q3, q4, q5, q6, q7⟩ := q
  have f : ∀ i, (i = 33 ∨ (35 ≤ i ∧ i ≤ 40) ∨ i = 43) → hI (sI h 301 j v) 301 i = hI h 301 i := fun i hi => by rw [hI_sI_self, up1, if_neg (show ¬ i = j by omega)]
  exact ⟨⟨by rw [f 35 (by omega)]; exact q1.1, fun i hi => by rw [sI_other (by decide)]; exact q1.2.1 i hi, q1.2.2⟩, ⟨by rw [f 37 (by omega)]; exact q2.1, by rw [f 38 (by omega)]; exact q2.2.1, fun z => by rw [f 39 (by omega)]; exact q2.2.2.1 z, by rw [f 36 (by omega)]; exact q2.2.2.2⟩, q3, by rw [f 33 (by omega)]; exact q4, q5.eo (sI_other (by decide)), q6, by rw [f 43 (by omega), f 40 (by omega)]; exact q7⟩
theorem MP.d0 {T : Nat → Nat} {L k dd e : Nat} {h : Hp} {st : List Op} (q : MP T L h k st dd e) : MP T L (sI h 301 43 0) k st 0 e := by
  obtain ⟨q1, q2, q3, q4, q5, q6, q7⟩ := q
  have f : ∀ i, i ≠ 43 → hI (sI h 301 43 0) 301 i = hI h 301 i := fun i hi => by rw [hI_sI_self, up1, if_neg hi]
  exact ⟨⟨by rw [f 35 (by decide)]; exact q1.1, fun i hi => by rw [sI_other (by decide)]; exact q1.2.1 i hi, q1.2.2⟩, ⟨by rw [f 37 (by decide)]; exact q2.1, by rw [f 38 (by decide)]; exact q2.2.1, fun z => by rw [f 39 (by decide)]; exact q2.2.2.1 z, by rw [f 36 (by decide)]; exact q2.2.2.2⟩, q3, by rw [f 33 (by decide)]; exact q4, q5.eo (sI_other (by decide)), q6, by rw [hI_sI_self, up1, if_pos rfl]; rfl, by rw [f 40 (by decide)]; exact q7.2⟩
def lenO : Option Rule → Nat
  | none => 0
  | some r => r.2.1.length + r.2.2.length
def rowO (h : Hp) (j p : Nat) : Option Rule → Prop
  | none => ∃ s, 2 ≤ s ∧ s ≤ 4 ∧ hI h 312 (120 + j) = Int32.ofNat s
  | some r => hI h 312 (120 + j) = (if r.1 = 6 then 0 else 1) ∧ (r.1 ≠ 6 → hI h 313 (120 + j) = Int32.ofNat r.1) ∧ (r.1 = 6 → r.2.1 = []) ∧ hI h 314 (120 + j) = Int32.ofNat p ∧ hI h 315 (120 + j) = Int32.ofNat (p + r.2.1.length) ∧ hI h 316 (120 + j) = Int32.ofNat (p + r.2.1.length + r.2.2.length)
def mRowsP (h : Hp) : Nat → Nat → List (Option Rule) → Prop
  | _, _, [] => True
  | j, p, o :: os => rowO h j p o ∧ mRowsP h (j + 1) (p + lenO o) os
theorem rowO.eo {h h' : Hp} {j p : Nat} {o : Option Rule} (q : rowO h j p o) (e : ∀ a, 312 ≤ a → a ≤ 316 → hI h' a (120 + j) = hI h a (120 + j)) : rowO h' j p o := by
  cases o with
  | none => unfold rowO at q ⊢; rw [e 312 (by decide) (by decide)]; exact q
  | some r => unfold rowO at q ⊢; rw [e 312 (by decide) (by decide), e 313 (by decide) (by decide), e 314 (by decide) (by decide), e 315 (by decide) (by decide), e 316 (by decide) (by decide)]; exact q
theorem mRowsP.eo {h h' : Hp} : ∀ {os : List (Option Rule)} {j p : Nat}, mRowsP h j p os → (∀ a i, 312 ≤ a → a ≤ 316 → i < j + os.length → hI h' a (120 + i) = hI h a (120 + i)) → mRowsP h' j p os
  | [], _, _, _, _ => trivial
  | o :: os, j, p, q, e => by
    have l : j + (o :: os).length = j + 1 + os.length := by rw [List.length_cons]; omega
    rw [l] at e
    exact ⟨q.1.eo fun a h1 h2 => e a j h1 h2 (by omega), q.2.eo e⟩
theorem stO (o : Option Rule) (os : List (Option Rule)) : (stOf (rulesOf (o :: os))).length = lenO o + (stOf (rulesOf os)).length := by
  cases o with
  | none => exact (Nat.zero_add _).symm
  | some r =>
    have e : stOf (rulesOf (some r :: os)) = (r.2.1 ++ r.2.2) ++ stOf (rulesOf os) := rfl
    rw [e, List.length_append, List.length_append]; rfl
theorem mRowsP.sn {h h' : Hp} {o : Option Rule} : ∀ {os : List (Option Rule)} {j p : Nat}, mRowsP h j p os → (∀ a i, 312 ≤ a → a ≤ 316 → i < j + os.length → hI h' a (120 + i) = hI h a (120 + i)) → rowO h' (j + os.length) (p + (stOf (rulesOf os)).length) o → mRowsP h' j p (os ++ [o])
  | [], _, _, _, _, r => ⟨r, trivial⟩
  | b :: os, j, p, q, e, r => by
    have l : j + (b :: os).length = j + 1 + os.length := by rw [List.length_cons]; omega
    rw [stO, l, ← Nat.add_assoc] at r
    rw [l] at e
    exact ⟨q.1.eo fun a h1 h2 => e a j h1 h2 (by omega), q.2.sn e r⟩
theorem mSteps.at {h : Hp} {l : Nat} : ∀ {ss : List (Nat × Nat)} {j i : Nat}, mSteps h l j ss → i < ss.length → hI h 320 (20 * l + (j + i)) = Int32.ofNat (ss.getD i (0, 0)).1
  | [], _, _, _, hi => absurd hi (Nat.not_lt_zero _)
  | s :: ss, j, 0, q, _ => q.1.1
  | s :: ss, j, i + 1, q, hi => by
    have := mSteps.at (i := i) q.2 (by simpa using hi)
    rw [List.getD_cons_succ, ← this]; congr 1; omega
theorem mSteps.sn {h h' : Hp} {l : Nat} {s : Nat × Nat} : ∀ {ss : List (Nat × Nat)} {j : Nat}, mSteps h l j ss → (∀ i, i < j + ss.length → hI h' 320 (20 * l + i) = hI h 320 (20 * l + i) ∧ hI h' 321 (20 * l + i) = hI h 321 (20 * l + i)) → hI h' 320 (20 * l + (j + ss.length)) = Int32.ofNat s.1 → hI h' 321 (20 * l + (j + ss.length)) = Int32.ofNat s.2 → mSteps h' l j (ss ++ [s])
  | [], j, _, _, e1, e2 => ⟨⟨e1, e2⟩, trivial⟩
  | n :: r, j, q, e, e1, e2 => by
    have l : j + (n :: r).length = j + 1 + r.length := by rw [List.length_cons]; omega
    rw [l] at e e1 e2
    exact ⟨by have := e j (by omega); rw [this.1, this.2]; exact q.1, mSteps.sn q.2 e e1 e2⟩
theorem mSteps.e0 {h h' : Hp} {l : Nat} (e1 : hI h' 320 = hI h 320) (e2 : hI h' 321 = hI h 321) : ∀ {ss : List (Nat × Nat)} {j : Nat}, mSteps h l j ss → mSteps h' l j ss
  | [], _, _ => trivial
  | _ :: _, _, q => ⟨by rw [e1, e2]; exact q.1, mSteps.e0 e1 e2 q.2⟩
/-- the rows of the LAW that the model reads; of its lines m were counted -/
def MRow (h : Hp) (m : Nat) (S : LSt) : Prop := hI h 301 34 = Int32.ofNat m ∧ mRowsP h 0 0 S.1 ∧ hI h 319 6 = Int32.ofNat S.2.1.length ∧ mSteps h 6 0 S.2.1 ∧ hI h 318 6 = Int32.ofNat (S.2.2.1.getD 0) ∧ hI h 322 6 = Int32.ofNat (S.2.2.2.getD 0) ∧ hI h 323 6 = bi S.2.2.1.isSome ∧ hI h 324 6 = bi S.2.2.2.isSome
theorem MRow.eo {h h' : Hp} {m : Nat} {S : LSt} (q : MRow h m S) (e : ∀ a, 312 ≤ a → a ≤ 324 → a ≠ 317 → hI h' a = hI h a) (e1 : hI h' 301 34 = hI h 301 34) : MRow h' m S := by
  obtain ⟨q1, q2, q3, q4, q5, q6, q7, q8⟩ := q
  exact ⟨by rw [e1]; exact q1, q2.eo fun a i h1 h2 _ => by rw [e a h1 (by omega) (by omega)], by rw [e 319 (by decide) (by decide) (by decide)]; exact q3, q4.e0 (e _ (by decide) (by decide) (by decide)) (e _ (by decide) (by decide) (by decide)), by rw [e 318 (by decide) (by decide) (by decide)]; exact q5, by rw [e 322 (by decide) (by decide) (by decide)]; exact q6, by rw [e 323 (by decide) (by decide) (by decide)]; exact q7, by rw [e 324 (by decide) (by decide) (by decide)]; exact q8⟩
theorem MRow.mf {h h' : Hp} {m : Nat} {S : LSt} (q : MRow h m S) (f : MFr h h') : MRow h' m S := q.eo (fun a h1 h2 h3 => f.1.i (by omega)) (f.2.1 34 (by omega))
/-- a row beyond those counted is written -/
theorem MRow.w {h : Hp} {m a n : Nat} {v : Int32} {S : LSt} (q : MRow h m S) (hn : n = S.1.length) (ha : 312 ≤ a ∧ a ≤ 316) : MRow (sI h a (120 + n) v) m S := by
  obtain ⟨q1, q2, q3, q4, q5, q6, q7, q8⟩ := q
  have o : ∀ b, ¬ (312 ≤ b ∧ b ≤ 316) → hI (sI h a (120 + n) v) b = hI h b := fun b hb => sI_other (by omega)
  refine ⟨by rw [o 301 (by omega)]; exact q1, q2.eo fun b i h1 h2 h3 => ?_, by rw [o 319 (by omega)]; exact q3, q4.e0 (o _ (by omega)) (o _ (by omega)), by rw [o 318 (by omega)]; exact q5, by rw [o 322 (by omega)]; exact q6, by rw [o 323 (by omega)]; exact q7, by rw [o 324 (by omega)]; exact q8⟩
  by_cases e : b = a
  · rw [e, hI_sI_self, up1, if_neg (by omega)]
  · rw [sI_other e]
theorem MRow.sn {h : Hp} {m : Nat} {S : LSt} {o : Option Rule} (q : MRow h m S) (r : rowO h S.1.length (stOf (rulesOf S.1)).length o) : MRow h m (S.1 ++ [o], S.2) := by
  obtain ⟨q1, q2⟩ := q
  exact ⟨q1, q2.1.sn (fun _ _ _ _ _ => rfl) (by rw [Nat.zero_add, Nat.zero_add]; exact r), q2.2⟩
/-- the model's reader, between lines -/
def MLw (T : Nat → Nat) (L : Nat) (h0 h : Hp) (k : Nat) (S : LSt) : Prop := (∃ dd, MP T L h k (stOf (rulesOf S.1)) dd 0) ∧ MRow h S.1.length S ∧ FrM h0 h ∧ hI h 301 45 = 0
/-- and in a line -/
def MLb (T : Nat → Nat) (L : Nat) (h0 h : Hp) (k n : Nat) (S : LSt) : Prop := MP T L h k (stOf (rulesOf S.1)) 0 0 ∧ MRow h n S ∧ FrM h0 h ∧ hI h 301 45 = 0
def SimN (T : Nat → Nat) (L : Nat) (h0 : Hp) (n : Nat) (r : LRes) (v : Int32) (h : Hp) : Prop := FrM h0 h ∧ (r.1 = 0 → v = 1 ∧ MLb T L h0 h r.2.1 n r.2.2) ∧ (r.1 ≠ 0 → v = 0 ∧ hI h 301 40 = Int32.ofNat r.1 ∧ hI h 301 41 = Int32.ofNat (tP T L r.2.1))
def SimW (T : Nat → Nat) (L : Nat) (h0 : Hp) (r : LRes) (v : Int32) (h : Hp) : Prop := FrM h0 h ∧ (r.1 = 0 → v = 1 ∧ MLw T L h0 h r.2.1 r.2.2) ∧ (r.1 ≠ 0 → v = 0 ∧ hI h 301 40 = Int32.ofNat r.1 ∧ hI h 301 41 = Int32.ofNat (tP T L r.2.1))
theorem SimW.val {T : Nat → Nat} {L : Nat} {h0 h' : Hp} {r : LRes} {v : Int32} (s : SimW T L h0 r v h') : okN .boolean v := by
  by_cases z : r.1 = 0
  · rw [(s.2.1 z).1]; decide
  · rw [(s.2.2 z).1]; decide
section MW
variable {X : Ctx} {d : Nat} {Q : Option Value → Hp → Prop} {T : Nat → Nat} {L : Nat} {h0 h : Hp}
theorem MLb.mf {k k' n dd e : Nat} {S : LSt} {h' : Hp} (q : MLb T L h0 h k n S) (f : MFr h h') (p : MP T L h' k' (stOf (rulesOf S.1)) 0 e) : MLb T L h0 h' k' n S := ⟨p.wk (Nat.zero_le _), q.2.1.mf f, q.2.2.1.mf f, by rw [f.2.1 45 (by omega)]; exact q.2.2.2⟩
theorem MLb.w {k n a : Nat} {v : Int32} {S : LSt} (q : MLb T L h0 h k n S) (hn : n = S.1.length) (ha : 312 ≤ a ∧ a ≤ 316) : MLb T L h0 (sI h a (120 + n) v) k n S := ⟨q.1.w (by omega) (by omega) (by omega), q.2.1.w hn ha, q.2.2.1.w (by omega) (by unfold lowM; omega), by rw [sI_other (by omega)]; exact q.2.2.2⟩
theorem w_nextB {k n : Nat} {S : LSt} {f : Hp → Option (Option Value × Hp)} (hv : X.2.2 = .null ∨ X.2.2 = .ref 61) (I : Inv h) (q : MLb T L h0 h k n S) (nn : tC T L k ≠ 101) (kk : ∀ h', Inv h' → MLb T L h0 h' (k + 1) n S → (∀ a, a ≠ 301 → a ≠ 317 → hI h' a = hI h a) → Wp (f h') Q) : Wp (gd (hS h 301 = (12, 0)) (bV (K X (d + 8) 159 [.ref 301] h) f)) Q := w_next (h0 := h) hv I q.1 MFr.rf nn fun h' I' p M _ => kk h' I' (q.mf (dd := 0) M p) fun a h1 h2 => M.1.i (by omega)
/-- the model's word of a fault -/
theorem w_badN {k w : Nat} {h1 : Hp} {S S' : LSt} {r : LRes} {st : List Op} {dd e : Nat} (I : Inv h) (p : MP T L h k st dd e) (F : FrM h0 h) (hw : w ≠ 0) (hr : r = (w, k, S')) : Wp (gd (hS h 301 = (12, 0)) (bI (K X (d + 1) 160 [.ref 301, .int (Int32.ofNat w)] h) fun r2 h2 => gd (okN .boolean r2) (some (some (.int r2), h2)))) (VI fun v h' => FrM h0 h' ∧ v = 0 ∧ hI h' 301 40 = Int32.ofNat r.1 ∧ hI h' 301 41 = Int32.ofNat (tP T L r.2.1)) := by
  subst hr
  refine w_gS I s_301 ?_
  refine w_bI I (m_bad (w := w) (d := d) (h0 := h) (st0 := st) I p MFr.rf hw) (by decide) rfl fun x h2 I2 s => ?_
  obtain ⟨rfl, t1, t2⟩ := s.2.2 hw
  exact w_gd (by decide) (Wp.reti ⟨F.mf s.1, rfl, t1, t2⟩)
theorem w_badW {k w n : Nat} {S S' : LSt} {r : LRes} (I : Inv h) (q : MLw T L h0 h k S) (hw : w ≠ 0) (hr : r = (w, k, S')) : Wp (gd (hS h 301 = (12, 0)) (bI (K X (d + 1) 160 [.ref 301, .int (Int32.ofNat w)] h) fun r2 h2 => gd (okN .boolean r2) (some (some (.int r2), h2)))) (VI fun v h' => SimW T L h0 r v h') := by
  obtain ⟨dd, p⟩ := q.1
  refine (w_badN (h1 := h) (S := S) I p q.2.2.1 hw hr).mono fun v h' hh => ?_
  obtain ⟨x, rfl, a, b, c⟩ := hh
  exact ⟨x, rfl, a, fun z => absurd z (by rw [hr]; exact hw), fun _ => ⟨b, c⟩⟩
theorem w_badB {k w n : Nat} {S S' : LSt} {r : LRes} (I : Inv h) (q : MLb T L h0 h k n S) (hw : w ≠ 0) (hr : r = (w, k, S')) : Wp (gd (hS h 301 = (12, 0)) (bI (K X (d + 1) 160 [.ref 301, .int (Int32.ofNat w)] h) fun r2 h2 => gd (okN .boolean r2) (some (some (.int r2), h2)))) (VI fun v h' => SimN T L h0 n r v h') := by
  refine (w_badN (h1 := h) (S := S) I q.1 q.2.2.1 hw hr).mono fun v h' hh => ?_
  obtain ⟨x, rfl, a, b, c⟩ := hh
  exact ⟨x, rfl, a, fun z => absurd z (by rw [hr]; exact hw), fun _ => ⟨b, c⟩⟩
theorem simN_no {r : PRes} {S : LSt} {f : Nat → List Op → LRes} {n : Nat} {h' : Hp} (hr : r.1 ≠ 0) (F : FrM h0 h') (t1 : hI h' 301 40 = Int32.ofNat r.1) (t2 : hI h' 301 41 = Int32.ofNat (tP T L r.2.1)) : SimN T L h0 n (bL r S f) 0 h' := by
  rw [bL_no hr]
  exact ⟨F, fun z => absurd z hr, fun _ => ⟨rfl, t1, t2⟩⟩
/-- the line ends -/
theorem w_tail {k n : Nat} {S : LSt} (hv : X.2.2 = .null ∨ X.2.2 = .ref 61) (I : Inv h) (q : MLb T L h0 h k n S) (hn : S.1.length = n + 1) : Wp (gI h 11 301 34 fun g1 => fI h 11 301 34 (g1 + 1) fun h1 => gd (hS h1 301 = (12, 0)) (bI (K X (d + 9) 161 [.ref 301, .int 159] h1) fun r2 h2 => gd (okN .boolean r2) (some (some (.int r2), h2)))) (VI fun v h' => SimW T L h0 (eL (tC T L) (0, k, S)) v h') := by
  obtain ⟨q1, q2, q3, q4⟩ := q
  refine w_gI I s_301 ?_
  rw [q2.1, i32_ofNat_succ]
  refine w_fI I s_301 fun I1 => ?_
  have p1 := q1.s (j := 34) (v := Int32.ofNat (n + 1)) (by omega)
  have R1 : MRow (sI h 301 34 (Int32.ofNat (n + 1))) (n + 1) S := by
    obtain ⟨r1, r2, r3, r4, r5, r6, r7, r8⟩ := q2
    have o : ∀ a, a ≠ 301 → hI (sI h 301 34 (Int32.ofNat (n + 1))) a = hI h a := fun a ha => sI_other ha
    exact ⟨by rw [hI_sI_self, up1, if_pos rfl], r2.eo fun a i h1 h2 _ => by rw [o a (by omega)], by rw [o 319 (by decide)]; exact r3, r4.e0 (o _ (by decide)) (o _ (by decide)), by rw [o 318 (by decide)]; exact r5, by rw [o 322 (by decide)]; exact r6, by rw [o 323 (by decide)]; exact r7, by rw [o 324 (by decide)]; exact r8⟩
  refine w_gS I1 s_301 ?_
  refine w_bI I1 (m_161 (d := d) (t := 59) (m := 159) (h0 := sI h 301 34 (Int32.ofNat (n + 1))) hv I1 p1 MFr.rf (vsg ⟨by decide, by decide⟩) rfl (by decide)) (by decide) rfl fun x h2 I2 s => ?_
  have F1 : FrM h0 (sI h 301 34 (Int32.ofNat (n + 1))) := q3.s (by omega)
  obtain ⟨s1, s2, s3⟩ := s
  have e : eL (tC T L) (0, k, S) = if tC T L k = 59 then (0, k + 1, S) else (1, k, S) := rfl
  rw [e]
  by_cases z : tC T L k = 59
  · rw [if_pos z] at s2 s3 ⊢
    obtain ⟨rfl, p2⟩ := s2 rfl
    rw [List.append_nil] at p2
    refine w_gd (by decide) (Wp.reti ⟨F1.mf s1, fun _ => ⟨rfl, ⟨_, p2⟩, by show MRow h2 S.1.length S; rw [hn]; exact R1.mf s1, F1.mf s1, ?_⟩, fun y => absurd rfl y⟩)
    rw [s1.2.1 45 (by omega), hI_sI_self, up1, if_neg (by decide)]; exact q4
  · rw [if_neg z] at s2 s3 ⊢
    obtain ⟨rfl, t1, t2⟩ := s3 (Nat.succ_ne_zero _)
    exact w_gd (by decide) (Wp.reti ⟨F1.mf s1, fun y => absurd y (Nat.succ_ne_zero _), fun _ => ⟨rfl, t1, t2⟩⟩)
end MW
