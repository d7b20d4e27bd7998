/-! TEXT: lines of a LAW, purely -/
abbrev LSt : Type := List (Option Rule) × List (Nat × Nat) × Option Nat × Option Nat
abbrev LRes : Type := Nat × Nat × LSt
def stOf (rs : List Rule) : List Op := rs.flatMap fun r => r.2.1 ++ r.2.2
theorem stOf_sn (rs : List Rule) (r : Rule) : stOf (rs ++ [r]) = stOf rs ++ (r.2.1 ++ r.2.2) := by
  unfold stOf; rw [List.flatMap_append]; congr 1; show (r.2.1 ++ r.2.2) ++ [] = _; rw [List.append_nil]
theorem rules_sn (os : List (Option Rule)) (r : Rule) : rulesOf (os ++ [some r]) = rulesOf os ++ [r] := by unfold rulesOf; rw [List.filterMap_append]; rfl
theorem rules_no (os : List (Option Rule)) : rulesOf (os ++ [none]) = rulesOf os := by unfold rulesOf; rw [List.filterMap_append]; exact List.append_nil _
theorem rules_len (os : List (Option Rule)) : (rulesOf os).length ≤ os.length := List.length_filterMap_le ..
def stM (ss : List (Nat × Nat)) : Nat := if ss.length = 0 then 0 else (ss.getD (ss.length - 1) (0, 0)).1 + 1
def bL (r : PRes) (S : LSt) (f : Nat → List Op → LRes) : LRes := if r.1 = 0 then f r.2.1 r.2.2 else (r.1, r.2.1, S)
theorem bL_ok {r : PRes} {S : LSt} {f : Nat → List Op → LRes} (h : r.1 = 0) : bL r S f = f r.2.1 r.2.2 := if_pos h
theorem bL_no {r : PRes} {S : LSt} {f : Nat → List Op → LRes} (h : r.1 ≠ 0) : bL r S f = (r.1, r.2.1, S) := if_neg h
def rlV (x : Nat) : Nat := if x = 21 then 1 else if x = 16 then 2 else 0
section PLN
variable (c v : Nat → Nat) (N : Nat)
def pMin (k : Nat) (S : LSt) : LRes := bL (pAny c v N k) S fun k' o => (0, k', (S.1 ++ [some (6, [], o)], S.2))
def pTk (k : Nat) (S : LSt) : LRes := if 8 ≤ c k ∧ c k ≤ 13 then bL (pSum c v N (k + 1)) S fun k1 o1 => if c k1 = 19 then bL (pAny c v N (k1 + 1)) S fun k2 o2 => (0, k2, (S.1 ++ [some (c k - 8, o1, o2)], S.2)) else (0, k1, (S.1 ++ [some (c k - 8, o1, [])], S.2)) else (1, k, S)
def pFr (k : Nat) (S : LSt) : LRes := if c k = 100 then (0, k + 1, (S.1 ++ [none], S.2.1, some (v k), S.2.2.2)) else (1, k, S)
def pSt (k : Nat) (S : LSt) : LRes := if c k = 100 then (if stM S.2.1 ≤ v k then (if c (k + 1) = 100 then (if v (k + 1) ≤ 100 then (0, k + 2, (S.1 ++ [none], S.2.1 ++ [(v k, v (k + 1))], S.2.2)) else (2, k + 1, S)) else (1, k + 1, S)) else (2, k, S)) else (1, k, S)
def pRl (k : Nat) (S : LSt) : LRes := if c k = 20 ∨ c k = 21 ∨ c k = 16 then (0, k + 1, (S.1 ++ [none], S.2.1, S.2.2.1, some (rlV (c k)))) else (1, k, S)
def pBd (k : Nat) (S : LSt) : LRes := if c k = 14 then pMin c v N (k + 1) S else if c k = 15 then pTk c v N (k + 1) S else if c k = 16 then pFr c v (k + 1) S else if c k = 17 then pSt c v (k + 1) S else pRl c (k + 1) S
def eL (r : LRes) : LRes := if r.1 = 0 then (if c r.2.1 = 59 then (0, r.2.1 + 1, r.2.2) else (1, r.2.1, r.2.2)) else r
def pLn (k : Nat) (S : LSt) : LRes := if c k < 14 ∨ 18 < c k then (1, k, S) else if 20 ≤ S.1.length then (3, k, S) else if (c k = 16 ∧ S.2.2.1.isSome = true) ∨ (c k = 18 ∧ S.2.2.2.isSome = true) then (3, k, S) else eL c (pBd c v N k S)
def pLw : Nat → Nat → LSt → LRes
  | 0, k, S => (0, k, S)
  | f + 1, k, S => if c k = 101 then (0, k, S) else if (pLn c v N k S).1 = 0 then pLw f (pLn c v N k S).2.1 (pLn c v N k S).2.2 else pLn c v N k S
end PLN
/-- what was read so far can be told -/
def okLS (S : LSt) : Prop := (rulesOf S.1).length + S.2.1.length ≤ S.1.length ∧ S.1.length ≤ 20 ∧ (∀ r, r ∈ rulesOf S.1 → okR r) ∧ (∀ s, s ∈ S.2.1 → s.1 ≤ 999999 ∧ s.2 ≤ 100) ∧ S.2.2.1.getD 0 ≤ 999999 ∧ S.2.2.2.getD 0 ≤ 2
def lawOf (S : LSt) : ALaw := (rulesOf S.1, S.2.1, S.2.2.1.getD 0, S.2.2.2.getD 0)
theorem okLS.okL {S : LSt} (q : okLS S) : okL (lawOf S) := ⟨by have := q.1; have := q.2.1; show (rulesOf S.1).length ≤ 20; omega, q.2.2.1, by have := q.1; have := q.2.1; show S.2.1.length ≤ 20; omega, q.2.2.2.1, q.2.2.2.2.1, q.2.2.2.2.2⟩
/-- what a line that went well says -/
def GdL (c : Nat → Nat) (k : Nat) (S : LSt) (r : LRes) : Prop := r.1 = 0 → k < r.2.1 ∧ NE c r.2.1 ∧ okLS r.2.2 ∧ r.2.2.1.length = S.1.length + 1
section PLF
variable {c v : Nat → Nat} {N : Nat}
theorem okLS.rule {S : LSt} {r : Rule} (q : okLS S) (hl : S.1.length < 20) (h : okR r) : okLS (S.1 ++ [some r], S.2) := by
  obtain ⟨q1, q2, q3, q4, q5, q6⟩ := q
  refine ⟨?_, ?_, fun x hx => ?_, q4, q5, q6⟩
  · show (rulesOf (S.1 ++ [some r])).length + S.2.1.length ≤ (S.1 ++ [some r]).length
    rw [rules_sn, List.length_append, List.length_append]; show (rulesOf S.1).length + 1 + S.2.1.length ≤ S.1.length + 1; omega
  · show (S.1 ++ [some r]).length ≤ 20
    rw [List.length_append]; show S.1.length + 1 ≤ 20; omega
  · have hx : x ∈ rulesOf (S.1 ++ [some r]) := hx
    rw [rules_sn, List.mem_append] at hx
    rcases hx with z | z
    · exact q3 x z
    · rw [List.mem_singleton.mp z]; exact h
theorem okLS.nn {S : LSt} {T : List (Nat × Nat) × Option Nat × Option Nat} (q : okLS S) (hl : S.1.length < 20) (h1 : T.1.length ≤ S.2.1.length + 1) (h2 : ∀ s, s ∈ T.1 → s.1 ≤ 999999 ∧ s.2 ≤ 100) (h3 : T.2.1.getD 0 ≤ 999999) (h4 : T.2.2.getD 0 ≤ 2) : okLS (S.1 ++ [none], T) := by
  obtain ⟨q1, q2, q3, q4, q5, q6⟩ := q
  refine ⟨?_, ?_, fun x hx => ?_, h2, h3, h4⟩
  · show (rulesOf (S.1 ++ [none])).length + T.1.length ≤ (S.1 ++ [none]).length
    rw [rules_no, List.length_append]; show (rulesOf S.1).length + T.1.length ≤ S.1.length + 1; omega
  · show (S.1 ++ [none]).length ≤ 20
    rw [List.length_append]; show S.1.length + 1 ≤ 20; omega
  · have hx : x ∈ rulesOf (S.1 ++ [none]) := hx
    rw [rules_no] at hx
    exact q3 x hx
theorem sn_len (os : List (Option Rule)) (o : Option Rule) : (os ++ [o]).length = os.length + 1 := by rw [List.length_append]; rfl
theorem gd_min (hv : ∀ k, v k ≤ 999999) {k : Nat} {S : LSt} (ne : NE c k) (q : okLS S) (hl : S.1.length < 20) : GdL c k S (pMin c v N k S) := fun h => by
  unfold pMin at h ⊢
  by_cases z : (pAny c v N k).1 = 0
  · rw [bL_ok z]
    obtain ⟨g1, g2, g3, g4⟩ := gd_any hv ne z
    exact ⟨g1, g2, q.rule hl ⟨Nat.le_refl 6, fun _ => ⟨rfl, (g4 0 (by decide)).okS (by decide)⟩, fun y => absurd y (Nat.lt_irrefl 6)⟩, sn_len ..⟩
  · rw [bL_no z] at h; exact absurd h z
theorem gd_tk (hv : ∀ k, v k ≤ 999999) {k : Nat} {S : LSt} (ne : NE c k) (q : okLS S) (hl : S.1.length < 20) : GdL c k S (pTk c v N k S) := fun h => by
  unfold pTk at h ⊢
  by_cases y : 8 ≤ c k ∧ c k ≤ 13
  · rw [if_pos y] at h ⊢
    by_cases z : (pSum c v N (k + 1)).1 = 0
    · rw [bL_ok z] at h ⊢
      obtain ⟨g1, g2, g3, g4⟩ := gd_sum hv (ne.s (show c k ≠ 101 by omega)) z
      have o1 := (g4 0 (by decide)).okS (by decide)
      by_cases w : c (pSum c v N (k + 1)).2.1 = 19
      · rw [if_pos w] at h ⊢
        by_cases u : (pAny c v N ((pSum c v N (k + 1)).2.1 + 1)).1 = 0
        · rw [bL_ok u]
          obtain ⟨e1, e2, e3, e4⟩ := gd_any hv (g2.s (show c (pSum c v N (k + 1)).2.1 ≠ 101 by omega)) u
          exact ⟨by show k < (pAny c v N ((pSum c v N (k + 1)).2.1 + 1)).2.1; omega, e2, q.rule hl ⟨by show c k - 8 ≤ 6; omega, fun x => absurd (show c k - 8 = 6 from x) (by omega), fun _ => ⟨o1, Or.inr ((e4 0 (by decide)).okS (by decide))⟩⟩, sn_len ..⟩
        · rw [bL_no u] at h; exact absurd h u
      · rw [if_neg w] at h ⊢
        exact ⟨by show k < (pSum c v N (k + 1)).2.1; omega, g2, q.rule hl ⟨by show c k - 8 ≤ 6; omega, fun x => absurd (show c k - 8 = 6 from x) (by omega), fun _ => ⟨o1, Or.inl rfl⟩⟩, sn_len ..⟩
    · rw [bL_no z] at h; exact absurd h z
  · rw [if_neg y] at h; cases h
theorem gd_fr (hv : ∀ k, v k ≤ 999999) {k : Nat} {S : LSt} (ne : NE c k) (q : okLS S) (hl : S.1.length < 20) : GdL c k S (pFr c v k S) := fun h => by
  unfold pFr at h ⊢
  by_cases y : c k = 100
  · rw [if_pos y]
    exact ⟨Nat.lt_succ_self k, ne.s (by omega), q.nn hl (Nat.le_succ _) q.2.2.2.1 (hv k) q.2.2.2.2.2, sn_len ..⟩
  · rw [if_neg y] at h; cases h
theorem gd_st (hv : ∀ k, v k ≤ 999999) {k : Nat} {S : LSt} (ne : NE c k) (q : okLS S) (hl : S.1.length < 20) : GdL c k S (pSt c v k S) := fun h => by
  unfold pSt at h ⊢
  by_cases y : c k = 100
  · rw [if_pos y] at h ⊢
    by_cases z : stM S.2.1 ≤ v k
    · rw [if_pos z] at h ⊢
      by_cases w : c (k + 1) = 100
      · rw [if_pos w] at h ⊢
        by_cases u : v (k + 1) ≤ 100
        · rw [if_pos u]
          refine ⟨by show k < k + 2; omega, (ne.s (by omega)).s (by omega), q.nn hl ?_ (fun s hs => ?_) q.2.2.2.2.1 q.2.2.2.2.2, sn_len ..⟩
          · show (S.2.1 ++ [(v k, v (k + 1))]).length ≤ S.2.1.length + 1
            rw [List.length_append]; exact Nat.le_refl _
          · have hs : s ∈ S.2.1 ++ [(v k, v (k + 1))] := hs
            rcases List.mem_append.mp hs with t | t
            · exact q.2.2.2.1 s t
            · rw [List.mem_singleton.mp t]; exact ⟨hv k, u⟩
        · rw [if_neg u] at h; cases h
      · rw [if_neg w] at h; cases h
    · rw [if_neg z] at h; cases h
  · rw [if_neg y] at h; cases h
theorem rlV_le (x : Nat) : rlV x ≤ 2 := by unfold rlV; split; decide; split <;> decide
theorem gd_rl {k : Nat} {S : LSt} (ne : NE c k) (q : okLS S) (hl : S.1.length < 20) : GdL c k S (pRl c k S) := fun h => by
  unfold pRl at h ⊢
  by_cases y : c k = 20 ∨ c k = 21 ∨ c k = 16
  · rw [if_pos y]
    exact ⟨Nat.lt_succ_self k, ne.s (by omega), q.nn hl (Nat.le_succ _) q.2.2.2.1 q.2.2.2.2.1 (rlV_le _), sn_len ..⟩
  · rw [if_neg y] at h; cases h
theorem gd_bd (hv : ∀ k, v k ≤ 999999) {k : Nat} {S : LSt} (ne : NE c k) (n101 : c k ≠ 101) (q : okLS S) (hl : S.1.length < 20) : GdL c (k + 1) S (pBd c v N k S) := by
  have n := ne.s n101
  unfold pBd
  split
  · exact gd_min hv n q hl
  · split
    · exact gd_tk hv n q hl
    · split
      · exact gd_fr hv n q hl
      · split
        · exact gd_st hv n q hl
        · exact gd_rl n q hl
theorem gd_ln (hv : ∀ k, v k ≤ 999999) {k : Nat} {S : LSt} (ne : NE c k) (q : okLS S) : GdL c k S (pLn c v N k S) := fun h => by
  unfold pLn at h ⊢
  by_cases y : c k < 14 ∨ 18 < c k
  · rw [if_pos y] at h; cases h
  · rw [if_neg y] at h ⊢
    by_cases z : 20 ≤ S.1.length
    · rw [if_pos z] at h; cases h
    · rw [if_neg z] at h ⊢
      by_cases w : (c k = 16 ∧ S.2.2.1.isSome = true) ∨ (c k = 18 ∧ S.2.2.2.isSome = true)
      · rw [if_pos w] at h; cases h
      · rw [if_neg w] at h ⊢
        unfold eL at h ⊢
        have g := gd_bd (v := v) (N := N) hv ne (by omega) q (by omega)
        by_cases u : (pBd c v N k S).1 = 0
        · rw [if_pos u] at h ⊢
          obtain ⟨g1, g2, g3, g4⟩ := g u
          by_cases t : c (pBd c v N k S).2.1 = 59
          · rw [if_pos t]
            exact ⟨by show k < (pBd c v N k S).2.1 + 1; omega, g2.s (by omega), g3, g4⟩
          · rw [if_neg t] at h; cases h
        · rw [if_neg u] at h; exact absurd h u
theorem ok_lw (hv : ∀ k, v k ≤ 999999) : ∀ (f k : Nat) (S : LSt), NE c k → okLS S → (pLw c v N f k S).1 = 0 → okLS (pLw c v N f k S).2.2
  | 0, _, _, _, q, _ => q
  | f + 1, k, S, ne, q, h => by
    unfold pLw at h ⊢
    by_cases y : c k = 101
    · rw [if_pos y]; exact q
    · rw [if_neg y] at h ⊢
      by_cases z : (pLn c v N k S).1 = 0
      · rw [if_pos z] at h ⊢
        obtain ⟨g1, g2, g3, g4⟩ := gd_ln hv ne q z
        exact ok_lw hv f _ _ g2 g3 h
      · rw [if_neg z] at h; exact absurd h z
end PLF
/-! TEXT: the class reads lines of a LAW -/
def cRowsP (h : Hp) (L : Nat) : Nat → Nat → List Rule → Prop
  | _, _, [] => True
  | j, p, r :: rs => (hI h (L + 2) j = Int32.ofNat r.1 ∧ hI h (L + 3) j = Int32.ofNat p ∧ hI h (L + 4) j = Int32.ofNat (p + (opsC r.2.1).length) ∧ hI h (L + 5) j = Int32.ofNat (p + (opsC r.2.1).length + (opsC r.2.2).length)) ∧ cRowsP h L (j + 1) (p + (opsC r.2.1).length + (opsC r.2.2).length) rs
theorem cRowsP.eo {h h' : Hp} {L : Nat} (e : ∀ k, 2 ≤ k → k ≤ 5 → hI h' (L + k) = hI h (L + k)) : ∀ {rs : List Rule} {j p : Nat}, cRowsP h L j p rs → cRowsP h' L j p rs
  | [], _, _, _ => trivial
  | _ :: _, _, _, q => ⟨by rw [e 2 (by decide) (by decide), e 3 (by decide) (by decide), e 4 (by decide) (by decide), e 5 (by decide) (by decide)]; exact q.1, cRowsP.eo e q.2⟩
theorem opsC_st (r : Rule) (rs : List Rule) : (opsC (stOf (r :: rs))).length = (opsC r.2.1).length + (opsC r.2.2).length + (opsC (stOf rs)).length := by
  have e : stOf (r :: rs) = (r.2.1 ++ r.2.2) ++ stOf rs := rfl
  rw [e, opsC_len, opsC_len]
theorem cRowsP.sn {h h' : Hp} {L : Nat} {r : Rule} : ∀ {rs : List Rule} {j p : Nat}, cRowsP h L j p rs → (∀ i, i < j + rs.length → hI h' (L + 2) i = hI h (L + 2) i ∧ hI h' (L + 3) i = hI h (L + 3) i ∧ hI h' (L + 4) i = hI h (L + 4) i ∧ hI h' (L + 5) i = hI h (L + 5) i) →
    (hI h' (L + 2) (j + rs.length) = Int32.ofNat r.1 ∧ hI h' (L + 3) (j + rs.length) = Int32.ofNat (p + (opsC (stOf rs)).length) ∧ hI h' (L + 4) (j + rs.length) = Int32.ofNat (p + (opsC (stOf rs)).length + (opsC r.2.1).length) ∧ hI h' (L + 5) (j + rs.length) = Int32.ofNat (p + (opsC (stOf rs)).length + (opsC r.2.1).length + (opsC r.2.2).length)) → cRowsP h' L j p (rs ++ [r])
  | [], j, p, _, _, e => ⟨e, trivial⟩
  | s :: rs, j, p, q, e, f => by
    have l : j + (s :: rs).length = j + 1 + rs.length := by rw [List.length_cons]; omega
    rw [l] at e f
    rw [opsC_st] at f
    obtain ⟨e1, e2, e3, e4⟩ := e j (by omega)
    refine ⟨by rw [e1, e2, e3, e4]; exact q.1, cRowsP.sn q.2 e ?_⟩
    have x : p + (opsC s.2.1).length + (opsC s.2.2).length + (opsC (stOf rs)).length = p + ((opsC s.2.1).length + (opsC s.2.2).length + (opsC (stOf rs)).length) := by omega
    rw [x]; exact f
theorem codeAt.split {h : Hp} {a : Nat} : ∀ {cs ds : List Int32} {p : Nat}, codeAt h a p (cs ++ ds) → codeAt h a p cs ∧ codeAt h a (p + cs.length) ds := fun {cs ds p} q => by
  refine ⟨fun j hj => ?_, fun j hj => ?_⟩
  · have := q j (by rw [List.length_append]; omega)
    rw [this, List.getD_eq_getElem?_getD, List.getD_eq_getElem?_getD, List.getElem?_append_left hj]
  · have := q (cs.length + j) (by rw [List.length_append]; omega)
    rw [show p + cs.length + j = p + (cs.length + j) by omega, this, List.getD_eq_getElem?_getD, List.getD_eq_getElem?_getD, List.getElem?_append_right (by omega), Nat.add_sub_cancel_left]
/-- where the rows and the codes are in place, there are rules -/
theorem cRowsP.rules {h : Hp} {L : Nat} : ∀ {rs : List Rule} {j p : Nat}, cRowsP h L j p rs → codeAt h (L + 1) p (opsC (stOf rs)) → p + (opsC (stOf rs)).length ≤ 600 → cRules h L j rs
  | [], _, _, _, _, _ => trivial
  | r :: rs, j, p, q, c, hp => by
    rw [opsC_st] at hp
    have e : stOf (r :: rs) = r.2.1 ++ (r.2.2 ++ stOf rs) := by show (r.2.1 ++ r.2.2) ++ stOf rs = _; rw [List.append_assoc]
    rw [e, opsC_app, opsC_app] at c
    obtain ⟨c1, c2⟩ := c.split
    obtain ⟨c3, c4⟩ := c2.split
    obtain ⟨q1, q2, q3, q4⟩ := q.1
    exact ⟨⟨p, _, _, q1, q2, q3, q4, c1, rfl, c3, rfl, by omega⟩, cRowsP.rules q.2 c4 (by omega)⟩
theorem cSteps.at {h : Hp} {L : Nat} : ∀ {ss : List (Nat × Nat)} {j i : Nat}, cSteps h L j ss → i < ss.length → hI h (L + 6) (j + i) = Int32.ofNat (ss.getD i (0, 0)).1
  | [], _, _, _, hi => absurd hi (Nat.not_lt_zero _)
  | s :: ss, j, 0, q, _ => q.1.1
  | s :: ss, j, i + 1, q, hi => by
    have := cSteps.at (i := i) q.2 (by simpa using hi)
    rw [List.getD_cons_succ, ← this]; congr 1; omega
theorem cSteps.sn {h h' : Hp} {L : Nat} {s : Nat × Nat} : ∀ {ss : List (Nat × Nat)} {j : Nat}, cSteps h L j ss → (∀ i, i < j + ss.length → hI h' (L + 6) i = hI h (L + 6) i ∧ hI h' (L + 7) i = hI h (L + 7) i) → hI h' (L + 6) (j + ss.length) = Int32.ofNat s.1 → hI h' (L + 7) (j + ss.length) = Int32.ofNat s.2 → cSteps h' L j (ss ++ [s])
  | [], j, _, _, e1, e2 => ⟨⟨e1, e2⟩, trivial⟩
  | n :: r, j, q, e, e1, e2 => by
    have l : j + (n :: r).length = j + 1 + r.length := by rw [List.length_cons]; omega
    rw [l] at e e1 e2
    exact ⟨by have := e j (by omega); rw [this.1, this.2]; exact q.1, cSteps.sn q.2 e e1 e2⟩
theorem cSteps.sn0 {h h' : Hp} {L : Nat} {ss : List (Nat × Nat)} {j : Nat} (q : cSteps h L j ss) (e6 : hI h' (L + 6) = hI h (L + 6)) (e7 : hI h' (L + 7) = hI h (L + 7)) : cSteps h' L j ss := by
  induction ss generalizing j with
  | nil => trivial
  | cons s ss ih => exact ⟨by rw [e6, e7]; exact q.1, ih q.2⟩
/-- what reading a LAW writes -/
def WLw (Lw a : Nat) : Prop := a = 82 ∨ a = 87 ∨ (Lw ≤ a ∧ a ≤ Lw + 7)
def CRow (Lw : Nat) (h : Hp) (S : LSt) : Prop := hI h Lw 8 = Int32.ofNat (rulesOf S.1).length ∧ cRowsP h Lw 0 0 (rulesOf S.1) ∧ hI h Lw 9 = Int32.ofNat S.2.1.length ∧ cSteps h Lw 0 S.2.1 ∧ hI h Lw 10 = Int32.ofNat (S.2.2.1.getD 0) ∧ hI h Lw 11 = Int32.ofNat (S.2.2.2.getD 0) ∧ hI h 82 13 = bi S.2.2.1.isSome ∧ hI h 82 14 = bi S.2.2.2.isSome
theorem CFc.w {Lw : Nat} {h h' : Hp} (a : CFc Lw h h') : Eo (WLw Lw) h h' := a.1.wk fun x z => by unfold WLw; omega
theorem CFe.w {Lw : Nat} {h h' : Hp} (a : CFe Lw h h') : Eo (WLw Lw) h h' := a.c.w
theorem CRow.c {Lw : Nat} {h h' : Hp} {S : LSt} (hL : IsLaw Lw) (q : CRow Lw h S) (a : CFc Lw h h') : CRow Lw h' S := by
  have rg := hL.rg
  obtain ⟨q1, q2, q3, q4, q5, q6, q7, q8⟩ := q
  have o : ∀ k, 2 ≤ k → k ≤ 7 → hI h' (Lw + k) = hI h (Lw + k) := fun k h1 h2 => a.1.i (show ¬ (Lw + k = 82 ∨ Lw + k = 87 ∨ Lw + k = Lw ∨ Lw + k = Lw + 1) by omega)
  have f := a.2.2.1
  exact ⟨by rw [f 8 (by decide)]; exact q1, q2.eo fun k h1 h2 => o k h1 (by omega), by rw [f 9 (by decide)]; exact q3, q4.sn0 (o 6 (by decide) (by decide)) (o 7 (by decide) (by decide)), by rw [f 10 (by decide)]; exact q5, by rw [f 11 (by decide)]; exact q6, by rw [a.2.1 13 (by decide) (by decide) (by decide) (by decide) (by decide)]; exact q7, by rw [a.2.1 14 (by decide) (by decide) (by decide) (by decide) (by decide)]; exact q8⟩
/-- the class's reader, between lines -/
def CLw (T : Nat → Nat) (L n Lw : Nat) (h0 h : Hp) (k : Nat) (S : LSt) : Prop := CB T L n h k ∧ CL Lw h (opsC (stOf (rulesOf S.1))) ∧ (opsC (stOf (rulesOf S.1))).length ≤ k ∧ CRow Lw h S ∧ Eo (WLw Lw) h0 h
def SimL (T : Nat → Nat) (L n Lw : Nat) (h0 : Hp) (r : LRes) (v : Int32) (h : Hp) : Prop := Eo (WLw Lw) h0 h ∧ (r.1 = 0 → v = 1 ∧ CLw T L n Lw h0 h r.2.1 r.2.2) ∧ (r.1 ≠ 0 → v = 0 ∧ hI h 82 11 = Int32.ofNat r.1 ∧ hI h 82 12 = Int32.ofNat (tP T L r.2.1))
theorem SimL.val {T : Nat → Nat} {L n Lw : Nat} {h0 h' : Hp} {r : LRes} {v : Int32} (s : SimL T L n Lw h0 r v h') : okN .boolean v := by
  by_cases z : r.1 = 0
  · rw [(s.2.1 z).1]; decide
  · rw [(s.2.2 z).1]; decide
section CN
variable {X : Ctx} {d : Nat} {Q : Option Value → Hp → Prop} {T : Nat → Nat} {L n Lw : Nat} {h0 h : Hp}
theorem CLw.bad {k w : Nat} {S S' : LSt} (q : CLw T L n Lw h0 h k S) (hw : w ≠ 0) : SimL T L n Lw h0 (w, k, S') 0 (sI (sI h 82 11 (Int32.ofNat w)) 82 12 (Int32.ofNat (tP T L k))) := ⟨(q.2.2.2.2.kI (Or.inl rfl)).kI (Or.inl rfl), fun z => absurd z hw, fun _ => ⟨rfl, by rw [hI_sI_self, up1, if_neg (by decide), hI_sI_self, up1, if_pos rfl], by rw [hI_sI_self, up1, if_pos rfl]⟩⟩
theorem w_badL {k w : Nat} {S S' : LSt} {r : LRes} (I : Inv h) (q : CLw T L n Lw h0 h k S) (hw : w ≠ 0) (hr : r = (w, k, S')) : Wp (gd (hS h 82 = (6, 0)) (bI (K X (d + 1) 69 [.ref 82, .int (Int32.ofNat w)] h) fun r2 h2 => gd (okN .boolean r2) (some (some (.int r2), h2)))) (VI fun v h' => SimL T L n Lw h0 r v h') := by
  subst hr
  refine w_gS I s_82 ?_
  refine w_bI I (m_69 (w := w) (d := d) I q.1) (by decide) rfl ?_
  rintro x h2 I2 ⟨rfl, rfl⟩
  exact w_gd (by decide) (Wp.reti (q.bad hw))
/-- a step on, between lines -/
theorem w_atL {k : Nat} {S : LSt} {f : Hp → Option (Option Value × Hp)} (I : Inv h) (q : CLw T L n Lw h0 h k S) (nn : tC T L k ≠ 101) (kk : ∀ h', Inv h' → CLw T L n Lw h0 h' (k + 1) S → Wp (f h') Q) : Wp (gI h 5 82 8 fun g1 => fI h 5 82 8 (g1 + 1) f) Q := by
  obtain ⟨q1, q2, q3, q4, q5⟩ := q
  have hL := q2.2.1
  refine w_at I q1 nn fun I1 p1 => kk _ I1 ⟨p1, q2.s82, by omega, q4.c hL (CFc.rf.s82 hL (Or.inl rfl)), q5.kI (Or.inl rfl)⟩
/-- addRule -/
theorem w_rule {k kd s m : Nat} {S : LSt} {o1 o2 : List Op} {f : Hp → Option (Option Value × Hp)} (I : Inv h) (q : CB T L n h k) (c : CL Lw h (opsC (stOf (rulesOf S.1)) ++ opsC o1 ++ opsC o2)) (hc : (opsC (stOf (rulesOf S.1)) ++ opsC o1 ++ opsC o2).length ≤ k) (R : CRow Lw h S) (E : Eo (WLw Lw) h0 h) (hl : (rulesOf S.1).length < 20) (hs : s = (opsC (stOf (rulesOf S.1))).length) (hm : m = (opsC (stOf (rulesOf S.1))).length + (opsC o1).length)
    (kk : ∀ h', Inv h' → CLw T L n Lw h0 h' k (S.1 ++ [some (kd, o1, o2)], S.2) → Wp (f h') Q) : Wp (gd (hS h Lw = (2, 0)) (bV (K X (d + 1) 4 [.ref Lw, .int (Int32.ofNat kd), .int (Int32.ofNat s), .int (Int32.ofNat m)] h) f)) Q := by
  obtain ⟨c1, hL, c3, c4⟩ := c
  have rg := hL.rg
  have b := q.k
  obtain ⟨r1, r2, r3, r4, r5, r6, r7, r8⟩ := R
  refine w_gS I hL.s ?_
  refine w_bV (P := fun h' => CLw T L n Lw h0 h' k (S.1 ++ [some (kd, o1, o2)], S.2)) I ?_ (by decide) rfl fun h1 I1 p => kk h1 I1 p
  rw [k_4]
  refine w_gI I hL.s ?_
  rw [r1]
  refine w_iff (fun z => absurd ((i_le (m := 20) (by omega) (by omega)).mp z) (by omega)) ?_
  refine w_gL I hL.s hL.l1 ?_
  refine w_gI I hL.s ?_
  rw [r1]
  refine w_wIn I hL.s2 hl (by decide) fun I1 => ?_
  refine w_gL I1 hL.s hL.l2 ?_
  refine w_gI I1 hL.s ?_
  rw [sI_other (show Lw ≠ Lw + 2 by omega), r1]
  refine w_wIn I1 hL.s3 hl (by decide) fun I2 => ?_
  refine w_gL I2 hL.s hL.l3 ?_
  refine w_gI I2 hL.s ?_
  rw [sI_other (show Lw ≠ Lw + 3 by omega), sI_other (show Lw ≠ Lw + 2 by omega), r1]
  refine w_wIn I2 hL.s4 hl (by decide) fun I3 => ?_
  refine w_gL I3 hL.s hL.l4 ?_
  refine w_gI I3 hL.s ?_
  refine w_gI I3 hL.s ?_
  rw [sI_other (show Lw ≠ Lw + 4 by omega), sI_other (show Lw ≠ Lw + 3 by omega), sI_other (show Lw ≠ Lw + 2 by omega), r1, c3]
  refine w_wIn I3 hL.s5 hl (by decide) fun I4 => ?_
  refine w_gI I4 hL.s ?_
  rw [sI_other (show Lw ≠ Lw + 5 by omega), sI_other (show Lw ≠ Lw + 4 by omega), sI_other (show Lw ≠ Lw + 3 by omega), sI_other (show Lw ≠ Lw + 2 by omega), r1, i32_ofNat_succ]
  refine w_fI I4 hL.s fun I5 => ?_
  generalize hg : sI (sI (sI (sI (sI h (Lw + 2) (rulesOf S.1).length (Int32.ofNat kd)) (Lw + 3) (rulesOf S.1).length (Int32.ofNat s)) (Lw + 4) (rulesOf S.1).length (Int32.ofNat m)) (Lw + 5) (rulesOf S.1).length (Int32.ofNat (opsC (stOf (rulesOf S.1)) ++ opsC o1 ++ opsC o2).length)) Lw 8 (Int32.ofNat ((rulesOf S.1).length + 1)) = g at I5
  have g2 : hI g (Lw + 2) = up1 (hI h (Lw + 2)) (rulesOf S.1).length (Int32.ofNat kd) := by rw [← hg, sI_other (by omega), sI_other (by omega), sI_other (by omega), sI_other (by omega), hI_sI_self]
  have g3 : hI g (Lw + 3) = up1 (hI h (Lw + 3)) (rulesOf S.1).length (Int32.ofNat s) := by rw [← hg, sI_other (by omega), sI_other (by omega), sI_other (by omega), hI_sI_self, sI_other (by omega)]
  have g4 : hI g (Lw + 4) = up1 (hI h (Lw + 4)) (rulesOf S.1).length (Int32.ofNat m) := by rw [← hg, sI_other (by omega), sI_other (by omega), hI_sI_self, sI_other (by omega), sI_other (by omega)]
  have g5 : hI g (Lw + 5) = up1 (hI h (Lw + 5)) (rulesOf S.1).length (Int32.ofNat (opsC (stOf (rulesOf S.1)) ++ opsC o1 ++ opsC o2).length) := by rw [← hg, sI_other (by omega), hI_sI_self, sI_other (by omega), sI_other (by omega), sI_other (by omega)]
  have gL : hI g Lw = up1 (hI h Lw) 8 (Int32.ofNat ((rulesOf S.1).length + 1)) := by rw [← hg, hI_sI_self, sI_other (by omega), sI_other (by omega), sI_other (by omega), sI_other (by omega)]
  have go : ∀ a, a < Lw ∨ a = Lw + 1 ∨ Lw + 5 < a → hI g a = hI h a := fun a ha => by rw [← hg, sI_other (by omega), sI_other (by omega), sI_other (by omega), sI_other (by omega), sI_other (by omega)]
  have gE : Eo (WLw Lw) h g := by
    rw [← hg]
    exact ((((Eo.rf.kI (by unfold WLw; omega)).kI (by unfold WLw; omega)).kI (by unfold WLw; omega)).kI (by unfold WLw; omega)).kI (by unfold WLw; omega)
  have gp : hP g 82 = hP h 82 := by rw [← hg]; rfl
  have fL : ∀ j, j ≠ 8 → hI g Lw j = hI h Lw j := fun j hj => by rw [gL, up1, if_neg hj]
  have eC : opsC (stOf (rulesOf (S.1 ++ [some (kd, o1, o2)]))) = opsC (stOf (rulesOf S.1)) ++ opsC o1 ++ opsC o2 := by rw [rules_sn, stOf_sn, opsC_app, opsC_app, List.append_assoc]
  refine Wp.retv ⟨q.to (go _ (by omega)) (go _ (by omega)) (go _ (by omega)) (fun j _ => by rw [go 82 (by omega)]), ?_, by show (opsC (stOf (rulesOf (S.1 ++ [some (kd, o1, o2)])))).length ≤ k; rw [eC]; exact hc, ⟨?_, ?_, ?_, ?_, ?_, ?_, ?_, ?_⟩, E.tr gE⟩
  · show CL Lw g (opsC (stOf (rulesOf (S.1 ++ [some (kd, o1, o2)]))))
    rw [eC]
    exact ⟨by rw [gp]; exact c1, hL, by rw [fL 7 (by decide)]; exact c3, c4.eo (go _ (by omega))⟩
  · show hI g Lw 8 = Int32.ofNat (rulesOf (S.1 ++ [some (kd, o1, o2)])).length
    rw [gL, up1, if_pos rfl, rules_sn, List.length_append]; rfl
  · show cRowsP g Lw 0 0 (rulesOf (S.1 ++ [some (kd, o1, o2)]))
    rw [rules_sn]
    refine r2.sn (fun i hi => ?_) ?_
    · rw [Nat.zero_add] at hi
      rw [g2, g3, g4, g5]
      simp only [up1]
      rw [if_neg (by omega), if_neg (by omega), if_neg (by omega), if_neg (by omega)]
      exact ⟨rfl, rfl, rfl, rfl⟩
    · rw [Nat.zero_add, g2, g3, g4, g5, Nat.zero_add]
      exact ⟨by rw [up1, if_pos rfl], by rw [up1, if_pos rfl, hs], by rw [up1, if_pos rfl, hm], by rw [up1, if_pos rfl, List.length_append, List.length_append]⟩
  · show hI g Lw 9 = _
    rw [fL 9 (by decide)]; exact r3
  · exact cSteps.sn0 r4 (go _ (by omega)) (go _ (by omega))
  · show hI g Lw 10 = _
    rw [fL 10 (by decide)]; exact r5
  · show hI g Lw 11 = _
    rw [fL 11 (by decide)]; exact r6
  · show hI g 82 13 = _
    rw [go 82 (by omega)]; exact r7
  · show hI g 82 14 = _
    rw [go 82 (by omega)]; exact r8
end CN
