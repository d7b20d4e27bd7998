/-! THE START: the invariant -/
theorem fty_lt {ci k : Nat} (e : fty ci k = 2) : k < nfl ci := by
  rcases Nat.lt_or_ge k (nfl ci) with q | q
  · exact q
  · unfold fty at e
    unfold nfl at q
    rw [List.getD_eq_getElem?_getD (l := ftyL.getD ci []), List.getElem?_eq_none q] at e
    exact absurd e (by decide)
theorem LKL_len : LKL.length = 301 := by decide +kernel
theorem LK_in {a k v : Nat} (e : LK a k = some v) : a < nOb ∧ k < (LKL.getD (a - 62) []).length := by
  unfold LK at e
  by_cases q : a < 62
  · rw [if_pos q] at e; cases e
  · rw [if_neg q] at e
    have h2 : k < (LKL.getD (a - 62) []).length := by
      rcases Nat.lt_or_ge k (LKL.getD (a - 62) []).length with g | g
      · exact g
      · rw [List.getD_eq_getElem?_getD (l := LKL.getD (a - 62) []), List.getElem?_eq_none g] at e
        cases e
    refine ⟨?_, h2⟩
    rcases Nat.lt_or_ge (a - 62) LKL.length with g | g
    · rw [LKL_len] at g
      show a < 363
      omega
    · rw [List.getD_eq_getElem?_getD (l := LKL), List.getElem?_eq_none g] at h2
      exact absurd h2 (Nat.not_lt_zero _)
def oAll (o : Option Nat) (P : Nat → Bool) : Bool := match o with
  | some v => P v
  | none => true
set_option maxRecDepth 100000 in
theorem H0_F : (List.range nOb).all (fun a => decide ((SH a).1 = 0) || (decide (12 < (SH a).1) || (List.range (nfl ((SH a).1 - 1))).all (fun k => decide (fty ((SH a).1 - 1) k ≠ 2) || oAll (hP H0 a k) (fun v => decide ((SH v).1 = frt ((SH a).1 - 1) k))))) = true := by decide +kernel
set_option maxRecDepth 100000 in
theorem H0_U : (List.range nOb).all (fun a => decide ((SH a).1 < 60 ∨ 72 ≤ (SH a).1) || (List.range 89).all (fun k => oAll (hP H0 a k) (fun v => decide (SH v = ((SH a).1 - 59, 0))))) = true := by decide +kernel
set_option maxRecDepth 100000 in
theorem H0_R : (List.range 89).all (fun k => oAll (hP H0 292 k) (fun v => decide (SH v = (51, 7)))) = true := by decide +kernel
theorem inv_H0 : Inv H0 := by
  refine ⟨funext fun a => ?_, H0_N, H0_K, fun a k v e => ?_, fun a ci k v hc hs hf e => ?_, fun a i v h1 h2 e => ?_, fun i v e => ?_⟩
  · by_cases ha : a < nOb
    · exact of_decide_eq_true (all_ids H0_S ha)
    · rw [zr_H0.1 a (by rw [H0_N]; omega)]
      by_cases q : SH a = (0, 0)
      · exact q.symm
      · exact absurd (SH_hi q).2 ha
  · obtain ⟨l1, l2⟩ := LK_in e
    have t := List.all_eq_true.mp (all_ids H0_P l1) k (List.mem_range.mpr l2)
    rcases of_decide_eq_true t with q | q
    · rw [e] at q; cases q
    · rw [q]; exact e
  · have ha := (SH_hi (a := a) (by rw [hs]; intro z; cases z)).2
    have t := all_ids H0_F ha
    rw [hs] at t
    replace t := (Bool.or_eq_true _ _).mp t
    rcases t with t | t
    · exact absurd (of_decide_eq_true t) (Nat.succ_ne_zero ci)
    · replace t := (Bool.or_eq_true _ _).mp t
      rcases t with t | t
      · exact absurd (show 12 < ci + 1 from of_decide_eq_true t) (by omega)
      · have t2 : (decide (fty ci k ≠ 2) || oAll (hP H0 a k) (fun v => decide ((SH v).1 = frt ci k))) = true := List.all_eq_true.mp t k (List.mem_range.mpr (fty_lt hf))
        rw [e] at t2
        rcases (Bool.or_eq_true _ _).mp t2 with g | g
        · exact absurd hf (of_decide_eq_true g)
        · exact of_decide_eq_true g
  · have ha := (SH_hi (a := a) (fun z => by rw [z] at h1; exact absurd h1 (by decide))).2
    have t := all_ids H0_U ha
    rcases (Bool.or_eq_true _ _).mp t with g | g
    · have := of_decide_eq_true g
      omega
    · have t2 := List.all_eq_true.mp g i (List.mem_range.mpr (zr_H0.2 a i v e))
      rw [e] at t2
      exact of_decide_eq_true t2
  · have t2 := List.all_eq_true.mp H0_R i (List.mem_range.mpr (zr_H0.2 292 i v e))
    rw [e] at t2
    exact of_decide_eq_true t2
