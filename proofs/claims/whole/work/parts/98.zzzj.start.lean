/-! THE START: both sides tell that nothing was told -/
theorem rga {n k : Nat} {P : Nat → Bool} (t : (List.range n).all P = true) (hk : k < n) : P k = true := List.all_eq_true.mp t k (List.mem_range.mpr hk)
section ST
variable {h : Hp}
theorem cyear_of (n : ∀ y, y < 2 → ∀ k, k < 360 → hI h (103 + 17 * y) k = -1)
    (v : ((List.range 2).all fun y => decide (hI h (104 + 17 * y) 1 = 360) && (List.range 6).all fun l => decide (hI h (105 + 17 * y) l = 0)) = true)
    (t : ((List.range 2).all fun y => decide (hI h (104 + 17 * y) 2 = 0) && decide (hI h (104 + 17 * y) 3 = -1) && decide (hI h (104 + 17 * y) 4 = -1)) = true)
    (e : ((List.range 2).all fun y => decide (hI h (102 + 17 * y) 3 = 0) && decide (hI h 303 y = 0) && decide (hI h 304 (2 * y) = -1) && decide (hI h 304 (2 * y + 1) = -1) && decide (hI h 305 y = 0)) = true) : ∀ y, y < 2 → cYear h y Y00 := fun y hy => by
  have v := rga v hy
  have t := rga t hy
  have e := rga e hy
  rw [Bool.and_eq_true] at v
  obtain ⟨v1, v2⟩ := v
  simp only [Bool.and_eq_true, decide_eq_true_eq] at t e v1
  refine ⟨fun k hk => n y hy k hk, ⟨fun k hk => ?_, t.1.1, t.1.2, t.2⟩, ?_, e.1.1.1.1, trivial⟩
  · have v3 := of_decide_eq_true (rga v2 hk)
    show hI h (104 + 17 * y + 1) k = Int32.ofNat (cnt (fun _ => 6) k 360)
    rw [cnt_6 k hk, show 104 + 17 * y + 1 = 105 + 17 * y by omega]
    exact v3
  · show hI h (104 + 17 * y) 1 = Int32.ofNat (cnt (fun _ => 6) 6 360)
    rw [cnt_66]
    exact v1
theorem laws_of (p : ((List.range 6).all fun l => decide (hP h 64 l = some (136 + 8 * l))) = true) (s : hP h 62 11 = some 91)
    (v : ((List.range 6).all fun l => (List.range 4).all fun k => decide (hI h (136 + 8 * l) (8 + k) = 0)) = true) : lawsC h (sL S000) := by
  refine ⟨fun l => if l < 6 then 136 + 8 * l else 91, fun l hl => ?_, s, (show ∀ l, l < 7 → (if l < 6 then 136 + 8 * l else 91) ∈ [91, 136, 144, 152, 160, 168, 176] by decide), fun i hi j hj e => ?_, fun l hl => ?_⟩
  · show hP h 64 l = some (if l < 6 then 136 + 8 * l else 91)
    rw [if_pos hl]
    exact of_decide_eq_true (rga p hl)
  · have e : (if i < 6 then 136 + 8 * i else 91) = (if j < 6 then 136 + 8 * j else 91) := e
    split at e <;> split at e <;> omega
  · show cLaw h (if l < 6 then 136 + 8 * l else 91) ([], [], 0, 0)
    rw [if_pos hl]
    have w := rga v hl
    exact ⟨of_decide_eq_true (rga (k := 0) w (by decide)), trivial, of_decide_eq_true (rga (k := 1) w (by decide)), trivial, of_decide_eq_true (rga (k := 2) w (by decide)), of_decide_eq_true (rga (k := 3) w (by decide))⟩
theorem pacts_of (p : ((List.range 15).all fun p => decide (hP h 65 p = some (184 + 6 * p))) = true) (s : hP h 62 12 = some 99)
    (v : ((List.range 15).all fun p => decide (hI h (184 + 6 * p) 2 = 0) && decide (hI h (184 + 6 * p) 3 = 0) && decide (hI h (184 + 6 * p) 5 = 0) && decide (hI h (184 + 6 * p) 6 = 0)) = true)
    (t : ((List.range 15).all fun p => (List.range 6).all fun k => decide (hI h (186 + 6 * p) k = 100)) = true) : pactsC h (sPc S000) := by
  refine ⟨fun l => if l < 15 then 184 + 6 * l else 99, fun l hl => ?_, s, fun l hl => ?_, fun i hi j hj e => ?_, fun l hl => ?_⟩
  · show hP h 65 l = some (if l < 15 then 184 + 6 * l else 99)
    rw [if_pos hl]
    exact of_decide_eq_true (rga p hl)
  · show IsPT (if l < 15 then 184 + 6 * l else 99)
    unfold IsPT
    split <;> omega
  · have e : (if i < 15 then 184 + 6 * i else 99) = (if j < 15 then 184 + 6 * j else 99) := e
    split at e <;> split at e <;> omega
  · show cPact h (if l < 15 then 184 + 6 * l else 99) ([], fun _ => false, fun _ => 100, 0, false)
    rw [if_pos hl]
    have w := rga v hl
    simp only [Bool.and_eq_true, decide_eq_true_eq] at w
    refine ⟨w.1.1.1, trivial, fun k _ => ?_, fun k hk => ?_, w.1.2, w.2⟩
    · rw [w.1.1.2]; exact bt_zero k
    · rw [show 184 + 6 * l + 2 = 186 + 6 * l by omega]
      exact of_decide_eq_true (rga (rga t hl) hk)
theorem myear_of (n : ∀ k, k < 720 → hI h 302 k = -1)
    (e : ((List.range 2).all fun y => decide (hI h (102 + 17 * y) 3 = 0) && decide (hI h 303 y = 0) && decide (hI h 304 (2 * y) = -1) && decide (hI h 304 (2 * y + 1) = -1) && decide (hI h 305 y = 0)) = true) : ∀ y, y < 2 → mYear h y Y00 := fun y hy => by
  have e := rga e hy
  simp only [Bool.and_eq_true, decide_eq_true_eq] at e
  exact ⟨fun k hk => n _ (by omega), e.1.1.1.2, e.1.1.2, e.1.2, e.2, trivial⟩
theorem mlaw_of (e : ((List.range 6).all fun l => decide (hI h 311 l = 0) && decide (hI h 319 l = 0) && decide (hI h 318 l = 0) && decide (hI h 322 l = 0)) = true) : ∀ l, l < 6 → mLaw h l ([], [], 0, 0) := fun l hl => by
  have e := rga e hl
  simp only [Bool.and_eq_true, decide_eq_true_eq] at e
  exact ⟨[], rfl, Nat.zero_le _, e.1.1.1, trivial, e.1.1.2, trivial, e.1.2, e.2⟩
theorem mkeep_of (z : ((List.range 37).all fun p => decide (hI h 331 p = 0)) = true)
    (v : ((List.range 15).all fun p => decide (hI h 328 (pmOf p) = 0) && decide (hI h 330 (pmOf p) = -1) && decide (hI h 326 (pmOf p) = 0)) = true)
    (t : ((List.range 15).all fun p => (List.range 6).all fun k => decide (hI h 329 (6 * pmOf p + k) = -1)) = true) : mKeep h (sPc S000) ∧ ∀ a, a < 6 → ∀ b, b < 6 → a ≠ b → mTests h (pm a b) (sPc S000 (pr a b)).1 := by
  refine ⟨⟨fun p hp => ?_, fun p hp => ?_⟩, fun a ha b hb hn => ?_⟩
  · have w := rga v hp
    simp only [Bool.and_eq_true, decide_eq_true_eq] at w
    refine ⟨fun k _ => ?_, fun k hk => Or.inl ⟨rfl, of_decide_eq_true (rga (rga t hp) hk)⟩, Or.inl ⟨rfl, w.1.2⟩, of_decide_eq_true (rga z (Nat.lt_trans (pmOf_lt p hp) (by decide)))⟩
    rw [w.1.1]
    exact bt_zero k
  · rw [of_decide_eq_true (rga z hp)]
    decide
  · have w := rga v (pr_lt a ha b hb hn)
    simp only [Bool.and_eq_true, decide_eq_true_eq] at w
    rw [pm_pr a ha b hb hn]
    exact ⟨w.2, trivial⟩
end ST
theorem rc_H0 : RC H0 S000 := by
  obtain ⟨a1, a2, a3, a4, a5, a6, a7⟩ := H0_cls
  have ny : ∀ y, y < 2 → ∀ k, k < 360 → hI H0 (103 + 17 * y) k = -1 := fun y hy => by
    rcases (show y = 0 ∨ y = 1 by omega) with rfl | rfl
    · exact H0_n103
    · exact H0_n120
  have hl : fRow H0 282 legF := fun k hk => of_decide_eq_true (rga H0_leg hk)
  have hk : ∀ k, k < 29 → hJ H0 83 k = keyN k := fun k hk => of_decide_eq_true (rga H0_keys hk)
  have hr : ringC H0 := ⟨id, fun i hi => ⟨of_decide_eq_true (rga H0_ringp hi), hi⟩, fun i _ j _ e => e⟩
  exact ⟨⟨cyear_of ny H0_cview H0_ties H0_year, laws_of H0_lawp H0_spare.1 H0_lawv, pacts_of H0_pactp H0_spare.2 H0_pactv H0_ctop, ⟨a1, fun k hk => absurd hk (Nat.not_lt_zero k)⟩, ⟨a2, a3⟩, ⟨a4, trivial, a5, trivial, a6, trivial⟩, ⟨a7, trivial⟩, hl, hk⟩, hr⟩
theorem rm_H0 : RM H0 S000 := by
  obtain ⟨a1, a2, a3, a4, a5, a6, a7⟩ := H0_mod
  exact ⟨myear_of H0_n302 H0_year, mlaw_of H0_mlaw, mkeep_of H0_m331 H0_mpact H0_mtop, ⟨a1, fun k hk => absurd hk (Nat.not_lt_zero k)⟩, ⟨a2, a3⟩, ⟨a4, trivial⟩, ⟨a5, trivial⟩, ⟨a6, trivial⟩, ⟨a7, trivial⟩⟩
