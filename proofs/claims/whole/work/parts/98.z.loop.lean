/-! THE LOOP over the script -/
theorem uni2 {α : Type} {ok : Prop} {v w a b : α} (h : (ok → a = v) ∧ (¬ ok → a = w)) (g : (ok → b = v) ∧ (¬ ok → b = w)) : a = b := by
  by_cases k : ok
  · rw [h.1 k, g.1 k]
  · rw [h.2 k, g.2 k]
theorem uni3 {α : Type} {p ok : Prop} {v w u a b : α} (h : (p → (ok → a = v) ∧ (¬ ok → a = w)) ∧ (¬ p → a = u)) (g : (p → (ok → b = v) ∧ (¬ ok → b = w)) ∧ (¬ p → b = u)) : a = b := by
  by_cases k : p
  · exact uni2 (h.1 k) (g.1 k)
  · rw [h.2 k, g.2 k]
theorem eqP {o : Option (Option Value × Hp)} {v : Int32} {h : Hp} {S : AS} (e : o = some (some (.int v), h)) (q : RC h S) : Wp o (VI fun x h' => x = v ∧ Cl h h' ∧ RC h' S) := by rw [e]; exact Wp.reti ⟨rfl, Eo.rf, q⟩
theorem eqM {o : Option (Option Value × Hp)} {v : Int32} {h : Hp} {S : AS} (e : o = some (some (.int v), h)) (q : RM h S) : Wp o (VI fun x h' => x = v ∧ Mo h h' ∧ RM h' S) := by rw [e]; exact Wp.reti ⟨rfl, Eo.rf, q⟩
theorem eqPJ {o : Option (Option Value × Hp)} {v : Int64} {h : Hp} {S : AS} (e : o = some (some (.long v), h)) (q : RC h S) : Wp o (VJ fun x h' => x = v ∧ Cl h h' ∧ RC h' S) := by rw [e]; exact Wp.retj ⟨rfl, Eo.rf, q⟩
theorem eqMJ {o : Option (Option Value × Hp)} {v : Int64} {h : Hp} {S : AS} (e : o = some (some (.long v), h)) (q : RM h S) : Wp o (VJ fun x h' => x = v ∧ Mo h h' ∧ RM h' S) := by rw [e]; exact Wp.retj ⟨rfl, Eo.rf, q⟩
theorem ax {X : Ctx} {h : Hp} {j : Nat} {f : Int32 → Option (Option Value × Hp)} (hL : X.1 ≤ 3584) (hj : j < X.1) : aI X h 0 (Int32.ofNat j) f = f (X.2.1 j) := by
  unfold aI
  rw [if_pos rfl, gd_t (inb_ofNat (by omega) hj), i32_ofNat_clamp (by omega)]
theorem and31 (x : Int32) : ∃ c, c < 32 ∧ x &&& 31 = Int32.ofNat c := by
  refine ⟨(x &&& 31).toBitVec.toNat, ?_, ?_⟩
  · have e : (x &&& 31).toBitVec.toNat = x.toBitVec.toNat &&& 31 := by
      rw [Int32.toBitVec_and, BitVec.toNat_and]; rfl
    rw [e]
    have : x.toBitVec.toNat &&& 31 ≤ 31 := Nat.and_le_right
    omega
  · apply Int32.toBitVec_inj.mp
    show (x &&& 31).toBitVec = BitVec.ofNat 32 (x &&& 31).toBitVec.toNat
    rw [BitVec.ofNat_toNat, BitVec.setWidth_eq]
theorem tsw_rest : ∀ c, c < 32 → 25 ≤ c → tsw 0 [148, 201, 260, 303, 378, 441, 464, 497, 520, 563, 606, 640, 694, 728, 782, 815, 848, 882, 925, 949, 1002, 1015, 1068, 1151, 1164] 1187 (Int32.ofNat c) = 1187 := by decide
theorem sub7 : ∀ L, L < 7 → (Int32.ofNat L - 7).toInt < 0 := by decide
theorem loop_end {L i : Nat} (hL : L ≤ 3584) (hi : i < 4000) : Int32.ofNat L - 7 < Int32.ofNat i ↔ L < i + 7 := by
  by_cases z : L < 7
  · refine ⟨fun _ => by omega, fun _ => ?_⟩
    rw [Int32.lt_iff_toInt_lt, i32_ofNat_lt (show i < 2147483648 by omega)]
    have := sub7 L z
    omega
  · have e : Int32.ofNat L - 7 = Int32.ofNat (L - 7) := i_sub (n := 7) (by omega)
    rw [e]
    refine (i_lt (by omega) (by omega)).trans ?_
    omega
section LP
variable {X : Ctx}
theorem law_loop (hL : X.1 ≤ 3584) (hv : X.2.2 = .null ∨ X.2.2 = .ref 61) : ∀ (f i : Nat) (h : Hp) (S : AS), X.1 + 7 ≤ f + i → i ≤ X.1 + 7 → Inv (qH h) → okA S → RC (qH h) S → RM (qH h) S →
    Wp (sem (X, K X 100) 247 18 [some (.ref 0), some (.ref 62), some (.ref 301), some (.int (Int32.ofNat i))] [] h) (fun v h' => v = some (.int 1) ∧ Inv (qH h')) := fun f => by
  have stop : ∀ (i : Nat) (h : Hp), i ≤ X.1 + 7 → X.1 < i + 7 → Inv (qH h) → Wp (sem (X, K X 100) 247 18 [some (.ref 0), some (.ref 62), some (.ref 301), some (.int (Int32.ofNat i))] [] h) (fun v h' => v = some (.int 1) ∧ Inv (qH h')) := fun i h hi hx I => by
    rw [b_247_18]
    have el : ∀ g : Int32 → Option (Option Value × Hp), aL X h 0 g = g (Int32.ofNat X.1) := fun g => rfl
    rw [el]
    exact w_ift ((loop_end hL (by omega)).mpr hx) (Wp.ret ⟨rfl, I⟩)
  induction f with
  | zero => exact fun i h S hf hi I _ _ _ => stop i h hi (by omega) I
  | succ f ih =>
    intro i h S hf hi I o q r
    by_cases hx : X.1 < i + 7
    · exact stop i h hi hx I
    · rw [b_247_18]
      have el : ∀ g : Int32 → Option (Option Value × Hp), aL X h 0 g = g (Int32.ofNat X.1) := fun g => rfl
      rw [el]
      refine w_iff (fun z => hx ((loop_end hL (by omega)).mp z)) ?_
      rw [ax hL (by omega)]
      obtain ⟨c, hc, ec⟩ := and31 (X.2.1 i)
      rw [ec]
      have nx : Nx (fun h2 => sem (X, K X 100) 247 1187 [some (.ref 0), some (.ref 62), some (.ref 301), some (.int (Int32.ofNat i))] [] h2) (fun v h' => v = some (.int 1) ∧ Inv (qH h')) := fun h2 S2 I2 o2 q2 r2 => by
        show Wp (sem (X, K X 100) 247 1187 _ [] h2) _
        rw [b_247_1187]
        have e7 : Int32.ofNat i + 7 = Int32.ofNat (i + 7) := i_add i 7
        rw [e7]
        exact ih (i + 7) h2 S2 (by omega) (by omega) I2 o2 q2 r2
      have a1 : ∀ {h : Hp} {f : Int32 → Option (Option Value × Hp)}, aI X h 0 (Int32.ofNat i + 1) f = f (X.2.1 (i + 1)) := fun {h f} => by rw [show Int32.ofNat i + 1 = Int32.ofNat (i + 1) from i_add i 1]; exact ax hL (by omega)
      have a2 : ∀ {h : Hp} {f : Int32 → Option (Option Value × Hp)}, aI X h 0 (Int32.ofNat i + 2) f = f (X.2.1 (i + 2)) := fun {h f} => by rw [show Int32.ofNat i + 2 = Int32.ofNat (i + 2) from i_add i 2]; exact ax hL (by omega)
      have a3 : ∀ {h : Hp} {f : Int32 → Option (Option Value × Hp)}, aI X h 0 (Int32.ofNat i + 3) f = f (X.2.1 (i + 3)) := fun {h f} => by rw [show Int32.ofNat i + 3 = Int32.ofNat (i + 3) from i_add i 3]; exact ax hL (by omega)
      have a4 : ∀ {h : Hp} {f : Int32 → Option (Option Value × Hp)}, aI X h 0 (Int32.ofNat i + 4) f = f (X.2.1 (i + 4)) := fun {h f} => by rw [show Int32.ofNat i + 4 = Int32.ofNat (i + 4) from i_add i 4]; exact ax hL (by omega)
      have a5 : ∀ {h : Hp} {f : Int32 → Option (Option Value × Hp)}, aI X h 0 (Int32.ofNat i + 5) f = f (X.2.1 (i + 5)) := fun {h f} => by rw [show Int32.ofNat i + 5 = Int32.ofNat (i + 5) from i_add i 5]; exact ax hL (by omega)
      have a6 : ∀ {h : Hp} {f : Int32 → Option (Option Value × Hp)}, aI X h 0 (Int32.ofNat i + 6) f = f (X.2.1 (i + 6)) := fun {h f} => by rw [show Int32.ofNat i + 6 = Int32.ofNat (i + 6) from i_add i 6]; exact ax hL (by omega)
      have sw : c = 0 ∨ c = 1 ∨ c = 2 ∨ c = 3 ∨ c = 4 ∨ c = 5 ∨ c = 6 ∨ c = 7 ∨ c = 8 ∨ c = 9 ∨ c = 10 ∨ c = 11 ∨ c = 12 ∨ c = 13 ∨ c = 14 ∨ c = 15 ∨ c = 16 ∨ c = 17 ∨ c = 18 ∨ c = 19 ∨ c = 20 ∨ c = 21 ∨ c = 22 ∨ c = 23 ∨ c = 24 ∨ 25 ≤ c := by omega
      rcases sw with rfl | rfl | rfl | rfl | rfl | rfl | rfl | rfl | rfl | rfl | rfl | rfl | rfl | rfl | rfl | rfl | rfl | rfl | rfl | rfl | rfl | rfl | rfl | rfl | rfl | c25
      · rw [show tsw 0 [148, 201, 260, 303, 378, 441, 464, 497, 520, 563, 606, 640, 694, 728, 782, 815, 848, 882, 925, 949, 1002, 1015, 1068, 1151, 1164] 1187 (Int32.ofNat 0) = 148 by decide, b_247_148]
        simp only [a1, a2, a3, a4]
        exact pairO hv I o q r (c_night (d := 96) I q o) (fun h1 I1 r1 => m_night (d := 96) I1 r1 o) (ok_nx_night o) (by decide) rfl rfl (by decide) rfl rfl nx
      · rw [show tsw 0 [148, 201, 260, 303, 378, 441, 464, 497, 520, 563, 606, 640, 694, 728, 782, 815, 848, 882, 925, 949, 1002, 1015, 1068, 1151, 1164] 1187 (Int32.ofNat 1) = 201 by decide, b_247_201]
        simp only [a1, a2, a3]
        by_cases z : X.2.1 (i + 3) = 0
        · rw [if_pos z, b_247_225]
          simp only [a1, a2, a3, if_pos z]
          exact pairO hv I o q r (c_home (d := 96) I q o) (fun h1 I1 r1 => m_home (d := 96) I1 r1 o) (ok_nx_home o) (by decide) rfl rfl (by decide) rfl rfl nx
        · rw [if_neg z, b_247_225]
          simp only [a1, a2, a3, if_neg z]
          exact pairO hv I o q r (c_home (d := 96) I q o) (fun h1 I1 r1 => m_home (d := 96) I1 r1 o) (ok_nx_home o) (by decide) rfl rfl (by decide) rfl rfl nx
      · rw [show tsw 0 [148, 201, 260, 303, 378, 441, 464, 497, 520, 563, 606, 640, 694, 728, 782, 815, 848, 882, 925, 949, 1002, 1015, 1068, 1151, 1164] 1187 (Int32.ofNat 2) = 260 by decide, b_247_260]
        simp only [a1, a2, a3]
        exact pairO hv I o q r (c_tie (d := 96) I q o) (fun h1 I1 r1 => m_tie (d := 96) I1 r1 o) (ok_nx_tie o) (by decide) rfl rfl (by decide) rfl rfl nx
      · rw [show tsw 0 [148, 201, 260, 303, 378, 441, 464, 497, 520, 563, 606, 640, 694, 728, 782, 815, 848, 882, 925, 949, 1002, 1015, 1068, 1151, 1164] 1187 (Int32.ofNat 3) = 303 by decide, b_247_303]
        simp only [a1, a2, a3, a4, a5, a6]
        exact pairO hv I o q r (c_sum (d := 96) I q o) (fun h1 I1 r1 => m_sum (d := 96) I1 r1 o) (ok_nx_sum o) (by decide) rfl rfl (by decide) rfl rfl nx
      · rw [show tsw 0 [148, 201, 260, 303, 378, 441, 464, 497, 520, 563, 606, 640, 694, 728, 782, 815, 848, 882, 925, 949, 1002, 1015, 1068, 1151, 1164] 1187 (Int32.ofNat 4) = 378 by decide, b_247_378]
        simp only [a1, a2, a3, a4, a5]
        exact pairO hv I o q r (c_feed (d := 96) I q o) (fun h1 I1 r1 => m_feed (d := 96) I1 r1 o) (ok_nx_feed o) (by decide) rfl rfl (by decide) rfl rfl nx
      · rw [show tsw 0 [148, 201, 260, 303, 378, 441, 464, 497, 520, 563, 606, 640, 694, 728, 782, 815, 848, 882, 925, 949, 1002, 1015, 1068, 1151, 1164] 1187 (Int32.ofNat 5) = 441 by decide, b_247_441]
        simp only [a1]
        exact pairO hv I o q r (c_end (d := 96) I q o) (fun h1 I1 r1 => m_end (d := 96) I1 r1 o) (ok_nx_end o) (by decide) rfl rfl (by decide) rfl rfl nx
      · rw [show tsw 0 [148, 201, 260, 303, 378, 441, 464, 497, 520, 563, 606, 640, 694, 728, 782, 815, 848, 882, 925, 949, 1002, 1015, 1068, 1151, 1164] 1187 (Int32.ofNat 6) = 464 by decide, b_247_464]
        simp only [a1, a2]
        exact pairT (d := 59) hv I o q r nx
      · rw [show tsw 0 [148, 201, 260, 303, 378, 441, 464, 497, 520, 563, 606, 640, 694, 728, 782, 815, 848, 882, 925, 949, 1002, 1015, 1068, 1151, 1164] 1187 (Int32.ofNat 7) = 497 by decide, b_247_497]
        simp only [a1]
        exact pairI (P := fun v => v = faultP S _) (S' := S) hv I o r (fun x y hx hy => hx.trans hy.symm) (eqP (c_fault (d := 96) I q) q) (fun h1 I1 r1 => eqM (m_fault (d := 96) I1 r1) r1) o (by decide) rfl rfl (by decide) rfl rfl nx
      · rw [show tsw 0 [148, 201, 260, 303, 378, 441, 464, 497, 520, 563, 606, 640, 694, 728, 782, 815, 848, 882, 925, 949, 1002, 1015, 1068, 1151, 1164] 1187 (Int32.ofNat 8) = 520 by decide, b_247_520]
        simp only [a1, a2, a3]
        exact pairI (S' := S) hv I o r (fun x y hx hy => hx.trans hy.symm) (c_of (d := 93) I q o) (fun h1 I1 r1 => m_of (d := 93) I1 r1 o) o (by decide) rfl rfl (by decide) rfl rfl nx
      · rw [show tsw 0 [148, 201, 260, 303, 378, 441, 464, 497, 520, 563, 606, 640, 694, 728, 782, 815, 848, 882, 925, 949, 1002, 1015, 1068, 1151, 1164] 1187 (Int32.ofNat 9) = 563 by decide, b_247_563]
        simp only [a1, a2, a3]
        exact pairI (S' := S) hv I o r (fun x y hx hy => hx.trans hy.symm) (c_decides (d := 93) I q o) (fun h1 I1 r1 => m_decides (d := 93) I1 r1 o) o (by decide) rfl rfl (by decide) rfl rfl nx
      · rw [show tsw 0 [148, 201, 260, 303, 378, 441, 464, 497, 520, 563, 606, 640, 694, 728, 782, 815, 848, 882, 925, 949, 1002, 1015, 1068, 1151, 1164] 1187 (Int32.ofNat 10) = 606 by decide, b_247_606]
        simp only [a1, a2]
        exact pairJ (P := fun v => v = taxP S _ _) hv I o r (fun x y hx hy => hx.trans hy.symm) (eqPJ (c_tax (d := 93) I q o) q) (fun h1 I1 r1 => eqMJ (m_tax (d := 93) I1 r1 o) r1) (by decide) rfl rfl (by decide) rfl rfl nx
      · rw [show tsw 0 [148, 201, 260, 303, 378, 441, 464, 497, 520, 563, 606, 640, 694, 728, 782, 815, 848, 882, 925, 949, 1002, 1015, 1068, 1151, 1164] 1187 (Int32.ofNat 11) = 640 by decide, b_247_640]
        simp only [a1, a2, a3, a4]
        exact pairJ hv I o r (fun x y hx hy => uni2 hx hy) (c_takes (d := 93) I q o) (fun h1 I1 r1 => m_takes (d := 93) I1 r1 o) (by decide) rfl rfl (by decide) rfl rfl nx
      · rw [show tsw 0 [148, 201, 260, 303, 378, 441, 464, 497, 520, 563, 606, 640, 694, 728, 782, 815, 848, 882, 925, 949, 1002, 1015, 1068, 1151, 1164] 1187 (Int32.ofNat 12) = 694 by decide, b_247_694]
        simp only [a1, a2]
        exact pairJ hv I o r (fun x y hx hy => uni2 hx hy) (c_owes (d := 92) I q o) (fun h1 I1 r1 => m_owes (d := 92) I1 r1 o) (by decide) rfl rfl (by decide) rfl rfl nx
      · rw [show tsw 0 [148, 201, 260, 303, 378, 441, 464, 497, 520, 563, 606, 640, 694, 728, 782, 815, 848, 882, 925, 949, 1002, 1015, 1068, 1151, 1164] 1187 (Int32.ofNat 13) = 728 by decide, b_247_728]
        simp only [a1, a2, a3, a4]
        exact pairJ hv I o r (fun x y hx hy => uni3 hx hy) (c_edge (d := 92) I q o) (fun h1 I1 r1 => m_edge (d := 92) I1 r1 o) (by decide) rfl rfl (by decide) rfl rfl nx
      · rw [show tsw 0 [148, 201, 260, 303, 378, 441, 464, 497, 520, 563, 606, 640, 694, 728, 782, 815, 848, 882, 925, 949, 1002, 1015, 1068, 1151, 1164] 1187 (Int32.ofNat 14) = 782 by decide, b_247_782]
        simp only [a1, a2]
        exact pairI (S' := S) hv I o r (fun x y hx hy => hx.trans hy.symm) (c_hangs (d := 94) I q o) (fun h1 I1 r1 => m_hangs (d := 96) I1 r1 o) o (by decide) rfl rfl (by decide) rfl rfl nx
      · rw [show tsw 0 [148, 201, 260, 303, 378, 441, 464, 497, 520, 563, 606, 640, 694, 728, 782, 815, 848, 882, 925, 949, 1002, 1015, 1068, 1151, 1164] 1187 (Int32.ofNat 15) = 815 by decide, b_247_815]
        simp only [a1, a2]
        exact pairO hv I o q r (c_move (d := 96) I q o) (fun h1 I1 r1 => m_move (d := 96) I1 r1 o) (ok_nx_move o) (by decide) rfl rfl (by decide) rfl rfl nx
      · rw [show tsw 0 [148, 201, 260, 303, 378, 441, 464, 497, 520, 563, 606, 640, 694, 728, 782, 815, 848, 882, 925, 949, 1002, 1015, 1068, 1151, 1164] 1187 (Int32.ofNat 16) = 848 by decide, b_247_848]
        simp only [a1, a2]
        exact pairJ hv I o r (fun x y hx hy => uni2 hx hy) (c_best (d := 91) I q o) (fun h1 I1 r1 => m_best (d := 91) I1 r1 o) (by decide) rfl rfl (by decide) rfl rfl nx
      · rw [show tsw 0 [148, 201, 260, 303, 378, 441, 464, 497, 520, 563, 606, 640, 694, 728, 782, 815, 848, 882, 925, 949, 1002, 1015, 1068, 1151, 1164] 1187 (Int32.ofNat 17) = 882 by decide, b_247_882]
        simp only [a1, a2, a3]
        exact pairO hv I o q r (c_turning (d := 96) I q o) (fun h1 I1 r1 => m_turning (d := 96) I1 r1 o) (ok_nx_turn o) (by decide) rfl rfl (by decide) rfl rfl nx
      · rw [show tsw 0 [148, 201, 260, 303, 378, 441, 464, 497, 520, 563, 606, 640, 694, 728, 782, 815, 848, 882, 925, 949, 1002, 1015, 1068, 1151, 1164] 1187 (Int32.ofNat 18) = 925 by decide, b_247_925]
        simp only [a1]
        exact pairJ hv I o r (fun x y hx hy => uni2 hx hy) (c_sly (d := 93) I q o) (fun h1 I1 r1 => m_sly (d := 91) I1 r1 o) (by decide) rfl rfl (by decide) rfl rfl nx
      · rw [show tsw 0 [148, 201, 260, 303, 378, 441, 464, 497, 520, 563, 606, 640, 694, 728, 782, 815, 848, 882, 925, 949, 1002, 1015, 1068, 1151, 1164] 1187 (Int32.ofNat 19) = 949 by decide, b_247_949]
        simp only [a1, a2, a3, a4]
        exact pairO hv I o q r (c_word (d := 96) I q o) (fun h1 I1 r1 => m_word (d := 96) I1 r1 o) (ok_nx_word o) (by decide) rfl rfl (by decide) rfl rfl nx
      · rw [show tsw 0 [148, 201, 260, 303, 378, 441, 464, 497, 520, 563, 606, 640, 694, 728, 782, 815, 848, 882, 925, 949, 1002, 1015, 1068, 1151, 1164] 1187 (Int32.ofNat 20) = 1002 by decide, b_247_1002]
        exact pairI (P := fun v => v = mendV S) (S' := S) hv I o r (fun x y hx hy => hx.trans hy.symm) (c_mend (d := 91) I q o) (fun h1 I1 r1 => m_mend (d := 90) I1 r1 o) o (by decide) rfl rfl (by decide) rfl rfl nx
      · rw [show tsw 0 [148, 201, 260, 303, 378, 441, 464, 497, 520, 563, 606, 640, 694, 728, 782, 815, 848, 882, 925, 949, 1002, 1015, 1068, 1151, 1164] 1187 (Int32.ofNat 21) = 1015 by decide, b_247_1015]
        simp only [a1, a2, a3, a4]
        exact pairI (S' := S) hv I o r (fun x y hx hy => uni2 hx hy) (c_round (d := 94) I q o) (fun h1 I1 r1 => m_round (d := 95) I1 r1 o) o (by decide) rfl rfl (by decide) rfl rfl nx
      · rw [show tsw 0 [148, 201, 260, 303, 378, 441, 464, 497, 520, 563, 606, 640, 694, 728, 782, 815, 848, 882, 925, 949, 1002, 1015, 1068, 1151, 1164] 1187 (Int32.ofNat 22) = 1068 by decide, b_247_1068]
        simp only [a1, a2, a3, a4, a5]
        exact pairO hv I o q r (c_answer (d := 96) I q o) (fun h1 I1 r1 => m_answer (d := 96) I1 r1 o) (fun k => okA_ans o k) (by decide) rfl rfl (by decide) rfl rfl nx
      · rw [show tsw 0 [148, 201, 260, 303, 378, 441, 464, 497, 520, 563, 606, 640, 694, 728, 782, 815, 848, 882, 925, 949, 1002, 1015, 1068, 1151, 1164] 1187 (Int32.ofNat 23) = 1151 by decide, b_247_1151]
        exact pairI (P := fun v => v = jdL S (sA S) 0) (S' := S) hv I o r (fun x y hx hy => hx.trans hy.symm) (c_judged (d := 91) I q o) (fun h1 I1 r1 => m_judged (d := 91) I1 r1 o) o (by decide) rfl rfl (by decide) rfl rfl nx
      · rw [show tsw 0 [148, 201, 260, 303, 378, 441, 464, 497, 520, 563, 606, 640, 694, 728, 782, 815, 848, 882, 925, 949, 1002, 1015, 1068, 1151, 1164] 1187 (Int32.ofNat 24) = 1164 by decide, b_247_1164]
        simp only [a1]
        exact pairI (P := fun v => v = lookP S _) (S' := S) hv I o r (fun x y hx hy => hx.trans hy.symm) (eqP (c_look (d := 96) I q) q) (fun h1 I1 r1 => eqM (m_look (d := 96) I1 r1) r1) o (by decide) rfl rfl (by decide) rfl rfl nx
      · rw [tsw_rest c hc c25]
        exact nx h S I o q r
end LP
