/-! THE START: rows of nights -/
def Fn (h : Hp) (b : Nat) : Prop := b < hN h ∧ ∀ k, k < 360 → hI h b k = -1
def Kn (F : Nat → Hp → Hp) : Prop := ∀ a h b, b ≠ a → Fn h b → Fn (F a h) b
section NI
variable {h : Hp} {b : Nat}
theorem lpI_lo {v : Int32} : ∀ (n i : Nat) (h : Hp) (k : Nat), k < i → hI (lpI b v n i h) b k = hI h b k
  | 0, _, _, _, _ => rfl
  | n + 1, i, h, k, hk => (lpI_lo n (i + 1) (sI h b i v) k (by omega)).trans (by rw [hI_sI_at, if_neg (by omega)])
theorem lpI_at {v : Int32} : ∀ (n i : Nat) (h : Hp) (k : Nat), i ≤ k → k < i + n → hI (lpI b v n i h) b k = v
  | 0, _, _, _, h1, h2 => absurd h2 (by omega)
  | n + 1, i, h, k, h1, h2 => by
    by_cases q : k = i
    · exact (lpI_lo n (i + 1) (sI h b i v) k (by omega)).trans (by rw [hI_sI_at, if_pos ⟨rfl, q⟩])
    · exact lpI_at n (i + 1) (sI h b i v) k (by omega) (by omega)
theorem Fn.kA {s : Nat × Nat} {w : Nat} (o : Fn h b) : Fn (alc h s w) b := ⟨Nat.lt_succ_of_lt o.1, fun k hk => by rw [hI_alc_ne (Nat.ne_of_lt o.1)]; exact o.2 k hk⟩
theorem Fn.kI {a k : Nat} {x : Int32} (o : Fn h b) (hne : b ≠ a) : Fn (sI h a k x) b := ⟨o.1, fun j hj => by rw [hI_sI_ne hne]; exact o.2 j hj⟩
theorem Fn.kJ {a k : Nat} {x : Int64} (o : Fn h b) : Fn (sJ h a k x) b := o
theorem Fn.kP {a k : Nat} {x : Option Nat} (o : Fn h b) : Fn (sP h a k x) b := o
theorem Fn.kL {a c : Nat} (o : Fn h b) : Fn (lnk h a c) b := o
theorem Fn.kAS {sr : Nat × Nat} {w : Nat} : ∀ (n : Nat) (h : Hp), Fn h b → Fn (alcs sr w n h) b
  | 0, _, o => o
  | n + 1, h, o => Fn.kAS n (alc h sr w) o.kA
theorem Fn.kAF {s : Nat × Nat} {w a k : Nat} (o : Fn h b) : Fn (AF h s w a k) b := Fn.kA (s := s) (w := w) o
theorem Fn.kNF {F : Nat → Hp → Hp} (hF : Kn F) {s : Nat × Nat} {w a k : Nat} (o : Fn h b) : Fn (NF F h s w a k) b := hF (hN h) (alc h s w) b (Nat.ne_of_lt o.1) o.kA
theorem Fn.kMF {s0 sr : Nat × Nat} {n0 w n a k : Nat} (o : Fn h b) : Fn (MF h s0 n0 sr w n a k) b := Fn.kAS (sr := sr) (w := w) n _ (o.kA (s := s0) (w := n0))
theorem fn_lpI {c : Nat} {v : Int32} (hne : b ≠ c) : ∀ (n i : Nat) (h : Hp), Fn h b → Fn (lpI c v n i h) b
  | 0, _, _, o => o
  | n + 1, i, h, o => fn_lpI hne n (i + 1) (sI h c i v) (o.kI hne)
theorem fn_lpN {F : Nat → Hp → Hp} (hF : Kn F) {c w : Nat} {s : Nat × Nat} : ∀ (n i : Nat) (h : Hp), Fn h b → Fn (lpN F c s w n i h) b
  | 0, _, _, o => o
  | n + 1, i, h, o => fn_lpN hF n (i + 1) (NF F h s w c i) (Fn.kNF hF o)
theorem kn1 : Kn HF1 := fun _ _ _ _ o => o.kAF.kAF.kAF.kAF.kAF.kAF.kAF
theorem kn84 : Kn HF84 := fun _ _ _ e o => Fn.kI (Fn.kI o.kAF e) e
theorem kn90 : Kn HF90 := fun _ _ _ _ o => o
theorem kn77 : Kn HF77 := fun _ _ _ _ o => Fn.kJ (o.kMF.kAF.kAF)
theorem kn29 : Kn HF29 := fun a h b e o => fn_lpI (show b ≠ hN h + 1 by have := o.1; omega) _ _ _ (Fn.kI (Fn.kI (Fn.kI (Fn.kI (Fn.kI (o.kAF.kAF) e) e) e) e) e)
theorem kn91 : Kn HF91 := fun a h b e o => fn_lpN kn90 _ _ _ (Fn.kI (fn_lpI (show b ≠ hN h by have := o.1; omega) _ _ _ (Fn.kAF (Fn.kNF kn84 o.kAF))) (show b ≠ hN h + 1 by have := o.1; omega))
theorem fn_lpP {c e : Nat} : ∀ (n i : Nat) (h : Hp), Fn h b → Fn (lpP c e n i h) b
  | 0, _, _, o => o
  | n + 1, i, h, o => fn_lpP n (i + 1) _ (Fn.kNF kn29 (Fn.kNF kn29 o))
theorem Fn.kW {a k : Nat} (o : Fn h b) : Fn (WM h a k) b := by
  have n : b ≠ hN h := Nat.ne_of_lt o.1
  exact Fn.kP (Fn.kI (Fn.kI (Fn.kI (Fn.kI o.kA n) n) n) n)
theorem kn146a : Kn HF146a := fun a h b e o => by
  unfold HF146a
  refine Fn.kI ?_ e
  iterate 30 refine Fn.kAF ?_
  refine Fn.kW ?_
  exact o.kAF.kAF
theorem kn146b : Kn HF146b := fun a h b e o => by
  unfold HF146b
  iterate 28 refine Fn.kAF ?_
  exact o
theorem fn_179 {b0 b1 b2 b3 b4 i : Nat} (e0 : b ≠ b0) (e1 : b ≠ b1) (e2 : b ≠ b2) (e3 : b ≠ b3) (e4 : b ≠ b4) (o : Fn h b) : Fn (HF179 b0 b1 b2 b3 b4 i h) b := fn_lpI e4 _ _ _ (Fn.kI (Fn.kI (Fn.kI (Fn.kI o e0) e1) e2) e3)
theorem fn_lpC {b0 b1 b2 b3 b4 : Nat} (e0 : b ≠ b0) (e1 : b ≠ b1) (e2 : b ≠ b2) (e3 : b ≠ b3) (e4 : b ≠ b4) : ∀ (n i : Nat) (h : Hp), Fn h b → Fn (lpC b0 b1 b2 b3 b4 n i h) b
  | 0, _, _, o => o
  | n + 1, i, h, o => fn_lpC e0 e1 e2 e3 e4 n (i + 1) _ (fn_179 e0 e1 e2 e3 e4 o)
theorem kn146 : Kn HF146 := fun a h b e o => by
  have l := o.1
  exact fn_lpI (show b ≠ hN h by omega) _ _ _ (kn146b _ _ _ e (fn_lpC (by omega) (by omega) (by omega) (by omega) (by omega) _ _ _ (kn146a _ _ _ e o)))
theorem ni91 (a : Nat) (h : Hp) : Fn (HF91 a h) (hN h) := by
  refine fn_lpN kn90 _ _ _ (Fn.kI (a := hN h + 1) ?_ (by omega))
  have o : Ob (AF (NF HF84 (AF h (50, 360) 360 a 0) (8, 0) 5 a 1) (68, 12) 12 a 2) (hN h) (50, 360) := Ob.kAF (Ob.kNF HF84_kp (Ob.kN (h := h)))
  refine ⟨?_, fun k hk => lpI_at 360 0 _ k (by omega) (by omega)⟩
  rw [hN_lpI]
  exact o.1
theorem nf91 {s : Nat × Nat} {w a k : Nat} : Fn (NF HF91 h s w a k) (hN h + 1) := ni91 (hN h) (alc h s w)
end NI
theorem hn_96a : hN (HF96a 62 (alc hp0 (11, 0) 14)) = 177 := by decide +kernel
theorem hn_91 : hN (NF HF91 (HF96a 62 (alc hp0 (11, 0) 14)) (10, 0) 4 63 0) = 194 := by decide +kernel
theorem fn_96 {b : Nat} (o : Fn (NF HF91 (NF HF91 (HF96a 62 (alc hp0 (11, 0) 14)) (10, 0) 4 63 0) (10, 0) 4 63 1) b) : Fn (HF96 62 (alc hp0 (11, 0) 14)) b := by
  have t : ∀ c, Fn (lpP c (c + 1) 15 0 (NF HF91 (NF HF91 (HF96a 62 (alc hp0 (11, 0) 14)) (10, 0) 4 63 0) (10, 0) 4 63 1)) b := fun c => fn_lpP _ _ _ o
  exact t (hN (HF96p 62 (alc hp0 (11, 0) 14)))
theorem fn_HR {b : Nat} (e2 : b ≠ 301) (o : Fn (NF HF91 (NF HF91 (HF96a 62 (alc hp0 (11, 0) 14)) (10, 0) 4 63 0) (10, 0) 4 63 1) b) : Fn HR b := kn146 301 _ b e2 (fn_96 o).kA
theorem HR_n178 : Fn HR 178 := by
  have o : Fn (NF HF91 (HF96a 62 (alc hp0 (11, 0) 14)) (10, 0) 4 63 0) (hN (HF96a 62 (alc hp0 (11, 0) 14)) + 1) := nf91
  rw [hn_96a] at o
  exact fn_HR (by decide) (Fn.kNF kn91 o)
theorem HR_n195 : Fn HR 195 := by
  have o : Fn (NF HF91 (NF HF91 (HF96a 62 (alc hp0 (11, 0) 14)) (10, 0) 4 63 0) (10, 0) 4 63 1) (hN (NF HF91 (HF96a 62 (alc hp0 (11, 0) 14)) (10, 0) 4 63 0) + 1) := nf91
  rw [hn_91] at o
  exact fn_HR (by decide) o
theorem pO103 : pOn 103 = 178 := by decide +kernel
theorem pO120 : pOn 120 = 195 := by decide +kernel
theorem pO302 : pOn 302 = 302 := by decide +kernel
theorem H0_n103 : ∀ k, k < 360 → hI H0 103 k = -1 := fun k hk => by
  unfold H0
  rw [hI_qH, pO103]
  exact HR_n178.2 k hk
theorem H0_n120 : ∀ k, k < 360 → hI H0 120 k = -1 := fun k hk => by
  unfold H0
  rw [hI_qH, pO120]
  exact HR_n195.2 k hk
theorem n302_of (a : Nat) (h : Hp) (k : Nat) (hk : k < 720) : hI (HF146 a h) (hN h) k = -1 := by
  unfold HF146
  generalize HF146b a (lpC (hN h + 24) (hN h + 26) (hN h + 28) (hN h + 29) (hN h + 27) 37 0 (HF146a a h)) = x
  generalize hN h = b
  exact lpI_at 720 0 x k (Nat.zero_le _) (by omega)
theorem H0_n302 : ∀ k, k < 720 → hI H0 302 k = -1 := fun k hk => by
  have e : hN (alc (HF96 62 (alc hp0 (11, 0) 14)) (12, 0) 89) = 302 := congrArg (· + 1) H0_M
  have t := n302_of 301 (alc (HF96 62 (alc hp0 (11, 0) 14)) (12, 0) 89) k hk
  rw [e] at t
  unfold H0
  rw [hI_qH, pO302]
  unfold HR
  exact t
