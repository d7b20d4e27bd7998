section INI2
variable {α : Type} {X : Ctx} {d : Nat} {h : Hp}
theorem hP_alcs {sr : Nat × Nat} {w b : Nat} : ∀ (n : Nat) (h : Hp), b < hN h → hP (alcs sr w n h) b = hP h b
  | 0, _, _ => rfl
  | n + 1, h, o => (hP_alcs n (alc h sr w) (Nat.lt_succ_of_lt o)).trans (hP_alc_ne (Nat.ne_of_lt o))
theorem hN_MF {s0 sr : Nat × Nat} {n0 w n a k : Nat} : hN (MF h s0 n0 sr w n a k) = hN h + 1 + n := (hN_alcs sr w n (alc h s0 n0)).1
theorem hP_MF_ne {s0 sr : Nat × Nat} {n0 w n a k b j : Nat} (hb : b < hN h) (hj : ¬ (b = a ∧ j = k)) : hP (MF h s0 n0 sr w n a k) b j = hP h b j := by
  show hP (sP (lnk (alcs sr w n (alc h s0 n0)) (hN h) (hN h + 1)) a k (some (hN h))) b j = _
  rw [hP_sP_at, if_neg hj]
  have e : hP (lnk (alcs sr w n (alc h s0 n0)) (hN h) (hN h + 1)) b = hP (alcs sr w n (alc h s0 n0)) b := if_neg (Nat.ne_of_lt hb)
  rw [e, hP_alcs n _ (Nat.lt_succ_of_lt hb), hP_alc_ne (Nat.ne_of_lt hb)]
theorem Kq77 : Kq HF77 := fun a h b j hb hne => by
  have g : ∀ k, ¬ (b = a ∧ j = k) := fun k z => hne z.1
  show hP (AF (AF (MF h (81, 6) 6 (51, 7) 7 6 a 0) (50, 6) 6 a 1) (51, 6) 6 a 2) b j = _
  rw [hP_AF_ne (by simp only [hN_AF, hN_MF]; omega) (g _), hP_AF_ne (by simp only [hN_MF]; omega) (g _), hP_MF_ne hb (g _)]
theorem hP_NF_eq {F : Nat → Hp → Hp} {s : Nat × Nat} {w a k : Nat} : hP (NF F h s w a k) a k = some (hN h) := by
  show hP (sP (F (hN h) (alc h s w)) a k (some (hN h))) a k = _
  rw [hP_sP_at, if_pos ⟨rfl, rfl⟩]
def HF11a (a : Nat) (h : Hp) : Hp := NF HF77 (AF (AF (AF (AF (AF (AF (AF (AF (AF (MF (AF h (61, 6) 6 a 0) (80, 6) 6 (50, 8) 8 6 a 1) (50, 8) 8 a 2) (50, 64) 64 a 3) (50, 6) 6 a 4) (50, 6) 6 a 5) (50, 6) 6 a 6) (51, 6) 6 a 7) (51, 6) 6 a 8) (51, 6) 6 a 9) (51, 6) 6 a 10) (7, 0) 4 a 11
def HF11 (a : Nat) (h : Hp) : Hp := sI (sI (sI (lpN HF1 (hN h) (2, 0) 12 6 0 (HF11a a h)) (hN h + 8) 5 1) (hN h + 8) 6 1) (hN h + 8) 7 100
theorem HF11a_kp : Kp HF11a := fun _ _ _ _ o => Ob.kNF HF77_kp o.kAF.kMF.kAF.kAF.kAF.kAF.kAF.kAF.kAF.kAF.kAF
theorem HF11_kp : Kp HF11 := fun _ _ _ _ o => Ob.kI (Ob.kI (Ob.kI (lpN_ob HF1_kp 6 0 _ (HF11a_kp _ _ _ _ o))))
theorem hP_11a {a b j : Nat} (hb : b < hN h) (hne : b ≠ a) : hP (HF11a a h) b j = hP h b j := by
  have g : ∀ k, ¬ (b = a ∧ j = k) := fun k z => hne z.1
  unfold HF11a
  rw [hP_NF_ne Kq77 (by simp only [hN_AF, hN_MF]; omega) (g _)]
  iterate 9 rw [hP_AF_ne (by simp only [hN_AF, hN_MF]; omega) (g _)]
  rw [hP_MF_ne (by simp only [hN_AF]; omega) (g _), hP_AF_ne hb (g _)]
theorem Kq11 : Kq HF11 := fun a h b j hb hne => by
  have o : Ob (HF11a a h) b (hS h b) := HF11a_kp _ _ _ _ ⟨hb, rfl⟩
  show hP (lpN HF1 (hN h) (2, 0) 12 6 0 (HF11a a h)) b j = _
  rw [lpN_hP Kq1 HF1_kp (by omega) 6 0 _ o]
  exact hP_11a hb hne
/-- the row of laws that the levy makes, and its link -/
theorem HF11a_g {a : Nat} : Ob (HF11a a h) (hN h) (61, 6) := by
  have z0 : Ob (AF h (61, 6) 6 a 0) (hN h) (61, 6) := Ob.kN (h := h)
  exact Ob.kNF HF77_kp z0.kMF.kAF.kAF.kAF.kAF.kAF.kAF.kAF.kAF.kAF
theorem HF11a_0 {a : Nat} (hlt : a < hN h) : hP (HF11a a h) a 0 = some (hN h) := by
  unfold HF11a
  rw [hP_NF_ne Kq77 (by simp only [hN_AF, hN_MF]; omega) (by omega)]
  iterate 9 rw [hP_AF_ne (by simp only [hN_AF, hN_MF]; omega) (by omega)]
  rw [hP_MF_ne (by simp only [hN_AF]; omega) (by omega), hP_AF_eq]
theorem HF11_g {a : Nat} : Ob (HF11 a h) (hN h) (61, 6) := Ob.kI (Ob.kI (Ob.kI (lpN_ob HF1_kp 6 0 _ HF11a_g)))
theorem HF11_0 {a : Nat} {s : Nat × Nat} (ho : Ob h a s) : hP (HF11 a h) a 0 = some (hN h) := by
  have hlt := ho.1
  show hP (lpN HF1 (hN h) (2, 0) 12 6 0 (HF11a a h)) a 0 = _
  rw [lpN_hP Kq1 HF1_kp (by omega) 6 0 _ (HF11a_kp _ _ _ _ ho)]
  exact HF11a_0 hlt
theorem l_11 {a b c : Nat} (h1 : 61 ≤ a) (hb : 61 ≤ b) (hc : 61 ≤ c) (hab : a ≠ b) : ∀ (n i : Nat) (h : Hp), i + n = 6 → Ob h a (3, 0) → Ob h b (61, 6) → Ob h c (50, 8) → hP h a 0 = some b → hP h a 2 = some c →
    sem (X, K X (d + 1)) 11 110 [some (.ref a), some (.int (Int32.ofNat i))] [] h = some (none, sI (sI (sI (lpN HF1 b (2, 0) 12 n i h) c 5 1) c 6 1) c 7 100)
  | 0, i, h, e, o, p, oc, w, w2 => by
    rw [b_11_110]
    refine (if_pos ((i32_le_lit (m := 6) (n := i) (by omega) (by omega)).mpr (by omega))).trans ?_
    refine gR_ok w2 ?_ h1 o
    refine wI_ok ?_ hc oc (by decide)
    refine gR_ok w2 ?_ h1 o
    refine wI_ok ?_ hc oc (by decide)
    refine gR_ok w2 ?_ h1 o
    refine wI_ok ?_ hc oc (by decide)
    rfl
  | n + 1, i, h, e, o, p, oc, w, w2 => by
    rw [b_11_110]
    refine (if_neg (fun z => absurd ((i32_le_lit (m := 6) (n := i) (by omega) (by omega)).mp z) (by omega))).trans ?_
    refine gR_ok w ?_ h1 o
    refine (gd_t Ob.kN.2 _).trans ?_
    have hlt : 61 ≤ hN h := Nat.le_of_lt (Nat.lt_of_le_of_lt h1 o.1)
    rw [c_1 (hN h) (alc h (2, 0) 12) hlt Ob.kN, bV_some]
    refine wR_ok ?_ hb hlt (by omega : 1 < 12) (HF1_kp _ _ _ _ p.kA) (HF1_kp _ _ _ _ Ob.kN) (inb_ofNat (by omega) (by omega))
    rw [i32_ofNat_clamp (by omega), i32_ofNat_succ]
    exact l_11 h1 hb hc hab n (i + 1) (NF HF1 h (2, 0) 12 b i) (by omega) (Ob.kNF HF1_kp o) (Ob.kNF HF1_kp p) (Ob.kNF HF1_kp oc) ((hP_NF_ne Kq1 o.1 (fun z => hab z.1)).trans w) ((hP_NF_ne Kq1 o.1 (fun z => hab z.1)).trans w2)
theorem c_11 : CT X (d + 2) 11 2 HF11 := fun a h h1 ho => by
  have hlt : a < hN h := ho.1
  refine (k_11 a h).trans ?_
  refine af ?_ h1 ho rfl
  refine mf ?_ h1 ho.kAF rfl
  iterate 9 refine af ?_ h1 ?_ rfl
  · refine an c_77 HF77_kp ?_ h1 ?_ rfl
    · have o : Ob (HF11a a h) a (3, 0) := HF11a_kp _ _ _ _ ho
      have b1 : Ob (AF (MF (AF h (61, 6) 6 a 0) (80, 6) 6 (50, 8) 8 6 a 1) (50, 8) 8 a 2) (hN (MF (AF h (61, 6) 6 a 0) (80, 6) 6 (50, 8) 8 6 a 1)) (50, 8) := Ob.kN (h := MF (AF h (61, 6) 6 a 0) (80, 6) 6 (50, 8) 8 6 a 1)
      rw [hN_MF, hN_AF] at b1
      have ob : Ob (HF11a a h) (hN h + 8) (50, 8) := Ob.kNF HF77_kp b1.kAF.kAF.kAF.kAF.kAF.kAF.kAF.kAF
      have w2 : hP (HF11a a h) a 2 = some (hN h + 8) := by
        unfold HF11a
        rw [hP_NF_ne Kq77 (by simp only [hN_AF, hN_MF]; omega) (by omega)]
        iterate 8 rw [hP_AF_ne (by simp only [hN_AF, hN_MF]; omega) (by omega)]
        rw [hP_AF_eq, hN_MF, hN_AF]
      exact l_11 (b := hN h) (c := hN h + 8) (i := 0) h1 (by omega) (by omega) (by omega) 6 (HF11a a h) rfl o HF11a_g ob (HF11a_0 hlt) w2
    all_goals repeat with_reducible first
      | exact ho
      | apply Ob.kAF
      | apply Ob.kMF
  all_goals repeat with_reducible first
    | exact ho
    | apply Ob.kAF
    | apply Ob.kMF
end INI2
