section INI2
variable {α : Type} {X : Ctx} {d : Nat} {h : Hp}
theorem hP_alcs {sr : Nat × Nat} {w b : Nat} : ∀ (n : Nat) (h : Hp), b < hN h → hP (alcs sr w n h) b = hP h b
  | 0, _, _ => rfl
  | n + 1, h, o => (hP_alcs n (alc h sr w) (Nat.lt_succ_of_lt o)).trans (hP_alc_ne (Nat.ne_of_lt o))
theorem hN_MF {s0 sr : Nat × Nat} {n0 w n a k : Nat} : hN (MF h s0 n0 sr w n a k) = hN h + 1 + n := (hN_alcs sr w n (alc h s0 n0)).1
theorem hP_MF_ne {s0 sr : Nat × Nat} {n0 w n a k b j : Nat} (hb : b < hN h) (hj : ¬ (b = a ∧ j = k)) : hP (MF h s0 n0 sr w n a k) b j = hP h b j := by
  show hP (sP (lnk (alcs sr w n (alc h s0 n0)) (hN h) (hN h + 1)) a k (some (hN h))) b j = _
  rw [hP_sP_at, if_neg hj]
  have e : hP (lnk (alcs sr w n (alc h s0 n0)) (hN h) (hN h + 1)) b = hP (alcs sr w n (alc h s0 n0)) b := if_neg (Nat.ne_of_lt hb)
  rw [e, hP_alcs n _ (Nat.lt_succ_of_lt hb), hP_alc_ne (Nat.ne_of_lt hb)]
theorem Kq77 : Kq HF77 := fun a h b j hb hne => by
  have g : ∀ k, ¬ (b = a ∧ j = k) := fun k z => hne z.1
  show hP (AF (AF (MF h (81, 6) 6 (51, 7) 7 6 a 0) (50, 6) 6 a 1) (51, 6) 6 a 2) b j = _
  rw [hP_AF_ne (by simp only [hN_AF, hN_MF]; omega) (g _), hP_AF_ne (by simp only [hN_MF]; omega) (g _), hP_MF_ne hb (g _)]
theorem hP_NF_eq {F : Nat → Hp → Hp} {s : Nat × Nat} {w a k : Nat} : hP (NF F h s w a k) a k = some (hN h) := by
  show hP (sP (F (hN h) (alc h s w)) a k (some (hN h))) a k = _
  rw [hP_sP_at, if_pos ⟨rfl, rfl⟩]
def HF11a (a : Nat) (h : Hp) : Hp := NF HF77 (AF (AF (AF (AF (AF (AF (AF (AF (AF (MF h (80, 6) 6 (50, 8) 8 6 a 1) (50, 8) 8 a 2) (50, 64) 64 a 3) (50, 6) 6 a 4) (50, 6) 6 a 5) (50, 6) 6 a 6) (51, 6) 6 a 7) (51, 6) 6 a 8) (51, 6) 6 a 9) (51, 6) 6 a 10) (7, 0) 4 a 11
def HF11 (g a : Nat) (h : Hp) : Hp := sI (sI (sI (sP (HF11a a h) a 0 (some g)) (hN h + 7) 5 1) (hN h + 7) 6 1) (hN h + 7) 7 100
theorem HF11_kp {g : Nat} : Kp (HF11 g) := fun _ _ _ _ o => Ob.kI (Ob.kI (Ob.kI (Ob.kP (Ob.kNF HF77_kp o.kMF.kAF.kAF.kAF.kAF.kAF.kAF.kAF.kAF.kAF))))
theorem hP_11a {a b j : Nat} (hb : b < hN h) (hne : b ≠ a) : hP (HF11a a h) b j = hP h b j := by
  have g : ∀ k, ¬ (b = a ∧ j = k) := fun k z => hne z.1
  unfold HF11a
  rw [hP_NF_ne Kq77 (by simp only [hN_AF, hN_MF]; omega) (g _)]
  iterate 9 rw [hP_AF_ne (by simp only [hN_AF, hN_MF]; omega) (g _)]
  rw [hP_MF_ne hb (g _)]
theorem Kq11 {g : Nat} : Kq (HF11 g) := fun a h b j hb hne => by
  show hP (sP (HF11a a h) a 0 (some g)) b j = _
  rw [hP_sP_at, if_neg (fun z => hne z.1)]
  exact hP_11a hb hne
theorem c_11 {a g : Nat} (h1 : 61 ≤ a) (ho : Ob h a (3, 0)) (hg : (hS h g).1 = 61) (hgl : g < hN h) : K X (d + 2) 11 [.ref a, .ref g] h = some (none, HF11 g a h) := by
  have hlt : a < hN h := ho.1
  refine (k_11 a g h).trans ?_
  refine mf ?_ h1 ho rfl
  iterate 9 refine af ?_ h1 ?_ rfl
  · refine an c_77 HF77_kp ?_ h1 ?_ rfl
    · have o : Ob (HF11a a h) a (3, 0) := Ob.kNF HF77_kp ho.kMF.kAF.kAF.kAF.kAF.kAF.kAF.kAF.kAF.kAF
      have og : Ob (HF11a a h) g (hS h g) := Ob.kNF HF77_kp (Ob.kAF (Ob.kAF (Ob.kAF (Ob.kAF (Ob.kAF (Ob.kAF (Ob.kAF (Ob.kAF (Ob.kAF (Ob.kMF ⟨hgl, rfl⟩))))))))))
      have b1 : Ob (AF (MF h (80, 6) 6 (50, 8) 8 6 a 1) (50, 8) 8 a 2) (hN (MF h (80, 6) 6 (50, 8) 8 6 a 1)) (50, 8) := Ob.kN (h := MF h (80, 6) 6 (50, 8) 8 6 a 1)
      rw [hN_MF] at b1
      have ob : Ob (HF11a a h) (hN h + 7) (50, 8) := Ob.kNF HF77_kp b1.kAF.kAF.kAF.kAF.kAF.kAF.kAF.kAF
      have q : hP (HF11a a h) a 2 = some (hN h + 7) := by
        unfold HF11a
        rw [hP_NF_ne Kq77 (by simp only [hN_AF, hN_MF]; omega) (by omega)]
        iterate 8 rw [hP_AF_ne (by simp only [hN_AF, hN_MF]; omega) (by omega)]
        rw [hP_AF_eq, hN_MF]
      show fR (HF11a a h) 2 a 0 g _ = some (none, sI (sI (sI (sP (HF11a a h) a 0 (some g)) (hN h + 7) 5 1) (hN h + 7) 6 1) (hN h + 7) 7 100)
      revert o og ob q
      generalize HF11a a h = h2
      intro o og ob q
      refine fR_ok ?_ h1 o ((congrArg Prod.fst og.2).trans hg)
      have q2 : hP (sP h2 a 0 (some g)) a 2 = some (hN h + 7) := by rw [hP_sP_at, if_neg (by omega)]; exact q
      have hb : 61 ≤ hN h + 7 := by omega
      refine gR_ok q2 ?_ h1 o
      refine wI_ok ?_ hb ob (by decide)
      refine gR_ok q2 ?_ h1 o
      refine wI_ok ?_ hb ob (by decide)
      refine gR_ok q2 ?_ h1 o
      refine wI_ok ?_ hb ob (by decide)
      rfl
    all_goals repeat with_reducible first
      | exact ho
      | apply Ob.kAF
      | apply Ob.kMF
  all_goals repeat with_reducible first
    | exact ho
    | apply Ob.kAF
    | apply Ob.kMF
end INI2
