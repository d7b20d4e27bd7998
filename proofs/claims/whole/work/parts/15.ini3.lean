section INI3
variable {α : Type} {X : Ctx} {d : Nat} {h : Hp}
theorem Kq37 : Kq HF37 := fun a h b j hb hne => by
  have g : ∀ k, ¬ (b = a ∧ j = k) := fun k z => hne z.1
  unfold HF37
  rw [lpK_hP]
  show hP (AF (AF (AF (AF (AF h (51, 29) 29 a 0) (50, 601) 601 a 1) (50, 601) 601 a 2) (50, 601) 601 a 3) (50, 64) 64 a 4) b j = _
  iterate 5 rw [hP_AF_ne (by first | exact hb | (simp only [hN_AF]; omega)) (g _)]
theorem Kq91 : Kq HF91 := fun a h b j hb hne => by
  have g : ∀ k, ¬ (b = a ∧ j = k) := fun k z => hne z.1
  have o : Ob h b (hS h b) := ⟨hb, rfl⟩
  show hP (lpN HF90 (hN h + 3) (9, 0) 5 12 0 (sI (lpI (hN h) (-1) 360 0 (AF (NF HF84 (AF h (50, 360) 360 a 0) (8, 0) 5 a 1) (68, 12) 12 a 2)) (hN h + 1) 1 360)) b j = _
  have o3 : Ob (AF (NF HF84 (AF h (50, 360) 360 a 0) (8, 0) 5 a 1) (68, 12) 12 a 2) b (hS h b) := Ob.kAF (Ob.kNF HF84_kp o.kAF)
  have e3 : hP (AF (NF HF84 (AF h (50, 360) 360 a 0) (8, 0) 5 a 1) (68, 12) 12 a 2) b j = hP h b j := by
    rw [hP_AF_ne (Ob.kNF HF84_kp o.kAF).1 (g _), hP_NF_ne Kq84 o.kAF.1 (g _), hP_AF_ne hb (g _)]
  revert o3 e3
  generalize AF (NF HF84 (AF h (50, 360) 360 a 0) (8, 0) 5 a 1) (68, 12) 12 a 2 = h3
  intro o3 e3
  have o6 : Ob (sI (lpI (hN h) (-1) 360 0 h3) (hN h + 1) 1 360) b (hS h b) := Ob.kI (lpI_ob 360 0 h3 o3)
  rw [lpN_hP Kq90 HF90_kp (by omega) 12 0 _ o6]
  have e6 : ∀ (x : Hp) (a k : Nat) (v : Int32), hP (sI x a k v) = hP x := fun _ _ _ _ => rfl
  rw [e6, lpI_hP]
  exact e3
theorem l_96a {a b : Nat} {r : Option (Option Value × Hp)} (h1 : 61 ≤ a) (hb : 61 ≤ b) (hab : a ≠ b) : ∀ (n i : Nat) (h : Hp), i + n = 2 → Ob h a (11, 0) → Ob h b (69, 2) → hP h a 0 = some b →
    sem (X, K X (d + 5)) 96 166 [some (.ref a), some (.int 0)] [] (lpN HF91 b (10, 0) 4 n i h) = r → sem (X, K X (d + 5)) 96 140 [some (.ref a), some (.int (Int32.ofNat i))] [] h = r
  | 0, i, h, e, o, p, q, hk => by
    rw [b_96_140]
    exact (if_pos ((i32_le_lit (m := 2) (n := i) (by omega) (by omega)).mpr (by omega))).trans hk
  | n + 1, i, h, e, o, p, q, hk => by
    rw [b_96_140]
    refine (if_neg (fun z => absurd ((i32_le_lit (m := 2) (n := i) (by omega) (by omega)).mp z) (by omega))).trans ?_
    refine gR_ok q ?_ h1 o
    refine (gd_t Ob.kN.2 _).trans ?_
    have hlt : 61 ≤ hN h := Nat.le_of_lt (Nat.lt_of_le_of_lt h1 o.1)
    rw [c_91 (hN h) (alc h (10, 0) 4) hlt Ob.kN, bV_some]
    refine wR_ok ?_ hb hlt (by omega : 9 < 12) (HF91_kp _ _ _ _ p.kA) (HF91_kp _ _ _ _ Ob.kN) (inb_ofNat (by omega) (by omega))
    rw [i32_ofNat_clamp (by omega), i32_ofNat_succ]
    exact l_96a h1 hb hab n (i + 1) (NF HF91 h (10, 0) 4 b i) (by omega) (Ob.kNF HF91_kp o) (Ob.kNF HF91_kp p) ((hP_NF_ne Kq91 o.1 (fun z => hab z.1)).trans q) hk
/-- the pacts, at work and as amended -/
def lpP (b c : Nat) : Nat → Nat → Hp → Hp
  | 0, _, h => h
  | n + 1, i, h => lpP b c n (i + 1) (NF HF29 (NF HF29 h (4, 0) 7 b i) (4, 0) 7 c i)
theorem lpP_ob {b c e : Nat} {s : Nat × Nat} : ∀ (n i : Nat) (h : Hp), Ob h e s → Ob (lpP b c n i h) e s
  | 0, _, _, o => o
  | n + 1, i, h, o => lpP_ob n (i + 1) _ (Ob.kNF HF29_kp (Ob.kNF HF29_kp o))
theorem lpP_hP {b c e j : Nat} (h1 : e ≠ b) (h2 : e ≠ c) : ∀ (n i : Nat) (h : Hp) {s : Nat × Nat}, Ob h e s → hP (lpP b c n i h) e j = hP h e j
  | 0, _, _, _, _ => rfl
  | n + 1, i, h, _, o => (lpP_hP h1 h2 n (i + 1) _ (Ob.kNF HF29_kp (Ob.kNF HF29_kp o))).trans ((hP_NF_ne Kq29 (Ob.kNF HF29_kp o).1 (fun z => h2 z.1)).trans (hP_NF_ne Kq29 o.1 (fun z => h1 z.1)))
theorem l_96c {a b c : Nat} {r : Option (Option Value × Hp)} (h1 : 61 ≤ a) (hb : 61 ≤ b) (hc : 61 ≤ c) (hab : a ≠ b) (hac : a ≠ c) : ∀ (n i : Nat) (h : Hp), i + n = 15 → Ob h a (11, 0) → Ob h b (63, 15) → Ob h c (63, 15) → hP h a 2 = some b → hP h a 3 = some c →
    sem (X, K X (d + 5)) 96 166 [some (.ref a), some (.int 15)] [] (lpP b c n i h) = r → sem (X, K X (d + 5)) 96 166 [some (.ref a), some (.int (Int32.ofNat i))] [] h = r
  | 0, i, h, e, o, p, p2, q, q2, hk => by
    obtain rfl : i = 15 := by omega
    exact hk
  | n + 1, i, h, e, o, p, p2, q, q2, hk => by
    rw [b_96_166]
    refine (if_neg (fun z => absurd ((i32_le_lit (m := 15) (n := i) (by omega) (by omega)).mp z) (by omega))).trans ?_
    refine gR_ok q ?_ h1 o
    refine (gd_t Ob.kN.2 _).trans ?_
    have hlt : 61 ≤ hN h := Nat.le_of_lt (Nat.lt_of_le_of_lt h1 o.1)
    rw [c_29 (hN h) (alc h (4, 0) 7) hlt Ob.kN, bV_some]
    refine wR_ok ?_ hb hlt (by omega : 3 < 12) (HF29_kp _ _ _ _ p.kA) (HF29_kp _ _ _ _ Ob.kN) (inb_ofNat (by omega) (by omega))
    rw [i32_ofNat_clamp (by omega)]
    have o' : Ob (NF HF29 h (4, 0) 7 b i) a (11, 0) := Ob.kNF HF29_kp o
    have p' : Ob (NF HF29 h (4, 0) 7 b i) b (63, 15) := Ob.kNF HF29_kp p
    have p2' : Ob (NF HF29 h (4, 0) 7 b i) c (63, 15) := Ob.kNF HF29_kp p2
    have q' : hP (NF HF29 h (4, 0) 7 b i) a 2 = some b := (hP_NF_ne Kq29 o.1 (fun z => hab z.1)).trans q
    have q2' : hP (NF HF29 h (4, 0) 7 b i) a 3 = some c := (hP_NF_ne Kq29 o.1 (fun z => hab z.1)).trans q2
    have ih := l_96c (r := r) h1 hb hc hab hac n (i + 1)
    rw [show sP (HF29 (hN h) (alc h (4, 0) 7)) b i (some (hN h)) = NF HF29 h (4, 0) 7 b i from rfl]
    unfold lpP at hk
    revert o' p' p2' q' q2' hk
    generalize NF HF29 h (4, 0) 7 b i = h'
    intro o' p' p2' q' q2' hk
    refine gR_ok q2' ?_ h1 o'
    refine (gd_t Ob.kN.2 _).trans ?_
    have hlt' : 61 ≤ hN h' := Nat.le_of_lt (Nat.lt_of_le_of_lt h1 o'.1)
    rw [c_29 (hN h') (alc h' (4, 0) 7) hlt' Ob.kN, bV_some]
    refine wR_ok ?_ hc hlt' (by omega : 3 < 12) (HF29_kp _ _ _ _ p2'.kA) (HF29_kp _ _ _ _ Ob.kN) (inb_ofNat (by omega) (by omega))
    rw [i32_ofNat_clamp (by omega), i32_ofNat_succ]
    exact ih (NF HF29 h' (4, 0) 7 c i) (by omega) (Ob.kNF HF29_kp o') (Ob.kNF HF29_kp p') (Ob.kNF HF29_kp p2') ((hP_NF_ne Kq29 o'.1 (fun z => hac z.1)).trans q') ((hP_NF_ne Kq29 o'.1 (fun z => hac z.1)).trans q2') hk
end INI3
