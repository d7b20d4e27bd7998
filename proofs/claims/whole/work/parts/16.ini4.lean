section INI4
variable {α : Type} {X : Ctx} {d : Nat} {h : Hp}
def P96 (a b : Nat) (h : Hp) : Prop := Ob h a (11, 0) ∧ Ob h b (69, 2) ∧ Ob h (b + 1) (61, 6) ∧ Ob h (b + 2) (63, 15) ∧ Ob h (b + 3) (63, 15) ∧ hP h a 0 = some b ∧ hP h a 1 = some (b + 1) ∧ hP h a 2 = some (b + 2) ∧ hP h a 3 = some (b + 3)
theorem P96.kA {a b k w : Nat} {s : Nat × Nat} (p : P96 a b h) (hk : 4 ≤ k) : P96 a b (AF h s w a k) := by
  obtain ⟨o, p0, p1, p2, p3, q0, q1, q2, q3⟩ := p
  exact ⟨o.kAF, p0.kAF, p1.kAF, p2.kAF, p3.kAF, (hP_AF_ne o.1 (by omega)).trans q0, (hP_AF_ne o.1 (by omega)).trans q1, (hP_AF_ne o.1 (by omega)).trans q2, (hP_AF_ne o.1 (by omega)).trans q3⟩
theorem P96.kN {F : Nat → Hp → Hp} (hF : Kp F) (hq : Kq F) {a b k w : Nat} {s : Nat × Nat} (p : P96 a b h) (hk : 4 ≤ k) : P96 a b (NF F h s w a k) := by
  obtain ⟨o, p0, p1, p2, p3, q0, q1, q2, q3⟩ := p
  exact ⟨Ob.kNF hF o, Ob.kNF hF p0, Ob.kNF hF p1, Ob.kNF hF p2, Ob.kNF hF p3, (hP_NF_ne hq o.1 (by omega)).trans q0, (hP_NF_ne hq o.1 (by omega)).trans q1, (hP_NF_ne hq o.1 (by omega)).trans q2, (hP_NF_ne hq o.1 (by omega)).trans q3⟩
def HF96a (a : Nat) (h : Hp) : Hp := NF HF29 (NF HF1 (NF HF90 (NF HF84 (NF HF37 (AF (NF HF0 (NF HF35 (AF (AF (AF (AF h (69, 2) 2 a 0) (61, 6) 6 a 1) (63, 15) 15 a 2) (63, 15) 15 a 3) (5, 0) 11 a 4) (1, 0) 5 a 5) (50, 600) 600 a 6) (6, 0) 15 a 7) (8, 0) 5 a 9) (9, 0) 5 a 10) (2, 0) 12 a 11) (4, 0) 7 a 12
def HF96b (b : Nat) (h : Hp) : Hp := lpP (b + 2) (b + 3) 15 0 (lpN HF1 (b + 1) (2, 0) 12 6 0 (lpN HF91 b (10, 0) 4 2 0 h))
def HF96c (a b : Nat) (h : Hp) : Hp := sP (HF11 (b + 1) (hN h) (alc h (3, 0) 18)) a 8 (some (hN h))
def HF96 (a : Nat) (h : Hp) : Hp := HF96c a (hN h) (HF96b (hN h) (HF96a a h))
theorem P96_at {a : Nat} (ho : Ob h a (11, 0)) : P96 a (hN h) (AF (AF (AF (AF h (69, 2) 2 a 0) (61, 6) 6 a 1) (63, 15) 15 a 2) (63, 15) 15 a 3) := by
  have z0 : Ob (AF h (69, 2) 2 a 0) (hN h) (69, 2) := Ob.kN (h := h)
  have z1 : Ob (AF (AF h (69, 2) 2 a 0) (61, 6) 6 a 1) (hN h + 1) (61, 6) := Ob.kN (h := AF h (69, 2) 2 a 0)
  have z2 : Ob (AF (AF (AF h (69, 2) 2 a 0) (61, 6) 6 a 1) (63, 15) 15 a 2) (hN h + 2) (63, 15) := Ob.kN (h := AF (AF h (69, 2) 2 a 0) (61, 6) 6 a 1)
  have z3 : Ob (AF (AF (AF (AF h (69, 2) 2 a 0) (61, 6) 6 a 1) (63, 15) 15 a 2) (63, 15) 15 a 3) (hN h + 3) (63, 15) := Ob.kN (h := AF (AF (AF h (69, 2) 2 a 0) (61, 6) 6 a 1) (63, 15) 15 a 2)
  refine ⟨ho.kAF.kAF.kAF.kAF, z0.kAF.kAF.kAF, z1.kAF.kAF, z2.kAF, z3, ?_, ?_, ?_, ?_⟩
  · rw [hP_AF_ne ho.kAF.kAF.kAF.1 (by omega), hP_AF_ne ho.kAF.kAF.1 (by omega), hP_AF_ne ho.kAF.1 (by omega), hP_AF_eq]
  · rw [hP_AF_ne ho.kAF.kAF.kAF.1 (by omega), hP_AF_ne ho.kAF.kAF.1 (by omega), hP_AF_eq]; rfl
  · rw [hP_AF_ne ho.kAF.kAF.kAF.1 (by omega), hP_AF_eq]; rfl
  · rw [hP_AF_eq]; rfl
theorem P96_a {a : Nat} (ho : Ob h a (11, 0)) : P96 a (hN h) (HF96a a h) := by
  have p4 := P96_at ho
  have p5 := p4.kN HF35_kp Kq35 (k := 4) (w := 11) (s := (5, 0)) (by omega)
  have p6 := p5.kN HF0_kp Kq0 (k := 5) (w := 5) (s := (1, 0)) (by omega)
  have p7 := p6.kA (k := 6) (w := 600) (s := (50, 600)) (by omega)
  have p8 := p7.kN HF37_kp Kq37 (k := 7) (w := 15) (s := (6, 0)) (by omega)
  have p9 := p8.kN HF84_kp Kq84 (k := 9) (w := 5) (s := (8, 0)) (by omega)
  have p10 := p9.kN HF90_kp Kq90 (k := 10) (w := 5) (s := (9, 0)) (by omega)
  have p11 := p10.kN HF1_kp Kq1 (k := 11) (w := 12) (s := (2, 0)) (by omega)
  exact p11.kN HF29_kp Kq29 (k := 12) (w := 7) (s := (4, 0)) (by omega)
theorem t_96 {a b : Nat} (h1 : 61 ≤ a) (hb : 61 ≤ b) (hab : a < b) (p : P96 a b h) : sem (X, K X (d + 5)) 96 127 [some (.ref a), some (.int 0)] [] h = some (none, HF96c a b (HF96b b h)) := by
  obtain ⟨o, p0, p1, p2, p3, q0, q1, q2, q3⟩ := p
  have oa : ∀ {c : Nat} {s : Nat × Nat}, Ob h c s → Ob (lpN HF91 b (10, 0) 4 2 0 h) c s := fun z => lpN_ob HF91_kp 2 0 h z
  have qa : ∀ j, hP (lpN HF91 b (10, 0) 4 2 0 h) a j = hP h a j := fun j => lpN_hP Kq91 HF91_kp (by omega) 2 0 h o
  refine l_96a (b := b) h1 hb (by omega) 2 0 h rfl o p0 q0 ?_
  unfold HF96b
  replace o := oa o; replace p1 := oa p1; replace p2 := oa p2; replace p3 := oa p3
  replace q1 := (qa 1).trans q1; replace q2 := (qa 2).trans q2; replace q3 := (qa 3).trans q3
  clear oa qa p0 q0
  revert o p1 p2 p3 q1 q2 q3
  generalize lpN HF91 b (10, 0) 4 2 0 h = h1
  intro o p1 p2 p3 q1 q2 q3
  have oa : ∀ {c : Nat} {s : Nat × Nat}, Ob h1 c s → Ob (lpN HF1 (b + 1) (2, 0) 12 6 0 h1) c s := fun z => lpN_ob HF1_kp 6 0 h1 z
  have qa : ∀ j, hP (lpN HF1 (b + 1) (2, 0) 12 6 0 h1) a j = hP h1 a j := fun j => lpN_hP Kq1 HF1_kp (by omega) 6 0 h1 o
  refine l_96b (b := b + 1) (by omega) (by omega) (by omega) 6 0 h1 rfl o p1 q1 ?_
  replace o := oa o; replace p1 := oa p1; replace p2 := oa p2; replace p3 := oa p3
  replace q1 := (qa 1).trans q1; replace q2 := (qa 2).trans q2; replace q3 := (qa 3).trans q3
  clear oa qa
  revert o p1 p2 p3 q1 q2 q3
  generalize lpN HF1 (b + 1) (2, 0) 12 6 0 h1 = h2
  intro o p1 p2 p3 q1 q2 q3
  have oa : ∀ {c : Nat} {s : Nat × Nat}, Ob h2 c s → Ob (lpP (b + 2) (b + 3) 15 0 h2) c s := fun z => lpP_ob 15 0 h2 z
  have qa : ∀ j, hP (lpP (b + 2) (b + 3) 15 0 h2) a j = hP h2 a j := fun j => lpP_hP (by omega) (by omega) 15 0 h2 o
  refine l_96c (b := b + 2) (c := b + 3) (by omega) (by omega) (by omega) (by omega) (by omega) 15 0 h2 rfl o p2 p3 q2 q3 ?_
  replace o := oa o; replace p1 := oa p1
  replace q1 := (qa 1).trans q1
  clear oa qa
  revert o p1 q1
  generalize lpP (b + 2) (b + 3) 15 0 h2 = h3
  intro o p1 q1
  rw [b_96_180]
  refine (if_pos (by decide)).trans ?_
  have ga : 61 ≤ a := by assumption
  have hlt : 61 ≤ hN h3 := Nat.le_of_lt (Nat.lt_of_le_of_lt ga o.1)
  have hne : a ≠ hN h3 := Nat.ne_of_lt o.1
  refine gR_ok ((congrFun (hP_alc_ne hne) 1).trans q1) ?_ ga o.kA
  refine (gd_t Ob.kN.2 _).trans ?_
  rw [c_11 (a := hN h3) (g := b + 1) hlt Ob.kN (congrArg Prod.fst p1.kA.2) p1.kA.1, bV_some]
  refine fR_ok ?_ ga (HF11_kp _ _ _ _ o.kA) (congrArg Prod.fst (HF11_kp _ _ _ _ Ob.kN).2)
  rfl
theorem c_96 (hv : X.2.2 = .null ∨ X.2.2 = .ref 61) : CT X (d + 6) 96 10 HF96 := fun a h h1 ho => by
  have p := P96_a ho
  refine (k_96 a h).trans ?_
  iterate 4 refine af ?_ h1 ?_ rfl
  refine an c_35 HF35_kp ?_ h1 ?_ rfl
  refine an c_0 HF0_kp ?_ h1 ?_ rfl
  refine af ?_ h1 ?_ rfl
  refine an (c_37 hv) HF37_kp ?_ h1 ?_ rfl
  refine an c_84 HF84_kp ?_ h1 ?_ rfl
  refine an c_90 HF90_kp ?_ h1 ?_ rfl
  refine an c_1 HF1_kp ?_ h1 ?_ rfl
  refine an c_29 HF29_kp ?_ h1 ?_ rfl
  exact t_96 h1 (Nat.le_of_lt (Nat.lt_of_le_of_lt h1 ho.1)) ho.1 p
  all_goals repeat with_reducible first
    | exact ho
    | apply Ob.kAF
    | refine Ob.kNF HF35_kp ?_
    | refine Ob.kNF HF0_kp ?_
    | refine Ob.kNF HF37_kp ?_
    | refine Ob.kNF HF84_kp ?_
    | refine Ob.kNF HF90_kp ?_
    | refine Ob.kNF HF1_kp ?_
end INI4
