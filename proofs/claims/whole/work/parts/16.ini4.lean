section INI4
variable {α : Type} {X : Ctx} {d : Nat} {h : Hp}
/-- the years' row, the levy, its laws in a field -/
def HF96p (a : Nat) (h : Hp) : Hp := sP (NF HF11 (AF h (69, 2) 2 a 0) (3, 0) 18 a 8) a 1 (some (hN h + 2))
def P96 (a b c : Nat) (h : Hp) : Prop := Ob h a (11, 0) ∧ Ob h b (69, 2) ∧ Ob h c (63, 15) ∧ Ob h (c + 1) (63, 15) ∧ hP h a 0 = some b ∧ hP h a 2 = some c ∧ hP h a 3 = some (c + 1)
theorem P96.kA {a b c k w : Nat} {s : Nat × Nat} (p : P96 a b c h) (hk : 4 ≤ k) : P96 a b c (AF h s w a k) := by
  obtain ⟨o, p0, p2, p3, q0, q2, q3⟩ := p
  exact ⟨o.kAF, p0.kAF, p2.kAF, p3.kAF, (hP_AF_ne o.1 (by omega)).trans q0, (hP_AF_ne o.1 (by omega)).trans q2, (hP_AF_ne o.1 (by omega)).trans q3⟩
theorem P96.kN {F : Nat → Hp → Hp} (hF : Kp F) (hq : Kq F) {a b c k w : Nat} {s : Nat × Nat} (p : P96 a b c h) (hk : 4 ≤ k) : P96 a b c (NF F h s w a k) := by
  obtain ⟨o, p0, p2, p3, q0, q2, q3⟩ := p
  exact ⟨Ob.kNF hF o, Ob.kNF hF p0, Ob.kNF hF p2, Ob.kNF hF p3, (hP_NF_ne hq o.1 (by omega)).trans q0, (hP_NF_ne hq o.1 (by omega)).trans q2, (hP_NF_ne hq o.1 (by omega)).trans q3⟩
def HF96a (a : Nat) (h : Hp) : Hp := NF HF29 (NF HF1 (NF HF90 (NF HF84 (NF HF37 (AF (NF HF0 (NF HF35 (AF (AF (HF96p a h) (63, 15) 15 a 2) (63, 15) 15 a 3) (5, 0) 11 a 4) (1, 0) 5 a 5) (50, 600) 600 a 6) (6, 0) 15 a 7) (8, 0) 5 a 9) (9, 0) 5 a 10) (2, 0) 12 a 11) (4, 0) 7 a 12
def HF96b (b c : Nat) (h : Hp) : Hp := lpP c (c + 1) 15 0 (lpN HF91 b (10, 0) 4 2 0 h)
def HF96 (a : Nat) (h : Hp) : Hp := HF96b (hN h) (hN (HF96p a h)) (HF96a a h)
theorem HF96p_kp : Kp HF96p := fun _ _ _ _ o => Ob.kP (Ob.kNF HF11_kp o.kAF)
theorem HF96p_b {a : Nat} : Ob (HF96p a h) (hN h) (69, 2) := by
  have z0 : Ob (AF h (69, 2) 2 a 0) (hN h) (69, 2) := Ob.kN (h := h)
  exact Ob.kP (Ob.kNF HF11_kp z0)
theorem HF96p_0 {a : Nat} {s : Nat × Nat} (ho : Ob h a s) : hP (HF96p a h) a 0 = some (hN h) := by
  unfold HF96p
  rw [hP_sP_at, if_neg (by omega), hP_NF_ne Kq11 ho.kAF.1 (by omega), hP_AF_eq]
theorem P96_at {a : Nat} (ho : Ob h a (11, 0)) : P96 a (hN h) (hN (HF96p a h)) (AF (AF (HF96p a h) (63, 15) 15 a 2) (63, 15) 15 a 3) := by
  have op : Ob (HF96p a h) a (11, 0) := HF96p_kp _ _ _ _ ho
  have bp := HF96p_b (h := h) (a := a)
  have q0 := HF96p_0 ho
  revert op bp q0
  generalize HF96p a h = g
  intro op bp q0
  have z2 : Ob (AF g (63, 15) 15 a 2) (hN g) (63, 15) := Ob.kN (h := g)
  have z3 : Ob (AF (AF g (63, 15) 15 a 2) (63, 15) 15 a 3) (hN g + 1) (63, 15) := Ob.kN (h := AF g (63, 15) 15 a 2)
  refine ⟨op.kAF.kAF, bp.kAF.kAF, z2.kAF, z3, ?_, ?_, ?_⟩
  · rw [hP_AF_ne op.kAF.1 (by omega), hP_AF_ne op.1 (by omega), q0]
  · rw [hP_AF_ne op.kAF.1 (by omega), hP_AF_eq]
  · rw [hP_AF_eq]; rfl
theorem P96_a {a : Nat} (ho : Ob h a (11, 0)) : P96 a (hN h) (hN (HF96p a h)) (HF96a a h) := by
  have p4 := P96_at ho
  have p5 := p4.kN HF35_kp Kq35 (k := 4) (w := 11) (s := (5, 0)) (by omega)
  have p6 := p5.kN HF0_kp Kq0 (k := 5) (w := 5) (s := (1, 0)) (by omega)
  have p7 := p6.kA (k := 6) (w := 600) (s := (50, 600)) (by omega)
  have p8 := p7.kN HF37_kp Kq37 (k := 7) (w := 15) (s := (6, 0)) (by omega)
  have p9 := p8.kN HF84_kp Kq84 (k := 9) (w := 5) (s := (8, 0)) (by omega)
  have p10 := p9.kN HF90_kp Kq90 (k := 10) (w := 5) (s := (9, 0)) (by omega)
  have p11 := p10.kN HF1_kp Kq1 (k := 11) (w := 12) (s := (2, 0)) (by omega)
  exact p11.kN HF29_kp Kq29 (k := 12) (w := 7) (s := (4, 0)) (by omega)
theorem t_96 {a b c : Nat} (h1 : 61 ≤ a) (hb : 61 ≤ b) (hab : a < b) (hc : 61 ≤ c) (hac : a < c) (p : P96 a b c h) : sem (X, K X (d + 5)) 96 140 [some (.ref a), some (.int 0)] [] h = some (none, HF96b b c h) := by
  obtain ⟨o, p0, p2, p3, q0, q2, q3⟩ := p
  have oa : ∀ {c : Nat} {s : Nat × Nat}, Ob h c s → Ob (lpN HF91 b (10, 0) 4 2 0 h) c s := fun z => lpN_ob HF91_kp 2 0 h z
  have qa : ∀ j, hP (lpN HF91 b (10, 0) 4 2 0 h) a j = hP h a j := fun j => lpN_hP Kq91 HF91_kp (by omega) 2 0 h o
  refine l_96a (b := b) h1 hb (by omega) 2 0 h rfl o p0 q0 ?_
  unfold HF96b
  replace o := oa o; replace p2 := oa p2; replace p3 := oa p3
  replace q2 := (qa 2).trans q2; replace q3 := (qa 3).trans q3
  clear oa qa p0 q0
  revert o p2 p3 q2 q3
  generalize lpN HF91 b (10, 0) 4 2 0 h = h2
  intro o p2 p3 q2 q3
  refine l_96c (b := c) (c := c + 1) (by omega) (by omega) (by omega) (by omega) (by omega) 15 0 h2 rfl o p2 p3 q2 q3 ?_
  rw [b_96_166]
  exact if_pos (by decide)
theorem c_96 (hv : X.2.2 = .null ∨ X.2.2 = .ref 61) : CT X (d + 6) 96 10 HF96 := fun a h h1 ho => by
  have p := P96_a ho
  have hlt : a < hN h := ho.1
  have hg : hN h ≤ hN (HF96p a h) := Nat.le_of_lt (HF96p_b (h := h) (a := a)).1
  refine (k_96 a h).trans ?_
  refine af ?_ h1 ho rfl
  refine an c_11 HF11_kp ?_ h1 ho.kAF rfl
  have o5 : Ob (NF HF11 (AF h (69, 2) 2 a 0) (3, 0) 18 a 8) a (11, 0) := Ob.kNF HF11_kp ho.kAF
  have n1 : hN (AF h (69, 2) 2 a 0) = hN h + 1 := rfl
  have ov : Ob (NF HF11 (AF h (69, 2) 2 a 0) (3, 0) 18 a 8) (hN h + 1) (3, 0) := Ob.kP (HF11_kp _ _ _ _ (Ob.kN (h := AF h (69, 2) 2 a 0)))
  have og : Ob (NF HF11 (AF h (69, 2) 2 a 0) (3, 0) 18 a 8) (hN h + 2) (61, 6) := Ob.kP (HF11_g (h := alc (AF h (69, 2) 2 a 0) (3, 0) 18) (a := hN h + 1))
  have q8 : hP (NF HF11 (AF h (69, 2) 2 a 0) (3, 0) 18 a 8) a 8 = some (hN h + 1) := hP_NF_eq
  have qg : hP (NF HF11 (AF h (69, 2) 2 a 0) (3, 0) 18 a 8) (hN h + 1) 0 = some (hN h + 2) := by
    show hP (sP (HF11 (hN h + 1) (alc (AF h (69, 2) 2 a 0) (3, 0) 18)) a 8 (some (hN h + 1))) (hN h + 1) 0 = _
    rw [hP_sP_at, if_neg (by omega)]
    exact HF11_0 (Ob.kN (h := AF h (69, 2) 2 a 0))
  refine gR_ok q8 ?_ h1 o5
  refine gR_ok qg ?_ (by omega) ov
  refine fR_ok ?_ h1 o5 (congrArg Prod.fst og.2)
  have op : Ob (HF96p a h) a (11, 0) := HF96p_kp _ _ _ _ ho
  show _ = some (none, HF96b (hN h) (hN (HF96p a h)) (HF96a a h))
  unfold HF96a at p ⊢
  rw [show sP (NF HF11 (AF h (69, 2) 2 a 0) (3, 0) 18 a 8) a 1 (some (hN h + 2)) = HF96p a h from rfl]
  clear o5 n1 ov og q8 qg
  revert op p hg
  generalize HF96p a h = g
  intro p hg op
  iterate 2 refine af ?_ h1 ?_ rfl
  refine an c_35 HF35_kp ?_ h1 ?_ rfl
  refine an c_0 HF0_kp ?_ h1 ?_ rfl
  refine af ?_ h1 ?_ rfl
  refine an (c_37 hv) HF37_kp ?_ h1 ?_ rfl
  refine an c_84 HF84_kp ?_ h1 ?_ rfl
  refine an c_90 HF90_kp ?_ h1 ?_ rfl
  refine an c_1 HF1_kp ?_ h1 ?_ rfl
  refine an c_29 HF29_kp ?_ h1 ?_ rfl
  exact t_96 h1 (by omega) hlt (by omega) (by omega) p
  all_goals repeat with_reducible first
    | exact op
    | apply Ob.kAF
    | refine Ob.kNF HF35_kp ?_
    | refine Ob.kNF HF0_kp ?_
    | refine Ob.kNF HF37_kp ?_
    | refine Ob.kNF HF84_kp ?_
    | refine Ob.kNF HF90_kp ?_
    | refine Ob.kNF HF1_kp ?_
end INI4
