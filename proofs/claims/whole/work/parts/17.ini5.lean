section INI5
variable {α : Type} {X : Ctx} {d : Nat} {h : Hp}
theorem wZ_ok {a n : Nat} {i v : Int32} {f : Hp → Option α} {r : Option α} (hk : f (sI h a i.toNatClampNeg v) = r) (h1 : 61 ≤ a) (ho : Ob h a (52, n)) (hi : inb i n) (hz : okN .boolean v) : wZ h a i v f = r := (gd_t ⟨h1, congrArg Prod.fst ho.2, (by rw [ho.2]; exact hi), hz⟩ _).trans hk
theorem l_179 {a b i : Nat} (h1 : 61 ≤ a) (hb : 61 ≤ b) (hi : i < 37) : ∀ (n j : Nat) (h : Hp), j + n = 6 → Ob h a (12, 0) → Ob h b (50, 222) → hP h a 27 = some b →
    sem (X, K X d) 179 30 [some (.ref a), some (.int (Int32.ofNat i)), some (.int (Int32.ofNat j))] [] h = some (none, lpI b (-1) n (6 * i + j) h)
  | 0, j, h, e, _, _, _ => by
    rw [b_179_30]
    exact if_pos ((i32_le_lit (m := 6) (n := j) (by omega) (by omega)).mpr (by omega))
  | n + 1, j, h, e, o, p, q => by
    rw [b_179_30]
    refine (if_neg (fun z => absurd ((i32_le_lit (m := 6) (n := j) (by omega) (by omega)).mp z) (by omega))).trans ?_
    refine gR_ok q ?_ h1 o
    have e2 : (6 * Int32.ofNat i) + Int32.ofNat j = Int32.ofNat (6 * i + j) := by rw [Int32.ofNat_add, Int32.ofNat_mul]; rfl
    rw [e2]
    refine wI_ok ?_ hb p (inb_ofNat (by omega) (by omega))
    rw [i32_ofNat_clamp (by omega), i32_ofNat_succ]
    exact l_179 h1 hb hi n (j + 1) (sI h b (6 * i + j) (-1)) (by omega) o p q
/-- what the model's clearing of a pact needs -/
def P179 (a b0 b1 b2 b3 b4 : Nat) (h : Hp) : Prop := Ob h a (12, 0) ∧ (Ob h b0 (50, 37) ∧ hP h a 24 = some b0) ∧ (Ob h b1 (50, 37) ∧ hP h a 26 = some b1) ∧ (Ob h b2 (50, 37) ∧ hP h a 28 = some b2) ∧ (Ob h b3 (52, 37) ∧ hP h a 29 = some b3) ∧ Ob h b4 (50, 222) ∧ hP h a 27 = some b4
def HF179 (b0 b1 b2 b3 b4 i : Nat) (h : Hp) : Hp := lpI b4 (-1) 6 (6 * i) (sI (sI (sI (sI h b0 i 0) b1 i 0) b2 i (-1)) b3 i 0)
theorem t_179 {a b0 b1 b2 b3 b4 i : Nat} (h1 : 61 ≤ a) (c0 : 61 ≤ b0) (c1 : 61 ≤ b1) (c2 : 61 ≤ b2) (c3 : 61 ≤ b3) (c4 : 61 ≤ b4) (hi : i < 37) (p : P179 a b0 b1 b2 b3 b4 h) : K X (d + 1) 179 [.ref a, .int (Int32.ofNat i)] h = some (none, HF179 b0 b1 b2 b3 b4 i h) := by
  obtain ⟨o, ⟨p0, q0⟩, ⟨p1, q1⟩, ⟨p2, q2⟩, ⟨p3, q3⟩, p4, q4⟩ := p
  have hin : inb (Int32.ofNat i) 37 := inb_ofNat (by omega) hi
  have hcl : (Int32.ofNat i).toNatClampNeg = i := i32_ofNat_clamp (by omega)
  refine (k_179 a _ h).trans ?_
  refine gR_ok q0 ?_ h1 o
  refine wI_ok ?_ c0 p0 hin
  refine gR_ok q1 ?_ h1 o
  refine wI_ok ?_ c1 p1 hin
  refine gR_ok q2 ?_ h1 o
  refine wI_ok ?_ c2 p2 hin
  refine gR_ok q3 ?_ h1 o
  refine wZ_ok ?_ c3 p3 hin (by decide)
  rw [hcl]
  exact l_179 (b := b4) h1 c4 hi 6 0 (sI (sI (sI (sI h b0 i 0) b1 i 0) b2 i (-1)) b3 i 0) rfl o p4 q4
/-- all 37 cleared -/
def lpC (b0 b1 b2 b3 b4 : Nat) : Nat → Nat → Hp → Hp
  | 0, _, h => h
  | n + 1, i, h => lpC b0 b1 b2 b3 b4 n (i + 1) (HF179 b0 b1 b2 b3 b4 i h)
theorem HF179_ob {b0 b1 b2 b3 b4 i c : Nat} {s : Nat × Nat} (o : Ob h c s) : Ob (HF179 b0 b1 b2 b3 b4 i h) c s := lpI_ob 6 (6 * i) _ (Ob.kI (Ob.kI (Ob.kI (Ob.kI o))))
theorem HF179_hP {b0 b1 b2 b3 b4 i : Nat} : hP (HF179 b0 b1 b2 b3 b4 i h) = hP h := by
  unfold HF179
  rw [lpI_hP]
  rfl
theorem lpC_ob {b0 b1 b2 b3 b4 c : Nat} {s : Nat × Nat} : ∀ (n i : Nat) (h : Hp), Ob h c s → Ob (lpC b0 b1 b2 b3 b4 n i h) c s
  | 0, _, _, o => o
  | n + 1, i, h, o => lpC_ob n (i + 1) _ (HF179_ob o)
theorem lpC_hP {b0 b1 b2 b3 b4 : Nat} : ∀ (n i : Nat) (h : Hp), hP (lpC b0 b1 b2 b3 b4 n i h) = hP h
  | 0, _, _ => rfl
  | n + 1, i, h => (lpC_hP n (i + 1) _).trans HF179_hP
theorem P179.kC {a b0 b1 b2 b3 b4 i : Nat} (p : P179 a b0 b1 b2 b3 b4 h) : P179 a b0 b1 b2 b3 b4 (HF179 b0 b1 b2 b3 b4 i h) := by
  obtain ⟨o, ⟨p0, q0⟩, ⟨p1, q1⟩, ⟨p2, q2⟩, ⟨p3, q3⟩, p4, q4⟩ := p
  unfold P179
  rw [HF179_hP]
  exact ⟨HF179_ob o, ⟨HF179_ob p0, q0⟩, ⟨HF179_ob p1, q1⟩, ⟨HF179_ob p2, q2⟩, ⟨HF179_ob p3, q3⟩, HF179_ob p4, q4⟩
theorem l_301 {a b0 b1 b2 b3 b4 : Nat} {r : Option (Option Value × Hp)} (h1 : 61 ≤ a) (c0 : 61 ≤ b0) (c1 : 61 ≤ b1) (c2 : 61 ≤ b2) (c3 : 61 ≤ b3) (c4 : 61 ≤ b4) : ∀ (n i : Nat) (h : Hp), i + n = 37 → P179 a b0 b1 b2 b3 b4 h →
    sem (X, K X (d + 1)) 146 301 [some (.ref a), some (.int 37)] [] (lpC b0 b1 b2 b3 b4 n i h) = r → sem (X, K X (d + 1)) 146 301 [some (.ref a), some (.int (Int32.ofNat i))] [] h = r
  | 0, i, h, e, p, hk => by
    obtain rfl : i = 37 := by omega
    exact hk
  | n + 1, i, h, e, p, hk => by
    rw [b_146_301]
    refine (if_neg (fun z => absurd ((i32_le_lit (m := 37) (n := i) (by omega) (by omega)).mp z) (by omega))).trans ?_
    refine (gd_t p.1.2 _).trans ?_
    rw [t_179 h1 c0 c1 c2 c3 c4 (by omega) p, bV_some, i32_ofNat_succ]
    exact l_301 h1 c0 c1 c2 c3 c4 n (i + 1) _ (by omega) p.kC hk
theorem l_545 {a b : Nat} (h1 : 61 ≤ a) (hb : 61 ≤ b) : ∀ (n i : Nat) (h : Hp), i + n = 720 → Ob h a (12, 0) → Ob h b (50, 720) → hP h a 0 = some b →
    sem (X, K X d) 146 545 [some (.ref a), some (.int (Int32.ofNat i))] [] h = some (none, lpI b (-1) n i h)
  | 0, i, h, e, _, _, _ => by
    rw [b_146_545]
    exact if_pos ((i32_le_lit (m := 720) (n := i) (by omega) (by omega)).mpr (by omega))
  | n + 1, i, h, e, o, p, q => by
    rw [b_146_545]
    refine (if_neg (fun z => absurd ((i32_le_lit (m := 720) (n := i) (by omega) (by omega)).mp z) (by omega))).trans ?_
    refine gR_ok q ?_ h1 o
    refine wI_ok ?_ hb p (inb_ofNat (by omega) (by omega))
    rw [i32_ofNat_clamp (by omega), i32_ofNat_succ]
    exact l_545 h1 hb n (i + 1) (sI h b i (-1)) (by omega) o p q
end INI5
