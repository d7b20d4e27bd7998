/-! THE START: the state in which nothing was told -/
def Y00 : AY := (fun _ => 6, 0, -1, -1, [])
def S000 : AS := (fun _ => Y00, fun _ => ([], [], 0, 0), fun _ => ([], fun _ => false, fun _ => 100, 0, false), (fun _ => 0, 0), (0, -1), [], [], [], [])
theorem okA_S000 : okA S000 := by
  refine ⟨fun y _ => ⟨fun _ => Nat.le_refl 6, Nat.zero_le _, fun T hT => absurd hT (List.not_mem_nil)⟩, fun l _ => ⟨Nat.zero_le _, fun r hr => absurd hr (List.not_mem_nil), Nat.zero_le _, fun r hr => absurd hr (List.not_mem_nil), Nat.zero_le _, Nat.zero_le _⟩, fun p _ => ⟨⟨Nat.zero_le _, fun r hr => absurd hr (List.not_mem_nil)⟩, fun _ => Nat.le_refl 100, Nat.zero_le _⟩, ⟨Nat.zero_le _, fun _ => by show 0 < 256; decide⟩, ⟨Nat.zero_le _, fun r hr => absurd hr (List.not_mem_nil)⟩, ⟨Nat.zero_le _, fun r hr => absurd hr (List.not_mem_nil)⟩, ⟨Nat.zero_le _, fun r hr => absurd hr (List.not_mem_nil)⟩, ⟨Nat.zero_le _, fun r hr => absurd hr (List.not_mem_nil)⟩⟩
/-- what is wanting of LawAbs: the heap after the constructors tells that state -/
theorem law_of (I : Inv H0) (c : RC H0 S000) (m : RM H0 S000) : LawAbs := fun X hL hv => by
  have l := law_loop hL hv (X.1 + 7) 0 HR S000 (by omega) (by omega) I okA_S000 c m
  obtain ⟨v, h', e, rfl, I'⟩ := l
  have n1 : hN h' = nOb := I'.2.1
  have n2 : hK h' = nSl := I'.2.2.1
  refine ⟨h', ?_, by rw [n1]; decide, by rw [n2]; decide⟩
  have k : K X 101 247 [.ref 0] hp0 = sem (X, K X 100) 247 0 [some (.ref 0), none, none, none] [] hp0 := gd_t (by decide) _
  rw [← k, k_247]
  have o1 : Ob (alc hp0 (11, 0) 14) 62 (11, 0) := Ob.kN (h := hp0)
  have c1 := c_96 (X := X) (d := 94) hv 62 (alc hp0 (11, 0) 14) (by decide) o1
  have o2 : Ob (alc (HF96 62 (alc hp0 (11, 0) 14)) (12, 0) 89) 301 (12, 0) := by
    have := Ob.kN (h := HF96 62 (alc hp0 (11, 0) 14)) (s := (12, 0)) (w := 89)
    rw [H0_M] at this
    exact this
  have c2 := c_146 (X := X) (d := 98) 301 (alc (HF96 62 (alc hp0 (11, 0) 14)) (12, 0) 89) (by decide) o2
  rw [letH_e]
  show gd (hS (alc hp0 (11, 0) 14) 62 = (11, 0)) (bV (K X 100 96 [.ref 62] (alc hp0 (11, 0) 14)) _) = _
  rw [gd_t o1.2, c1, bV_some, letH_e, H0_M, gd_t o2.2, c2, bV_some]
  exact e
