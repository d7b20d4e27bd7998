/-! CONSTRUCTORS: the heap that each leaves, as a term (F_y) -/
theorem hN_sP (h : Hp) (a k : Nat) (x : Option Nat) : hN (sP h a k x) = hN h := rfl
theorem hS_sP (h : Hp) (a k : Nat) (x : Option Nat) : hS (sP h a k x) = hS h := rfl
/-- object a stands, of shape s -/
def Ob (h : Hp) (a : Nat) (s : Nat × Nat) : Prop := a < hN h ∧ hS h a = s
theorem Ob.kA {h : Hp} {a w : Nat} {s s' : Nat × Nat} (o : Ob h a s) : Ob (alc h s' w) a s := ⟨Nat.lt_succ_of_lt o.1, (hS_alc_ne (Nat.ne_of_lt o.1)).trans o.2⟩
theorem Ob.kN {h : Hp} {w : Nat} {s : Nat × Nat} : Ob (alc h s w) (hN h) s := ⟨Nat.lt_succ_self _, hS_alc⟩
theorem Ob.kP {h : Hp} {a b k : Nat} {x : Option Nat} {s : Nat × Nat} (o : Ob h a s) : Ob (sP h b k x) a s := o
theorem Ob.kI {h : Hp} {a b k : Nat} {x : Int32} {s : Nat × Nat} (o : Ob h a s) : Ob (sI h b k x) a s := o
theorem Ob.kJ {h : Hp} {a b k : Nat} {x : Int64} {s : Nat × Nat} (o : Ob h a s) : Ob (sJ h b k x) a s := o
theorem Ob.kRI {h : Hp} {a b : Nat} {f : Nat → Int32} {s : Nat × Nat} (o : Ob h a s) : Ob (rI h b f) a s := o
theorem Ob.kRJ {h : Hp} {a b : Nat} {f : Nat → Int64} {s : Nat × Nat} (o : Ob h a s) : Ob (rJ h b f) a s := o
/-- a new array or object in a field -/
def AF (h : Hp) (s : Nat × Nat) (w a k : Nat) : Hp := sP (alc h s w) a k (some (hN h))
theorem Ob.kAF {h : Hp} {a b k w : Nat} {s s' : Nat × Nat} (o : Ob h a s) : Ob (AF h s' w b k) a s := o.kA
/-- a constructor's lemma: F keeps what stands -/
def Kp (F : Nat → Hp → Hp) : Prop := ∀ (a : Nat) (h : Hp) (b : Nat) (s : Nat × Nat), Ob h b s → Ob (F a h) b s
def CT (X : Ctx) (d y ci : Nat) (F : Nat → Hp → Hp) : Prop := ∀ (a : Nat) (h : Hp), 61 ≤ a → Ob h a (ci + 1, 0) → K X d y [.ref a] h = some (none, F a h)
def NF (F : Nat → Hp → Hp) (h : Hp) (s : Nat × Nat) (w a k : Nat) : Hp := sP (F (hN h) (alc h s w)) a k (some (hN h))
theorem Ob.kNF {F : Nat → Hp → Hp} (hF : Kp F) {h : Hp} {a b k w : Nat} {s s' : Nat × Nat} (o : Ob h a s) : Ob (NF F h s' w b k) a s := hF _ _ _ _ o.kA
section INI
variable {α : Type} {X : Ctx} {d : Nat} {h : Hp}
theorem af {ci a k w : Nat} {s : Nat × Nat} {f : Hp → Option α} {r : Option α} (hk : f (AF h s w a k) = r) (h1 : 61 ≤ a) (ho : Ob h a (ci + 1, 0)) (hs : s.1 = frt ci k) : (letH (hN h) (alc h s w) fun a1 h1 => fR h1 ci a k a1 f) = r :=
  (gd_t ⟨h1, ho.kA.2, (congrArg Prod.fst hS_alc).trans hs⟩ _).trans hk
theorem an {ci cj a k w y : Nat} {F : Nat → Hp → Hp} {f : Hp → Option α} {r : Option α} (hc : CT X d y cj F) (hF : Kp F) (hk : f (NF F h (cj + 1, 0) w a k) = r) (h1 : 61 ≤ a) (ho : Ob h a (ci + 1, 0)) (hs : cj + 1 = frt ci k) :
    (letH (hN h) (alc h (cj + 1, 0) w) fun a1 h1 => gd (hS h1 a1 = (cj + 1, 0)) (bV (K X d y [.ref a1] h1) fun h2 => fR h2 ci a k a1 f)) = r := by
  have hlt : 61 ≤ hN h := Nat.le_of_lt (Nat.lt_of_le_of_lt h1 ho.1)
  refine (gd_t Ob.kN.2 _).trans ?_
  rw [hc _ _ hlt Ob.kN]
  exact (gd_t ⟨h1, (hF _ _ _ _ ho.kA).2, (congrArg Prod.fst (hF _ _ _ _ Ob.kN).2).trans hs⟩ _).trans hk
theorem fI_ok {ci a k : Nat} {v : Int32} {f : Hp → Option α} {r : Option α} (hk : f (sI h a k v) = r) (h1 : 61 ≤ a) (ho : Ob h a (ci + 1, 0)) : fI h ci a k v f = r := (gd_t ⟨h1, ho.2⟩ _).trans hk
theorem fR_ok {ci a k v : Nat} {f : Hp → Option α} {r : Option α} (hk : f (sP h a k (some v)) = r) (h1 : 61 ≤ a) (ho : Ob h a (ci + 1, 0)) (hv : (hS h v).1 = frt ci k) : fR h ci a k v f = r := (gd_t ⟨h1, ho.2, hv⟩ _).trans hk
theorem gR_ok {ci a k v : Nat} {f : Nat → Option α} {r : Option α} (hp : hP h a k = some v) (hk : f v = r) (h1 : 61 ≤ a) (ho : Ob h a (ci + 1, 0)) : gR h ci a k f = r := (gd_t ⟨h1, ho.2⟩ _).trans (by rw [hp]; exact hk)
theorem wI_ok {a n : Nat} {i v : Int32} {f : Hp → Option α} {r : Option α} (hk : f (sI h a i.toNatClampNeg v) = r) (h1 : 61 ≤ a) (ho : Ob h a (50, n)) (hi : inb i n) : wI h a i v f = r := (gd_t ⟨h1, congrArg Prod.fst ho.2, (by rw [ho.2]; exact hi)⟩ _).trans hk
def HF0 (a : Nat) (h : Hp) : Hp := AF (AF (AF (AF h (50, 10) 10 a 0) (50, 10) 10 a 1) (50, 10) 10 a 2) (51, 10) 10 a 3
theorem HF0_kp : Kp HF0 := fun _ _ _ _ o => o.kAF.kAF.kAF.kAF
theorem c_0 : CT X (d + 1) 0 0 HF0 := fun a h h1 ho => by
  refine (k_0 a h).trans ?_
  iterate 4 refine af ?_ h1 ?_ rfl
  · rfl
  all_goals repeat with_reducible first
    | exact ho
    | apply Ob.kAF
def HF1 (a : Nat) (h : Hp) : Hp := AF (AF (AF (AF (AF (AF (AF h (50, 600) 600 a 0) (50, 20) 20 a 1) (50, 20) 20 a 2) (50, 20) 20 a 3) (50, 20) 20 a 4) (50, 20) 20 a 5) (50, 20) 20 a 6
theorem HF1_kp : Kp HF1 := fun _ _ _ _ o => o.kAF.kAF.kAF.kAF.kAF.kAF.kAF
theorem c_1 : CT X (d + 1) 1 1 HF1 := fun a h h1 ho => by
  refine (k_1 a h).trans ?_
  iterate 7 refine af ?_ h1 ?_ rfl
  · rfl
  all_goals repeat with_reducible first
    | exact ho
    | apply Ob.kAF
def HF35 (a : Nat) (h : Hp) : Hp := AF (AF (AF (AF (AF (AF (AF (AF h (50, 20) 20 a 0) (50, 20) 20 a 1) (50, 6) 6 a 2) (50, 6) 6 a 3) (50, 6) 6 a 4) (50, 6) 6 a 5) (50, 6) 6 a 6) (50, 6) 6 a 7
theorem HF35_kp : Kp HF35 := fun _ _ _ _ o => o.kAF.kAF.kAF.kAF.kAF.kAF.kAF.kAF
theorem c_35 : CT X (d + 1) 35 4 HF35 := fun a h h1 ho => by
  refine (k_35 a h).trans ?_
  iterate 8 refine af ?_ h1 ?_ rfl
  · rfl
  all_goals repeat with_reducible first
    | exact ho
    | apply Ob.kAF
def HF84 (a : Nat) (h : Hp) : Hp := sI (sI (AF h (50, 6) 6 a 0) a 3 (-1)) a 4 (-1)
theorem HF84_kp : Kp HF84 := fun _ _ _ _ o => o.kAF
theorem c_84 : CT X (d + 1) 84 7 HF84 := fun a h h1 ho => by
  refine (k_84 a h).trans ?_
  refine af ?_ h1 ho rfl
  refine fI_ok ?_ h1 ho.kAF
  refine fI_ok ?_ h1 ho.kAF
  rfl
def HF90 (_ : Nat) (h : Hp) : Hp := h
theorem HF90_kp : Kp HF90 := fun _ _ _ _ o => o
theorem c_90 : CT X (d + 1) 90 8 HF90 := fun a h _ _ => k_90 a h
/-- a loop's rest: n more, from i -/
def lpI (b : Nat) (v : Int32) : Nat → Nat → Hp → Hp
  | 0, _, h => h
  | n + 1, i, h => lpI b v n (i + 1) (sI h b i v)
theorem lpI_ob {b : Nat} {v : Int32} {c : Nat} {s : Nat × Nat} : ∀ (n i : Nat) (h : Hp), Ob h c s → Ob (lpI b v n i h) c s
  | 0, _, _, o => o
  | n + 1, i, h, o => lpI_ob n (i + 1) (sI h b i v) o
theorem i32_ofNat_lt {n : Nat} (hn : n < 2147483648) : (Int32.ofNat n).toInt = n := by
  rw [Int32.toInt_ofNat_of_lt (by simpa using hn)]
theorem i32_ofNat_clamp {n : Nat} (hn : n < 2147483648) : (Int32.ofNat n).toNatClampNeg = n := by
  show (Int32.ofNat n).toInt.toNat = n
  rw [i32_ofNat_lt hn]; rfl
theorem i32_ofNat_succ (n : Nat) : Int32.ofNat n + 1 = Int32.ofNat (n + 1) := (Int32.ofNat_add n 1).symm
theorem i32_le_lit {m n : Nat} (hn : n < 2147483648) (hm : m < 2147483648) : Int32.ofNat m ≤ Int32.ofNat n ↔ m ≤ n := by
  rw [Int32.le_iff_toInt_le, i32_ofNat_lt hn, i32_ofNat_lt hm]; omega
theorem inb_ofNat {i n : Nat} (hn : n < 2147483648) (h : i < n) : inb (Int32.ofNat i) n := by
  intro z
  rcases z with z | z
  · rw [Int32.lt_iff_toInt_lt, i32_ofNat_lt (by omega)] at z
    have z : (i : Int) < 0 := z
    omega
  · rw [i32_ofNat_clamp (by omega)] at z
    omega
theorem hP_AF_ne {s : Nat × Nat} {w a k b j : Nat} (hb : b < hN h) (hj : ¬ (b = a ∧ j = k)) : hP (AF h s w a k) b j = hP h b j := by
  show hP (sP (alc h s w) a k (some (hN h))) b j = _
  rw [hP_sP_at, if_neg hj, hP_alc_ne (Nat.ne_of_lt hb)]
theorem hP_AF_eq {s : Nat × Nat} {w a k : Nat} : hP (AF h s w a k) a k = some (hN h) := by
  show hP (sP (alc h s w) a k (some (hN h))) a k = _
  rw [hP_sP_at, if_pos ⟨rfl, rfl⟩]
theorem hN_AF {s : Nat × Nat} {w a k : Nat} : hN (AF h s w a k) = hN h + 1 := rfl
theorem Ob.kAS {sr : Nat × Nat} {w c : Nat} {s : Nat × Nat} : ∀ (n : Nat) (h : Hp), Ob h c s → Ob (alcs sr w n h) c s
  | 0, _, o => o
  | n + 1, h, o => Ob.kAS n (alc h sr w) o.kA
/-- a new array of arrays in a field -/
def MF (h : Hp) (s0 : Nat × Nat) (n0 : Nat) (sr : Nat × Nat) (w n a k : Nat) : Hp := sP (lnk (alcs sr w n (alc h s0 n0)) (hN h) (hN h + 1)) a k (some (hN h))
theorem Ob.kMF {s0 sr : Nat × Nat} {n0 w n b k c : Nat} {s : Nat × Nat} (o : Ob h c s) : Ob (MF h s0 n0 sr w n b k) c s := Ob.kAS (sr := sr) (w := w) n _ (o.kA (s' := s0) (w := n0))
theorem mf {ci a k w n0 n : Nat} {s0 sr : Nat × Nat} {f : Hp → Option α} {r : Option α} (hk : f (MF h s0 n0 sr w n a k) = r) (h1 : 61 ≤ a) (ho : Ob h a (ci + 1, 0)) (hs : s0.1 = frt ci k) :
    (letH (hN h) (lnk (alcs sr w n (alc h s0 n0)) (hN h) (hN h + 1)) fun a1 h1 => fR h1 ci a k a1 f) = r :=
  (gd_t ⟨h1, (Ob.kAS (sr := sr) (w := w) n _ (ho.kA (s' := s0) (w := n0))).2, (congrArg Prod.fst (Ob.kAS (sr := sr) (w := w) n _ (Ob.kN (h := h) (s := s0) (w := n0))).2).trans hs⟩ _).trans hk
theorem fJ_ok {ci a k : Nat} {v : Int64} {f : Hp → Option α} {r : Option α} (hk : f (sJ h a k v) = r) (h1 : 61 ≤ a) (ho : Ob h a (ci + 1, 0)) : fJ h ci a k v f = r := (gd_t ⟨h1, ho.2⟩ _).trans hk
theorem fZ_ok {ci a k : Nat} {v : Int32} {f : Hp → Option α} {r : Option α} (hk : f (sI h a k v) = r) (h1 : 61 ≤ a) (ho : Ob h a (ci + 1, 0)) (hz : okN .boolean v) : fZ h ci a k v f = r := (gd_t ⟨h1, ho.2, hz⟩ _).trans hk
def HF77 (a : Nat) (h : Hp) : Hp := sJ (AF (AF (MF h (81, 6) 6 (51, 7) 7 6 a 0) (50, 6) 6 a 1) (51, 6) 6 a 2) a 3 1
theorem HF77_kp : Kp HF77 := fun _ _ _ _ o => o.kMF.kAF.kAF
theorem c_77 : CT X (d + 1) 77 6 HF77 := fun a h h1 ho => by
  refine (k_77 a h).trans ?_
  refine mf ?_ h1 ho rfl
  refine af ?_ h1 ho.kMF rfl
  refine af ?_ h1 ho.kMF.kAF rfl
  refine fJ_ok ?_ h1 ho.kMF.kAF.kAF
  rfl
theorem l_30 {a b : Nat} (h1 : 61 ≤ a) (hb : 61 ≤ b) : ∀ (n i : Nat) (h : Hp), i + n = 6 → Ob h a (4, 0) → Ob h b (50, 6) → hP h a 1 = some b → sem (X, K X d) 30 27 [some (.ref a), some (.int (Int32.ofNat i))] [] h = some (none, lpI b 100 n i h)
  | 0, i, h, e, _, _, _ => by
    rw [b_30_27]
    exact if_pos ((i32_le_lit (m := 6) (n := i) (by omega) (by omega)).mpr (by omega))
  | n + 1, i, h, e, o, p, q => by
    rw [b_30_27]
    refine (if_neg (fun z => absurd ((i32_le_lit (m := 6) (n := i) (by omega) (by omega)).mp z) (by omega))).trans ?_
    refine gR_ok q ?_ h1 o
    refine wI_ok ?_ hb p (inb_ofNat (by omega) (by omega))
    rw [i32_ofNat_clamp (by omega), i32_ofNat_succ]
    exact l_30 h1 hb n (i + 1) (sI h b i 100) (by omega) o p q
def HF29 (a : Nat) (h : Hp) : Hp := lpI (hN h + 1) 100 6 0 (sI (sI (sI (sI (sI (AF (AF h (50, 20) 20 a 0) (50, 6) 6 a 1) a 2 0) a 3 0) a 4 0) a 5 0) a 6 0)
theorem HF29_kp : Kp HF29 := fun _ _ _ _ o => lpI_ob _ _ _ (Ob.kI (o.kAF.kAF))
theorem c_29 : CT X (d + 2) 29 3 HF29 := fun a h h1 ho => by
  refine (k_29 a h).trans ?_
  refine af ?_ h1 ho rfl
  refine af ?_ h1 ho.kAF rfl
  have o2 := (ho.kAF (b := a) (k := 0) (w := 20) (s' := (50, 20))).kAF (b := a) (k := 1) (w := 6) (s' := (50, 6))
  refine (gd_t o2.2 _).trans ?_
  have hb : Ob (AF (AF h (50, 20) 20 a 0) (50, 6) 6 a 1) (hN h + 1) (50, 6) := Ob.kN (h := AF h (50, 20) 20 a 0)
  have hq : hP (AF (AF h (50, 20) 20 a 0) (50, 6) 6 a 1) a 1 = some (hN h + 1) := hP_AF_eq
  have e : K X (d + 1) 30 [.ref a] (AF (AF h (50, 20) 20 a 0) (50, 6) 6 a 1) = some (none, HF29 a h) := by
    refine (k_30 a _).trans ?_
    refine fI_ok ?_ h1 o2
    refine fI_ok ?_ h1 o2
    refine fI_ok ?_ h1 o2
    refine fI_ok ?_ h1 o2
    refine fZ_ok ?_ h1 o2 (by decide)
    exact l_30 (i := 0) h1 (by have := ho.1; omega) 6 _ rfl o2 hb hq
  rw [e]
  rfl
theorem wR_ok {a n v cj : Nat} {i : Int32} {f : Hp → Option α} {r : Option α} (hk : f (sP h a i.toNatClampNeg (some v)) = r) (h1 : 61 ≤ a) (h2 : 61 ≤ v) (hc : cj < 12) (ho : Ob h a (cj + 60, n)) (hv : Ob h v (cj + 1, 0)) (hi : inb i n) : wR h a i v f = r :=
  (gd_t ⟨h1, h2, (by rw [ho.2]; exact hi), Or.inl ⟨(by rw [ho.2]; exact Nat.le_add_left 60 cj), (by rw [ho.2]; show cj + 60 < 72; omega), (by rw [ho.2, hv.2]; rfl)⟩⟩ _).trans hk
/-- an array of new objects, each built by F -/
def lpN (F : Nat → Hp → Hp) (b : Nat) (s : Nat × Nat) (w : Nat) : Nat → Nat → Hp → Hp
  | 0, _, h => h
  | n + 1, i, h => lpN F b s w n (i + 1) (NF F h s w b i)
theorem lpN_ob {F : Nat → Hp → Hp} (hF : Kp F) {b w c : Nat} {sh s : Nat × Nat} : ∀ (n i : Nat) (h : Hp), Ob h c s → Ob (lpN F b sh w n i h) c s
  | 0, _, _, o => o
  | n + 1, i, h, o => lpN_ob hF n (i + 1) (NF F h sh w b i) (Ob.kNF hF o)
/-- a constructor leaves the links of what stood before -/
def Kq (F : Nat → Hp → Hp) : Prop := ∀ (a : Nat) (h : Hp) (b j : Nat), b < hN h → b ≠ a → hP (F a h) b j = hP h b j
theorem hP_NF_ne {F : Nat → Hp → Hp} (hF : Kq F) {s : Nat × Nat} {w a k b j : Nat} (hb : b < hN h) (hj : ¬ (b = a ∧ j = k)) : hP (NF F h s w a k) b j = hP h b j := by
  show hP (sP (F (hN h) (alc h s w)) a k (some (hN h))) b j = _
  rw [hP_sP_at, if_neg hj, hF _ _ _ _ (Nat.lt_succ_of_lt hb) (Nat.ne_of_lt hb), hP_alc_ne (Nat.ne_of_lt hb)]
theorem Kq90 : Kq HF90 := fun _ _ _ _ _ _ => rfl
theorem Kq84 : Kq HF84 := fun a h b j hb hne => hP_AF_ne (h := h) hb (fun z => hne z.1)
theorem Kq1 : Kq HF1 := fun a h b j hb hne => by
  have g : ∀ k, ¬ (b = a ∧ j = k) := fun k z => hne z.1
  unfold HF1
  repeat rw [hP_AF_ne (by first | exact hb | (simp only [hN_AF]; omega)) (g _)]
theorem Kq35 : Kq HF35 := fun a h b j hb hne => by
  have g : ∀ k, ¬ (b = a ∧ j = k) := fun k z => hne z.1
  unfold HF35
  repeat rw [hP_AF_ne (by first | exact hb | (simp only [hN_AF]; omega)) (g _)]
theorem Kq0 : Kq HF0 := fun a h b j hb hne => by
  have g : ∀ k, ¬ (b = a ∧ j = k) := fun k z => hne z.1
  unfold HF0
  repeat rw [hP_AF_ne (by first | exact hb | (simp only [hN_AF]; omega)) (g _)]
theorem lpI_hP {b : Nat} {v : Int32} : ∀ (n i : Nat) (h : Hp), hP (lpI b v n i h) = hP h
  | 0, _, _ => rfl
  | n + 1, i, h => lpI_hP n (i + 1) (sI h b i v)
theorem Kq29 : Kq HF29 := fun a h b j hb hne => by
  have g : ∀ k, ¬ (b = a ∧ j = k) := fun k z => hne z.1
  unfold HF29
  rw [lpI_hP]
  show hP (AF (AF h (50, 20) 20 a 0) (50, 6) 6 a 1) b j = _
  repeat rw [hP_AF_ne (by first | exact hb | (simp only [hN_AF]; omega)) (g _)]
theorem l_91a {a b m : Nat} {r : Option (Option Value × Hp)} (h1 : 61 ≤ a) (hb : 61 ≤ b) (hm : 61 ≤ m) : ∀ (n i : Nat) (h : Hp), i + n = 360 → Ob h a (10, 0) → Ob h b (50, 360) → Ob h m (8, 0) → hP h a 0 = some b → hP h a 1 = some m →
    sem (X, K X d) 91 67 [some (.ref a), some (.int 0)] [] (sI (lpI b (-1) n i h) m 1 360) = r → sem (X, K X d) 91 35 [some (.ref a), some (.int (Int32.ofNat i))] [] h = r
  | 0, i, h, e, o, p, om, q, qm, hk => by
    rw [b_91_35]
    refine (if_pos ((i32_le_lit (m := 360) (n := i) (by omega) (by omega)).mpr (by omega))).trans ?_
    refine gR_ok qm ?_ h1 o
    exact fI_ok hk hm om
  | n + 1, i, h, e, o, p, om, q, qm, hk => by
    rw [b_91_35]
    refine (if_neg (fun z => absurd ((i32_le_lit (m := 360) (n := i) (by omega) (by omega)).mp z) (by omega))).trans ?_
    refine gR_ok q ?_ h1 o
    refine wI_ok ?_ hb p (inb_ofNat (by omega) (by omega))
    rw [i32_ofNat_clamp (by omega), i32_ofNat_succ]
    exact l_91a h1 hb hm n (i + 1) (sI h b i (-1)) (by omega) o p om q qm hk
theorem l_91b {a b : Nat} (h1 : 61 ≤ a) (hb : 61 ≤ b) (hab : a ≠ b) : ∀ (n i : Nat) (h : Hp), i + n = 12 → Ob h a (10, 0) → Ob h b (68, 12) → hP h a 2 = some b →
    sem (X, K X (d + 1)) 91 67 [some (.ref a), some (.int (Int32.ofNat i))] [] h = some (none, lpN HF90 b (9, 0) 5 n i h)
  | 0, i, h, e, o, p, q => by
    rw [b_91_67]
    exact if_pos ((i32_le_lit (m := 12) (n := i) (by omega) (by omega)).mpr (by omega))
  | n + 1, i, h, e, o, p, q => by
    rw [b_91_67]
    refine (if_neg (fun z => absurd ((i32_le_lit (m := 12) (n := i) (by omega) (by omega)).mp z) (by omega))).trans ?_
    refine gR_ok q ?_ h1 o
    refine (gd_t Ob.kN.2 _).trans ?_
    have hlt : 61 ≤ hN h := Nat.le_of_lt (Nat.lt_of_le_of_lt h1 o.1)
    rw [c_90 (hN h) (alc h (9, 0) 5) hlt Ob.kN]
    refine wR_ok ?_ hb hlt (by omega : 8 < 12) p.kA Ob.kN (inb_ofNat (by omega) (by omega))
    rw [i32_ofNat_clamp (by omega), i32_ofNat_succ]
    exact l_91b h1 hb hab n (i + 1) (NF HF90 h (9, 0) 5 b i) (by omega) (Ob.kNF HF90_kp o) (Ob.kNF HF90_kp p) ((hP_NF_ne Kq90 o.1 (fun z => hab z.1)).trans q)
def HF91 (a : Nat) (h : Hp) : Hp :=
  let h3 := AF (NF HF84 (AF h (50, 360) 360 a 0) (8, 0) 5 a 1) (68, 12) 12 a 2
  lpN HF90 (hN h + 3) (9, 0) 5 12 0 (sI (lpI (hN h) (-1) 360 0 h3) (hN h + 1) 1 360)
theorem HF91_kp : Kp HF91 := fun _ _ _ _ o => lpN_ob HF90_kp _ _ _ (Ob.kI (lpI_ob _ _ _ (Ob.kAF (Ob.kNF HF84_kp o.kAF))))
theorem hN_lpI {b : Nat} {v : Int32} : ∀ (n i : Nat) (h : Hp), hN (lpI b v n i h) = hN h
  | 0, _, _ => rfl
  | n + 1, i, h => hN_lpI n (i + 1) (sI h b i v)
theorem c_91 : CT X (d + 2) 91 9 HF91 := fun a h h1 ho => by
  have hlt : 61 ≤ hN h := Nat.le_of_lt (Nat.lt_of_le_of_lt h1 ho.1)
  have hna : a ≠ hN h := Nat.ne_of_lt ho.1
  refine (k_91 a h).trans ?_
  refine af ?_ h1 ho rfl
  refine an c_84 HF84_kp ?_ h1 ho.kAF rfl
  refine af ?_ h1 (Ob.kNF HF84_kp ho.kAF) rfl
  have o3 : Ob (AF (NF HF84 (AF h (50, 360) 360 a 0) (8, 0) 5 a 1) (68, 12) 12 a 2) a (10, 0) := Ob.kAF (Ob.kNF HF84_kp ho.kAF)
  have b0 : Ob (AF h (50, 360) 360 a 0) (hN h) (50, 360) := Ob.kN (h := h)
  have b3 : Ob (AF (NF HF84 (AF h (50, 360) 360 a 0) (8, 0) 5 a 1) (68, 12) 12 a 2) (hN h) (50, 360) := Ob.kAF (Ob.kNF HF84_kp b0)
  have m1 : Ob (NF HF84 (AF h (50, 360) 360 a 0) (8, 0) 5 a 1) (hN h + 1) (8, 0) := HF84_kp (hN h + 1) _ _ _ (Ob.kN (h := AF h (50, 360) 360 a 0))
  have q0 : hP (AF (NF HF84 (AF h (50, 360) 360 a 0) (8, 0) 5 a 1) (68, 12) 12 a 2) a 0 = some (hN h) := by
    rw [hP_AF_ne (Ob.kNF HF84_kp ho.kAF).1 (by omega), hP_NF_ne Kq84 ho.kAF.1 (by omega), hP_AF_eq]
  have q1 : hP (AF (NF HF84 (AF h (50, 360) 360 a 0) (8, 0) 5 a 1) (68, 12) 12 a 2) a 1 = some (hN h + 1) := by
    rw [hP_AF_ne (Ob.kNF HF84_kp ho.kAF).1 (by omega)]
    show hP (sP (HF84 (hN h + 1) (alc (AF h (50, 360) 360 a 0) (8, 0) 5)) a 1 (some (hN h + 1))) a 1 = _
    rw [hP_sP_at, if_pos ⟨rfl, rfl⟩]
  have q2 : hP (AF (NF HF84 (AF h (50, 360) 360 a 0) (8, 0) 5 a 1) (68, 12) 12 a 2) a 2 = some (hN h + 3) := hP_AF_eq
  have b2 : Ob (AF (NF HF84 (AF h (50, 360) 360 a 0) (8, 0) 5 a 1) (68, 12) 12 a 2) (hN h + 3) (68, 12) := Ob.kN (h := NF HF84 (AF h (50, 360) 360 a 0) (8, 0) 5 a 1)
  have m3 : Ob (AF (NF HF84 (AF h (50, 360) 360 a 0) (8, 0) 5 a 1) (68, 12) 12 a 2) (hN h + 1) (8, 0) := m1.kAF
  have hab : a ≠ hN h + 3 := by have := ho.1; omega
  show _ = some (none, lpN HF90 (hN h + 3) (9, 0) 5 12 0 (sI (lpI (hN h) (-1) 360 0 (AF (NF HF84 (AF h (50, 360) 360 a 0) (8, 0) 5 a 1) (68, 12) 12 a 2)) (hN h + 1) 1 360))
  clear m1 b0 ho hna
  revert o3 b3 q0 q1 q2 b2 m3
  generalize AF (NF HF84 (AF h (50, 360) 360 a 0) (8, 0) 5 a 1) (68, 12) 12 a 2 = h3
  intro o3 b3 q0 q1 q2 b2 m3
  refine l_91a (m := hN h + 1) h1 hlt (by omega) 360 0 h3 rfl o3 b3 m3 q0 q1 ?_
  have o6 : Ob (lpI (hN h) (-1) 360 0 h3) a (10, 0) := lpI_ob 360 0 h3 o3
  have b6 : Ob (lpI (hN h) (-1) 360 0 h3) (hN h + 3) (68, 12) := lpI_ob 360 0 h3 b2
  have q6 : hP (lpI (hN h) (-1) 360 0 h3) a 2 = some (hN h + 3) := by rw [lpI_hP]; exact q2
  revert o6 b6 q6
  generalize lpI (hN h) (-1) 360 0 h3 = h6
  intro o6 b6 q6
  exact l_91b (b := hN h + 3) h1 (by omega) hab 12 0 (sI h6 (hN h + 1) 1 360) rfl o6 b6 q6
theorem lpN_hP {F : Nat → Hp → Hp} (hk : Kq F) {b w c j : Nat} {sh : Nat × Nat} (hF : Kp F) (hc : c ≠ b) : ∀ (n i : Nat) (h : Hp) {s : Nat × Nat}, Ob h c s → hP (lpN F b sh w n i h) c j = hP h c j
  | 0, _, _, _, _ => rfl
  | n + 1, i, h, _, o => (lpN_hP hk hF hc n (i + 1) (NF F h sh w b i) (Ob.kNF hF o)).trans (hP_NF_ne hk o.1 (fun z => hc z.1))
theorem k_246v {v : Value} (hv : v = .null ∨ v = .ref 61) {x0 x1 : Int32} (h0 : ¬ x0 < 0) (h1 : x0 < x1) : K X (d + 1) 246 [.int x0, .int x1, v] h = some (some (.int x0), h) := by
  rcases hv with rfl | rfl
  · show sem (X, K X d) 246 0 [some (.int x0), some (.int x1), some .null] [] h = _
    refine (s_iload_n 1 mc_246 dJ3_checkIndex_8e157_0 rfl rfl rfl).trans ?_
    refine (s_if_lt 9 4 mc_246 dJ3_checkIndex_8e157_1 rfl rfl).trans ?_
    refine (if_neg h0).trans ?_
    refine (s_iload_n 5 mc_246 dJ3_checkIndex_8e157_4 rfl rfl rfl).trans ?_
    refine (s_iload_n 6 mc_246 dJ3_checkIndex_8e157_5 rfl rfl rfl).trans ?_
    refine (s_icmp_lt 16 9 mc_246 dJ3_checkIndex_8e157_6 rfl rfl).trans ?_
    refine (if_pos h1).trans ?_
    refine (s_iload_n 17 mc_246 dJ3_checkIndex_8e157_16 rfl rfl rfl).trans ?_
    exact s_iret mc_246 dJ3_checkIndex_8e157_17 mt_246
  · exact (k_246 x0 x1 61 h).trans ((if_neg h0).trans (if_pos h1))
def sLen (x : Nat) : Nat := (strB.getD (x - 1) []).length
def sChr (x i : Nat) : Nat := (strB.getD (x - 1) []).getD i 0
theorem strB_lt : strB.all (fun l => l.all (fun c => decide (c < 128)) && decide (l.length < 1000)) = true := by decide +kernel
theorem sLen_lt (x : Nat) : sLen x < 1000 := by
  unfold sLen
  rcases Nat.lt_or_ge (x - 1) strB.length with q | q
  · rw [List.getD_eq_getElem?_getD, List.getElem?_eq_getElem q]
    have h := List.all_eq_true.mp strB_lt _ (List.getElem_mem q)
    simp only [Bool.and_eq_true, decide_eq_true_eq] at h
    exact h.2
  · rw [List.getD_eq_getElem?_getD, List.getElem?_eq_none q]
    exact Nat.zero_lt_succ _
theorem sChr_lt (x i : Nat) : sChr x i < 128 := by
  unfold sChr
  rcases Nat.lt_or_ge (x - 1) strB.length with q | q
  · have h := List.all_eq_true.mp strB_lt _ (List.getElem_mem q)
    simp only [Bool.and_eq_true, decide_eq_true_eq] at h
    rw [List.getD_eq_getElem?_getD (l := strB), List.getElem?_eq_getElem q]
    show (strB[x - 1]).getD i 0 < 128
    rcases Nat.lt_or_ge i (strB[x - 1]).length with w | w
    · rw [List.getD_eq_getElem?_getD, List.getElem?_eq_getElem w]
      have h2 := List.all_eq_true.mp h.1 _ (List.getElem_mem w)
      exact of_decide_eq_true h2
    · rw [List.getD_eq_getElem?_getD, List.getElem?_eq_none w]
      exact Nat.zero_lt_succ _
  · rw [List.getD_eq_getElem?_getD (l := strB), List.getElem?_eq_none q]
    exact Nat.zero_lt_succ _
theorem aL_str {x : Nat} (hx : 1 ≤ x ∧ x < 31) {f : Int32 → Option α} : aL X h (x + 30) f = f (Int32.ofNat (sLen x)) := by
  have e : alen X h (x + 30) = some (sLen x) := by
    unfold alen sLen
    rw [if_neg (by omega), if_neg (by omega), if_pos (by omega), show x + 30 - 31 = x - 1 by omega]
  unfold aL
  rw [e]
theorem s_len {x : Nat} (hx : 1 ≤ x ∧ x < 31) : K X (d + 2) 240 [.ref x] h = some (some (.int (Int32.ofNat (sLen x))), h) := by
  rw [k_240 x h hx, aL_str hx, gd_t hx, k_242 x h hx, if_neg (by decide), gd_t (by decide)]
  show some (some (Value.int (Int32.ofNat (sLen x) >>> (0 &&& 31))), h) = _
  rw [show ((0 : Int32) &&& 31) = 0 from rfl]
  exact congrArg (fun z => some (some (Value.int z), h)) (Int32.shiftRight_zero)
theorem bI_some {v : Int32} {k : Int32 → Hp → Option α} : bI (some (some (.int v), h)) k = k v h := rfl
theorem bV_some {k : Hp → Option α} : bV (some (none, h)) k = k h := rfl
theorem chr_all : (List.range 128).all (fun c => decide (((Int32.ofNat c &&& 255 : Int32).toUInt32 % 65536).toInt32 = Int32.ofNat c) && decide (okN .char (Int32.ofNat c))) = true := by decide +kernel
theorem chr_ok {c : Nat} (hc : c < 128) : ((Int32.ofNat c &&& 255 : Int32).toUInt32 % 65536).toInt32 = Int32.ofNat c ∧ okN .char (Int32.ofNat c) := by
  have h := List.all_eq_true.mp chr_all c (List.mem_range.mpr hc)
  simp only [Bool.and_eq_true, decide_eq_true_eq] at h
  exact h
theorem s_chr (hv : X.2.2 = .null ∨ X.2.2 = .ref 61) {x i : Nat} (hx : 1 ≤ x ∧ x < 31) (hi : i < sLen x) : K X (d + 4) 241 [.ref x, .int (Int32.ofNat i)] h = some (some (.int (Int32.ofNat (sChr x i))), h) := by
  have hl := sLen_lt x
  have hc := chr_ok (sChr_lt x i)
  have e4 : K X (d + 2) 244 [.int (Int32.ofNat i), .int (Int32.ofNat (sLen x))] h = some (none, h) := by
    refine (k_244 _ _ h).trans ?_
    rw [k_246v hv (fun z => by rw [Int32.lt_iff_toInt_lt, i32_ofNat_lt (by omega)] at z; have z : (i : Int) < 0 := z; omega) (by rw [Int32.lt_iff_toInt_lt, i32_ofNat_lt (by omega), i32_ofNat_lt (by omega)]; omega)]
    rfl
  have e5 : K X (d + 3) 245 [.ref (x + 30), .int (Int32.ofNat i)] h = some (some (.int (Int32.ofNat (sChr x i))), h) := by
    refine (k_245 _ _ h).trans ?_
    rw [aL_str hx, e4, bV_some]
    have e : ∀ f : Int32 → Option (Option Value × Hp), aZ h (x + 30) (Int32.ofNat i) f = f (Int32.ofNat (sChr x i)) := fun f => by
      unfold aZ sChr
      rw [if_pos (by omega), show x + 30 - 31 = x - 1 by omega]
      have g : 31 ≤ x + 30 ∧ inb (Int32.ofNat i) (strB.getD (x - 1) []).length := ⟨by omega, inb_ofNat (n := sLen x) (by omega) hi⟩
      rw [gd_t g, i32_ofNat_clamp (by omega)]
    refine (e _).trans ?_
    show gd (okN .char ((Int32.ofNat (sChr x i) &&& 255 : Int32).toUInt32 % 65536).toInt32) _ = _
    rw [hc.1, gd_t hc.2]
  rw [k_241 x _ h hx, gd_t hx, k_243 x h hx, if_neg (by decide), if_neg (by decide)]
  rw [bI_some, if_neg (by decide), e5, bI_some]
  exact gd_t hc.2 _
theorem aJ_ok {a n : Nat} {i : Int32} {f : Int64 → Option α} {r : Option α} (hk : f (hJ h a i.toNatClampNeg) = r) (h1 : 61 ≤ a) (ho : Ob h a (51, n)) (hi : inb i n) : aJ h a i f = r := (gd_t ⟨h1, congrArg Prod.fst ho.2, (by rw [ho.2]; exact hi)⟩ _).trans hk
theorem wJ_ok {a n : Nat} {i : Int32} {v : Int64} {f : Hp → Option α} {r : Option α} (hk : f (sJ h a i.toNatClampNeg v) = r) (h1 : 61 ≤ a) (ho : Ob h a (51, n)) (hi : inb i n) : wJ h a i v f = r := (gd_t ⟨h1, congrArg Prod.fst ho.2, (by rw [ho.2]; exact hi)⟩ _).trans hk
/-- the reader's words into its keys -/
def lpK (b : Nat) : Nat → Nat → Nat → Hp → Hp
  | 0, _, _, h => h
  | n + 1, p, k, h => if 29 ≤ k then h else if sChr 1 p = 32 then lpK b n (p + 1) (k + 1) h else lpK b n (p + 1) k (sJ h b k ((hJ h b k <<< ((8 : Int32).toInt64 &&& 63)) ||| (Int32.ofNat (sChr 1 p)).toInt64))
theorem lpK_ob {b c : Nat} {s : Nat × Nat} : ∀ (n p k : Nat) (h : Hp), Ob h c s → Ob (lpK b n p k h) c s
  | 0, _, _, _, o => o
  | n + 1, p, k, h, o => by
    unfold lpK
    by_cases h1 : 29 ≤ k
    · rw [if_pos h1]; exact o
    · rw [if_neg h1]
      by_cases h2 : sChr 1 p = 32
      · rw [if_pos h2]; exact lpK_ob n (p + 1) (k + 1) h o
      · rw [if_neg h2]; exact lpK_ob n (p + 1) k _ o.kJ
theorem lpK_hP {b : Nat} : ∀ (n p k : Nat) (h : Hp), hP (lpK b n p k h) = hP h
  | 0, _, _, _ => rfl
  | n + 1, p, k, h => by
    unfold lpK
    by_cases h1 : 29 ≤ k
    · rw [if_pos h1]
    · rw [if_neg h1]
      by_cases h2 : sChr 1 p = 32
      · rw [if_pos h2]; exact lpK_hP n (p + 1) (k + 1) h
      · rw [if_neg h2]; exact lpK_hP n (p + 1) k _
theorem l_37 (hv : X.2.2 = .null ∨ X.2.2 = .ref 61) {a b : Nat} (h1 : 61 ≤ a) (hb : 61 ≤ b) : ∀ (n p k : Nat) (h : Hp) (v3 : Option Value), p + n = sLen 1 → k ≤ 29 → Ob h a (6, 0) → Ob h b (51, 29) → hP h a 0 = some b →
    sem (X, K X (d + 4)) 37 56 [some (.ref a), some (.int (Int32.ofNat k)), some (.int (Int32.ofNat p)), v3] [] h = some (none, lpK b n p k h)
  | 0, p, k, h, v3, e, hk, o, q, w => by
    have hl := sLen_lt 1
    rw [b_37_56, gd_t (by decide), s_len (d := d + 2) (by decide)]
    exact if_pos ((i32_le_lit (by omega) (by omega)).mpr (by omega))
  | n + 1, p, k, h, v3, e, hk, o, q, w => by
    have hl := sLen_lt 1
    rw [b_37_56, gd_t (by decide), s_len (d := d + 2) (by decide)]
    refine (if_neg (fun z => absurd ((i32_le_lit (by omega) (by omega)).mp z) (by omega))).trans ?_
    unfold lpK
    by_cases g : 29 ≤ k
    · rw [if_pos g]
      exact if_pos ((i32_le_lit (m := 29) (by omega) (by omega)).mpr (by omega))
    · rw [if_neg g]
      refine (if_neg (fun z => absurd ((i32_le_lit (m := 29) (n := k) (by omega) (by omega)).mp z) (by omega))).trans ?_
      rw [gd_t (by decide), s_chr hv (by decide) (by omega)]
      have hc := sChr_lt 1 p
      by_cases g2 : sChr 1 p = 32
      · rw [if_pos g2, g2, bI_some]
        refine (if_neg (fun z => z rfl)).trans ?_
        rw [i32_ofNat_succ, i32_ofNat_succ]
        exact l_37 hv h1 hb n (p + 1) (k + 1) h _ (by omega) (by omega) o q w
      · rw [if_neg g2]
        refine (if_pos (fun z => g2 ?_)).trans ?_
        · have z2 : (Int32.ofNat (sChr 1 p)).toInt = (32 : Int32).toInt := congrArg Int32.toInt z
          rw [i32_ofNat_lt (by omega)] at z2
          have z3 : (sChr 1 p : Int) = 32 := z2
          omega
        · refine gR_ok w ?_ h1 o
          refine gR_ok w ?_ h1 o
          refine aJ_ok ?_ hb q (inb_ofNat (by omega) (by omega))
          refine wJ_ok ?_ hb q (inb_ofNat (by omega) (by omega))
          rw [i32_ofNat_clamp (by omega), i32_ofNat_succ]
          exact l_37 hv h1 hb n (p + 1) k _ _ (by omega) hk o.kJ q.kJ w
def HF37 (a : Nat) (h : Hp) : Hp :=
  lpK (hN h) 147 0 0 (sI (AF (AF (AF (AF (AF h (51, 29) 29 a 0) (50, 601) 601 a 1) (50, 601) 601 a 2) (50, 601) 601 a 3) (50, 64) 64 a 4) a 12 (-1))
theorem HF37_kp : Kp HF37 := fun _ _ _ _ o => lpK_ob _ _ _ _ (Ob.kI (o.kAF.kAF.kAF.kAF.kAF))
theorem sLen1 : sLen 1 = 147 := by decide +kernel
theorem c_37 (hv : X.2.2 = .null ∨ X.2.2 = .ref 61) : CT X (d + 5) 37 5 HF37 := fun a h h1 ho => by
  have hlt : 61 ≤ hN h := Nat.le_of_lt (Nat.lt_of_le_of_lt h1 ho.1)
  refine (k_37 a h).trans ?_
  refine af ?_ h1 ho rfl
  refine af ?_ h1 ho.kAF rfl
  refine af ?_ h1 ho.kAF.kAF rfl
  refine af ?_ h1 ho.kAF.kAF.kAF rfl
  refine af ?_ h1 ho.kAF.kAF.kAF.kAF rfl
  have o5 : Ob (AF (AF (AF (AF (AF h (51, 29) 29 a 0) (50, 601) 601 a 1) (50, 601) 601 a 2) (50, 601) 601 a 3) (50, 64) 64 a 4) a (6, 0) := ho.kAF.kAF.kAF.kAF.kAF
  have b0 : Ob (AF h (51, 29) 29 a 0) (hN h) (51, 29) := Ob.kN (h := h)
  have b5 : Ob (AF (AF (AF (AF (AF h (51, 29) 29 a 0) (50, 601) 601 a 1) (50, 601) 601 a 2) (50, 601) 601 a 3) (50, 64) 64 a 4) (hN h) (51, 29) := b0.kAF.kAF.kAF.kAF
  have q5 : hP (AF (AF (AF (AF (AF h (51, 29) 29 a 0) (50, 601) 601 a 1) (50, 601) 601 a 2) (50, 601) 601 a 3) (50, 64) 64 a 4) a 0 = some (hN h) := by
    rw [hP_AF_ne ho.kAF.kAF.kAF.kAF.1 (by omega), hP_AF_ne ho.kAF.kAF.kAF.1 (by omega), hP_AF_ne ho.kAF.kAF.1 (by omega), hP_AF_ne ho.kAF.1 (by omega), hP_AF_eq]
  show _ = some (none, lpK (hN h) 147 0 0 (sI (AF (AF (AF (AF (AF h (51, 29) 29 a 0) (50, 601) 601 a 1) (50, 601) 601 a 2) (50, 601) 601 a 3) (50, 64) 64 a 4) a 12 (-1)))
  clear b0 ho
  revert o5 b5 q5
  generalize AF (AF (AF (AF (AF h (51, 29) 29 a 0) (50, 601) 601 a 1) (50, 601) 601 a 2) (50, 601) 601 a 3) (50, 64) 64 a 4 = h5
  intro o5 b5 q5
  refine fI_ok ?_ h1 o5
  exact l_37 hv h1 hlt 147 0 0 (sI h5 a 12 (-1)) none sLen1.symm (by omega) o5 b5 q5
end INI
