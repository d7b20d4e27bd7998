/-! TEXT: the class's tokens -/
def rpL : List Nat → Nat
  | [] => 0
  | b :: l => rpL l * 256 + b
theorem rpL_inj : ∀ {l l' : List Nat}, (∀ b, b ∈ l → 0 < b ∧ b < 256) → (∀ b, b ∈ l' → 0 < b ∧ b < 256) → rpL l = rpL l' → l = l'
  | [], [], _, _, _ => rfl
  | [], b :: l, _, h, e => by
    have := h b (by simp)
    have e : 0 = rpL l * 256 + b := e
    omega
  | b :: l, [], h, _, e => by
    have := h b (by simp)
    have e : rpL l * 256 + b = 0 := e
    omega
  | b :: l, b' :: l', h, h', e => by
    have e : rpL l * 256 + b = rpL l' * 256 + b' := e
    have h1 := h b (by simp)
    have h2 := h' b' (by simp)
    have e1 : b = b' := by omega
    have e2 : rpL l = rpL l' := by omega
    rw [e1, rpL_inj (fun c hc => h c (by simp [hc])) (fun c hc => h' c (by simp [hc])) e2]
def pkL (l : List Nat) : Nat := rpL l.reverse
theorem pkL_app (l : List Nat) (b : Nat) : pkL (l ++ [b]) = pkL l * 256 + b := by
  unfold pkL
  rw [List.reverse_append]; rfl
theorem pkL_inj {l l' : List Nat} (h : ∀ b, b ∈ l → 0 < b ∧ b < 256) (h' : ∀ b, b ∈ l' → 0 < b ∧ b < 256) (e : pkL l = pkL l') : l = l' := by
  have := rpL_inj (fun b hb => h b (List.mem_reverse.mp hb)) (fun b hb => h' b (List.mem_reverse.mp hb)) e
  exact List.reverse_inj.mp this
theorem rpL_lt : ∀ {l : List Nat}, (∀ b, b ∈ l → b < 256) → rpL l < 256 ^ l.length
  | [], _ => by decide
  | b :: l, h => by
    have ih := rpL_lt (l := l) fun c hc => h c (by simp [hc])
    have := h b (by simp)
    show rpL l * 256 + b < 256 ^ (l.length + 1)
    rw [Nat.pow_succ]; omega
theorem pkL_lt {l : List Nat} (h : ∀ b, b ∈ l → b < 256) : pkL l < 256 ^ l.length := by
  have := rpL_lt (l := l.reverse) fun b hb => h b (List.mem_reverse.mp hb)
  rw [List.length_reverse] at this
  exact this
theorem key_pk : ∀ k, k < 29 → keyN k = Int64.ofNat (pkL (KW.getD k [])) ∧ (KW.getD k []).length ≤ 7 ∧ pkL (KW.getD k []) < 72057594037927936 ∧ (KW.getD k []).all (fun b => decide (0 < b ∧ b < 256)) = true := by decide +kernel
theorem pack8 {n b : Nat} (hn : n < 281474976710656) (hb : b < 256) : ((Int64.ofNat n <<< ((8 : Int32).toInt64 &&& 63)) ||| (Int32.ofNat b).toInt64) = Int64.ofNat (n * 256 + b) := by
  have eb : (Int32.ofNat b).toInt64 = Int64.ofNat b := by
    rw [nat_j (by omega)]
    exact Int64.ofInt_eq_ofNat
  rw [eb]
  apply Int64.toBitVec_inj.1
  apply BitVec.eq_of_toNat_eq
  rw [Int64.toBitVec_or, BitVec.toNat_or, Int64.toBitVec_shiftLeft, show ((8 : Int32).toInt64 &&& 63) = ((Int32.ofNat 8).toInt64 &&& 63) from rfl, BitVec.shiftLeft_eq', smod64 8 (by decide), BitVec.toNat_shiftLeft]
  show ((n % 18446744073709551616) <<< 8) % 18446744073709551616 ||| (b % 18446744073709551616) = (n * 256 + b) % 18446744073709551616
  rw [Nat.mod_eq_of_lt (show n < 18446744073709551616 by omega), Nat.mod_eq_of_lt (show b < 18446744073709551616 by omega), Nat.mod_eq_of_lt (show n * 256 + b < 18446744073709551616 by omega), Nat.shiftLeft_eq, Nat.mod_eq_of_lt (show n * 2 ^ 8 < 18446744073709551616 by omega)]
  have := Nat.shiftLeft_add_eq_or_of_lt (i := 8) (b := b) (by omega) n
  rw [Nat.shiftLeft_eq] at this
  rw [← this]
theorem bsN_snoc {T : Nat → Nat} {q e : Nat} (h : q ≤ e) : bsN T q (e + 1) = bsN T q e ++ [T e] := by
  unfold bsN
  rw [show e + 1 - q = (e - q) + 1 by omega, List.range_succ, List.map_append]
  show _ ++ [T (q + (e - q))] = _
  rw [show q + (e - q) = e by omega]
theorem kwF_no {bs : List Nat} : ∀ {l : List (List Nat)} {j : Nat}, (∀ w, w ∈ l → bs ≠ w) → kwF bs l j = 102
  | [], _, _ => rfl
  | k :: r, j, h => by
    show (if bs = k then j else kwF bs r (j + 1)) = 102
    rw [if_neg (h k (by simp))]
    exact kwF_no fun w hw => h w (by simp [hw])
theorem kw_len : ∀ w, w ∈ KW → w.length ≤ 7 := by decide
theorem isLe_r {x : Nat} (h : isLe x = true) : 65 ≤ x ∧ x ≤ 122 := by
  unfold isLe at h
  simp only [Bool.or_eq_true, Bool.and_eq_true, decide_eq_true_eq] at h
  omega
/-- the tape of the class -/
def Tc (T : Nat → Nat) (L : Nat) (h : Hp) : Prop := (∀ k, k < L → hI h 81 k = Int32.ofNat (T k)) ∧ L ≤ 600 ∧ ∀ k, T k < 256
/-- tokens kept -/
def Tkc (T : Nat → Nat) (L : Nat) (h : Hp) (n : Nat) : Prop := ∀ i, i < n → hI h 84 i = Int32.ofNat (tC T L i) ∧ hI h 86 i = Int32.ofNat (tP T L i) ∧ (tC T L i = 100 → hI h 85 i = Int32.ofNat (tV T L i))
def WTk (a : Nat) : Prop := a = 82 ∨ a = 84 ∨ a = 85 ∨ a = 86
/-- as far as token j -/
def Scn (T : Nat → Nat) (L : Nat) (h0 h : Hp) (j : Nat) : Prop := Eo WTk h0 h ∧ (∀ k, k ≠ 7 → hI h 82 k = hI h0 82 k) ∧ hP h 82 = hP h0 82 ∧ Tkc T L h j ∧ hI h 82 7 = Int32.ofNat j ∧ NE (tC T L) j
section LC
variable {X : Ctx} {d : Nat} {Q : Option Value → Hp → Prop} {T : Nat → Nat} {L : Nat} {h : Hp}
theorem m_72 {c : Nat} (hc : c < 256) : K X (d + 1) 72 [.int (Int32.ofNat c)] h = some (some (.int (bi (isLe c))), h) := by
  refine Wp.eqI ?_
  have a : ∀ n, n < 256 → (Int32.ofNat c < Int32.ofNat n ↔ c < n) := fun n hn => i_lt (by omega) (by omega)
  have b : ∀ n, n < 256 → (Int32.ofNat c ≤ Int32.ofNat n ↔ c ≤ n) := fun n hn => i_le (by omega) (by omega)
  have g : ∀ n, n < 256 → (Int32.ofNat n < Int32.ofNat c ↔ n < c) := fun n hn => i_lt (by omega) (by omega)
  have fin : ∀ r : Bool, isLe c = r → Wp (some (some (Value.int (bi r)), h)) (VI fun y g => y = bi (isLe c) ∧ g = h) := fun r e => Wp.reti ⟨by rw [e], rfl⟩
  have low : ¬ (97 ≤ c ∧ c ≤ 122) → Wp (sem (X, K X d) 72 12 [some (.int (Int32.ofNat c))] [] h) (VI fun y g => y = bi (isLe c) ∧ g = h) := fun n => by
    rw [b_72_12]
    refine w_if (fun z => fin false ?_) (fun z => w_if (fun z2 => fin false ?_) (fun z2 => fin true ?_))
    · have := (a 65 (by decide)).mp z
      cases y : isLe c
      · rfl
      · unfold isLe at y
        simp only [Bool.or_eq_true, Bool.and_eq_true, decide_eq_true_eq] at y
        omega
    · have := (g 90 (by decide)).mp z2
      cases y : isLe c
      · rfl
      · unfold isLe at y
        simp only [Bool.or_eq_true, Bool.and_eq_true, decide_eq_true_eq] at y
        omega
    · have h1 : ¬ c < 65 := fun y => z ((a 65 (by decide)).mpr y)
      have h2 : ¬ 90 < c := fun y => z2 ((g 90 (by decide)).mpr y)
      unfold isLe
      simp only [Bool.or_eq_true, Bool.and_eq_true, decide_eq_true_eq]
      omega
  rw [k_72]
  refine w_if (fun z => low fun y => ?_) (fun z => w_if (fun z2 => fin true ?_) (fun z2 => low fun y => ?_))
  · have := (a 97 (by decide)).mp z; omega
  · have h1 : ¬ c < 97 := fun y => z ((a 97 (by decide)).mpr y)
    have h2 := (b 122 (by decide)).mp z2
    unfold isLe
    simp only [Bool.or_eq_true, Bool.and_eq_true, decide_eq_true_eq]
    omega
  · exact z2 ((b 122 (by decide)).mpr y.2)
theorem m_73 {c : Nat} (hc : c < 256) : K X (d + 1) 73 [.int (Int32.ofNat c)] h = some (some (.int (bi (isDi c))), h) := by
  refine Wp.eqI ?_
  have a : (Int32.ofNat c < Int32.ofNat 48 ↔ c < 48) := i_lt (by omega) (by omega)
  have g : (Int32.ofNat 57 < Int32.ofNat c ↔ 57 < c) := i_lt (by omega) (by omega)
  have fin : ∀ r : Bool, isDi c = r → Wp (some (some (Value.int (bi r)), h)) (VI fun y g => y = bi (isDi c) ∧ g = h) := fun r e => Wp.reti ⟨by rw [e], rfl⟩
  rw [k_73]
  refine w_if (fun z => fin false ?_) (fun z => w_if (fun z2 => fin false ?_) (fun z2 => fin true ?_))
  · have := a.mp z
    unfold isDi
    rw [decide_eq_false (show ¬ 48 ≤ c by omega), Bool.false_and]
  · have := g.mp z2
    unfold isDi
    rw [decide_eq_false (show ¬ c ≤ 57 by omega), Bool.and_false]
  · have h1 : ¬ c < 48 := fun y => z (a.mpr y)
    have h2 : ¬ 57 < c := fun y => z2 (g.mpr y)
    unfold isDi
    rw [decide_eq_true (show 48 ≤ c by omega), decide_eq_true (show c ≤ 57 by omega)]; rfl
theorem m_74 {c : Nat} (hc : c < 256) : K X (d + 1) 74 [.int (Int32.ofNat c)] h = some (some (.int (bi (isSi c))), h) := by
  refine Wp.eqI ?_
  have a : ∀ n, n < 256 → (Int32.ofNat c < Int32.ofNat n ↔ c < n) := fun n hn => i_lt (by omega) (by omega)
  have b : ∀ n, n < 256 → (Int32.ofNat c ≤ Int32.ofNat n ↔ c ≤ n) := fun n hn => i_le (by omega) (by omega)
  have g : ∀ n, n < 256 → (Int32.ofNat n < Int32.ofNat c ↔ n < c) := fun n hn => i_lt (by omega) (by omega)
  have q : ∀ n, n < 256 → (Int32.ofNat c = Int32.ofNat n ↔ c = n) := fun n hn => i_eq (by omega) (by omega)
  have fin : ∀ r : Bool, isSi c = r → Wp (some (some (Value.int (bi r)), h)) (VI fun y g => y = bi (isSi c) ∧ g = h) := fun r e => Wp.reti ⟨by rw [e], rfl⟩
  have yes : ((40 ≤ c ∧ c ≤ 43) ∨ c = 45 ∨ c = 47 ∨ (59 ≤ c ∧ c ≤ 62)) → isSi c = true := fun y => by
    unfold isSi
    simp only [Bool.or_eq_true, Bool.and_eq_true, decide_eq_true_eq]
    exact y
  have nope : ¬ ((40 ≤ c ∧ c ≤ 43) ∨ c = 45 ∨ c = 47 ∨ (59 ≤ c ∧ c ≤ 62)) → isSi c = false := fun y => by
    cases z : isSi c
    · rfl
    · unfold isSi at z
      simp only [Bool.or_eq_true, Bool.and_eq_true, decide_eq_true_eq] at z
      exact absurd z y
  have low : ¬ (40 ≤ c ∧ c ≤ 43) → Wp (sem (X, K X d) 74 12 [some (.int (Int32.ofNat c))] [] h) (VI fun y g => y = bi (isSi c) ∧ g = h) := fun n => by
    rw [b_74_12]
    refine w_if (fun z => fin true (yes (Or.inr (Or.inl ((q 45 (by decide)).mp z))))) (fun z => ?_)
    refine w_if (fun z1 => fin true (yes (Or.inr (Or.inr (Or.inl ((q 47 (by decide)).mp z1)))))) (fun z1 => ?_)
    have n45 : c ≠ 45 := fun y => z ((q 45 (by decide)).mpr y)
    have n47 : c ≠ 47 := fun y => z1 ((q 47 (by decide)).mpr y)
    refine w_if (fun z2 => fin false (nope ?_)) (fun z2 => w_if (fun z3 => fin false (nope ?_)) (fun z3 => fin true (yes ?_)))
    · have := (a 59 (by decide)).mp z2; omega
    · have := (g 62 (by decide)).mp z3; omega
    · have h1 : ¬ c < 59 := fun y => z2 ((a 59 (by decide)).mpr y)
      have h2 : ¬ 62 < c := fun y => z3 ((g 62 (by decide)).mpr y)
      omega
  rw [k_74]
  refine w_if (fun z => low fun y => ?_) (fun z => w_if (fun z2 => fin true (yes (Or.inl ⟨?_, (b 43 (by decide)).mp z2⟩))) (fun z2 => low fun y => ?_))
  · have := (a 40 (by decide)).mp z; omega
  · have : ¬ c < 40 := fun y => z ((a 40 (by decide)).mpr y)
    omega
  · exact z2 ((b 43 (by decide)).mpr y.2)
theorem w_add {j c p : Nat} {v : Int32} {h0 : Hp} {f : Hp → Option (Option Value × Hp)} (I : Inv h) (s : Scn T L h0 h j) (hj : j < 601) (hc : c = tC T L j) (hp : p = tP T L j) (hv : tC T L j = 100 → v = Int32.ofNat (tV T L j))
    (kk : ∀ h', Inv h' → Eo WTk h0 h' → (∀ k, k ≠ 7 → hI h' 82 k = hI h0 82 k) → hP h' 82 = hP h0 82 → Tkc T L h' (j + 1) → hI h' 82 7 = Int32.ofNat (j + 1) → Wp (f h') Q) : Wp (gd (hS h 82 = (6, 0)) (bV (K X (d + 1) 71 [.ref 82, .int (Int32.ofNat c), .int (Int32.ofNat p), .int v] h) f)) Q := by
  obtain ⟨s1, s2, s5, s3, s4, s6⟩ := s
  refine w_gS I s_82 ?_
  refine w_bV (P := fun h' => h' = sI (sI (sI (sI h 84 j (Int32.ofNat c)) 86 j (Int32.ofNat p)) 85 j v) 82 7 (Int32.ofNat (j + 1))) I ?_ (by decide) rfl fun h1 I1 e => ?_
  · rw [k_71]
    refine w_gI I s_82 ?_
    rw [s4]
    refine w_gL I s_82 l_82_1 ?_
    refine w_aL I s_84 (by decide) ?_
    refine w_iff (fun z => absurd ((i_le (by omega) (by omega)).mp z) (by omega)) ?_
    refine w_gL I s_82 l_82_1 ?_
    refine w_gI I s_82 ?_
    rw [s4]
    refine w_wIn I s_84 hj (by decide) fun I1 => ?_
    refine w_gL I1 s_82 l_82_3 ?_
    refine w_gI I1 s_82 ?_
    rw [sI_other (show 82 ≠ 84 by decide), s4]
    refine w_wIn I1 s_86 hj (by decide) fun I2 => ?_
    refine w_gL I2 s_82 l_82_2 ?_
    refine w_gI I2 s_82 ?_
    rw [sI_other (show 82 ≠ 86 by decide), sI_other (show 82 ≠ 84 by decide), s4]
    refine w_wIn I2 s_85 hj (by decide) fun I3 => ?_
    refine w_gI I3 s_82 ?_
    rw [sI_other (show 82 ≠ 85 by decide), sI_other (show 82 ≠ 86 by decide), sI_other (show 82 ≠ 84 by decide), s4, i32_ofNat_succ]
    refine w_fI I3 s_82 fun I4 => ?_
    exact Wp.retv rfl
  · have g84 : hI h1 84 = up1 (hI h 84) j (Int32.ofNat c) := by rw [e, sI_other (by decide), sI_other (by decide), sI_other (by decide), hI_sI_self]
    have g86 : hI h1 86 = up1 (hI h 86) j (Int32.ofNat p) := by rw [e, sI_other (by decide), sI_other (by decide), hI_sI_self, sI_other (by decide)]
    have g85 : hI h1 85 = up1 (hI h 85) j v := by rw [e, sI_other (by decide), hI_sI_self, sI_other (by decide), sI_other (by decide)]
    have g82 : ∀ k, k ≠ 7 → hI h1 82 k = hI h 82 k := fun k hk => by rw [e, hI_sI_self, up1, if_neg hk, sI_other (by decide), sI_other (by decide), sI_other (by decide)]
    refine kk h1 I1 (s1.tr (by rw [e]; exact (((Eo.rf.kI (Or.inr (Or.inl rfl))).kI (Or.inr (Or.inr (Or.inr rfl)))).kI (Or.inr (Or.inr (Or.inl rfl)))).kI (Or.inl rfl))) (fun k hk => (g82 k hk).trans (s2 k hk)) (by rw [e]; exact s5) (fun i hi => ?_) (by rw [e, hI_sI_self, up1, if_pos rfl])
    rw [g84, g85, g86, up1, up1, up1]
    by_cases z : i = j
    · rw [if_pos z, if_pos z, if_pos z, z]
      exact ⟨by rw [hc], by rw [hp], hv⟩
    · rw [if_neg z, if_neg z, if_neg z]
      exact s3 i (by omega)
/-- number -/
theorem c75_5 {q e : Nat} {v1 : Option Value} (I : Inv h) (tc : Tc T L h) (he : e ≤ L) (dg : ∀ j, q ≤ j → j < e → isDi (T j) = true) : ∀ (c i : Nat) (x : Int32), i + c = e → q ≤ i → (i - q ≤ 6 → x = Int32.ofNat (nmG T q (i - q))) →
    Wp (sem (X, K X d) 75 5 [some (.ref 81), v1, some (.int (Int32.ofNat e)), some (.int x), some (.int (Int32.ofNat i))] [] h) (VI fun y g => g = h ∧ (e - q ≤ 6 → y = Int32.ofNat (nmG T q (e - q))))
  | 0, i, x, ec, hq, hx => by
    have e1 : i = e := by omega
    subst e1
    rw [b_75_5]
    exact w_ift (Int32.le_refl _) (Wp.reti ⟨rfl, hx⟩)
  | c + 1, i, x, ec, hq, hx => by
    have l6 := tc.2.1
    have dl := isDi_le (dg i hq (by omega))
    rw [b_75_5]
    refine w_iff (fun z => absurd ((i_le (by omega) (by omega)).mp z) (by omega)) ?_
    refine w_aL I s_81 (by decide) ?_
    refine w_iff (fun z => absurd ((i_le (by omega) (by omega)).mp z) (by omega)) ?_
    refine w_aIn I s_81 (by omega) (by decide) ?_
    rw [tc.1 i (by omega), i32_ofNat_succ]
    refine c75_5 I tc he dg c (i + 1) _ (by omega) (by omega) fun h6 => ?_
    rw [hx (by omega), show i + 1 - q = (i - q) + 1 by omega, show (10 : Int32) = Int32.ofNat 10 from rfl, i_mul, i_add]
    show Int32.ofNat (nmG T q (i - q) * 10 + T i) - Int32.ofNat 48 = Int32.ofNat (10 * nmG T q (i - q) + (T (q + (i - q)) - 48))
    rw [i_sub (by omega), show q + (i - q) = i by omega]
    congr 1; omega
theorem m_75 {q e : Nat} (I : Inv h) (tc : Tc T L h) (he : e ≤ L) (hq : q ≤ e) (dg : ∀ j, q ≤ j → j < e → isDi (T j) = true) : Wp (K X (d + 1) 75 [.ref 81, .int (Int32.ofNat q), .int (Int32.ofNat e)] h) (VI fun y g => g = h ∧ (e - q ≤ 6 → y = Int32.ofNat (nmG T q (e - q)))) := by
  rw [k_75]
  exact c75_5 I tc he dg (e - q) q 0 (by omega) (Nat.le_refl _) fun _ => by rw [Nat.sub_self]; rfl
/-- keyword -/
theorem c76_52 {bs : List Nat} {v1 v2 v3 : Option Value} (I : Inv h) (hk : ∀ k, k < 29 → hJ h 83 k = keyN k) (h7 : bs.length ≤ 7) (hb : ∀ b, b ∈ bs → 0 < b ∧ b < 256) : ∀ (c k : Nat), k + c = 29 →
    Wp (sem (X, K X d) 76 52 [some (.ref 82), v1, v2, v3, some (.long (Int64.ofNat (pkL bs))), none, some (.int (Int32.ofNat k))] [] h) (VI fun y g => g = h ∧ y = Int32.ofNat (kwF bs (KW.drop k) k))
  | 0, k, e => by
    have e : k = 29 := by omega
    subst e
    rw [b_76_52]
    refine w_ift (by decide) (Wp.reti ⟨rfl, ?_⟩)
    rw [List.drop_eq_nil_of_le (by decide)]; rfl
  | c + 1, k, e => by
    have kl : k < KW.length := by show k < 29; omega
    have kp := key_pk k (by omega)
    have eg : KW.getD k [] = KW[k] := by rw [List.getD_eq_getElem?_getD, List.getElem?_eq_getElem kl]; rfl
    have st : kwF bs (KW.drop k) k = if bs = KW.getD k [] then k else kwF bs (KW.drop (k + 1)) (k + 1) := by
      rw [List.drop_eq_getElem_cons kl, eg]; rfl
    have pb := pkL_lt (l := bs) fun b h => (hb b h).2
    have p7 : 256 ^ bs.length ≤ 256 ^ 7 := Nat.pow_le_pow_right (by decide) h7
    have p8 : 256 ^ 7 = 72057594037927936 := by decide
    have cmp : Int64.ofNat (pkL (KW.getD k [])) = Int64.ofNat (pkL bs) ↔ bs = KW.getD k [] := by
      constructor
      · intro z
        have : pkL (KW.getD k []) = pkL bs := by
          have z1 : Int64.ofInt (pkL (KW.getD k []) : Nat) = Int64.ofInt (pkL bs : Nat) := by
            rw [Int64.ofInt_eq_ofNat, Int64.ofInt_eq_ofNat]; exact z
          have := (j_eq (by unfold jr; omega) (by unfold jr; omega)).mp z1
          omega
        exact pkL_inj hb (fun b h => of_decide_eq_true (List.all_eq_true.mp kp.2.2.2 b h)) this.symm
      · intro z; rw [z]
    rw [b_76_52]
    refine w_iff (fun z => absurd ((i_le (m := 29) (by omega) (by omega)).mp z) (by omega)) ?_
    refine w_gL I s_82 l_82_0 ?_
    refine w_aJn I s_83 (by omega) (by decide) ?_
    rw [hk k (by omega), kp.1, st]
    refine w_if (fun c0 => ?_) (fun c0 => ?_)
    · rw [if_neg fun z => c0 ((lg_cmp_eq _ _).mpr (cmp.mpr z)), i32_ofNat_succ]
      exact c76_52 I hk h7 hb c (k + 1) (by omega)
    · rw [if_pos (cmp.mp ((lg_cmp_eq _ _).mp (Classical.byContradiction c0)))]
      exact Wp.reti ⟨rfl, rfl⟩
theorem bsN_mem {q e b : Nat} (h : b ∈ bsN T q e) : ∃ j, q ≤ j ∧ j < e ∧ b = T j := by
  unfold bsN at h
  rw [List.mem_map] at h
  obtain ⟨i, hi, rfl⟩ := h
  have := List.mem_range.mp hi
  exact ⟨q + i, by omega, by omega, rfl⟩
theorem bsN_len {q e : Nat} : (bsN T q e).length = e - q := by
  unfold bsN
  rw [List.length_map, List.length_range]
theorem c76_17 {q e : Nat} {v2 : Option Value} (I : Inv h) (tc : Tc T L h) (hk : ∀ k, k < 29 → hJ h 83 k = keyN k) (he : e ≤ L) (h7 : e - q ≤ 7) (lt : ∀ j, q ≤ j → j < e → isLe (T j) = true) : ∀ (c i : Nat), i + c = e → q ≤ i →
    Wp (sem (X, K X d) 76 17 [some (.ref 82), some (.ref 81), v2, some (.int (Int32.ofNat e)), some (.long (Int64.ofNat (pkL (bsN T q i)))), none, some (.int (Int32.ofNat i))] [] h) (VI fun y g => g = h ∧ y = Int32.ofNat (kwN (bsN T q e)))
  | 0, i, ec, hq => by
    have e1 : i = e := by omega
    subst e1
    rw [b_76_17]
    refine w_ift (Int32.le_refl _) ?_
    refine c76_52 I hk (by rw [bsN_len]; exact h7) (fun b hb => ?_) 29 0 rfl
    obtain ⟨j, h1, h2, rfl⟩ := bsN_mem hb
    have := isLe_r (lt j h1 h2); omega
  | c + 1, i, ec, hq => by
    have l6 := tc.2.1
    have rl := isLe_r (lt i hq (by omega))
    rw [b_76_17]
    refine w_iff (fun z => absurd ((i_le (by omega) (by omega)).mp z) (by omega)) ?_
    refine w_aL I s_81 (by decide) ?_
    refine w_iff (fun z => absurd ((i_le (by omega) (by omega)).mp z) (by omega)) ?_
    refine w_aIn I s_81 (by omega) (by decide) ?_
    have pb := pkL_lt (l := bsN T q i) fun b hb => by
      obtain ⟨j, h1, h2, rfl⟩ := bsN_mem hb
      exact tc.2.2 j
    rw [bsN_len] at pb
    have p7 : 256 ^ (i - q) ≤ 256 ^ 6 := Nat.pow_le_pow_right (by decide) (by omega)
    have p8 : 256 ^ 6 = 281474976710656 := by decide
    rw [tc.1 i (by omega), pack8 (by omega) (by omega), i32_ofNat_succ]
    have := c76_17 (v2 := v2) I tc hk he h7 lt c (i + 1) (by omega) (by omega)
    rw [bsN_snoc hq, pkL_app] at this
    exact this
theorem m_76 {q e : Nat} (I : Inv h) (tc : Tc T L h) (hk : ∀ k, k < 29 → hJ h 83 k = keyN k) (he : e ≤ L) (hq : q ≤ e) (lt : ∀ j, q ≤ j → j < e → isLe (T j) = true) : Wp (K X (d + 1) 76 [.ref 82, .ref 81, .int (Int32.ofNat q), .int (Int32.ofNat e)] h) (VI fun y g => g = h ∧ y = Int32.ofNat (kwN (bsN T q e))) := by
  have l6 := tc.2.1
  rw [k_76, i_sub hq]
  refine w_if (fun c => ?_) (fun c => ?_)
  · have h7 := (i_le (n := 7) (by omega) (by omega)).mp c
    have := c76_17 (X := X) (d := d) (q := q) (v2 := some (.int (Int32.ofNat q))) I tc hk he h7 lt (e - q) q (by omega) (Nat.le_refl _)
    have z : bsN T q q = [] := by unfold bsN; rw [Nat.sub_self]; rfl
    rw [z] at this
    exact this
  · have h7 : ¬ e - q ≤ 7 := fun z => c ((i_le (n := 7) (by omega) (by omega)).mpr z)
    refine Wp.reti ⟨rfl, ?_⟩
    have : kwN (bsN T q e) = 102 := kwF_no fun w hw z => by
      have := kw_len w hw
      rw [← z, bsN_len] at this
      omega
    rw [this]; rfl
theorem Tc.eo {h' : Hp} (q : Tc T L h) (e : Eo WTk h h') : Tc T L h' := ⟨fun k hk => by rw [e.i (show ¬ WTk 81 by unfold WTk; omega)]; exact q.1 k hk, q.2⟩
/-- the scan -/
theorem c70_22 {h0 : Hp} (tc0 : Tc T L h0) (hk0 : ∀ k, k < 29 → hJ h0 83 k = keyN k) : ∀ (c p j : Nat) (h : Hp) (v2 v4 v6 : Option Value), p + c = L → Inv h → Scn T L h0 h j → tokA T L p = tokA T L (sps T L j) → j ≤ p →
    Wp (sem (X, K X (d + 2)) 70 22 [some (.ref 82), some (.ref 81), v2, some (.int (Int32.ofNat L)), v4, some (.int (Int32.ofNat p)), v6] [] h) (VV fun h' => ∃ n, Eo WTk h0 h' ∧ (∀ k, k ≠ 7 → hI h' 82 k = hI h0 82 k) ∧ hP h' 82 = hP h0 82 ∧ Tkc T L h' (n + 1) ∧ hI h' 82 7 = Int32.ofNat (n + 1) ∧ NE (tC T L) n ∧ tC T L n = 101)
  | c, p, j, h, v2, v4, v6, ec, I, s, et, jp => by
    have l6 := tc0.2.1
    have tc : Tc T L h := tc0.eo s.1
    have hk : ∀ k, k < 29 → hJ h 83 k = keyN k := fun k hk => by rw [s.1.j (show ¬ WTk 83 by unfold WTk; omega)]; exact hk0 k hk
    have tl := tc0.2.2 p
    have sC : tC T L j = (tokA T L p).1 := by rw [et]; rfl
    have sPp : tP T L j = (tokA T L p).2.1 := by rw [et]; rfl
    have sV : tV T L j = (tokA T L p).2.2.1 := by rw [et]; rfl
    have sE : sps T L (j + 1) = (tokA T L p).2.2.2 := by rw [et]; rfl
    by_cases pL : p < L
    · cases c with
      | zero => exact absurd pL (by omega)
      | succ c =>
        have next : ∀ (h' : Hp) (j' p' : Nat) (v4 v6 : Option Value), p < p' → p' ≤ L → Inv h' → Scn T L h0 h' j' → tokA T L p' = tokA T L (sps T L j') → j' ≤ p' → Wp (sem (X, K X (d + 2)) 70 22 [some (.ref 82), some (.ref 81), v2, some (.int (Int32.ofNat L)), v4, some (.int (Int32.ofNat p')), v6] [] h') (VV fun h' => ∃ n, Eo WTk h0 h' ∧ (∀ k, k ≠ 7 → hI h' 82 k = hI h0 82 k) ∧ hP h' 82 = hP h0 82 ∧ Tkc T L h' (n + 1) ∧ hI h' 82 7 = Int32.ofNat (n + 1) ∧ NE (tC T L) n ∧ tC T L n = 101) := fun h' j' p' v4 v6 h1 h2 I' s' et' jp' => c70_22 tc0 hk0 (L - p') p' j' h' v2 v4 v6 (by omega) I' s' et' jp'
        -- a token is kept, on to its end
        have kept : ∀ (x p' : Nat) (v : Int32) (v4 v6 : Option Value), x = tC T L j → x ≠ 101 → p = tP T L j → (tC T L j = 100 → v = Int32.ofNat (tV T L j)) → sps T L (j + 1) = p' → p < p' → p' ≤ L → Wp (gd (hS h 82 = (6, 0)) (bV (K X (d + 2) 71 [.ref 82, .int (Int32.ofNat x), .int (Int32.ofNat p), .int v] h) fun h6 => sem (X, K X (d + 2)) 70 22 [some (.ref 82), some (.ref 81), v2, some (.int (Int32.ofNat L)), v4, some (.int (Int32.ofNat p')), v6] [] h6)) (VV fun h' => ∃ n, Eo WTk h0 h' ∧ (∀ k, k ≠ 7 → hI h' 82 k = hI h0 82 k) ∧ hP h' 82 = hP h0 82 ∧ Tkc T L h' (n + 1) ∧ hI h' 82 7 = Int32.ofNat (n + 1) ∧ NE (tC T L) n ∧ tC T L n = 101) := fun x p' v v4 v6 e1 e2 e3 e4 e5 e6 e7 => by
          refine w_add (d := d + 1) I s (by omega) e1 e3 e4 fun h1 I1 E1 f1 p1 t1 n1 => ?_
          refine next h1 (j + 1) p' v4 v6 e6 e7 I1 ⟨E1, f1, p1, t1, n1, s.2.2.2.2.2.s (by rw [← e1]; exact e2)⟩ ?_ (by omega)
          rw [e5]
        rw [b_70_22]
        refine w_iff (fun z => absurd ((i_le (by omega) (by omega)).mp z) (by omega)) ?_
        refine w_aIn I s_81 (by omega) (by decide) ?_
        rw [tc.1 p pL, i32_ofNat_succ]
        refine w_eI (m_72 (d := d + 1) tl) ?_
        have nb : isBl (T p) = false → rn isBl T L p = p := fun z => rn_n fun _ => z
        have lb : isLe (T p) = true → isBl (T p) = false := fun z => by
          have := isLe_r z
          unfold isBl
          rw [decide_eq_false (show ¬ T p = 32 by omega), decide_eq_false (show ¬ T p = 10 by omega)]; rfl
        have db : isDi (T p) = true → isBl (T p) = false := fun z => by
          have := isDi_le z
          unfold isBl
          rw [decide_eq_false (show ¬ T p = 32 by omega), decide_eq_false (show ¬ T p = 10 by omega)]; rfl
        refine w_if (fun c0 => ?_) (fun c0 => ?_)
        · have nl : isLe (T p) = false := bi_0.mp c0
          refine w_eI (m_73 (d := d + 1) tl) ?_
          refine w_if (fun c1 => ?_) (fun c1 => ?_)
          · have nd : isDi (T p) = false := bi_0.mp c1
            have blank : isBl (T p) = true → ∀ v4 v6, Wp (sem (X, K X (d + 2)) 70 22 [some (.ref 82), some (.ref 81), v2, some (.int (Int32.ofNat L)), v4, some (.int (Int32.ofNat (p + 1))), v6] [] h) (VV fun h' => ∃ n, Eo WTk h0 h' ∧ (∀ k, k ≠ 7 → hI h' 82 k = hI h0 82 k) ∧ hP h' 82 = hP h0 82 ∧ Tkc T L h' (n + 1) ∧ hI h' 82 7 = Int32.ofNat (n + 1) ∧ NE (tC T L) n ∧ tC T L n = 101) := fun b v4 v6 => by
              refine next h j (p + 1) v4 v6 (by omega) (by omega) I s ?_ (by omega)
              rw [← et]
              unfold tokA
              rw [rn_y pL b]
            refine w_if (fun c2 => blank (by rw [(bl_32 tl).1 c2]; rfl) _ _) (fun c2 => ?_)
            refine w_if (fun c3 => blank (by rw [(bl_32 tl).2 c3]; rfl) _ _) (fun c3 => ?_)
            have nbl : isBl (T p) = false := by
              unfold isBl
              rw [decide_eq_false (fun z => c2 (by rw [z]; rfl)), decide_eq_false (fun z => c3 (by rw [z]; rfl))]; rfl
            have er := nb nbl
            have ek : tokA T L p = (if isSi (T p) then T p else 102, p, 0, p + 1) := by
              unfold tokA
              rw [er, if_neg (by omega), nl, if_neg (by decide), nd, if_neg (by decide)]
            rw [ek] at sC sPp sV sE
            refine w_eI (m_74 (d := d + 1) tl) ?_
            refine w_if (fun c4 => ?_) (fun c4 => ?_)
            · have ns : isSi (T p) = false := bi_0.mp c4
              rw [ns, if_neg (by decide)] at sC
              exact kept 102 (p + 1) 0 _ _ sC.symm (by decide) sPp.symm (fun z => by rw [sC] at z; cases z) sE (by omega) (by omega)
            · have ys : isSi (T p) = true := by cases z : isSi (T p); rw [z] at c4; exact absurd rfl c4; rfl
              have rs := isSi_r ys
              rw [ys, if_pos rfl] at sC
              have sC : tC T L j = T p := sC
              exact kept (T p) (p + 1) 0 _ _ sC.symm (by omega) sPp.symm (fun z => by rw [sC] at z; omega) sE (by omega) (by omega)
          · have yd : isDi (T p) = true := by cases z : isDi (T p); rw [z] at c1; exact absurd rfl c1; rfl
            have er := nb (db yd)
            have ek : tokA T L p = (if rn isDi T L p - p ≤ 6 then 100 else 102, p, nmG T p (min (rn isDi T L p - p) 6), rn isDi T L p) := by
              unfold tokA
              rw [er, if_neg (by omega), nl, if_neg (by decide), yd, if_pos rfl]
            rw [ek] at sC sPp sV sE
            have el := rn_le (P := isDi) (T := T) (L := L) (p := p) (by omega)
            have eg := rn_lt (P := isDi) (T := T) (L := L) (p := p) pL yd
            have alld : ∀ i, p ≤ i → i < rn isDi T L p → isDi (T i) = true := fun i h1 h2 => rn_all h1 h2
            have loop : ∀ (c e : Nat), e + c = L → p < e → rn isDi T L e = rn isDi T L p → ∀ v5 v6, v5 = some (.int (Int32.ofNat p)) → Wp (sem (X, K X (d + 2)) 70 97 [some (.ref 82), some (.ref 81), v2, some (.int (Int32.ofNat L)), some (.int (Int32.ofNat e)), v5, v6] [] h) (VV fun h' => ∃ n, Eo WTk h0 h' ∧ (∀ k, k ≠ 7 → hI h' 82 k = hI h0 82 k) ∧ hP h' 82 = hP h0 82 ∧ Tkc T L h' (n + 1) ∧ hI h' 82 7 = Int32.ofNat (n + 1) ∧ NE (tC T L) n ∧ tC T L n = 101) := fun c => by
              have fin : ∀ (e : Nat), e = rn isDi T L p → ∀ v5 v6, v5 = some (.int (Int32.ofNat p)) → Wp (sem (X, K X (d + 2)) 70 119 [some (.ref 82), some (.ref 81), v2, some (.int (Int32.ofNat L)), some (.int (Int32.ofNat e)), v5, v6] [] h) (VV fun h' => ∃ n, Eo WTk h0 h' ∧ (∀ k, k ≠ 7 → hI h' 82 k = hI h0 82 k) ∧ hP h' 82 = hP h0 82 ∧ Tkc T L h' (n + 1) ∧ hI h' 82 7 = Int32.ofNat (n + 1) ∧ NE (tC T L) n ∧ tC T L n = 101) := fun e ee v5 v6 e5 => by
                subst e5
                have e6 : Int32.ofNat e - Int32.ofNat p = Int32.ofNat (e - p) := i_sub (by omega)
                rw [b_70_119, e6]
                rw [← ee] at sC sV sE
                have al : ∀ i, p ≤ i → i < e → isDi (T i) = true := fun i h1 h2 => alld i h1 (by omega)
                refine w_if (fun g => ?_) (fun g => ?_)
                · have g6 := (i_lt (m := 6) (by omega) (by omega)).mp g
                  rw [if_neg (by omega)] at sC
                  refine w_bI I (m_75 (d := d + 1) I tc (by omega) (by omega) al) (by decide) rfl ?_
                  rintro x h1 I1 ⟨rfl, -⟩
                  exact kept 102 e x _ _ sC.symm (by decide) sPp.symm (fun z => by rw [sC] at z; cases z) sE (by omega) (by omega)
                · have g6 : e - p ≤ 6 := Nat.le_of_not_lt fun z => g ((i_lt (m := 6) (by omega) (by omega)).mpr z)
                  rw [if_pos g6] at sC
                  refine w_bI I (m_75 (d := d + 1) I tc (by omega) (by omega) al) (by decide) rfl ?_
                  rintro x h1 I1 ⟨rfl, ex⟩
                  refine kept 100 e x _ _ sC.symm (by decide) sPp.symm (fun _ => ?_) sE (by omega) (by omega)
                  rw [ex g6, sV, Nat.min_eq_left g6]
              induction c with
              | zero =>
                intro e ec hp ee v5 v6 e5
                have e1 : rn isDi T L e = e := rn_n fun z => absurd z (by omega)
                rw [b_70_97]
                exact w_ift ((i_le (by omega) (by omega)).mpr (by omega)) (fin e (by omega) v5 v6 e5)
              | succ c ih =>
                intro e ec hp ee v5 v6 e5
                rw [b_70_97]
                refine w_iff (fun z => absurd ((i_le (by omega) (by omega)).mp z) (by omega)) ?_
                refine w_aIn I s_81 (by omega) (by decide) ?_
                rw [tc.1 e (by omega)]
                refine w_eI (m_73 (d := d + 1) (tc0.2.2 e)) ?_
                refine w_if (fun g => ?_) (fun g => ?_)
                · have e1 : rn isDi T L e = e := rn_n fun _ => bi_0.mp g
                  exact fin e (by omega) v5 v6 e5
                · have yg : isDi (T e) = true := by cases z : isDi (T e); rw [z] at g; exact absurd rfl g; rfl
                  rw [i32_ofNat_succ]
                  exact ih (e + 1) (by omega) (by omega) (by rw [← rn_y (by omega) yg]; exact ee) v5 v6 e5
            exact loop (L - (p + 1)) (p + 1) (by omega) (by omega) (rn_y pL yd).symm _ _ rfl
        · have yl : isLe (T p) = true := by cases z : isLe (T p); rw [z] at c0; exact absurd rfl c0; rfl
          have er := nb (lb yl)
          have ek : tokA T L p = (kwN (bsN T p (rn isLe T L p)), p, 0, rn isLe T L p) := by
            unfold tokA
            rw [er, if_neg (by omega), yl, if_pos rfl]
          rw [ek] at sC sPp sV sE
          have el := rn_le (P := isLe) (T := T) (L := L) (p := p) (by omega)
          have eg := rn_lt (P := isLe) (T := T) (L := L) (p := p) pL yl
          have alll : ∀ i, p ≤ i → i < rn isLe T L p → isLe (T i) = true := fun i h1 h2 => rn_all h1 h2
          have kl := kwN_le (bs := bsN T p (rn isLe T L p))
          have loop : ∀ (c e : Nat), e + c = L → p < e → rn isLe T L e = rn isLe T L p → ∀ v5 v6, v5 = some (.int (Int32.ofNat p)) → Wp (sem (X, K X (d + 2)) 70 48 [some (.ref 82), some (.ref 81), v2, some (.int (Int32.ofNat L)), some (.int (Int32.ofNat e)), v5, v6] [] h) (VV fun h' => ∃ n, Eo WTk h0 h' ∧ (∀ k, k ≠ 7 → hI h' 82 k = hI h0 82 k) ∧ hP h' 82 = hP h0 82 ∧ Tkc T L h' (n + 1) ∧ hI h' 82 7 = Int32.ofNat (n + 1) ∧ NE (tC T L) n ∧ tC T L n = 101) := fun c => by
            have fin : ∀ (e : Nat), e = rn isLe T L p → ∀ v5 v6, v5 = some (.int (Int32.ofNat p)) → Wp (sem (X, K X (d + 2)) 70 70 [some (.ref 82), some (.ref 81), v2, some (.int (Int32.ofNat L)), some (.int (Int32.ofNat e)), v5, v6] [] h) (VV fun h' => ∃ n, Eo WTk h0 h' ∧ (∀ k, k ≠ 7 → hI h' 82 k = hI h0 82 k) ∧ hP h' 82 = hP h0 82 ∧ Tkc T L h' (n + 1) ∧ hI h' 82 7 = Int32.ofNat (n + 1) ∧ NE (tC T L) n ∧ tC T L n = 101) := fun e ee v5 v6 e5 => by
              subst e5
              rw [b_70_70]
              rw [← ee] at sC sV sE kl
              refine w_gS I s_82 ?_
              refine w_bI I (m_76 (d := d + 1) I tc hk (by omega) (by omega) fun i h1 h2 => alll i h1 (by omega)) (by decide) rfl ?_
              rintro x h1 I1 ⟨rfl, rfl⟩
              exact kept (kwN (bsN T p e)) e 0 _ _ sC.symm (by omega) sPp.symm (fun z => by rw [sC] at z; omega) sE (by omega) (by omega)
            induction c with
            | zero =>
              intro e ec hp ee v5 v6 e5
              have e1 : rn isLe T L e = e := rn_n fun z => absurd z (by omega)
              rw [b_70_48]
              exact w_ift ((i_le (by omega) (by omega)).mpr (by omega)) (fin e (by omega) v5 v6 e5)
            | succ c ih =>
              intro e ec hp ee v5 v6 e5
              rw [b_70_48]
              refine w_iff (fun z => absurd ((i_le (by omega) (by omega)).mp z) (by omega)) ?_
              refine w_aIn I s_81 (by omega) (by decide) ?_
              rw [tc.1 e (by omega)]
              refine w_eI (m_72 (d := d + 1) (tc0.2.2 e)) ?_
              refine w_if (fun g => ?_) (fun g => ?_)
              · have e1 : rn isLe T L e = e := rn_n fun _ => bi_0.mp g
                exact fin e (by omega) v5 v6 e5
              · have yg : isLe (T e) = true := by cases z : isLe (T e); rw [z] at g; exact absurd rfl g; rfl
                rw [i32_ofNat_succ]
                exact ih (e + 1) (by omega) (by omega) (by rw [← rn_y (by omega) yg]; exact ee) v5 v6 e5
          exact loop (L - (p + 1)) (p + 1) (by omega) (by omega) (rn_y pL yl).symm _ _ rfl
    · have e : p = L := by omega
      have er : rn isBl T L p = p := rn_n fun z => absurd z (by omega)
      have ek : tokA T L p = (101, p, 0, p) := by unfold tokA; rw [er, if_pos (by omega)]
      rw [ek] at sC sPp sV
      rw [b_70_22]
      refine w_ift ((i_le (by omega) (by omega)).mpr (by omega)) ?_
      have eL : Int32.ofNat L = Int32.ofNat p := by rw [e]
      rw [eL]
      refine w_add (d := d + 1) (c := 101) (p := p) I s (by omega) sC.symm sPp.symm (fun z => by rw [sC] at z; cases z) fun h1 I1 E1 f1 p1 t1 n1 => ?_
      exact Wp.retv ⟨j, E1, f1, p1, t1, n1, s.2.2.2.2.2, sC⟩
  termination_by c => c
theorem m_70 (I : Inv h) (tc : Tc T L h) (hk : ∀ k, k < 29 → hJ h 83 k = keyN k) : Wp (K X (d + 3) 70 [.ref 82, .ref 81, .int (Int32.ofNat L)] h) (VV fun h' => ∃ n, Eo WTk h h' ∧ (∀ k, k ≠ 7 → hI h' 82 k = hI h 82 k) ∧ hP h' 82 = hP h 82 ∧ Tkc T L h' (n + 1) ∧ hI h' 82 7 = Int32.ofNat (n + 1) ∧ NE (tC T L) n ∧ tC T L n = 101) := by
  have l6 := tc.2.1
  have l0 : (if 0 < (if Int32.ofNat 600 < Int32.ofNat L then Int32.ofNat 600 else Int32.ofNat L) then (if Int32.ofNat 600 < Int32.ofNat L then Int32.ofNat 600 else Int32.ofNat L) else 0) = Int32.ofNat L := by
    rw [if_neg (fun z => absurd ((i_lt (by omega) (by omega)).mp z) (by omega))]
    by_cases z : 0 < L
    · rw [if_pos (show (0 : Int32) < Int32.ofNat L from (i_lt (m := 0) (by omega) (by omega)).mpr z)]
    · have : L = 0 := by omega
      rw [this]; rfl
  rw [k_70]
  refine w_aL I s_81 (by decide) ?_
  refine w_fI I s_82 fun I1 => ?_
  rw [l0]
  have E : Eo WTk h (sI h 82 7 0) := Eo.rf.kI (Or.inl rfl)
  have f : ∀ k, k ≠ 7 → hI (sI h 82 7 0) 82 k = hI h 82 k := fun k hk => by rw [hI_sI_self, up1, if_neg hk]
  exact c70_22 (d := d) (h0 := h) tc hk L 0 0 _ _ _ _ (by omega) I1 ⟨E, f, rfl, fun i hi => absurd hi (Nat.not_lt_zero _), by rw [hI_sI_self, up1, if_pos rfl]; rfl, fun i hi => absurd hi (Nat.not_lt_zero _)⟩ rfl (Nat.le_refl _)
end LC
