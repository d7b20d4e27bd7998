/-! THE LOOP: one call of each side -/
theorem yr_lt {y : Int32} (h : isYr y) : dN y < 2 := by
  obtain ⟨m, hm, rfl⟩ := i_nat (n := 2) (by decide) h.1 h.2
  rw [dN_of (by omega)]; exact hm
theorem ld_lt {l : Int32} (h : isLd l) : dN l < 6 := by
  obtain ⟨m, hm, rfl⟩ := i_nat (n := 6) (by decide) h.1 h.2
  rw [dN_of (by omega)]; exact hm
theorem ln_le {l : Int32} (h : isLN l) : dL l ≤ 6 := by
  rcases h with rfl | h
  · decide
  · unfold dL
    split
    · exact Nat.le_refl 6
    · exact Nat.le_of_lt (ld_lt h)
theorem ok_nx_night {S : AS} {y f t l : Int32} (o : okA S) (k : okNight y f t l) : okA (nightS S (dN y) (dN f) (dN t) (dL l)) := okA_night o (yr_lt k.1) (ln_le k.2.2.2.2)
theorem ok_nx_home {S : AS} {y l is : Int32} (o : okA S) (k : okHome y l) : okA (homeS S (dN y) l is) := okA_home o (yr_lt k.1)
theorem ok_nx_tie {S : AS} {y w l : Int32} (o : okA S) (k : okTie y w l) : okA (tieS S (dN y) w l) := okA_tie o (yr_lt k.1)
theorem ok_nx_sum {S : AS} {y k r a s p : Int32} (o : okA S) (q : okSumC S y k r a s p) : okA (sumS S (dN y) (sumT k r a s p)) := okA_sum o (yr_lt q.1) (sumT_ok q).1 q.2.2.2.2.2.2
theorem ok_nx_feed {S : AS} {a b c e f : Int32} (o : okA S) (k : okFeed S) : okA (feedS S a b c e f) := okA_feed o k
theorem ok_nx_end {S : AS} {n : Int32} (o : okA S) (k : okEnd S n) : okA (endS S (dN n)) := by
  have t := o.2.2.2.1.1
  refine okA_end o ?_
  obtain ⟨k1, k2⟩ := k
  obtain ⟨m, hm, rfl⟩ := i_nat (n := (sT S).2 + 1) (by omega) k1 (fun z => k2 (by
    rw [Int32.le_iff_toInt_le, i32_ofNat_lt (show (sT S).2 + 1 < 2147483648 by omega)] at z
    rw [Int32.lt_iff_toInt_lt, i32_ofNat_lt (show (sT S).2 < 2147483648 by omega)]
    omega))
  rw [dN_of (by omega)]; omega
theorem ok_nx_move {S : AS} {n l : Int32} (o : okA S) (k : okMove S n l) : okA (moveS S (dN n) (dN l)) := by
  obtain ⟨k1, k2, k3, k4⟩ := k
  obtain ⟨m, hm, rfl⟩ := i_nat (n := 360) (by decide) k1 k2
  exact okA_move o (by rw [dN_of (by omega)]; exact hm) (ld_lt k3) k4
theorem ok_nx_turn {S : AS} {i p c : Int32} (o : okA S) (k : okTurning S i p c) : okA (turnS S (dN i) (dN p) (dN c)) := by
  obtain ⟨⟨k1, k1'⟩, k2, ⟨k3, k3'⟩, k4⟩ := k
  have := (o.1 0 (by decide)).2.1
  have l12 : nS S 0 ≤ 12 := this
  obtain ⟨m, hm, rfl⟩ := i_nat (n := nS S 0) (by omega) k1 k1'
  obtain ⟨u, hu, rfl⟩ := i_nat (n := 1000000) (by decide) k3 (fun z => k3' (by
    rw [Int32.le_iff_toInt_le] at z
    rw [Int32.lt_iff_toInt_lt]
    have e1 : (Int32.ofNat 1000000).toInt = 1000000 := by decide
    have e2 : (999999 : Int32).toInt = 999999 := by decide
    rw [e1] at z
    rw [e2]; omega))
  exact okA_turn o (by rw [dN_of (by omega)]; exact hm) (ld_lt k2) (by rw [dN_of (by omega)]; omega) k4
theorem ok_nx_word {S : AS} {a b s k : Int32} (o : okA S) (q : okWord S a b s k) : okA (wordS S (dN a) (dN b) (dN s) k) := by
  obtain ⟨k1, k2, k3, ⟨k4, k4'⟩, k5, k6⟩ := q
  have a6 := ld_lt k1
  have b6 := ld_lt k2
  obtain ⟨m, hm, rfl⟩ := i_nat (n := 6) (by decide) k1.1 k1.2
  obtain ⟨u, hu, rfl⟩ := i_nat (n := 6) (by decide) k2.1 k2.2
  obtain ⟨w, hw, rfl⟩ := i_nat (n := 5) (by decide) k4 (fun z => k4' (by
    rw [Int32.le_iff_toInt_le] at z
    rw [Int32.lt_iff_toInt_lt]
    have e1 : (Int32.ofNat 5).toInt = 5 := by decide
    have e2 : (4 : Int32).toInt = 4 := by decide
    rw [e1] at z
    rw [e2]; omega))
  refine okA_word o a6 b6 (by rw [dN_of (by omega), dN_of (by omega)]; exact fun z => k3 (by rw [z])) (by rw [dN_of (by omega)]; omega) (fun z => ?_) k6
  rw [dN_of (by omega)] at z
  obtain ⟨j, hj, e⟩ := i_nat (n := 6) (by decide) (k5 (z.imp (fun y => by rw [y]; rfl) (fun y => by rw [y]; rfl))).1 (k5 (z.imp (fun y => by rw [y]; rfl) (fun y => by rw [y]; rfl))).2
  exact ⟨j, hj, e⟩
theorem okA_mkT {S : AS} {AL : Nat → ALaw} {PA : Nat → APact} {F : Int32 × Int32} (o : okA S) (l : ∀ i, i < 6 → okL (AL i)) (p : ∀ i, i < 15 → okP (PA i)) : okA (mkT S AL PA F) := by
  obtain ⟨o1, o2, o3, o4, o5, o6, o7, o8⟩ := o
  exact ⟨o1, l, p, ⟨Nat.zero_le _, o4.2⟩, o5, o6, o7, o8⟩
theorem okA_txLaw {S : AS} {l : Nat} (o : okA S) : okA (txLaw S l) := by
  refine okA_mkT o (fun i hi => ?_) o.2.2.1
  by_cases z : (txL S).1 = 0
  · rw [if_pos z]
    unfold updL
    split
    · exact (ok_lw (fun k => tV_le) 21 0 S00 (fun j hj => absurd hj (Nat.not_lt_zero j)) ok_S00 z).okL
    · exact o.2.1 i hi
  · rw [if_neg z]; exact o.2.1 i hi
theorem okA_txPact {S : AS} {p : Nat} (o : okA S) : okA (txPact S p) := by
  refine okA_mkT o o.2.1 fun i hi => ?_
  by_cases z : (txP S).1 = 0
  · rw [if_pos z]
    unfold updPa
    split
    · exact (ok_qw 21 0 Q00 ok_Q00 z).okP
    · exact o.2.2.1 i hi
  · rw [if_neg z]; exact o.2.2.1 i hi
theorem okA_txNo {S : AS} (o : okA S) : okA (txNo S) := okA_mkT o o.2.1 o.2.2.1
section PA
variable {X : Ctx} {D : Nat} {Q : Option Value → Hp → Prop} {h : Hp} {S S' : AS} {y1 y2 : Nat} {v1 v2 : List Value} {nxt : Hp → Option (Option Value × Hp)}
/-- where the calls go on: one state told on both sides -/
def Nx (nxt : Hp → Option (Option Value × Hp)) (Q : Option Value → Hp → Prop) : Prop := ∀ (h : Hp) (S : AS), Inv (qH h) → okA S → RC (qH h) S → RM (qH h) S → Wp (nxt h) Q
/-- a call by the parts' numbers, made by the heap's own -/
theorem w_bIq {P : Int32 → Hp → Prop} {d y : Nat} {vs : List Value} {f : Int32 → Hp → Option (Option Value × Hp)} (hv : X.2.2 = .null ∨ X.2.2 = .ref 61) (I : Inv (qH h)) (w : Wp (K X d y vs (qH h)) (VI P)) (hy : y < 247) (hq : mIni y = false) (hw : qS vs = vs) (k : ∀ x h', Inv (qH h') → P x (qH h') → Wp (f x h') Q) : Wp (bI (K X d y vs h) f) Q := by
  obtain ⟨v, h1, e, x, rfl, p⟩ := w
  have e2 : K X d y (qS vs) (qH h) = some (some (.int x), h1) := by rw [hw]; exact e
  obtain ⟨v', h', e3, e4, rfl⟩ := K_q hv d y vs h hy hq _ _ e2
  obtain ⟨u, rfl, g⟩ := AQ_map e4
  cases qv_int g
  rw [e3]
  exact k x h' (K_inv X d y vs (qH h) _ _ hy hq I e) p
theorem w_bJq {P : Int64 → Hp → Prop} {d y : Nat} {vs : List Value} {f : Int64 → Hp → Option (Option Value × Hp)} (hv : X.2.2 = .null ∨ X.2.2 = .ref 61) (I : Inv (qH h)) (w : Wp (K X d y vs (qH h)) (VJ P)) (hy : y < 247) (hq : mIni y = false) (hw : qS vs = vs) (k : ∀ x h', Inv (qH h') → P x (qH h') → Wp (f x h') Q) : Wp (bJ (K X d y vs h) f) Q := by
  obtain ⟨v, h1, e, x, rfl, p⟩ := w
  have e2 : K X d y (qS vs) (qH h) = some (some (.long x), h1) := by rw [hw]; exact e
  obtain ⟨v', h', e3, e4, rfl⟩ := K_q hv d y vs h hy hq _ _ e2
  obtain ⟨u, rfl, g⟩ := AQ_map e4
  cases qv_long g
  rw [e3]
  exact k x h' (K_inv X d y vs (qH h) _ _ hy hq I e) p
theorem sh_q {a : Nat} {s : Nat × Nat} (I : Inv (qH h)) (hp : pOn a = a) (hs : SH a = s) : hS h a = s := by
  have t : hS h (pOn a) = SH a := congrFun I.sh a
  rw [hp] at t
  rw [t]; exact hs
theorem pO62 : pOn 62 = 62 := by decide +kernel
theorem pO301 : pOn 301 = 301 := by decide +kernel
theorem pairI {P : Int32 → Prop} (hv : X.2.2 = .null ∨ X.2.2 = .ref 61) (I : Inv (qH h)) (o : okA S) (r : RM (qH h) S) (uni : ∀ a b, P a → P b → a = b) (c : Wp (K X D y1 v1 (qH h)) (VI fun v h' => P v ∧ Cl (qH h) h' ∧ RC h' S')) (m : ∀ h1, Inv h1 → RM h1 S → Wp (K X D y2 v2 h1) (VI fun v h' => P v ∧ Mo h1 h' ∧ RM h' S')) (o' : okA S') (hy1 : y1 < 247) (hq1 : mIni y1 = false) (hw1 : qS v1 = v1) (hy2 : y2 < 247) (hq2 : mIni y2 = false) (hw2 : qS v2 = v2) (kk : Nx nxt Q) :
    Wp (gd (hS h 62 = (11, 0)) (bI (K X D y1 v1 h) fun r5 h1 => gd (hS h1 301 = (12, 0)) (bI (K X D y2 v2 h1) fun r10 h2 => if r5 = r10 then nxt h2 else some (some (.int 0), h2)))) Q := by
  refine w_gd (sh_q I pO62 s_62) ?_
  refine w_bIq hv I c hy1 hq1 hw1 fun x h1 I1 a => ?_
  obtain ⟨a1, a2, a3⟩ := a
  refine w_gd (sh_q I1 pO301 s_301) ?_
  refine w_bIq hv I1 (m (qH h1) I1 (a2.rm r)) hy2 hq2 hw2 fun z h2 I2 b => ?_
  obtain ⟨b1, b2, b3⟩ := b
  refine w_ift (uni _ _ a1 b1) ?_
  exact kk h2 S' I2 o' (b2.rc o' a3) b3
theorem lg_refl (a : Int64) : lg_cmp a a = 0 := by
  unfold lg_cmp
  simp
theorem pairJ {P : Int64 → Prop} (hv : X.2.2 = .null ∨ X.2.2 = .ref 61) (I : Inv (qH h)) (o : okA S) (r : RM (qH h) S) (uni : ∀ a b, P a → P b → a = b) (c : Wp (K X D y1 v1 (qH h)) (VJ fun v h' => P v ∧ Cl (qH h) h' ∧ RC h' S)) (m : ∀ h1, Inv h1 → RM h1 S → Wp (K X D y2 v2 h1) (VJ fun v h' => P v ∧ Mo h1 h' ∧ RM h' S)) (hy1 : y1 < 247) (hq1 : mIni y1 = false) (hw1 : qS v1 = v1) (hy2 : y2 < 247) (hq2 : mIni y2 = false) (hw2 : qS v2 = v2) (kk : Nx nxt Q) :
    Wp (gd (hS h 62 = (11, 0)) (bJ (K X D y1 v1 h) fun r5 h1 => gd (hS h1 301 = (12, 0)) (bJ (K X D y2 v2 h1) fun r10 h2 => if (lg_cmp r5 r10) = 0 then nxt h2 else some (some (.int 0), h2)))) Q := by
  refine w_gd (sh_q I pO62 s_62) ?_
  refine w_bJq hv I c hy1 hq1 hw1 fun x h1 I1 a => ?_
  obtain ⟨a1, a2, a3⟩ := a
  refine w_gd (sh_q I1 pO301 s_301) ?_
  refine w_bJq hv I1 (m (qH h1) I1 (a2.rm r)) hy2 hq2 hw2 fun z h2 I2 b => ?_
  obtain ⟨b1, b2, b3⟩ := b
  rw [uni _ _ a1 b1]
  refine w_ift (lg_refl _) ?_
  exact kk h2 S I2 o (b2.rc o a3) b3
theorem pairO {ok : Prop} {a b : Int32} (hv : X.2.2 = .null ∨ X.2.2 = .ref 61) (I : Inv (qH h)) (o : okA S) (q : RC (qH h) S) (r : RM (qH h) S) (c : Wp (K X D y1 v1 (qH h)) (VI fun v h' => (ok → (v = a ∧ Cl (qH h) h' ∧ RC h' S')) ∧ (¬ ok → v = b ∧ h' = qH h))) (m : ∀ h1, Inv h1 → RM h1 S → Wp (K X D y2 v2 h1) (VI fun v h' => (ok → (v = a ∧ Mo h1 h' ∧ RM h' S')) ∧ (¬ ok → v = b ∧ h' = h1))) (o' : ok → okA S') (hy1 : y1 < 247) (hq1 : mIni y1 = false) (hw1 : qS v1 = v1) (hy2 : y2 < 247) (hq2 : mIni y2 = false) (hw2 : qS v2 = v2) (kk : Nx nxt Q) :
    Wp (gd (hS h 62 = (11, 0)) (bI (K X D y1 v1 h) fun r5 h1 => gd (hS h1 301 = (12, 0)) (bI (K X D y2 v2 h1) fun r10 h2 => if r5 = r10 then nxt h2 else some (some (.int 0), h2)))) Q := by
  by_cases k : ok
  · refine pairI (P := fun v => v = a) (S' := S') hv I o r (fun x y hx hy => hx.trans hy.symm) (c.mono fun v h' hh => ?_) (fun h1 I1 r1 => (m h1 I1 r1).mono fun v h' hh => ?_) (o' k) hy1 hq1 hw1 hy2 hq2 hw2 kk
    · obtain ⟨x, rfl, e, -⟩ := hh
      exact ⟨x, rfl, e k⟩
    · obtain ⟨x, rfl, e, -⟩ := hh
      exact ⟨x, rfl, e k⟩
  · refine pairI (P := fun v => v = b) (S' := S) hv I o r (fun x y hx hy => hx.trans hy.symm) (c.mono fun v h' hh => ?_) (fun h1 I1 r1 => (m h1 I1 r1).mono fun v h' hh => ?_) o hy1 hq1 hw1 hy2 hq2 hw2 kk
    · obtain ⟨x, rfl, -, e⟩ := hh
      obtain ⟨rfl, rfl⟩ := e k
      exact ⟨_, rfl, rfl, Eo.rf, q⟩
    · obtain ⟨x, rfl, -, e⟩ := hh
      obtain ⟨rfl, rfl⟩ := e k
      exact ⟨_, rfl, rfl, Eo.rf, r1⟩
theorem sw3 {o : Option (Option Value × Hp)} {A : Int32 → Prop} {B C : Hp → Prop} (w : Wp o (VI fun v h' => A v ∧ B h' ∧ C h')) : Wp o (VI fun v h' => A v ∧ C h' ∧ B h') := w.mono fun v h' hh => by
  obtain ⟨x, rfl, a, b, c⟩ := hh
  exact ⟨x, rfl, a, c, b⟩
/-- TEXT, whatever is asked -/
theorem pairT {x1 x2 : Int32} {d : Nat} (hv : X.2.2 = .null ∨ X.2.2 = .ref 61) (I : Inv (qH h)) (o : okA S) (q : RC (qH h) S) (r : RM (qH h) S) (kk : Nx nxt Q) :
    Wp (gd (hS h 62 = (11, 0)) (bI (K X (d + 41) 104 [.ref 62, .int x1, .int x2] h) fun r5 h1 => gd (hS h1 301 = (12, 0)) (bI (K X (d + 41) 182 [.ref 301, .int x1, .int x2] h1) fun r10 h2 => if r5 = r10 then nxt h2 else some (some (.int 0), h2)))) Q := by
  by_cases n : ¬ (¬ x1 < 0 ∧ ¬ 6 ≤ x1) ∨ (x2 ≠ -1 ∧ ¬ (¬ x2 < 0 ∧ ¬ 6 ≤ x2 ∧ ¬ x2 ≤ x1))
  · exact pairI (P := fun v => v = -1) (S' := txNo S) hv I o r (fun x y hx hy => hx.trans hy.symm) (sw3 (c_txNo (d := d + 33) I q o n)) (fun h1 I1 r1 => sw3 (m_txNo (d := d) I1 r1 o n)) (okA_txNo o) (by decide) rfl rfl (by decide) rfl rfl kk
  · have n1 : ¬ x1 < 0 ∧ ¬ 6 ≤ x1 := Classical.byContradiction fun w => n (Or.inl w)
    obtain ⟨a, ha, rfl⟩ := i_nat (n := 6) (by decide) n1.1 n1.2
    by_cases z : x2 = -1
    · subst z
      exact pairI (P := fun v => v = ansL S) (S' := txLaw S a) hv I o r (fun x y hx hy => hx.trans hy.symm) (sw3 (c_txLaw (d := d + 33) I q o ha)) (fun h1 I1 r1 => sw3 (m_txLaw (d := d) hv I1 r1 o ha)) (okA_txLaw o) (by decide) rfl rfl (by decide) rfl rfl kk
    · have n2 : ¬ x2 < 0 ∧ ¬ 6 ≤ x2 ∧ ¬ x2 ≤ Int32.ofNat a := Classical.byContradiction fun w => n (Or.inr ⟨z, w⟩)
      obtain ⟨b, hb, rfl⟩ := i_nat (n := 6) (by decide) n2.1 n2.2.1
      have hab : a < b := Nat.lt_of_not_le fun w => n2.2.2 ((i_le (by omega) (by omega)).mpr w)
      exact pairI (P := fun v => v = ansP S) (S' := txPact S (pr a b)) hv I o r (fun x y hx hy => hx.trans hy.symm) (sw3 (c_txPact (d := d + 33) I q o hab hb)) (fun h1 I1 r1 => sw3 (m_txPact (d := d) hv I1 r1 o hab hb)) (okA_txPact o) (by decide) rfl rfl (by decide) rfl rfl kk
end PA
