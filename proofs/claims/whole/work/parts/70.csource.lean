/-! THE CLASS: at the source; what those take that are not HIS -/
section CB
variable {X : Ctx} {d : Nat} {Q : Option Value → Hp → Prop} {V : Sv} {AL : Nat → ALaw} {PA : Nat → APact} {B : Int} {T : SumT}
theorem LvE.row {h h' : Hp} {l k : Nat} {v : Int32} (a : LvE h h') (hl : l < 6) (hk : 5 ≤ k) : LvE h (sI h' (276 + l) k v) := by
  obtain ⟨a1, a2, a3, a4, a5⟩ := a
  refine ⟨a1.kI (by unfold WL; omega), fun j hj => by rw [hI_sI_ne (by omega)]; exact a2 j hj, a3, a4, fun m hm j hj => ?_⟩
  by_cases z : m = l
  · rw [z, hI_sI_self, up1, if_neg (by omega)]
    exact a5 l hl j hj
  · rw [hI_sI_ne (by omega)]
    exact a5 m hm j hj
theorem LvE.sum {h h' : Hp} {u : Nat} (a : LvE h h') (hu : u < 274) (q : cSum h u T) : cSum h' u T := q.eo (a.1.i (by unfold WL; omega))
theorem bi_if (p : Prop) [Decidable p] : (if p then (1 : Int32) else 0) = bi (decide p) := by
  by_cases h : p
  · rw [if_pos h, decide_eq_true h]; rfl
  · rw [if_neg h, decide_eq_false h]; rfl
def W23 (a : Nat) : Prop := 276 ≤ a ∧ a ≤ 283
theorem m_23 {u l : Nat} {h : Hp} (I : Inv h) (hu : SH u = (9, 0)) (hu2 : u < 274) (hl : l < 6) (q : LvC h V AL PA B) (hT : cSum h u T) (o : okSm T) :
    Wp (K X (d + 4) 23 [.ref 274, .ref u, .int (Int32.ofNat l)] h) (VI fun x h' => x = Int32.ofNat (atP V AL PA T l) ∧ LvE h h' ∧ Eo W23 h h') := by
  have hrow : SH (276 + l) = (50, 8) := by
    have : ∀ l, l < 6 → SH (276 + l) = (50, 8) := by decide +kernel
    exact this l hl
  have kk : lkP PA (hisP V AL PA) T l < 6 := by unfold lkP; split; exact o.2.1; exact o.1
  rw [k_23]
  refine w_gS I s_274 ?_
  refine w_eI (m_18 I hu hl q hT) ?_
  refine w_gL I s_274 l_274_1 ?_
  refine w_aLn I s_275 (by decide) (by decide) hl (by decide) (lk_facts l hl) ?_
  refine w_gI I hu ?_
  have fin : ∀ w1 w2 h1, Inv h1 → LvE h h1 → Eo W23 h h1 → hI h1 (276 + l) 5 = w1 → w1 = bi (decide (T.2.2.2.1 = l)) → w2 = bi (decide (T.2.2.2.2 = l)) → Wp (sem (X, K X (d + 3)) 23 49 [some (.ref 274), some (.ref u), some (.int (Int32.ofNat l)), some (.int (Int32.ofNat (lkP PA (hisP V AL PA) T l))), some (.ref (276 + l)), none, none] [.int w2, .int 6, .ref (276 + l)] h1) (VI fun x h' => x = Int32.ofNat (atP V AL PA T l) ∧ LvE h h' ∧ Eo W23 h h') := fun w1 w2 h1 I1 E1 F1 e5 z1 z2 => by
    rw [b_23_49]
    refine w_wIn (m := 6) I1 hrow (by decide) (by decide) fun I2 => ?_
    have E2 : LvE h (sI h1 (276 + l) 6 w2) := E1.row hl (by decide)
    refine w_gI I2 hu ?_
    rw [(E2.sum hu2 hT).2.2.1]
    refine w_wIn (m := 7) I2 hrow (by decide) (by decide) fun I3 => ?_
    have E3 : LvE h (sI (sI h1 (276 + l) 6 w2) (276 + l) 7 (Int32.ofNat T.2.2.1)) := E2.row hl (by decide)
    have q3 := q.eo E3
    obtain ⟨L, l1, l2, l3, l4⟩ := q3.2.2.2.2.2.2.2.2 l hl
    have hf : fRow (sI (sI h1 (276 + l) 6 w2) (276 + l) 7 (Int32.ofNat T.2.2.1)) (276 + l) (fsP V T l) := fun k hk => by
      unfold fsP
      by_cases k5 : k = 5
      · rw [if_pos k5, k5, hI_sI_self, up1, if_neg (by decide), hI_sI_self, up1, if_neg (by decide), e5, z1]
      · rw [if_neg k5]
        by_cases k6 : k = 6
        · rw [if_pos k6, k6, hI_sI_self, up1, if_neg (by decide), hI_sI_self, up1, if_pos rfl, z2]
        · rw [if_neg k6]
          by_cases k7 : k = 7
          · rw [if_pos k7, k7, hI_sI_self, up1, if_pos rfl]
          · rw [if_neg k7]
            exact q3.1 l hl k (by omega)
    refine w_gL I3 s_274 l_274_0 ?_
    refine w_aRn I3 s_64 (by decide) (by decide) hl (by decide) l1 ?_
    refine w_gL I3 s_274 l_274_3 ?_
    refine w_gS I3 l2.s ?_
    refine w_bI I3 (m_7 I3 kk l2 hrow s_283 l3 l4 hf) (by decide) rfl ?_
    rintro x h4 I4 ⟨rfl, E4⟩
    have E5 : LvE h h4 := E3.tr (LvE.of E4 fun x z => Or.inl z)
    have rt := rt_eq (fsP V T l) (lkP PA (hisP V AL PA) T l) (AL l).1
    rw [rt.1]
    refine (c23_80 (d := d + 1) I4 (q.eo E5) hl kk 6 0 _ rfl rt.2).mono ?_
    rintro _ h5 ⟨y, rfl, rfl, rfl⟩
    exact ⟨_, rfl, rfl, E5, ((F1.kI (by unfold W23; omega)).kI (by unfold W23; omega)).tr (E4.wk fun a z => by unfold W23; omega)⟩
  have e4 := hT.2.2.2.2
  have hp : T.2.2.2.2 < 6 := o.2.2.2.2.2.2
  have hs : T.2.2.2.1 < 6 := o.2.2.2.2.2.1
  have two : ∀ w1, w1 = bi (decide (T.2.2.2.1 = l)) → Wp (wI h (276 + l) 5 w1 fun h2 => gI h2 8 u 4 fun g5 => if ¬ g5 = Int32.ofNat l then sem (X, K X (d + 3)) 23 49 [some (.ref 274), some (.ref u), some (.int (Int32.ofNat l)), some (.int (Int32.ofNat (lkP PA (hisP V AL PA) T l))), some (.ref (276 + l)), none, none] [.int 0, .int 6, .ref (276 + l)] h2 else sem (X, K X (d + 3)) 23 49 [some (.ref 274), some (.ref u), some (.int (Int32.ofNat l)), some (.int (Int32.ofNat (lkP PA (hisP V AL PA) T l))), some (.ref (276 + l)), none, none] [.int 1, .int 6, .ref (276 + l)] h2) (VI fun x h' => x = Int32.ofNat (atP V AL PA T l) ∧ LvE h h' ∧ Eo W23 h h') := fun w1 z1 => by
    refine w_wIn (m := 5) I hrow (by decide) (by decide) fun I1 => ?_
    have E1 : LvE h (sI h (276 + l) 5 w1) := LvE.rf.row hl (by decide)
    have e5 : hI (sI h (276 + l) 5 w1) (276 + l) 5 = w1 := by rw [hI_sI_self]; exact if_pos rfl
    refine w_gI I1 hu ?_
    rw [(E1.sum hu2 hT).2.2.2.2]
    refine w_if (fun c => ?_) (fun c => ?_)
    · refine fin w1 0 _ I1 E1 (Eo.rf.kI (by unfold W23; omega)) e5 z1 ?_
      rw [decide_eq_false (fun z => c (by rw [z]))]; rfl
    · refine fin w1 1 _ I1 E1 (Eo.rf.kI (by unfold W23; omega)) e5 z1 ?_
      rw [decide_eq_true ((i_eq (by omega) (by omega)).mp (Classical.byContradiction c))]; rfl
  rw [hT.2.2.2.1]
  refine w_if (fun c => ?_) (fun c => ?_)
  · refine two 0 ?_
    rw [decide_eq_false (fun z => c (by rw [z]))]; rfl
  · refine two 1 ?_
    rw [decide_eq_true ((i_eq (by omega) (by omega)).mp (Classical.byContradiction c))]; rfl
theorem c24_5 {h : Hp} {f : Nat → Nat → Bool} {his : Nat → Bool} {ah : Nat → Int} {l : Nat} {set : Int32} (I : Inv h) (hb : ∀ m, m < 6 → bt set m = (f l m && !his m)) (ha : ∀ m, m < 6 → hJ h 288 m = Int64.ofInt (ah m)) : ∀ (c m : Nat), m + c = 6 →
    Wp (sem (X, K X (d + 1)) 24 5 [some (.ref 274), some (.int set), some (.long (Int64.ofInt (tkO f his ah l m))), none, some (.int (Int32.ofNat m))] [] h) (VJ fun x h' => x = Int64.ofInt (tkO f his ah l 6) ∧ h' = h)
  | 0, m, em => by
    have em : m = 6 := by omega
    subst em
    rw [b_24_5]
    exact w_ift (by decide) (Wp.retj ⟨rfl, rfl⟩)
  | c + 1, m, em => by
    have hm : m < 6 := by omega
    have st : tkO f his ah l (m + 1) = tkO f his ah l m + if f l m && !his m then ah m else 0 := rfl
    have ih := c24_5 I hb ha c (m + 1) (by omega)
    rw [b_24_5]
    refine w_iff (fun z => absurd ((i_le (m := 6) (by omega) (by omega)).mp z) (by omega)) ?_
    refine w_eI (m_has (by omega)) ?_
    rw [hb m hm, i32_ofNat_succ]
    refine w_if (fun c0 => ?_) (fun c0 => ?_)
    · rw [st, bi_0.mp c0] at ih
      have z0 : Int64.ofInt (tkO f his ah l m) + 0 = Int64.ofInt (tkO f his ah l m + 0) := by rw [Int.add_zero]; exact Int64.add_zero _
      rw [z0]
      exact ih
    · have : (f l m && !his m) = true := by cases z : (f l m && !his m); rw [z] at c0; exact absurd rfl c0; rfl
      rw [st, this] at ih
      refine w_gL I s_274 l_274_8 ?_
      refine w_aJn I s_288 hm (by decide) ?_
      rw [ha m hm, ← Int64.ofInt_add]
      exact ih
theorem m_24 {h : Hp} {f : Nat → Nat → Bool} {his : Nat → Bool} {ah : Nat → Int} {l : Nat} {set : Int32} (I : Inv h) (hb : ∀ m, m < 6 → bt set m = (f l m && !his m)) (ha : ∀ m, m < 6 → hJ h 288 m = Int64.ofInt (ah m)) :
    K X (d + 2) 24 [.ref 274, .int set] h = some (some (.long (Int64.ofInt (tkO f his ah l 6))), h) := by
  refine Wp.eqJ ?_
  rw [k_24]
  exact c24_5 (l := l) I hb ha 6 0 rfl
end CB
