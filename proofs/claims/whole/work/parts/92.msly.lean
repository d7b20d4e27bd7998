/-! SLY, of the model -/
theorem worded_tests {set : Int32} : ∀ (ws : List AWord) (j : Nat) (PA : Nat → APact) (p : Nat), (worded set ws j PA p).1 = (PA p).1
  | [], _, _, _ => rfl
  | w :: ws, j, PA, p => by
    show (worded set ws (j + 1) (if bt set j then _ else _) p).1 = _
    rw [worded_tests ws (j + 1) _ p]
    split
    · unfold updP
      split
      · next e =>
        rw [e]
        unfold wordA
        split
        · rfl
        · split
          · rfl
          · split <;> rfl
      · rfl
    · rfl
theorem wordA_ok {A : APact} {s k : Nat} (o : okP A) : okP (wordA A s k) := by
  obtain ⟨o1, o2, o3⟩ := o
  unfold wordA
  split
  · exact ⟨o1, o2, o3⟩
  · split
    · exact ⟨o1, o2, o3⟩
    · split
      · refine ⟨o1, fun j => ?_, o3⟩
        show (if j = k then 0 else A.2.2.1 j) ≤ 100
        split
        · omega
        · exact o2 j
      · refine ⟨o1, o2, ?_⟩
        show (if s = 3 then 1 else 2) ≤ 2
        split <;> omega
theorem worded_ok {set : Int32} : ∀ (ws : List AWord) (j : Nat) (PA : Nat → APact), (∀ p, p < 15 → okP (PA p)) → ∀ p, p < 15 → okP (worded set ws j PA p)
  | [], _, _, o => o
  | w :: ws, j, PA, o => by
    refine worded_ok ws (j + 1) _ fun p hp => ?_
    split
    · unfold updP
      split
      · next e => rw [← e]; exact wordA_ok (o p hp)
      · exact o p hp
    · exact o p hp
def wdP (S : AS) (w : Nat) : Nat → APact := worded (Int32.ofNat w) (sW S) 0 (sPc S)
theorem wdP_0 {S : AS} : wdP S 0 = sPc S := worded_0 _ _ _
theorem rSums.on {h h' : Hp} {a b c d e : Nat} : ∀ {r : List SumT} {j : Nat}, rSums h a b c d e j r → (∀ m, j ≤ m → hI h' a m = hI h a m ∧ hI h' b m = hI h b m ∧ hI h' c m = hI h c m ∧ hI h' d m = hI h d m ∧ hI h' e m = hI h e m) → rSums h' a b c d e j r
  | [], _, _, _ => trivial
  | T :: r, j, q, z => by
    obtain ⟨z1, z2, z3, z4, z5⟩ := z j (Nat.le_refl _)
    refine ⟨?_, rSums.on q.2 fun m hm => z m (by omega)⟩
    rw [z1, z2, z3, z4, z5]; exact q.1
theorem rSums.set {h h' : Hp} {a b c d e : Nat} {v : SumT} : ∀ {r : List SumT} {j i : Nat}, rSums h a b c d e j r → (∀ m, m ≠ j + i → hI h' a m = hI h a m ∧ hI h' b m = hI h b m ∧ hI h' c m = hI h c m ∧ hI h' d m = hI h d m ∧ hI h' e m = hI h e m) → (hI h' a (j + i) = Int32.ofNat v.1 ∧ hI h' b (j + i) = Int32.ofNat v.2.1 ∧ hI h' c (j + i) = Int32.ofNat v.2.2.1 ∧ hI h' d (j + i) = Int32.ofNat v.2.2.2.1 ∧ hI h' e (j + i) = Int32.ofNat v.2.2.2.2) → rSums h' a b c d e j (r.set i v)
  | [], _, _, _, _, _ => trivial
  | T :: r, j, 0, q, z, y => ⟨y, rSums.on q.2 fun m hm => z m (by omega)⟩
  | T :: r, j, i + 1, q, z, y => by
    obtain ⟨z1, z2, z3, z4, z5⟩ := z j (by omega)
    have e : j + (i + 1) = j + 1 + i := by omega
    rw [e] at z y
    refine ⟨?_, rSums.set q.2 z y⟩
    rw [z1, z2, z3, z4, z5]; exact q.1
section SM
variable {X : Ctx} {d : Nat} {Q : Option Value → Hp → Prop} {h : Hp} {S : AS} {V : Sv} {AL : Nat → ALaw} {PA : Nat → APact} {r : List SumT}
theorem LaidM.turn {i p : Nat} (q : LaidM h V AL PA r) (hi : i < r.length) : LaidM (sI (sI (sI h 336 i 5) 339 i (Int32.ofNat p)) 340 i (Int32.ofNat p)) V AL PA (r.set i (trnS (r.getD i noS) p)) := by
  obtain ⟨⟨v1, v2, v3, v4⟩, p3, p5, p6, p7, qL, qT, oP⟩ := q
  have E : Eo (fun a => a = 336 ∨ a = 339 ∨ a = 340) h (sI (sI (sI h 336 i 5) 339 i (Int32.ofNat p)) 340 i (Int32.ofNat p)) := ((Eo.rf.kI (Or.inl rfl)).kI (Or.inr (Or.inl rfl))).kI (Or.inr (Or.inr rfl))
  have w336 : hI (sI (sI (sI h 336 i 5) 339 i (Int32.ofNat p)) 340 i (Int32.ofNat p)) 336 = up1 (hI h 336) i 5 := by rw [sI_other (by decide), sI_other (by decide), hI_sI_self]
  have w339 : hI (sI (sI (sI h 336 i 5) 339 i (Int32.ofNat p)) 340 i (Int32.ofNat p)) 339 = up1 (hI h 339) i (Int32.ofNat p) := by rw [sI_other (by decide), hI_sI_self, sI_other (by decide)]
  have w340 : hI (sI (sI (sI h 336 i 5) 339 i (Int32.ofNat p)) 340 i (Int32.ofNat p)) 340 = up1 (hI h 340) i (Int32.ofNat p) := by rw [hI_sI_self, sI_other (by decide), sI_other (by decide)]
  generalize sI (sI (sI h 336 i 5) 339 i (Int32.ofNat p)) 340 i (Int32.ofNat p) = g at E w336 w339 w340 ⊢
  have nn : ∀ a, a ≠ 336 → a ≠ 339 → a ≠ 340 → hI g a = hI h a := fun a h1 h2 h3 => E.i (show ¬ (a = 336 ∨ a = 339 ∨ a = 340) by omega)
  have t := p6.at hi
  rw [(getD_mem hi).2] at t
  refine ⟨⟨fun k hk => by rw [nn 335 (by decide) (by decide) (by decide)]; exact v1 k hk, by rw [nn 301 (by decide) (by decide) (by decide)]; exact v2, by rw [nn 301 (by decide) (by decide) (by decide)]; exact v3, by rw [nn 301 (by decide) (by decide) (by decide)]; exact v4⟩, by rw [nn 301 (by decide) (by decide) (by decide), List.length_set]; exact p3, by rw [nn 301 (by decide) (by decide) (by decide), sumB_set r i (trnS (r.getD i noS) p) rfl]; exact p5, ?_, p7.eo (nn _ (by decide) (by decide) (by decide)) (nn _ (by decide) (by decide) (by decide)) (nn _ (by decide) (by decide) (by decide)) (nn _ (by decide) (by decide) (by decide)), qL.eo E fun a ha => by unfold inML at ha; omega, ?_, oP⟩
  · refine rSums.set p6 (fun m hm => ?_) ?_
    · rw [w336, w339, w340, nn 337 (by decide) (by decide) (by decide), nn 338 (by decide) (by decide) (by decide), up1, up1, up1, if_neg (by omega), if_neg (by omega), if_neg (by omega)]
      exact ⟨rfl, rfl, rfl, rfl, rfl⟩
    · rw [w336, w339, w340, nn 337 (by decide) (by decide) (by decide), nn 338 (by decide) (by decide) (by decide), up1, up1, up1, if_pos (by omega), if_pos (by omega), if_pos (by omega)]
      exact ⟨rfl, t.2.1, t.2.2.1, rfl, rfl⟩
  · exact fun a ha b hb hn => ⟨(qT a ha b hb hn).1.eo (nn _ (by decide) (by decide) (by decide)) (nn _ (by decide) (by decide) (by decide)), (qT a ha b hb hn).2⟩
theorem LaidM.words {h' : Hp} {PA' : Nat → APact} (q : LaidM h V AL PA r) (e : Eo W4 h h') (n : mNow h' PA') (t : ∀ p, (PA' p).1 = (PA p).1) (o : ∀ p, p < 15 → okP (PA' p)) : LaidM h' V AL PA' r := by
  obtain ⟨⟨v1, v2, v3, v4⟩, p3, p5, p6, p7, qL, qT, oP⟩ := q
  have nn : ∀ a, (a < 341 ∨ 344 < a) → hI h' a = hI h a := fun a h1 => e.i (show ¬ W4 a by unfold W4; omega)
  refine ⟨⟨fun k hk => by rw [nn 335 (by omega)]; exact v1 k hk, by rw [nn 301 (by omega)]; exact v2, by rw [nn 301 (by omega)]; exact v3, by rw [nn 301 (by omega)]; exact v4⟩, by rw [nn 301 (by omega)]; exact p3, by rw [nn 301 (by omega)]; exact p5, rSums.eo (nn _ (by omega)) (nn _ (by omega)) (nn _ (by omega)) (nn _ (by omega)) (nn _ (by omega)) p6, n, qL.eo e fun a ha => by unfold inML at ha; unfold W4; omega, fun a ha b hb hn => ?_, o⟩
  rw [t]
  exact ⟨(qT a ha b hb hn).1.eo (nn _ (by omega)) (nn _ (by omega)), (qT a ha b hb hn).2⟩
theorem turn_m (q : RM h S) (ok : okA S) {k : Nat} (hk : k < (sU S).length) : hI h 353 k = Int32.ofNat (uI (sU S) k) ∧ hI h 354 k = Int32.ofNat (uP (sU S) k) ∧ hI h 355 k = Int32.ofNat ((sU S).getD k (0, 0, 0)).2.2 := by
  have a := q.2.2.2.2.2.2.1.2.at hk
  rw [Nat.zero_add, (uOk ok hk).2.2.2] at a
  exact a
theorem one_shl : ∀ n, n ≤ 6 → (1 : Int32) <<< (Int32.ofNat n &&& 31) = Int32.ofNat (2 ^ n) := by decide +kernel
/-- canTurn -/
theorem c223_4 {s : Nat} (I : Inv h) (q : RM h S) (ok : okA S) : ∀ (c k : Nat) (x2 : Int32), k + c = (sU S).length → cT (sU S) s k = true → (∀ i, i < 32 → bt x2 i = (chU (sU S) s i k).isSome) →
    sem (X, K X d) 223 4 [some (.ref 301), some (.int (Int32.ofNat s)), some (.int x2), some (.int (Int32.ofNat k))] [] h = some (some (.int (bi (cT (sU S) s (sU S).length))), h)
  | 0, k, x2, e, hc, hb => by
    have u6 := u6 ok
    have e : k = (sU S).length := by omega
    refine Wp.eqI ?_
    rw [b_223_4]
    refine w_gI I s_301 ?_
    rw [q.2.2.2.2.2.2.1.1, e]
    refine w_ift (Int32.le_refl _) (Wp.reti ⟨?_, rfl⟩)
    rw [e] at hc
    rw [hc]; rfl
  | c + 1, k, x2, e, hc, hb => by
    have u6 := u6 ok
    have hk : k < (sU S).length := by omega
    have u := uOk ok hk
    have n12 : (sY S 0).2.2.2.2.length ≤ 12 := (ok.1 0 (by decide)).2.1
    have t := turn_m q ok hk
    have st : cT (sU S) s (k + 1) = (cT (sU S) s k && (!tb s k || (chU (sU S) s (uI (sU S) k) k).isNone)) := rfl
    have sc : ∀ i, chU (sU S) s i (k + 1) = if tb s k = true ∧ uI (sU S) k = i then some k else chU (sU S) s i k := fun i => rfl
    refine Wp.eqI ?_
    rw [b_223_4]
    refine w_gI I s_301 ?_
    rw [q.2.2.2.2.2.2.1.1]
    refine w_iff (fun z => absurd ((i_le (by omega) (by omega)).mp z) (by omega)) ?_
    rw [shr_bt (by omega), i32_ofNat_succ]
    refine w_if (fun c0 => ?_) (fun c0 => ?_)
    · have ht : tb s k = true := by
        show bt (Int32.ofNat s) k = true
        cases z : bt (Int32.ofNat s) k; rw [z] at c0; exact absurd rfl c0; rfl
      refine w_gL I s_301 l_301_78 ?_
      refine w_aIn I s_353 (by omega) (by decide) ?_
      rw [t.1, shr_bt (by omega), hb _ (by omega)]
      refine w_if (fun c1 => ?_) (fun c1 => ?_)
      · refine w_gL I s_301 l_301_78 ?_
        refine w_aIn I s_353 (by omega) (by decide) ?_
        rw [t.1]
        have n : chU (sU S) s (uI (sU S) k) k = none := by
          cases z : chU (sU S) s (uI (sU S) k) k
          · rfl
          · rw [z] at c1; exact absurd rfl c1
        have := c223_4 (s := s) I q ok c (k + 1) (x2 ||| (1 <<< (Int32.ofNat (uI (sU S) k) &&& 31))) (by omega) (by rw [st, hc, n]; cases tb s k <;> rfl) fun i hi => by
          rw [bt_set (by omega) hi, hb i hi, sc]
          by_cases e : uI (sU S) k = i
          · rw [if_pos ⟨ht, e⟩, decide_eq_true e.symm, Bool.or_true]; rfl
          · rw [if_neg (fun z => e z.2), decide_eq_false (fun z => e z.symm), Bool.or_false]
        exact Wp.eq this ⟨_, rfl, rfl, rfl⟩
      · have n : (chU (sU S) s (uI (sU S) k) k).isNone = false := by
          cases z : chU (sU S) s (uI (sU S) k) k
          · rw [z] at c1; exact absurd (by decide) c1
          · rfl
        have f : cT (sU S) s (k + 1) = false := by rw [st, n, ht, Bool.and_eq_false_iff]; exact Or.inr rfl
        have ff : cT (sU S) s (sU S).length = false := by
          cases z : cT (sU S) s (sU S).length
          · rfl
          · have := cT_lo (show k + 1 ≤ (sU S).length by omega) z
            rw [f] at this; cases this
        exact Wp.reti ⟨by rw [ff]; rfl, rfl⟩
    · have ht : tb s k = false := bi_0.mp (Classical.byContradiction c0)
      have := c223_4 (s := s) I q ok c (k + 1) x2 (by omega) (by rw [st, hc, ht]; rfl) fun i hi => by
        rw [hb i hi, sc, if_neg (fun z => by rw [ht] at z; cases z.1)]
      exact Wp.eq this ⟨_, rfl, rfl, rfl⟩
theorem m_223 {s : Nat} (I : Inv h) (q : RM h S) (ok : okA S) : K X (d + 1) 223 [.ref 301, .int (Int32.ofNat s)] h = some (some (.int (bi (cT (sU S) s (sU S).length))), h) := by
  rw [k_223]
  exact c223_4 I q ok (sU S).length 0 0 (by omega) rfl fun i hi => bt_zero _
theorem c224_15 {s : Nat} {h0 : Hp} {v2 : Option Value} (ok : okA S) (oR : okRs r) (hl : ∀ k, k < (sU S).length → uI (sU S) k < r.length) : ∀ (c k : Nat) (h : Hp) (v6 : Option Value), k + c = (sU S).length → Inv h → RM h S → Mo h0 h → LaidM h V AL PA (tuR (sU S) s r k) →
    Wp (sem (X, K X (d + 7)) 224 15 [some (.ref 301), some (.int (Int32.ofNat s)), v2, some (.long (Int64.ofInt (tuC (sU S) s k))), none, some (.int (Int32.ofNat k)), v6] [] h) (VJ fun v h' => v = Int64.ofInt (slyF V AL PA r (sU S) s) ∧ RM h' S ∧ Mo h0 h')
  | 0, k, h, v6, e, I, q, M, L => by
    have u6 := u6 ok
    have e : k = (sU S).length := by omega
    rw [b_224_15]
    refine w_gI I s_301 ?_
    rw [q.2.2.2.2.2.2.1.1, e]
    refine w_ift (Int32.le_refl _) ?_
    rw [e] at L
    refine w_gS I s_301 ?_
    refine w_bJ I (g215 (d := d) I (tuR_ok oR fun k hk => ⟨hl k hk, (uOk ok hk).2.1⟩) L) (by decide) rfl ?_
    rintro x h3 I3 ⟨rfl, M3⟩
    have R := M3.rm q
    rw [← Int64.ofInt_add]
    exact Wp.retj ⟨rfl, R.1, M.tr R.2⟩
  | c + 1, k, h, v6, e, I, q, M, L => by
    have u6 := u6 ok
    have hk : k < (sU S).length := by omega
    have u := uOk ok hk
    have r12 := oR.1
    have hi := hl k hk
    have t := turn_m q ok hk
    have st : tuR (sU S) s r (k + 1) = if tb s k then (tuR (sU S) s r k).set (uI (sU S) k) (trnS ((tuR (sU S) s r k).getD (uI (sU S) k) noS) (uP (sU S) k)) else tuR (sU S) s r k := rfl
    have sc : tuC (sU S) s (k + 1) = tuC (sU S) s k + if tb s k then uC (sU S) k else 0 := rfl
    rw [b_224_15]
    refine w_gI I s_301 ?_
    rw [q.2.2.2.2.2.2.1.1]
    refine w_iff (fun z => absurd ((i_le (by omega) (by omega)).mp z) (by omega)) ?_
    rw [shr_bt (by omega), i32_ofNat_succ]
    refine w_if (fun c0 => ?_) (fun c0 => ?_)
    · have ht : tb s k = true := by
        show bt (Int32.ofNat s) k = true
        cases z : bt (Int32.ofNat s) k; rw [z] at c0; exact absurd rfl c0; rfl
      refine w_gL I s_301 l_301_78 ?_
      refine w_aIn I s_353 (by omega) (by decide) ?_
      rw [t.1]
      refine w_gL I s_301 l_301_47 ?_
      refine w_wIn I s_336 (by omega) (by decide) fun I1 => ?_
      refine w_gL I1 s_301 l_301_50 ?_
      refine w_gL I1 s_301 l_301_79 ?_
      refine w_aIn I1 s_354 (by omega) (by decide) ?_
      rw [sI_other (show 354 ≠ 336 by decide), t.2.1]
      refine w_wIn I1 s_339 (by omega) (by decide) fun I2 => ?_
      refine w_gL I2 s_301 l_301_51 ?_
      refine w_gL I2 s_301 l_301_79 ?_
      refine w_aIn I2 s_354 (by omega) (by decide) ?_
      rw [sI_other (show 354 ≠ 339 by decide), sI_other (show 354 ≠ 336 by decide), t.2.1]
      refine w_wIn I2 s_340 (by omega) (by decide) fun I3 => ?_
      refine w_gL I3 s_301 l_301_80 ?_
      refine w_aIn I3 s_355 (by omega) (by decide) ?_
      rw [sI_other (show 355 ≠ 340 by decide), sI_other (show 355 ≠ 339 by decide), sI_other (show 355 ≠ 336 by decide), t.2.2, nat_j (by omega)]
      have L3 := L.turn (i := uI (sU S) k) (p := uP (sU S) k) (by rw [tuR_len]; exact hi)
      have E : Eo inMS h (sI (sI (sI h 336 (uI (sU S) k) 5) 339 (uI (sU S) k) (Int32.ofNat (uP (sU S) k))) 340 (uI (sU S) k) (Int32.ofNat (uP (sU S) k))) := ((Eo.rf.kI (by unfold inMS; omega)).kI (by unfold inMS; omega)).kI (by unfold inMS; omega)
      have q3 : RM (sI (sI (sI h 336 (uI (sU S) k) 5) 339 (uI (sU S) k) (Int32.ofNat (uP (sU S) k))) 340 (uI (sU S) k) (Int32.ofNat (uP (sU S) k))) S := q.scr E fun k _ => by rw [sI_other (by decide), sI_other (by decide), sI_other (by decide)]
      have ih := fun v6 => c224_15 (s := s) (v2 := v2) ok oR hl c (k + 1) _ v6 (by omega) I3 q3 (M.tr (inMS_mo E)) (by rw [st, if_pos ht]; exact L3)
      rw [sc, if_pos ht] at ih
      have ex : Int64.ofInt (tuC (sU S) s k) + 100 * Int64.ofInt (((sU S).getD k (0, 0, 0)).2.2 : Nat) = Int64.ofInt (tuC (sU S) s k + uC (sU S) k) := by
        rw [Int64.ofInt_add]
        congr 1
        show Int64.ofInt 100 * _ = _
        rw [← Int64.ofInt_mul]; rfl
      rw [ex]
      exact ih _
    · have ht : tb s k = false := bi_0.mp (Classical.byContradiction c0)
      have ih := c224_15 (s := s) (v2 := v2) ok oR hl c (k + 1) h v6 (by omega) I q M (by rw [st, ht]; exact L)
      rw [sc, ht] at ih
      have e0 : tuC (sU S) s k + (if false = true then uC (sU S) k else 0) = tuC (sU S) s k := by rw [if_neg (by decide), Int.add_zero]
      rw [e0] at ih
      exact ih
theorem w_words {w : Nat} {f : Hp → Option (Option Value × Hp)} (I : Inv h) (q : RM h S) (ok : okA S) (L : LaidM h V (sL S) (sPc S) r) (k : ∀ h', Inv h' → RM h' S → Mo h h' → LaidM h' V (sL S) (wdP S w) r → Wp (f h') Q) :
    Wp (gd (hS h 301 = (12, 0)) (bV (K X (d + 1) 187 [.ref 301, .int (Int32.ofNat w)] h) f)) Q := by
  refine w_gS I s_301 ?_
  refine w_bV I (m_187 (PA := sPc S) (ws := sW S) I q.2.2.1.1 q.words ok.2.2.2.2.2.2.1.2 q.2.2.2.2.2.2.2.1.1 ok.2.2.2.2.2.2.1.1) (by decide) rfl fun h1 I1 p => ?_
  obtain ⟨E, n⟩ := p
  have Em : Eo inMS h h1 := E.wk fun a z => by unfold W4 at z; unfold inMS; omega
  exact k h1 I1 (q.scr Em fun k _ => by rw [E.i (show ¬ W4 301 by unfold W4; omega)]) (inMS_mo Em) (L.words E n (fun p => worded_tests _ _ _ _) (worded_ok _ _ _ ok.2.2.1))
theorem m_224 {s w : Nat} (I : Inv h) (q : RM h S) (ok : okA S) :
    Wp (K X (d + 8) 224 [.ref 301, .int (Int32.ofNat s), .int (Int32.ofNat w)] h) (VJ fun v h' => v = Int64.ofInt (slyF (vY S 0) (sL S) (wdP S w) (sY S 0).2.2.2.2 (sU S) s) ∧ RM h' S ∧ Mo h h') := by
  rw [k_224]
  refine w_lays (d := d + 5) (y := 0) I q ok (by decide) fun h1 I1 q1 M1 p => ?_
  have L1 := p.laid q1 ok
  refine w_words (d := d + 6) (w := w) I1 q1 ok L1 fun h2 I2 q2 M2 L2 => ?_
  exact c224_15 (d := d) (s := s) (r := (sY S 0).2.2.2.2) ok (ok.r (by decide)) (fun k hk => (uOk ok hk).1) (sU S).length 0 h2 none (by omega) I2 q2 (M1.tr M2) L2
theorem tuC_bd (ok : okA S) {s : Nat} : ∀ n, n ≤ (sU S).length → (tuC (sU S) s n).natAbs ≤ 99999900 * n
  | 0, _ => Nat.zero_le _
  | n + 1, hn => by
    have ih := tuC_bd ok (s := s) n (by omega)
    have u := (uOk ok (show n < (sU S).length by omega)).2.2.1
    have e : tuC (sU S) s (n + 1) = tuC (sU S) s n + if tb s n then uC (sU S) n else 0 := rfl
    rw [e]
    unfold uC
    split <;> omega
theorem slyF_jr (ok : okA S) {s : Nat} : jr (slyF V (sL S) PA (sY S 0).2.2.2.2 (sU S) s) := by
  have u6 := u6 ok
  have a := tuC_bd ok (s := s) (sU S).length (Nat.le_refl _)
  have b := totG_bd (V := V) (AL := sL S) (PA := PA) (tuR_ok (U := sU S) (s := s) (ok.r (y := 0) (by decide)) (n := (sU S).length) fun k hk => ⟨(uOk ok hk).1, (uOk ok hk).2.1⟩) ok.2.1
  unfold slyF jr
  omega
theorem mst_val {F : Nat → Int} {C : Nat → Bool} : ∀ m, (mst F C m).1 = F (mst F C m).2
  | 0 => rfl
  | m + 1 => by
    unfold mst
    split
    · rfl
    · exact mst_val m
theorem c225_26 {w : Int32} {h0 : Hp} (ok : okA S) (hw : w = 0 ∨ w = 1) : ∀ (c m : Nat) (h : Hp) (v6 v7 : Option Value), m + 1 + c = 2 ^ (sU S).length → Inv h → RM h S → Mo h0 h →
    Wp (sem (X, K X (d + 8)) 225 26 [some (.ref 301), some (.int w), some (.long (Int64.ofInt (mst (slyF (vY S 0) (sL S) (sPc S) (sY S 0).2.2.2.2 (sU S)) (fun s => cT (sU S) s (sU S).length) m).1)), none, some (.int (Int32.ofNat (mst (slyF (vY S 0) (sL S) (sPc S) (sY S 0).2.2.2.2 (sU S)) (fun s => cT (sU S) s (sU S).length) m).2)), some (.int (Int32.ofNat (m + 1))), v6, v7] [] h) (VJ fun v h' => v = slyV S w ∧ Mo h0 h' ∧ RM h' S)
  | 0, m, h, v6, v7, e, I, q, M => by
    have u6 := u6 ok
    have p64 : 2 ^ (sU S).length ≤ 64 := Nat.pow_le_pow_right (n := 2) (by decide) u6
    rw [b_225_26]
    refine w_gI I s_301 ?_
    rw [q.2.2.2.2.2.2.1.1, one_shl _ u6]
    refine w_ift ((i_le (by omega) (by omega)).mpr (by omega)) ?_
    have em : m = 2 ^ (sU S).length - 1 := by omega
    unfold slyV slyA
    rw [← em]
    rcases hw with rfl | rfl
    · exact w_iff (by decide) (Wp.retj ⟨rfl, M, q⟩)
    · exact w_ift (by decide) (Wp.retj ⟨rfl, M, q⟩)
  | c + 1, m, h, v6, v7, e, I, q, M => by
    have u6 := u6 ok
    have p64 : 2 ^ (sU S).length ≤ 64 := Nat.pow_le_pow_right (n := 2) (by decide) u6
    have st : mst (slyF (vY S 0) (sL S) (sPc S) (sY S 0).2.2.2.2 (sU S)) (fun s => cT (sU S) s (sU S).length) (m + 1) = if cT (sU S) (m + 1) (sU S).length = true ∧ slyF (vY S 0) (sL S) (sPc S) (sY S 0).2.2.2.2 (sU S) (m + 1) < (mst (slyF (vY S 0) (sL S) (sPc S) (sY S 0).2.2.2.2 (sU S)) (fun s => cT (sU S) s (sU S).length) m).1 then (slyF (vY S 0) (sL S) (sPc S) (sY S 0).2.2.2.2 (sU S) (m + 1), m + 1) else mst (slyF (vY S 0) (sL S) (sPc S) (sY S 0).2.2.2.2 (sU S)) (fun s => cT (sU S) s (sU S).length) m := rfl
    rw [b_225_26]
    refine w_gI I s_301 ?_
    rw [q.2.2.2.2.2.2.1.1, one_shl _ u6]
    refine w_iff (fun z => absurd ((i_le (by omega) (by omega)).mp z) (by omega)) ?_
    refine w_gS I s_301 ?_
    refine w_eI (m_223 (d := d + 7) I q ok) ?_
    rw [i32_ofNat_succ]
    refine w_if (fun c0 => ?_) (fun c0 => ?_)
    · have ht : cT (sU S) (m + 1) (sU S).length = true := by cases z : cT (sU S) (m + 1) (sU S).length; rw [z] at c0; exact absurd rfl c0; rfl
      refine w_gS I s_301 ?_
      refine w_bJ I (m_224 (d := d) (s := m + 1) (w := 0) I q ok) (by decide) rfl ?_
      rintro x h1 I1 ⟨rfl, q1, M1⟩
      rw [wdP_0]
      have ih := fun v6 v7 => c225_26 (w := w) (h0 := h0) ok hw c (m + 1) h1 v6 v7 (by omega) I1 q1 (M.tr M1)
      have j1 : jr (slyF (vY S 0) (sL S) (sPc S) (sY S 0).2.2.2.2 (sU S) (m + 1)) := slyF_jr ok
      have j2 : jr (mst (slyF (vY S 0) (sL S) (sPc S) (sY S 0).2.2.2.2 (sU S)) (fun s => cT (sU S) s (sU S).length) m).1 := by rw [mst_val]; exact slyF_jr ok
      refine w_if (fun c1 => ?_) (fun c1 => ?_)
      · have := (j_lt j1 j2).mp ((lg_cmp_lt _ _).mp c1)
        rw [st, if_pos ⟨ht, this⟩] at ih
        exact ih _ _
      · rw [st, if_neg (fun z => c1 ((lg_cmp_lt _ _).mpr ((j_lt j1 j2).mpr z.2)))] at ih
        exact ih _ _
    · have ht : cT (sU S) (m + 1) (sU S).length = false := bi_0.mp (Classical.byContradiction c0)
      have ih := fun v6 v7 => c225_26 (w := w) (h0 := h0) ok hw c (m + 1) h v6 v7 (by omega) I q M
      rw [st, if_neg (fun z => by rw [ht] at z; cases z.1)] at ih
      exact ih _ _
theorem m_sly {w : Int32} (I : Inv h) (q : RM h S) (ok : okA S) :
    Wp (K X (d + 9) 225 [.ref 301, .int w] h) (VJ fun v h' => slyP S w v ∧ Mo h h' ∧ RM h' S) := by
  have u6 := u6 ok
  have p1 : 1 ≤ 2 ^ (sU S).length := Nat.one_le_two_pow
  rw [k_225]
  refine w_eI m_142 ?_
  have wc : (¬ w < 0 ∧ ¬ (1 : Int32) < w) ↔ (w = 0 ∨ w = 1) := by
    constructor
    · rintro ⟨a, b⟩
      obtain ⟨m, m2, rfl⟩ := i_natp a
      have : m = 0 ∨ m = 1 := by
        have : ¬ 1 < m := fun z => b ((i_lt (m := 1) (by omega) m2).mpr z)
        omega
      rcases this with rfl | rfl
      · exact Or.inl rfl
      · exact Or.inr rfl
    · rintro (rfl | rfl) <;> decide
  refine w_if (fun c => ?_) (fun c => ?_)
  · have hw : w = 0 ∨ w = 1 := wc.mp (Classical.byContradiction fun z => c (bi_dec.mpr z))
    refine w_gS I s_301 ?_
    refine w_bJ I (m_224 (d := d) (s := 0) (w := 0) I q ok) (by decide) rfl ?_
    rintro x h1 I1 ⟨rfl, q1, M1⟩
    rw [wdP_0]
    refine (c225_26 (X := X) (d := d) (w := w) (h0 := h) ok hw (2 ^ (sU S).length - 1) 0 h1 none none (by omega) I1 q1 M1).mono ?_
    rintro _ h2 ⟨v, rfl, e, C, R⟩
    exact ⟨_, rfl, ⟨fun _ => e, fun z => absurd hw z⟩, C, R⟩
  · have hw : ¬ (w = 0 ∨ w = 1) := fun z => bi_dec.mp (Classical.byContradiction c) (wc.mpr z)
    exact Wp.retj ⟨⟨fun z => absurd z hw, fun _ => rfl⟩, Eo.rf, q⟩
end SM
