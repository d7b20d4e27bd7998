/-! EVERY STEP, EVERY RUN, EVERY METHOD -/
def isRet (i : Instr) : Prop := i = .ireturn ∨ i = .lreturn ∨ i = .areturn ∨ i = .return_
def MN (i : Instr) (h : Hp) (x : Option MOut) : Prop := (∀ o, x = some (.inl o) → hN h ≤ hN o.2.2.2 ∧ hK h ≤ hK o.2.2.2) ∧ ∀ r, x = some (.inr r) → r.2 = h ∧ isRet i
theorem nx_ne {pc : Nat} {ls : LV} {st : List Value} {h : Hp} {r : Option Value × Hp} (e : nx pc ls st h = some (.inr r)) : False := by
  unfold nx at e
  cases e
theorem rt_r {v : Option Value} {h : Hp} {r : Option Value × Hp} (e : rt v h = some (.inr r)) : r = (v, h) := by
  unfold rt at e
  cases e
  rfl
section MNS
variable {i : Instr} {h : Hp}
theorem MN_none : MN i h none := ⟨fun o z => (by cases z), fun r z => (by cases z)⟩
theorem MN_nx {pc : Nat} {ls : LV} {st : List Value} {h' : Hp} (h1 : hN h ≤ hN h') (h2 : hK h ≤ hK h') : MN i h (nx pc ls st h') := ⟨fun o z => by rw [nx_inv z]; exact ⟨h1, h2⟩, fun r z => by exact absurd (nx_ne z) id⟩
theorem MN_nx0 {pc : Nat} {ls : LV} {st : List Value} {h' : Hp} (h1 : hN h ≤ hN h' ∧ hK h ≤ hK h') : MN i h (nx pc ls st h') := MN_nx h1.1 h1.2
theorem MN_rt {v : Option Value} (hi : isRet i) : MN i h (rt v h) := ⟨fun o z => absurd (rt_inv z) id, fun r z => by obtain rfl := rt_r z; exact ⟨rfl, hi⟩⟩
theorem MN_gd {c : Prop} [Decidable c] {x : Option MOut} (hx : MN i h x) : MN i h (gd c x) := ⟨fun o z => hx.1 o (gd_inv z).2, fun r z => hx.2 r (gd_inv z).2⟩
theorem MN_ite {c : Prop} [Decidable c] {x x' : Option MOut} (hx : MN i h x) (hx' : MN i h x') : MN i h (if c then x else x') := by
  by_cases hc : c
  · rw [if_pos hc]; exact hx
  · rw [if_neg hc]; exact hx'
theorem MN_pI {st : List Value} {k : Int32 → List Value → Option MOut} (hx : ∀ a r, MN i h (k a r)) : MN i h (pI st k) := ⟨fun o z => by obtain ⟨a, r, -, z⟩ := pI_inv z; exact (hx a r).1 o z, fun q z => by obtain ⟨a, r, -, z⟩ := pI_inv z; exact (hx a r).2 q z⟩
theorem MN_pJ {st : List Value} {k : Int64 → List Value → Option MOut} (hx : ∀ a r, MN i h (k a r)) : MN i h (pJ st k) := ⟨fun o z => by obtain ⟨a, r, -, z⟩ := pJ_inv z; exact (hx a r).1 o z, fun q z => by obtain ⟨a, r, -, z⟩ := pJ_inv z; exact (hx a r).2 q z⟩
theorem MN_pR {st : List Value} {k : Nat → List Value → Option MOut} (hx : ∀ a r, MN i h (k a r)) : MN i h (pR st k) := ⟨fun o z => by obtain ⟨a, r, -, z⟩ := pR_inv z; exact (hx a r).1 o z, fun q z => by obtain ⟨a, r, -, z⟩ := pR_inv z; exact (hx a r).2 q z⟩
theorem MN_pV {st : List Value} {k : Value → List Value → Option MOut} (hx : ∀ a r, MN i h (k a r)) : MN i h (pV st k) := ⟨fun o z => by obtain ⟨a, r, -, z⟩ := pV_inv z; exact (hx a r).1 o z, fun q z => by obtain ⟨a, r, -, z⟩ := pV_inv z; exact (hx a r).2 q z⟩
theorem MN_lI {ls : LV} {n : Nat} {k : Int32 → Option MOut} (hx : ∀ a, MN i h (k a)) : MN i h (lI ls n k) := ⟨fun o z => by obtain ⟨a, -, z⟩ := lI_inv z; exact (hx a).1 o z, fun q z => by obtain ⟨a, -, z⟩ := lI_inv z; exact (hx a).2 q z⟩
theorem MN_lR {ls : LV} {n : Nat} {k : Nat → Option MOut} (hx : ∀ a, MN i h (k a)) : MN i h (lR ls n k) := ⟨fun o z => by obtain ⟨a, -, z⟩ := lR_inv z; exact (hx a).1 o z, fun q z => by obtain ⟨a, -, z⟩ := lR_inv z; exact (hx a).2 q z⟩
theorem MN_lJ {ls : LV} {n : Nat} {k : Int64 → Option MOut} (hx : ∀ a, MN i h (k a)) : MN i h (lJ ls n k) := ⟨fun o z => by obtain ⟨a, -, -, z⟩ := lJ_inv z; exact (hx a).1 o z, fun q z => by obtain ⟨a, -, -, z⟩ := lJ_inv z; exact (hx a).2 q z⟩
theorem MN_tI {ls : LV} {n : Nat} {v : Value} {k : LV → Option MOut} (hx : ∀ a, MN i h (k a)) : MN i h (tI ls n v k) := MN_gd (hx _)
theorem MN_tJ {ls : LV} {n : Nat} {v : Value} {k : LV → Option MOut} (hx : ∀ a, MN i h (k a)) : MN i h (tJ ls n v k) := MN_gd (hx _)
theorem MN_oR {r : Option Nat} {k : Nat → Option MOut} (hx : ∀ a, MN i h (k a)) : MN i h (oR r k) := by
  cases r with
  | none => exact MN_none
  | some a => exact hx a
theorem MN_jmp {pc : Nat} {off : Int} {k : Nat → Option MOut} (hx : ∀ a, MN i h (k a)) : MN i h (jmp pc off k) := MN_gd (hx _)
end MNS
section RUN
variable {X : Ctx} {C : Orc} {y : Nat}
def CM (C : Orc) : Prop := ∀ (y : Nat) (vs : List Value) (h : Hp) (v : Option Value) (h' : Hp), C y vs h = some (v, h') → hN h ≤ hN h' ∧ hK h ≤ hK h'
theorem MN_bR2 (hC : CM C) {i : Instr} {h : Hp} {y' pc : Nat} {vs : List Value} {ls : LV} {st : List Value} : MN i h (bR2 y' (C y' vs h) pc ls st) := ⟨fun o z => by
    obtain ⟨v, h1, e, z⟩ := bR2_inv z
    cases z
    exact hC _ _ _ _ _ e, fun r z => by
    obtain ⟨v, h1, e, z⟩ := bR2_inv z
    cases z⟩
theorem MN_stpC (hC : CM C) {i : Instr} {h : Hp} {vir n pc : Nat} {ls : LV} {st : List Value} : MN i h (stpC (X, C) y vir n pc ls st h) := by
  unfold stpC
  split
  · exact MN_gd (MN_pR fun _ _ => MN_gd (MN_nx (Nat.le_refl _) (Nat.le_refl _)))
  · exact MN_gd (MN_pI fun _ _ => MN_pI fun _ _ => MN_pR fun _ _ => MN_pI fun _ _ => MN_pR fun _ _ => MN_gd (MN_ite (MN_nx (Nat.le_refl _) (Nat.le_refl _)) (MN_ite (MN_nx (Nat.le_refl _) (Nat.le_refl _)) MN_none)))
  · refine MN_gd (MN_ite (MN_gd ?_) (MN_ite ?_ ?_))
    · unfold mop
      split
      · exact MN_pI fun _ _ => MN_gd (MN_nx (Nat.le_refl _) (Nat.le_refl _))
      · exact MN_pI fun _ _ => MN_pI fun _ _ => MN_gd (MN_nx (Nat.le_refl _) (Nat.le_refl _))
      · exact MN_pJ fun _ _ => MN_pJ fun _ _ => MN_gd (MN_nx (Nat.le_refl _) (Nat.le_refl _))
      · exact MN_pI fun _ _ => MN_pI fun _ _ => MN_gd (MN_nx (Nat.le_refl _) (Nat.le_refl _))
      · exact MN_pJ fun _ _ => MN_pJ fun _ _ => MN_gd (MN_nx (Nat.le_refl _) (Nat.le_refl _))
      · exact MN_none
    · exact MN_gd (MN_bR2 hC)
    · exact MN_gd (MN_gd (MN_pR fun _ _ => MN_gd (MN_bR2 hC)))
  · exact MN_none
theorem MN_stpF {i : Instr} {h : Hp} {n pc : Nat} {ls : LV} {st : List Value} : MN i h (stpF y n pc ls st h) := by
  unfold stpF
  refine MN_pR fun _ _ => ?_
  refine MN_ite (MN_gd ?_) ?_
  · split
    · exact MN_nx (Nat.le_refl _) (Nat.le_refl _)
    · exact MN_nx (Nat.le_refl _) (Nat.le_refl _)
    · exact MN_none
  · split
    · exact MN_none
    · refine MN_gd ?_
      split
      · exact MN_nx (Nat.le_refl _) (Nat.le_refl _)
      · exact MN_nx (Nat.le_refl _) (Nat.le_refl _)
      · exact MN_nx (Nat.le_refl _) (Nat.le_refl _)
      · exact MN_oR fun _ => MN_nx (Nat.le_refl _) (Nat.le_refl _)
      · exact MN_none
theorem MN_stpG {i : Instr} {h : Hp} {n pc : Nat} {ls : LV} {st : List Value} : MN i h (stpG y n pc ls st h) := by
  unfold stpG
  split
  · exact MN_none
  · refine MN_gd ?_
    split
    · exact MN_pI fun _ _ => MN_pR fun _ _ => MN_gd (MN_nx (Nat.le_refl _) (Nat.le_refl _))
    · exact MN_pI fun _ _ => MN_pR fun _ _ => MN_gd (MN_nx (Nat.le_refl _) (Nat.le_refl _))
    · exact MN_pJ fun _ _ => MN_pR fun _ _ => MN_gd (MN_nx (Nat.le_refl _) (Nat.le_refl _))
    · exact MN_pR fun _ _ => MN_pR fun _ _ => MN_gd (MN_nx (Nat.le_refl _) (Nat.le_refl _))
    · exact MN_none
theorem MN_stpI (hC : CM C) {ins : Instr} {len pc : Nat} {ls : LV} {st : List Value} {h : Hp} : MN ins h (stpI (X, C) y ins len pc ls st h) := by
  have e1 : ∀ (a b : Nat × Nat) (w : Nat), hN h ≤ hN (alc h a w) ∧ hK h ≤ hK (alc h a w) := fun a b w => ⟨Nat.le_succ _, Nat.le_add_right _ _⟩
  have e2 : ∀ (a b : Nat × Nat) (w k n q r : Nat), hN h ≤ hN (lnk (alcs a k n (alc h b w)) q r) ∧ hK h ≤ hK (lnk (alcs a k n (alc h b w)) q r) := fun a b w k n q r => by
    obtain ⟨g1, g2⟩ := hN_alcs a k n (alc h b w)
    refine ⟨?_, ?_⟩
    · show hN h ≤ hN (alcs a k n (alc h b w))
      rw [g1]
      exact Nat.le_trans (Nat.le_succ _) (Nat.le_add_right _ _)
    · show hK h ≤ hK (alcs a k n (alc h b w))
      rw [g2]
      exact Nat.le_trans (Nat.le_add_right _ w) (Nat.le_add_right _ _)
  cases ins
  all_goals (simp only [stpI])
  all_goals repeat' with_reducible first
    | exact MN_none
    | exact MN_stpC hC
    | refine MN_gd ?_
    | refine MN_pI fun _ _ => ?_
    | refine MN_pJ fun _ _ => ?_
    | refine MN_pR fun _ _ => ?_
    | refine MN_pV fun _ _ => ?_
    | refine MN_lI fun _ => ?_
    | refine MN_lR fun _ => ?_
    | refine MN_lJ fun _ => ?_
    | refine MN_tI fun _ => ?_
    | refine MN_tJ fun _ => ?_
    | refine MN_oR fun _ => ?_
    | refine MN_jmp fun _ => ?_
    | refine MN_ite ?_ ?_
    | refine MN_nx0 ?_
    | refine MN_rt ?_
    | exact MN_stpF
    | exact MN_stpG
    | split
  all_goals first
    | exact ⟨Nat.le_refl _, Nat.le_refl _⟩
    | exact e1 _ (0, 0) _
    | exact e2 _ _ _ _ _ _ _
    | exact Or.inl rfl
    | exact Or.inr (Or.inl rfl)
    | exact Or.inr (Or.inr (Or.inl rfl))
    | exact Or.inr (Or.inr (Or.inr rfl))
theorem run_le (hC : CM C) : ∀ (n : Nat) (s : MSt) (r : Option Value × Hp), run (X, C) y n s = some r → hN s.2.2.2 ≤ hN r.2 ∧ hK s.2.2.2 ≤ hK r.2
  | 0, _, _, h => by cases h
  | n + 1, s, r, h => by
    unfold run stp at h
    cases hd : decode (mCode y) s.1 with
    | error q => rw [hd] at h; cases h
    | ok q =>
      rw [hd] at h
      obtain ⟨ins, len⟩ := q
      have hM := MN_stpI (X := X) (y := y) hC (ins := ins) (len := len) (pc := s.1) (ls := s.2.1) (st := s.2.2.1) (h := s.2.2.2)
      cases hs : stpI (X, C) y ins len s.1 s.2.1 s.2.2.1 s.2.2.2 with
      | none => simp only [hs] at h; cases h
      | some o =>
        simp only [hs] at h
        cases o with
        | inl s' =>
          have h1 := hM.1 s' hs
          have h2 := run_le hC n s' r h
          exact ⟨Nat.le_trans h1.1 h2.1, Nat.le_trans h1.2 h2.2⟩
        | inr r' =>
          cases h
          rw [(hM.2 _ hs).1]
          exact ⟨Nat.le_refl _, Nat.le_refl _⟩
end RUN
section ALL
variable {p : Program} {l : Launch} {e : Env} {R : Room} {s : State} {m : MethodId} {args : Array Value} {below : List Frame} {meth : Method} {c : Code} {H : Heap} {locs : List Loc} {cells slots : Nat} {Q : State → Prop}
variable {B : Nat} {aS : Nat → Nat} {cT : Nat → ClassId} {D : va_G} {X : Ctx} {C : Orc} {y d pc len : Nat} {ls : LV} {Ls : Array Slot} {st : List Value} {h : Hp} {o : MSt}
theorem wstep {ins : Instr} (cx : CX p s m args meth c R B aS cT D X y d) (I : SI s B aS cT D y ls Ls h H locs) (hC : OK l B aS cT D X d C) (hroom : cells + hN o.2.2.2 ≤ R.cells + hN h ∧ slots + hK o.2.2.2 ≤ R.slots + hK h) (hd : decode (mCode y) pc = .ok (ins, len)) (hs : stpI (X, C) y ins len pc ls st h = some (.inl o)) (kk : KK p l e R s m args below meth c B aS cT D Q y h cells slots o) : W p l e R s m args below meth c H locs cells slots Q (F0 m pc Ls (st.map (tr B aS))) := by
  cases ins with
  | aload_n _ => exact w_aload_n cx I hd hs kk
  | aload _ => exact w_aload cx I hd hs kk
  | iload_n _ => exact w_iload_n cx I hd hs kk
  | iload _ => exact w_iload cx I hd hs kk
  | lload_n _ => exact w_lload_n cx I hd hs kk
  | lload _ => exact w_lload cx I hd hs kk
  | istore_n _ => exact w_istore_n cx I hd hs kk
  | istore _ => exact w_istore cx I hd hs kk
  | astore_n _ => exact w_astore_n cx I hd hs kk
  | astore _ => exact w_astore cx I hd hs kk
  | lstore_n _ => exact w_lstore_n cx I hd hs kk
  | lstore _ => exact w_lstore cx I hd hs kk
  | iinc _ _ => exact w_iinc cx I hd hs kk
  | iconst _ => exact w_iconst cx I hd hs kk
  | bipush _ => exact w_bipush cx I hd hs kk
  | sipush _ => exact w_sipush cx I hd hs kk
  | lconst _ => exact w_lconst cx I hd hs kk
  | ldc _ => exact w_ldc cx I hd hs kk
  | ldc_w _ => exact w_ldc_w cx I hd hs kk
  | ldc2_w _ => exact w_ldc2_w cx I hd hs kk
  | dup => exact w_dup cx I hd hs kk
  | dup2 => exact w_dup2 cx I hd hs kk
  | pop => exact w_pop cx I hd hs kk
  | pop2 => exact w_pop2 cx I hd hs kk
  | iadd => exact w_iadd cx I hd hs kk
  | isub => exact w_isub cx I hd hs kk
  | imul => exact w_imul cx I hd hs kk
  | iand => exact w_iand cx I hd hs kk
  | ior => exact w_ior cx I hd hs kk
  | ixor => exact w_ixor cx I hd hs kk
  | ishl => exact w_ishl cx I hd hs kk
  | ishr => exact w_ishr cx I hd hs kk
  | iushr => exact w_iushr cx I hd hs kk
  | idiv => exact w_idiv cx I hd hs kk
  | irem => exact w_irem cx I hd hs kk
  | ladd => exact w_ladd cx I hd hs kk
  | lsub => exact w_lsub cx I hd hs kk
  | lmul => exact w_lmul cx I hd hs kk
  | land => exact w_land cx I hd hs kk
  | lor => exact w_lor cx I hd hs kk
  | ldiv => exact w_ldiv cx I hd hs kk
  | lshl => exact w_lshl cx I hd hs kk
  | lshr => exact w_lshr cx I hd hs kk
  | lcmp => exact w_lcmp cx I hd hs kk
  | ineg => exact w_ineg cx I hd hs kk
  | i2l => exact w_i2l cx I hd hs kk
  | l2i => exact w_l2i cx I hd hs kk
  | i2c => exact w_i2c cx I hd hs kk
  | goto _ => exact w_goto cx I hd hs kk
  | ifCond _ _ => exact w_ifCond cx I hd hs kk
  | if_icmp _ _ => exact w_if_icmp cx I hd hs kk
  | tableswitch _ _ _ _ => exact w_tableswitch cx I hd hs kk
  | iaload => exact w_iaload cx I hd hs kk
  | baload => exact w_baload cx I hd hs kk
  | laload => exact w_laload cx I hd hs kk
  | aaload => exact w_aaload cx I hd hs kk
  | arraylength => exact w_arraylength cx I hd hs kk
  | iastore => exact w_iastore cx I hd hs kk
  | bastore => exact w_bastore cx I hd hs kk
  | lastore => exact w_lastore cx I hd hs kk
  | aastore => exact w_aastore cx I hd hs kk
  | getstatic _ => exact w_getstatic cx I hd hs kk
  | getfield _ => exact w_getfield cx I hd hs kk
  | putfield _ => exact w_putfield cx I hd hs kk
  | new _ => exact w_new cx I hroom hd hs kk
  | newarray _ => exact w_newarray cx I hroom hd hs kk
  | anewarray _ => exact w_anewarray cx I hroom hd hs kk
  | multianewarray _ _ => exact w_multi cx I hroom hd hs kk
  | invokestatic i =>
    simp only [stpI] at hs
    obtain ⟨rfl, hs⟩ := gd_inv hs
    exact w_stpC (vir := 0) (i := i) cx I hC hroom hd (by decide) hs kk
  | invokevirtual i =>
    simp only [stpI] at hs
    obtain ⟨rfl, hs⟩ := gd_inv hs
    exact w_stpC (vir := 1) (i := i) cx I hC hroom hd (by decide) hs kk
  | invokespecial i =>
    simp only [stpI] at hs
    obtain ⟨rfl, hs⟩ := gd_inv hs
    exact w_stpC (vir := 2) (i := i) cx I hC hroom hd (by decide) hs kk
  | _ =>
    exfalso
    revert hs
    simp only [stpI]
    intro hs
    first
      | cases hs
      | (replace hs := (gd_inv hs).2; replace hs := pI_inv hs; obtain ⟨x, st2, rfl, hs⟩ := hs; split at hs <;> first | exact rt_inv hs | exact rt_inv (gd_inv hs).2 | cases hs)
      | (replace hs := (gd_inv hs).2; replace hs := pJ_inv hs; obtain ⟨x, st2, rfl, hs⟩ := hs; split at hs <;> first | exact rt_inv hs | cases hs)
      | (replace hs := (gd_inv hs).2; replace hs := pR_inv hs; obtain ⟨x, st2, rfl, hs⟩ := hs; split at hs <;> first | exact rt_inv hs | cases hs)
      | (replace hs := (gd_inv hs).2; split at hs <;> first | exact rt_inv hs | cases hs)
theorem OK.cm (hC : OK l B aS cT D X d C) : CM C := fun y vs h v h' e => (hC y vs h v h' e).1
/-- A RUN: from any of its states the machine comes to its end -/
theorem wrun (cx : CX p s m args meth c R B aS cT D X y d) (hC : OK l B aS cT D X d C) {r : Option Value × Hp}
    (fin : ∀ (ins : Instr) (len pc : Nat) (ls : LV) (Ls : Array Slot) (st : List Value) (h : Hp) (H : Heap) (locs : List Loc) (cells slots : Nat), decode (mCode y) pc = .ok (ins, len) → stpI (X, C) y ins len pc ls st h = some (.inr r) → isRet ins → SI s B aS cT D y ls Ls h H locs → cells = R.cells → slots = R.slots → W p l e R s m args below meth c H locs cells slots Q (F0 m pc Ls (st.map (tr B aS)))) :
    ∀ (n : Nat) (s0 : MSt) (H : Heap) (locs : List Loc) (Ls : Array Slot) (cells slots : Nat), run (X, C) y n s0 = some r → SI s B aS cT D y s0.2.1 Ls s0.2.2.2 H locs → cells + hN r.2 = R.cells + hN s0.2.2.2 → slots + hK r.2 = R.slots + hK s0.2.2.2 → W p l e R s m args below meth c H locs cells slots Q (F0 m s0.1 Ls (s0.2.2.1.map (tr B aS)))
  | 0, _, _, _, _, _, _, h, _, _, _ => by cases h
  | n + 1, s0, H, locs, Ls, cells, slots, h, I, hc, hk => by
    unfold run stp at h
    cases hd : decode (mCode y) s0.1 with
    | error q => rw [hd] at h; cases h
    | ok q =>
      rw [hd] at h
      obtain ⟨ins, len⟩ := q
      have hM := MN_stpI (X := X) (y := y) hC.cm (ins := ins) (len := len) (pc := s0.1) (ls := s0.2.1) (st := s0.2.2.1) (h := s0.2.2.2)
      cases hs : stpI (X, C) y ins len s0.1 s0.2.1 s0.2.2.1 s0.2.2.2 with
      | none => simp only [hs] at h; cases h
      | some o =>
        simp only [hs] at h
        cases o with
        | inl s' =>
          have h1 := hM.1 s' hs
          have h2 := run_le hC.cm n s' r h
          refine wstep cx I hC ⟨by omega, by omega⟩ hd hs (fun H1 locs1 Ls1 c1 s1 J e1 e2 => ?_)
          exact wrun cx hC fin n s' H1 locs1 Ls1 c1 s1 h J (by omega) (by omega)
        | inr r' =>
          cases h
          obtain ⟨g1, g2⟩ := hM.2 r hs
          rw [g1] at hc hk
          exact fin ins len s0.1 s0.2.1 Ls s0.2.2.1 s0.2.2.2 H locs cells slots hd hs g2 I (by omega) (by omega)
end ALL
theorem ent_len {y : Nat} {vs : List Value} (h : (lvE vs).length ≤ mLoc y) : (ent y vs).length = mLoc y := by
  unfold ent
  rw [List.length_append, List.length_replicate]
  omega
set_option maxRecDepth 10000 in
/-- THE BRIDGE: what the abstract machine says of a method, the machine keeps -/
theorem K_OK (l : Launch) (B : Nat) (aS : Nat → Nat) (cT : Nat → ClassId) (D : va_G) (X : Ctx) : ∀ d : Nat, OK l B aS cT D X d (K X d)
  | 0 => fun y vs h v h' e => by cases e
  | d + 1 => fun y vs h v h' e0 => by
    have ih := K_OK l B aS cT D X d
    have e0 : gd ((lvE vs).length ≤ mLoc y) (sem (X, K X d) y 0 (ent y vs) [] h) = some (v, h') := e0
    obtain ⟨hlen, e1⟩ := gd_inv e0
    obtain ⟨n, hn⟩ := semS_iff.mp e1
    have hmono := run_le ih.cm n _ _ hn
    have hm1 : hN h ≤ hN h' := hmono.1
    have hm2 : hK h ≤ hK h' := hmono.2
    refine ⟨⟨hm1, hm2⟩, fun hy => ?_⟩
    obtain ⟨-, r2, -, -, -, -, -, r8, -⟩ := m_row hy.1
    have hplain : plainName (mName y).cls = true := r8.elim id (fun q => absurd q hy.2)
    unfold MetM
    refine Met.ofW (cc := mCode y) (maxL := mLoc y) (ret := mRet y) hplain rfl ?_
    intro p e s m args below meth c s₁ Bd hml hv
    obtain ⟨rfl, hW, hF⟩ := hv
    have cx : CX p s m (vs.map (tr B aS)).toArray meth c (headSpec (wsM y) (rmM (d + 1) (hN h' - hN h) (hK h' - hK h))).room B aS cT D X y d :=
      ⟨Bd.exec, Bd.bytes, hml, by rw [← r2]; exact findClass_of_methodNamed Bd.named, fun w hw => atoms_spec (ws := wsM y) Bd.pre w (List.mem_cons_of_mem _ hw), Bd.returns, Bd.notSynchronized, fun q => (name_of_methodNamed Bd.named Bd.method).1.trans q, hF, Nat.le_refl _, Nat.le_refl _⟩
    rw [lg_entry_eq]
    refine wrun (r := (v, h')) cx ih ?_ n (0, ent y vs, [], h) s.heap [] _ 0 0 hn ⟨LR.entry hlen, ent_len hlen, hW, va_S.rf⟩ ?_ ?_
    · intro ins len pc ls Ls st h2 H locs cells slots hd hs hret I hc hk
      obtain ⟨q1, q2⟩ := w_end cx I hd hs hret
      subst hc; subst hk
      exact q2
    · show 0 + hN h' = (hN h' - hN h) + hN h
      omega
    · show 0 + hK h' = (hK h' - hK h) + hK h
      omega
