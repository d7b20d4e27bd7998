/-! THE CLAIM OUT OF ONE WALK OF THE LAW'S BODY. Your part is whole_start (and what it stands on); all else here is the same for every law, but numbers. -/
def R_law : String := "FiveLandsLaw"
def lw_P (b : Addr) (xs : List Int32) (args : Array Value) (s : State) : Prop := args = #[.ref b] ∧ s.IntsAt b xs ∧ xs.length ≤ 3584 ∧ (Jvm.Cond.and given_1 narrow_1).before args s = true
def lw_Q (_ : Array Value) (s : State) (o : Outcome) (t : State) : Prop := o = .returned (some (.int 1)) ∧ Framed s o t [] 600000 7302250
def lw_Z (below : List Frame) (a : Array Value) (s : State) : State → Prop := fun t => ∃ o, t.status = .running ∧ Ended t below o ∧ lw_Q a s o t
/-- the law's own end, with 1 on the stack, nothing written that was there before, its room as the claim has it -/
theorem lw_ret {p : Program} {l : Launch} {e : Env} {s : State} {m : MethodId} {below : List Frame} {meth : Method} {c : Code} {b : Nat} (hx : p.tables.exec = Jvm.exec) (hb : c.code = code) (hr : meth.sig.returnType = ret) (hlocks : meth.locks = false) {pc : Nat} {H : Heap} {ls : Array Slot} (hdg : decode code pc = .ok (.ireturn, 1)) : W p l e room_1 s m #[Value.ref b] below meth c H [] 600000 7302250 (lw_Z below #[Value.ref b] s) (F0 m pc ls [.int 1]) := by
  intro T hT X
  obtain ⟨fs, hret, hrun, hended, hW, hframe⟩ := X.leave (v := some (.int 1)) (hlocks := hlocks) (fun h => by rw [hr] at h; cases h)
  have hmeth' : T.vm.method? m = some meth := X.method'
  refine ⟨T.setFrames fs, ?_, .returned (some (.int 1)), hrun, hended, rfl, ⟨_, rfl⟩, hW, hframe⟩
  jvm_step X.here [X.here.top, hx, hb, hdg, hmeth', hr, ret, narrow_b1]
  (try refine ⟨rfl, ?_⟩); (try refine ⟨rfl, ?_⟩)
  first | (intro acts; rw [hret _ acts rfl rfl rfl]) | rw [hret _ _ rfl rfl rfl]
  exact Steps.refl _
/-- what holds at the law's entry: the machine, the code, the tables' words (any of lw_tbl by 'hts w (by decide +kernel)'), the script of L ints xs at the cell b, what the Statement gives of the start (any of its parts by flat_of_before) -/
def lw_At (p : Program) (s : State) (m : MethodId) (meth : Method) (c : Code) (b L : Nat) (xs : Nat → Int32) : Prop :=
  p.tables.exec = Jvm.exec ∧ c.code = code ∧ meth.sig.returnType = ret ∧ c.maxLocals = 4 ∧ s.vm.findClass R_law = some m.cls ∧ (∀ w ∈ lw_tbl, w.before #[Value.ref b] s = true) ∧ va_X b L xs s s.heap ∧ b < s.heap.size ∧ meth.locks = false ∧ (Jvm.Cond.and given_1 narrow_1).before #[Value.ref b] s = true

/-! THE CLAIM, OUT OF WHAT THE ABSTRACT MACHINE SAYS OF THE LAW -/
def hp0 : Hp := (fun _ => (0, 0), fun _ _ => 0, fun _ _ => 0, fun _ _ => none, 62, 0)
/-- what is to be shown of the law, over the abstract machine -/
def LawAbs : Prop := ∀ X : Ctx, X.1 ≤ 3584 → (X.2.2 = .null ∨ X.2.2 = .ref 61) → ∃ h' : Hp, sem (X, K X 100) 247 0 [some (.ref 0), none, none, none] [] hp0 = some (some (.int 1), h') ∧ hN h' ≤ 600062 ∧ hK h' ≤ 7302250
theorem whole_of (hA : LawAbs) {p : Program} {e : Env} {s : State} {m : MethodId} {below : List Frame} {meth : Method} {c : Code} (l : Launch) {b L : Nat} {xs : Nat → Int32} (hL : L ≤ 3584) (C0 : lw_At p s m meth c b L xs) : W p l e room_1 s m #[Value.ref b] below meth c s.heap [] 0 0 (lw_Z below #[Value.ref b] s) (entryFrame m ([Value.ref b] : List Value).toArray 4) := by
  obtain ⟨hx, hb, hr, hml, hown, hts, hX, hbl, hlocks, hgv⟩ := C0
  obtain ⟨aS, cT, D, fm, ha0, hfn, hF⟩ := fix_at hts hX hbl hgv
  obtain ⟨h', hsem, hc, hk⟩ := hA (L, xs, fm) hL hfn
  obtain ⟨n, hn⟩ := semS_iff.mp hsem
  have hC := K_OK l s.heap.size aS cT D (L, xs, fm) 100
  have hmono := run_le hC.cm n _ _ hn
  have hm1 : 62 ≤ hN h' := hmono.1
  have hm2 : 0 ≤ hK h' := hmono.2
  have cx : CX p s m #[Value.ref b] meth c room_1 s.heap.size aS cT D (L, xs, fm) 247 100 :=
    ⟨hx, hb, hml, hown, fun w hw => hts w (List.mem_filter.mp hw).1, hr, hlocks, fun q => absurd q (by decide +kernel), hF, by decide, by decide⟩
  have hcl : 600000 - (hN h' - 62) + hN h' = 600000 + 62 := by omega
  have hkl : 7302250 - hK h' + hK h' = 7302250 + 0 := by omega
  refine W.widen (k := 600000 - (hN h' - 62)) (n := 7302250 - hK h') (Nat.zero_le _) (Nat.zero_le _) ?_
  rw [lg_entry_eq]
  have hLR : LR s.heap.size aS [some (.ref 0), none, none, none] ((lg_sl ([.ref 0].map (tr s.heap.size aS)) ++ List.replicate (4 - (lg_sl ([.ref 0].map (tr s.heap.size aS))).length) Slot.unset).toArray) := LR.entry (vs := [.ref 0]) (n := 4) (by decide)
  have e0 : ([.ref 0] : List Value).map (tr s.heap.size aS) = [.ref b] := by
    show [tr s.heap.size aS (.ref 0)] = _
    rw [tr_lo (by decide), ha0]
  rw [e0] at hLR
  have hW0 : World s.heap.size aS cT D hp0 s.heap := ⟨⟨Nat.le_refl _, fun a h => absurd rfl h⟩, rfl, fun a h => absurd rfl h⟩
  refine wrun (r := (some (.int 1), h')) cx hC ?_ n (0, [some (.ref 0), none, none, none], [], hp0) s.heap [] _ _ _ hn ⟨hLR, rfl, hW0, va_S.rf⟩ hcl hkl
  intro ins len pc ls Ls st h H locs cells slots hd hs hret I hc1 hk1
  subst hc1; subst hk1
  have hst : ins = .ireturn ∧ len = 1 ∧ st = [.int 1] := by
    have hret2 : mRet 247 = some .boolean := rfl
    rcases hret with rfl | rfl | rfl | rfl
    · simp only [stpI] at hs
      replace hs := gd_inv hs; obtain ⟨hl, hs⟩ := hs
      replace hs := pI_inv hs; obtain ⟨x, st2, e1, hs⟩ := hs
      rw [hret2] at hs
      cases st2 with
      | nil =>
        replace hs := (gd_inv hs).2
        have hs2 : rt (some (.int x)) h = some (.inr (some (.int 1), h')) := hs
        have e2 := rt_r hs2
        cases e2
        exact ⟨rfl, hl, e1⟩
      | cons v w => cases hs
    · simp only [stpI] at hs
      replace hs := gd_inv hs; obtain ⟨hl, hs⟩ := hs
      replace hs := pJ_inv hs; obtain ⟨x, st2, e1, hs⟩ := hs
      rw [hret2] at hs
      cases st2 <;> cases hs
    · simp only [stpI] at hs
      replace hs := gd_inv hs; obtain ⟨hl, hs⟩ := hs
      replace hs := pR_inv hs; obtain ⟨x, st2, e1, hs⟩ := hs
      rw [hret2] at hs
      cases st2 <;> cases hs
    · simp only [stpI] at hs
      replace hs := gd_inv hs; obtain ⟨hl, hs⟩ := hs
      rw [hret2] at hs
      cases st <;> cases hs
  obtain ⟨rfl, rfl, rfl⟩ := hst
  refine va_forget (fun q hq => I.2.2.2.2.2 q hq) ?_
  exact lw_ret hx hb hr hlocks hd
