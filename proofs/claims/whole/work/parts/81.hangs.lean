/-! HANGS: the mathematics, and the model -/
def trV (V : Sv) (U l m k : Nat) : Sv := (fun j => if j = m then V.1 m + (Int32.ofNat U - Int32.ofNat k) else if j = l then V.1 l + Int32.ofNat k else V.1 j, V.2.1, V.2.2.1, V.2.2.2)
def hgS (V : Sv) (AL : Nat → ALaw) (U l k m : Nat) : Bool := syP (trV V U l m k) AL l
def anM (f : Nat → Bool) (l : Nat) : Nat → Bool
  | 0 => false
  | m + 1 => anM f l m || (decide (m ≠ l) && f m)
def anK (f : Nat → Nat → Bool) (l : Nat) : Nat → Bool
  | 0 => false
  | k + 1 => anK f l k || anM (f k) l 6
def hangB (f : Nat → Nat → Bool) (l n : Nat) : Int32 := if anK f l n then (if anK (fun k m => !f k m) l n then 2 else 1) else 0
section HG
variable {X : Ctx} {d : Nat} {Q : Option Value → Hp → Prop} {V : Sv} {AL : Nat → ALaw} {U l : Nat}
/-- the model while it tries -/
def Hg (h0 h : Hp) (V : Sv) (AL : Nat → ALaw) (U l : Nat) : Prop := Eo (fun a => a = 333 ∨ a = 334 ∨ a = 335) h0 h ∧ (∀ j, j < 6 → j ≠ l → hI h 335 j = V.1 j) ∧ hI h 301 52 = V.2.1 ∧ hI h 301 53 = V.2.2.1 ∧ hI h 301 54 = V.2.2.2 ∧ hI h 301 56 = Int32.ofNat U ∧ mLaws h AL
theorem c218_49 {h0 : Hp} {k : Nat} {v1 : Option Value} (hl : l < 6) : ∀ (c m : Nat) (h : Hp) (v8 : Option Value), m + c = 6 → Inv h → Hg h0 h V AL U l →
    (∀ h' v8, Inv h' → Hg h0 h' V AL U l → Wp (sem (X, K X (d + 3)) 218 37 [some (.ref 301), v1, some (.int (Int32.ofNat l)), some (.int (bi (anK (hgS V AL U l) l (k + 1)))), some (.int (bi (anK (fun k m => !hgS V AL U l k m) l (k + 1)))), some (.int (V.1 l)), some (.int (Int32.ofNat (k + 1))), some (.int (Int32.ofNat 6)), v8] [] h') Q) →
    Wp (sem (X, K X (d + 3)) 218 49 [some (.ref 301), v1, some (.int (Int32.ofNat l)), some (.int (bi (anK (hgS V AL U l) l k || anM (hgS V AL U l k) l m))), some (.int (bi (anK (fun k m => !hgS V AL U l k m) l k || anM (fun m => !hgS V AL U l k m) l m))), some (.int (V.1 l)), some (.int (Int32.ofNat k)), some (.int (Int32.ofNat m)), v8] [] h) Q
  | 0, m, h, v8, em, I, g, q => by
    have em : m = 6 := by omega
    subst em
    rw [b_218_49]
    refine w_ift (by decide) ?_
    rw [i32_ofNat_succ]
    exact q h v8 I g
  | c + 1, m, h, v8, em, I, g, q => by
    have hm : m < 6 := by omega
    obtain ⟨E, g1, g2, g3, g4, g5, g6⟩ := g
    have st : ∀ f : Nat → Bool, anM f l (m + 1) = (anM f l m || (decide (m ≠ l) && f m)) := fun _ => rfl
    rw [b_218_49]
    refine w_iff (fun z => absurd ((i_le (m := 6) (by omega) (by omega)).mp z) (by omega)) ?_
    refine w_if (fun c0 => ?_) (fun c0 => ?_)
    · have hn : m ≠ l := fun z => c0 (by rw [z])
      refine w_gL I s_301 l_301_46 ?_
      refine w_wIn I s_335 hl (by decide) fun I1 => ?_
      refine w_gL I1 s_301 l_301_46 ?_
      refine w_aIn I1 s_335 hm (by decide) ?_
      refine w_gI I1 s_301 ?_
      have e1 : hI (sI h 335 l (V.1 l + Int32.ofNat k)) 335 m = V.1 m := by
        rw [hI_sI_self, up1, if_neg hn]; exact g1 m hm hn
      have e2 : hI (sI h 335 l (V.1 l + Int32.ofNat k)) 301 56 = Int32.ofNat U := by
        rw [hI_sI_ne (by decide)]; exact g5
      rw [e1, e2]
      refine w_wIn I1 s_335 hm (by decide) fun I2 => ?_
      have E2 : Eo (fun a => a = 335) h (sI (sI h 335 l (V.1 l + Int32.ofNat k)) 335 m (V.1 m + (Int32.ofNat U - Int32.ofNat k))) := (Eo.kI (W := fun a => a = 335) Eo.rf rfl).kI rfl
      have n301 : hI (sI (sI h 335 l (V.1 l + Int32.ofNat k)) 335 m (V.1 m + (Int32.ofNat U - Int32.ofNat k))) 301 = hI h 301 := E2.i (by decide)
      have hV : mSv (sI (sI h 335 l (V.1 l + Int32.ofNat k)) 335 m (V.1 m + (Int32.ofNat U - Int32.ofNat k))) (trV V U l m k) := by
        refine ⟨fun j hj => ?_, by rw [n301]; exact g2, by rw [n301]; exact g3, by rw [n301]; exact g4⟩
        show _ = if j = m then V.1 m + (Int32.ofNat U - Int32.ofNat k) else if j = l then V.1 l + Int32.ofNat k else V.1 j
        rw [hI_sI_self, up1, hI_sI_self, up1]
        by_cases z : j = m
        · rw [if_pos z, if_pos z]
        · rw [if_neg z, if_neg z]
          by_cases z2 : j = l
          · rw [if_pos z2, if_pos z2]
          · rw [if_neg z2, if_neg z2]; exact g1 j hj z2
      have g6' := g6.eo E2 (fun a ha z => by unfold inML at ha; have z : a = 335 := z; omega)
      refine w_gS I2 s_301 ?_
      refine w_bI I2 (m_192 I2 hl hV (g6' l hl).1 (g6' l hl).2) (by decide) rfl ?_
      rintro x h3 I3 ⟨rfl, -, E3⟩
      have n301' : hI h3 301 = hI h 301 := (E3.i (by decide)).trans n301
      have n335 : hI h3 335 = _ := E3.i (show ¬ (335 = 333 ∨ 335 = 334) by decide)
      refine w_gL I3 s_301 l_301_46 ?_
      refine w_aIn I3 s_335 hm (by decide) ?_
      refine w_gI I3 s_301 ?_
      have e3 : hI h3 335 m = V.1 m + (Int32.ofNat U - Int32.ofNat k) := by
        rw [n335, hI_sI_self, up1, if_pos rfl]
      rw [e3, n301', g5, Int32.add_sub_cancel]
      refine w_wIn I3 s_335 hm (by decide) fun I4 => ?_
      have E4 : Eo (fun a => a = 333 ∨ a = 334 ∨ a = 335) h (sI h3 335 m (V.1 m)) := ((E2.wk (W' := fun a => a = 333 ∨ a = 334 ∨ a = 335) fun a z => Or.inr (Or.inr z)).tr (E3.wk fun a z => by omega)).kI (Or.inr (Or.inr rfl))
      have n301'' : hI (sI h3 335 m (V.1 m)) 301 = hI h 301 := (hI_sI_ne (by decide)).trans n301'
      have g' : Hg h0 (sI h3 335 m (V.1 m)) V AL U l := by
        refine ⟨E.tr E4, fun j hj hjl => ?_, by rw [n301'']; exact g2, by rw [n301'']; exact g3, by rw [n301'']; exact g4, by rw [n301'']; exact g5, g6.eo E4 (fun a ha z => by unfold inML at ha; have z : a = 333 ∨ a = 334 ∨ a = 335 := z; omega)⟩
        rw [hI_sI_self, up1]
        by_cases z : j = m
        · rw [if_pos z, z]
        · rw [if_neg z, n335, hI_sI_self, up1, if_neg z, hI_sI_self, up1, if_neg hjl]
          exact g1 j hj hjl
      have es : says (pF (trV V U l m k) l) (AL l).1 = hgS V AL U l k m := rfl
      rw [es]
      have ih := fun v8 => c218_49 (k := k) (v1 := v1) hl c (m + 1) _ v8 (by omega) I4 g' q
      rw [st, st, decide_eq_true hn, Bool.true_and, Bool.true_and, ← Bool.or_assoc, ← Bool.or_assoc] at ih
      have fin : ∀ s0, s0 = bi (anK (hgS V AL U l) l k || anM (hgS V AL U l k) l m || hgS V AL U l k m) → Wp (sem (X, K X (d + 3)) 218 131 [some (.ref 301), v1, some (.int (Int32.ofNat l)), some (.int (bi (anK (hgS V AL U l) l k || anM (hgS V AL U l k) l m))), some (.int (bi (anK (fun k m => !hgS V AL U l k m) l k || anM (fun m => !hgS V AL U l k m) l m))), some (.int (V.1 l)), some (.int (Int32.ofNat k)), some (.int (Int32.ofNat m)), some (.int (bi (hgS V AL U l k m)))] [.int s0] (sI h3 335 m (V.1 m))) Q := fun s0 z => by
        subst z
        rw [b_218_131, i32_ofNat_succ]
        cases ha : (anK (fun k m => !hgS V AL U l k m) l k || anM (fun m => !hgS V AL U l k m) l m)
        · refine w_iff (by decide) ?_
          rw [ha] at ih
          cases hb : hgS V AL U l k m
          · rw [hb] at ih
            exact w_iff (by decide) (ih _)
          · rw [hb] at ih
            exact w_ift (by decide) (ih _)
        · refine w_ift (by decide) ?_
          rw [ha] at ih
          exact ih _
      cases hc : (anK (hgS V AL U l) l k || anM (hgS V AL U l k) l m)
      · refine w_iff (by decide) ?_
        rw [hc] at fin
        cases hb : hgS V AL U l k m
        · rw [hb] at fin
          exact w_ift rfl (fin 0 rfl)
        · rw [hb] at fin
          exact w_iff (by decide) (fin 1 rfl)
      · refine w_ift (by decide) ?_
        rw [hc] at fin
        exact fin 1 rfl
    · have hn : m = l := (i_eq (by omega) (by omega)).mp (Classical.byContradiction c0)
      have ih := c218_49 (k := k) (v1 := v1) hl c (m + 1) h v8 (by omega) I ⟨E, g1, g2, g3, g4, g5, g6⟩ q
      rw [st, st, decide_eq_false (fun z => z hn), Bool.false_and, Bool.false_and, Bool.or_false, Bool.or_false] at ih
      rw [i32_ofNat_succ]
      exact ih
end HG
