/-! THE START: what is not made yet is empty; links stand low in a row -/
def Zr (h : Hp) : Prop := (∀ a, hN h ≤ a → hS h a = (0, 0)) ∧ ∀ a i v, hP h a i = some v → i < 89
def Kz (F : Nat → Hp → Hp) : Prop := ∀ a h, Zr h → Zr (F a h)
section ZR
variable {h : Hp}
theorem Zr.kA {s : Nat × Nat} {w : Nat} (z : Zr h) : Zr (alc h s w) := by
  refine ⟨fun a ha => ?_, fun a i v e => ?_⟩
  · have ha : hN h + 1 ≤ a := ha
    rw [hS_alc_ne (show a ≠ hN h by omega)]
    exact z.1 a (by omega)
  · by_cases q : a = hN h
    · subst q
      rw [hP_alc] at e
      cases e
    · rw [hP_alc_ne q] at e
      exact z.2 a i v e
theorem Zr.kI {a k : Nat} {x : Int32} (z : Zr h) : Zr (sI h a k x) := z
theorem Zr.kJ {a k : Nat} {x : Int64} (z : Zr h) : Zr (sJ h a k x) := z
theorem Zr.kP {a k : Nat} {x : Option Nat} (z : Zr h) (hk : k < 89) : Zr (sP h a k x) := by
  refine ⟨fun b hb => z.1 b hb, fun b i v e => ?_⟩
  rw [hP_sP_at] at e
  by_cases q : b = a ∧ i = k
  · rw [q.2]; exact hk
  · rw [if_neg q] at e; exact z.2 b i v e
theorem Zr.kL {a b : Nat} (z : Zr h) (hs : (hS h a).2 ≤ 89) : Zr (lnk h a b) := by
  refine ⟨fun c hc => z.1 c hc, fun c i v e => ?_⟩
  by_cases q : c = a
  · have e2 : (if i < (hS h a).2 then some (b + i) else none) = some v := by
      have e3 : hP (lnk h a b) c = fun k => if k < (hS h a).2 then some (b + k) else none := if_pos q
      rw [e3] at e; exact e
    by_cases g : i < (hS h a).2
    · omega
    · rw [if_neg g] at e2; cases e2
  · have e3 : hP (lnk h a b) c = hP h c := if_neg q
    rw [e3] at e
    exact z.2 c i v e
theorem Zr.kAS {sr : Nat × Nat} {w : Nat} : ∀ (n : Nat) (h : Hp), Zr h → Zr (alcs sr w n h)
  | 0, _, z => z
  | n + 1, h, z => Zr.kAS n (alc h sr w) z.kA
theorem Zr.kAF {s : Nat × Nat} {w a k : Nat} (z : Zr h) (hk : k < 89) : Zr (AF h s w a k) := Zr.kP z.kA hk
theorem Zr.kNF {F : Nat → Hp → Hp} (hF : Kz F) {s : Nat × Nat} {w a k : Nat} (z : Zr h) (hk : k < 89) : Zr (NF F h s w a k) := Zr.kP (hF _ _ z.kA) hk
theorem Zr.kMF {s0 sr : Nat × Nat} {n0 w n a k : Nat} (z : Zr h) (hs : s0.2 ≤ 89) (hk : k < 89) : Zr (MF h s0 n0 sr w n a k) := by
  refine Zr.kP (Zr.kL (Zr.kAS n _ z.kA) ?_) hk
  rw [(Ob.kAS (sr := sr) (w := w) n _ (Ob.kN (h := h) (s := s0) (w := n0))).2]
  exact hs
theorem zr_lpI {b : Nat} {v : Int32} : ∀ (n i : Nat) (h : Hp), Zr h → Zr (lpI b v n i h)
  | 0, _, _, z => z
  | n + 1, i, h, z => zr_lpI n (i + 1) (sI h b i v) z
theorem zr_lpN {F : Nat → Hp → Hp} (hF : Kz F) {b w : Nat} {s : Nat × Nat} : ∀ (n i : Nat) (h : Hp), i + n ≤ 89 → Zr h → Zr (lpN F b s w n i h)
  | 0, _, _, _, z => z
  | n + 1, i, h, e, z => zr_lpN hF n (i + 1) (NF F h s w b i) (by omega) (Zr.kNF hF z (by omega))
theorem zr_lpK {b : Nat} : ∀ (n p k : Nat) (h : Hp), Zr h → Zr (lpK b n p k h)
  | 0, _, _, _, z => z
  | n + 1, p, k, h, z => by
    show Zr (if 29 ≤ k then h else if sChr 1 p = 32 then lpK b n (p + 1) (k + 1) h else lpK b n (p + 1) k (sJ h b k _))
    by_cases h1 : 29 ≤ k
    · rw [if_pos h1]; exact z
    · rw [if_neg h1]
      by_cases h2 : sChr 1 p = 32
      · rw [if_pos h2]; exact zr_lpK n (p + 1) (k + 1) h z
      · rw [if_neg h2]; exact zr_lpK n (p + 1) k _ z.kJ
theorem kz0 : Kz HF0 := fun _ _ z => Zr.kAF (Zr.kAF (Zr.kAF (Zr.kAF z (by decide)) (by decide)) (by decide)) (by decide)
theorem kz1 : Kz HF1 := fun _ _ z => Zr.kAF (Zr.kAF (Zr.kAF (Zr.kAF (Zr.kAF (Zr.kAF (Zr.kAF z (by decide)) (by decide)) (by decide)) (by decide)) (by decide)) (by decide)) (by decide)
theorem kz35 : Kz HF35 := fun _ _ z => Zr.kAF (Zr.kAF (Zr.kAF (Zr.kAF (Zr.kAF (Zr.kAF (Zr.kAF (Zr.kAF z (by decide)) (by decide)) (by decide)) (by decide)) (by decide)) (by decide)) (by decide)) (by decide)
theorem kz84 : Kz HF84 := fun _ _ z => Zr.kI (Zr.kI (Zr.kAF z (by decide)))
theorem kz90 : Kz HF90 := fun _ _ z => z
theorem kz77 : Kz HF77 := fun _ _ z => Zr.kJ (Zr.kAF (Zr.kAF (Zr.kMF z (by decide) (by decide)) (by decide)) (by decide))
theorem kz29 : Kz HF29 := fun _ _ z => zr_lpI _ _ _ (Zr.kI (Zr.kI (Zr.kI (Zr.kI (Zr.kI (Zr.kAF (Zr.kAF z (by decide)) (by decide)))))))
theorem kz91 : Kz HF91 := fun _ _ z => zr_lpN kz90 _ _ _ (by decide) (Zr.kI (zr_lpI _ _ _ (Zr.kAF (Zr.kNF kz84 (Zr.kAF z (by decide)) (by decide)) (by decide))))
theorem kz37 : Kz HF37 := fun _ _ z => zr_lpK _ _ _ _ (Zr.kI (Zr.kAF (Zr.kAF (Zr.kAF (Zr.kAF (Zr.kAF z (by decide)) (by decide)) (by decide)) (by decide)) (by decide)))
theorem kz11a : Kz HF11a := fun _ _ z => by
  unfold HF11a
  refine Zr.kNF kz77 ?_ (by decide)
  iterate 9 refine Zr.kAF ?_ (by decide)
  exact Zr.kMF (Zr.kAF z (by decide)) (by decide) (by decide)
theorem kz11 : Kz HF11 := fun _ _ z => Zr.kI (Zr.kI (Zr.kI (zr_lpN kz1 _ _ _ (by decide) (kz11a _ _ z))))
theorem kz96p : Kz HF96p := fun _ _ z => Zr.kP (Zr.kNF kz11 (Zr.kAF z (by decide)) (by decide)) (by decide)
theorem kz96a : Kz HF96a := fun _ _ z => by
  unfold HF96a
  refine Zr.kNF kz29 ?_ (by decide)
  refine Zr.kNF kz1 ?_ (by decide)
  refine Zr.kNF kz90 ?_ (by decide)
  refine Zr.kNF kz84 ?_ (by decide)
  refine Zr.kNF kz37 ?_ (by decide)
  refine Zr.kAF ?_ (by decide)
  refine Zr.kNF kz0 ?_ (by decide)
  refine Zr.kNF kz35 ?_ (by decide)
  iterate 2 refine Zr.kAF ?_ (by decide)
  exact kz96p _ _ z
theorem zr_lpP {b c : Nat} : ∀ (n i : Nat) (h : Hp), i + n ≤ 89 → Zr h → Zr (lpP b c n i h)
  | 0, _, _, _, z => z
  | n + 1, i, h, e, z => zr_lpP n (i + 1) _ (by omega) (Zr.kNF kz29 (Zr.kNF kz29 z (by omega)) (by omega))
theorem kz96 : Kz HF96 := fun a h z => by
  unfold HF96 HF96b
  exact zr_lpP _ _ _ (by decide) (zr_lpN kz91 _ _ _ (by decide) (kz96a _ _ z))
theorem Zr.kW {a k : Nat} (z : Zr h) (hk : k < 89) : Zr (WM h a k) := Zr.kP (Zr.kI (Zr.kI (Zr.kI (Zr.kI z.kA)))) hk
theorem kz146a : Kz HF146a := fun _ _ z => by
  unfold HF146a
  refine Zr.kI ?_
  iterate 30 refine Zr.kAF ?_ (by decide)
  refine Zr.kW ?_ (by decide)
  iterate 2 refine Zr.kAF ?_ (by decide)
  exact z
theorem kz146b : Kz HF146b := fun _ _ z => by
  unfold HF146b
  iterate 28 refine Zr.kAF ?_ (by decide)
  exact z
theorem kz179 {b0 b1 b2 b3 b4 i : Nat} (z : Zr h) : Zr (HF179 b0 b1 b2 b3 b4 i h) := zr_lpI _ _ _ (Zr.kI (Zr.kI (Zr.kI (Zr.kI z))))
theorem zr_lpC {b0 b1 b2 b3 b4 : Nat} : ∀ (n i : Nat) (h : Hp), Zr h → Zr (lpC b0 b1 b2 b3 b4 n i h)
  | 0, _, _, z => z
  | n + 1, i, h, z => zr_lpC n (i + 1) _ (kz179 z)
theorem kz146 : Kz HF146 := fun a h z => zr_lpI _ _ _ (kz146b _ _ (zr_lpC _ _ _ (kz146a _ _ z)))
theorem zr_hp0 : Zr hp0 := ⟨fun _ _ => rfl, fun _ _ _ e => by cases e⟩
theorem zr_HR : Zr HR := kz146 _ _ (Zr.kA (kz96 _ _ (Zr.kA zr_hp0)))
theorem hN_qH (h : Hp) : hN (qH h) = hN h := rfl
theorem hI_qH (h : Hp) (a : Nat) : hI (qH h) a = hI h (pOn a) := rfl
theorem hN_HR : hN HR = 363 := by
  have t := H0_N
  unfold H0 at t
  rw [hN_qH] at t
  exact t
theorem Zr.kQ (z : Zr h) (hn : 301 ≤ hN h) : Zr (qH h) := by
  refine ⟨fun a ha => ?_, fun a i v e => ?_⟩
  · have ha : hN h ≤ a := ha
    show hS h (pOn a) = _
    have e : pOn a = a := by unfold pOn; rw [if_neg (by omega), if_neg (by omega)]
    rw [e]
    exact z.1 a ha
  · have e : (hP h (pOn a) i).map oPn = some v := e
    obtain ⟨x, g, -⟩ := Option.map_eq_some_iff.mp e
    exact z.2 _ i x g
theorem zr_H0 : Zr H0 := by
  unfold H0
  exact zr_HR.kQ (by rw [hN_HR]; decide)
end ZR
