section INI6
variable {α : Type} {X : Ctx} {d : Nat} {h : Hp}
def WM (h : Hp) (a k : Nat) : Hp := sP (sI (sI (sI (sI (alc h (50, 4) 4) (hN h) 0 (-1)) (hN h) 1 (-1)) (hN h) 2 (-1)) (hN h) 3 (-1)) a k (some (hN h))
theorem Ob.kWF {a b k : Nat} {s : Nat × Nat} (o : Ob h a s) : Ob (WM h b k) a s := o.kA
theorem wmf {a : Nat} {f : Hp → Option α} {r : Option α} (hk : f (WM h a 2) = r) (h1 : 61 ≤ a) (ho : Ob h a (12, 0)) :
    (letH (hN h) (alc h (50, 4) 4) fun a5 h5 => wI h5 a5 0 (-1) fun h6 => wI h6 a5 1 (-1) fun h7 => wI h7 a5 2 (-1) fun h8 => wI h8 a5 3 (-1) fun h9 => fR h9 11 a 2 a5 f) = r := by
  have hlt : 61 ≤ hN h := Nat.le_of_lt (Nat.lt_of_le_of_lt h1 ho.1)
  have ob : Ob (alc h (50, 4) 4) (hN h) (50, 4) := Ob.kN
  show (wI (alc h (50, 4) 4) (hN h) 0 (-1) fun h6 => wI h6 (hN h) 1 (-1) fun h7 => wI h7 (hN h) 2 (-1) fun h8 => wI h8 (hN h) 3 (-1) fun h9 => fR h9 11 a 2 (hN h) f) = r
  refine wI_ok ?_ hlt ob (inb_ofNat (i := 0) (n := 4) (by omega) (by omega))
  refine wI_ok ?_ hlt ob (inb_ofNat (i := 1) (n := 4) (by omega) (by omega))
  refine wI_ok ?_ hlt ob (inb_ofNat (i := 2) (n := 4) (by omega) (by omega))
  refine wI_ok ?_ hlt ob (inb_ofNat (i := 3) (n := 4) (by omega) (by omega))
  exact fR_ok hk h1 ho.kA (congrArg Prod.fst ob.2)
def Pa (a b k : Nat) (s : Nat × Nat) (h : Hp) : Prop := Ob h a (12, 0) ∧ Ob h b s ∧ hP h a k = some b
theorem Pa.nw {a b k w : Nat} {s : Nat × Nat} (o : Ob h a (12, 0)) (e : hN h = b) : Pa a b k s (AF h s w a k) := by
  subst e
  exact ⟨o.kAF, Ob.kN (h := h), hP_AF_eq⟩
theorem Pa.kA {a b k k' w : Nat} {s s' : Nat × Nat} (p : Pa a b k s h) (hk : k ≠ k') : Pa a b k s (AF h s' w a k') := ⟨p.1.kAF, p.2.1.kAF, (hP_AF_ne p.1.1 (fun z => hk z.2)).trans p.2.2⟩
theorem Pa.kW {a b k : Nat} {s : Nat × Nat} (p : Pa a b k s h) (hk : k ≠ 2) : Pa a b k s (WM h a 2) := by
  refine ⟨p.1.kWF, p.2.1.kWF, ?_⟩
  show hP (sP (alc h (50, 4) 4) a 2 (some (hN h))) a k = _
  rw [hP_sP_at, if_neg (fun z => hk z.2), hP_alc_ne (Nat.ne_of_lt p.1.1)]
  exact p.2.2
theorem Pa.kI {a b k j : Nat} {v : Int32} {s : Nat × Nat} (p : Pa a b k s h) : Pa a b k s (sI h a j v) := p
def HF146a (a : Nat) (h : Hp) : Hp := sI (AF (AF (AF (AF (AF (AF (AF (AF (AF (AF (AF (AF (AF (AF (AF (AF (AF (AF (AF (AF (AF (AF (AF (AF (AF (AF (AF (AF (AF (AF (WM (AF (AF (h) (50, 720) 720 a 0) (50, 2) 2 a 1) a 2) (50, 2) 2 a 3) (50, 24) 24 a 4) (50, 24) 24 a 5) (50, 24) 24 a 6) (50, 24) 24 a 7) (50, 24) 24 a 8) (50, 7) 7 a 9) (50, 140) 140 a 10) (50, 140) 140 a 11) (50, 140) 140 a 12) (50, 140) 140 a 13) (50, 140) 140 a 14) (50, 8540) 8540 a 15) (50, 7) 7 a 16) (50, 7) 7 a 17) (50, 140) 140 a 18) (50, 140) 140 a 19) (50, 7) 7 a 20) (52, 7) 7 a 21) (52, 7) 7 a 22) (50, 37) 37 a 23) (50, 37) 37 a 24) (50, 740) 740 a 25) (50, 37) 37 a 26) (50, 222) 222 a 27) (50, 37) 37 a 28) (52, 37) 37 a 29) (50, 600) 600 a 30) (50, 620) 620 a 31) (50, 9) 9 a 32) a 44 (-1)
def HF146b (a : Nat) (h : Hp) : Hp := AF (AF (AF (AF (AF (AF (AF (AF (AF (AF (AF (AF (AF (AF (AF (AF (AF (AF (AF (AF (AF (AF (AF (AF (AF (AF (AF (AF (h) (50, 6) 6 a 46) (50, 12) 12 a 47) (50, 12) 12 a 48) (50, 12) 12 a 49) (50, 12) 12 a 50) (50, 12) 12 a 51) (50, 36) 36 a 58) (50, 216) 216 a 59) (50, 36) 36 a 60) (52, 36) 36 a 61) (51, 6) 6 a 64) (51, 6) 6 a 65) (51, 6) 6 a 66) (51, 6) 6 a 67) (51, 42) 42 a 68) (50, 6) 6 a 69) (50, 20) 20 a 74) (50, 20) 20 a 75) (50, 6) 6 a 78) (50, 6) 6 a 79) (50, 6) 6 a 80) (50, 6) 6 a 81) (50, 6) 6 a 82) (50, 6) 6 a 83) (50, 10) 10 a 85) (50, 10) 10 a 86) (50, 10) 10 a 87) (51, 10) 10 a 88
theorem c_146a {a : Nat} {r : Option (Option Value × Hp)} (h1 : 61 ≤ a) (ho : Ob h a (12, 0)) (hk : sem (X, K X d) 146 301 [some (.ref a), some (.int 0)] [] (HF146a a h) = r) : K X (d + 1) 146 [.ref a] h = r := by
  refine (k_146 a h).trans ?_
  refine af ?_ h1 ?_ rfl
  refine af ?_ h1 ?_ rfl
  refine wmf ?_ h1 ?_
  refine af ?_ h1 ?_ rfl
  refine af ?_ h1 ?_ rfl
  refine af ?_ h1 ?_ rfl
  refine af ?_ h1 ?_ rfl
  refine af ?_ h1 ?_ rfl
  refine af ?_ h1 ?_ rfl
  refine af ?_ h1 ?_ rfl
  refine af ?_ h1 ?_ rfl
  refine af ?_ h1 ?_ rfl
  refine af ?_ h1 ?_ rfl
  refine af ?_ h1 ?_ rfl
  refine af ?_ h1 ?_ rfl
  refine af ?_ h1 ?_ rfl
  refine af ?_ h1 ?_ rfl
  refine af ?_ h1 ?_ rfl
  refine af ?_ h1 ?_ rfl
  refine af ?_ h1 ?_ rfl
  refine af ?_ h1 ?_ rfl
  refine af ?_ h1 ?_ rfl
  refine af ?_ h1 ?_ rfl
  refine af ?_ h1 ?_ rfl
  refine af ?_ h1 ?_ rfl
  refine af ?_ h1 ?_ rfl
  refine af ?_ h1 ?_ rfl
  refine af ?_ h1 ?_ rfl
  refine af ?_ h1 ?_ rfl
  refine af ?_ h1 ?_ rfl
  refine af ?_ h1 ?_ rfl
  refine af ?_ h1 ?_ rfl
  refine af ?_ h1 ?_ rfl
  refine fI_ok ?_ h1 ?_
  exact hk
  all_goals repeat with_reducible first
    | exact ho
    | apply Ob.kAF
    | apply Ob.kWF
    | apply Ob.kI
theorem c_146b {a : Nat} {r : Option (Option Value × Hp)} (h1 : 61 ≤ a) (ho : Ob h a (12, 0)) (hk : sem (X, K X d) 146 545 [some (.ref a), some (.int 0)] [] (HF146b a h) = r) : sem (X, K X d) 146 301 [some (.ref a), some (.int 37)] [] h = r := by
  rw [b_146_301]
  refine (if_pos (by decide)).trans ?_
  refine af ?_ h1 ?_ rfl
  refine af ?_ h1 ?_ rfl
  refine af ?_ h1 ?_ rfl
  refine af ?_ h1 ?_ rfl
  refine af ?_ h1 ?_ rfl
  refine af ?_ h1 ?_ rfl
  refine af ?_ h1 ?_ rfl
  refine af ?_ h1 ?_ rfl
  refine af ?_ h1 ?_ rfl
  refine af ?_ h1 ?_ rfl
  refine af ?_ h1 ?_ rfl
  refine af ?_ h1 ?_ rfl
  refine af ?_ h1 ?_ rfl
  refine af ?_ h1 ?_ rfl
  refine af ?_ h1 ?_ rfl
  refine af ?_ h1 ?_ rfl
  refine af ?_ h1 ?_ rfl
  refine af ?_ h1 ?_ rfl
  refine af ?_ h1 ?_ rfl
  refine af ?_ h1 ?_ rfl
  refine af ?_ h1 ?_ rfl
  refine af ?_ h1 ?_ rfl
  refine af ?_ h1 ?_ rfl
  refine af ?_ h1 ?_ rfl
  refine af ?_ h1 ?_ rfl
  refine af ?_ h1 ?_ rfl
  refine af ?_ h1 ?_ rfl
  refine af ?_ h1 ?_ rfl
  exact hk
  all_goals repeat with_reducible first
    | exact ho
    | apply Ob.kAF
    | apply Ob.kWF
    | apply Ob.kI
theorem p146_0 {a : Nat} (ho : Ob h a (12, 0)) : Pa a (hN h) 0 (50, 720) (HF146a a h) := by
  unfold HF146a
  refine Pa.kI ?_
  refine Pa.kA ?_ (by decide)
  refine Pa.kA ?_ (by decide)
  refine Pa.kA ?_ (by decide)
  refine Pa.kA ?_ (by decide)
  refine Pa.kA ?_ (by decide)
  refine Pa.kA ?_ (by decide)
  refine Pa.kA ?_ (by decide)
  refine Pa.kA ?_ (by decide)
  refine Pa.kA ?_ (by decide)
  refine Pa.kA ?_ (by decide)
  refine Pa.kA ?_ (by decide)
  refine Pa.kA ?_ (by decide)
  refine Pa.kA ?_ (by decide)
  refine Pa.kA ?_ (by decide)
  refine Pa.kA ?_ (by decide)
  refine Pa.kA ?_ (by decide)
  refine Pa.kA ?_ (by decide)
  refine Pa.kA ?_ (by decide)
  refine Pa.kA ?_ (by decide)
  refine Pa.kA ?_ (by decide)
  refine Pa.kA ?_ (by decide)
  refine Pa.kA ?_ (by decide)
  refine Pa.kA ?_ (by decide)
  refine Pa.kA ?_ (by decide)
  refine Pa.kA ?_ (by decide)
  refine Pa.kA ?_ (by decide)
  refine Pa.kA ?_ (by decide)
  refine Pa.kA ?_ (by decide)
  refine Pa.kA ?_ (by decide)
  refine Pa.kA ?_ (by decide)
  refine Pa.kW ?_ (by decide)
  refine Pa.kA ?_ (by decide)
  refine Pa.nw ?_ rfl
  all_goals repeat with_reducible first
    | exact ho
    | apply Ob.kAF
    | apply Ob.kWF
    | apply Ob.kI
theorem p146_24 {a : Nat} (ho : Ob h a (12, 0)) : Pa a (hN h + 24) 24 (50, 37) (HF146a a h) := by
  unfold HF146a
  refine Pa.kI ?_
  refine Pa.kA ?_ (by decide)
  refine Pa.kA ?_ (by decide)
  refine Pa.kA ?_ (by decide)
  refine Pa.kA ?_ (by decide)
  refine Pa.kA ?_ (by decide)
  refine Pa.kA ?_ (by decide)
  refine Pa.kA ?_ (by decide)
  refine Pa.kA ?_ (by decide)
  refine Pa.nw ?_ rfl
  all_goals repeat with_reducible first
    | exact ho
    | apply Ob.kAF
    | apply Ob.kWF
    | apply Ob.kI
theorem p146_26 {a : Nat} (ho : Ob h a (12, 0)) : Pa a (hN h + 26) 26 (50, 37) (HF146a a h) := by
  unfold HF146a
  refine Pa.kI ?_
  refine Pa.kA ?_ (by decide)
  refine Pa.kA ?_ (by decide)
  refine Pa.kA ?_ (by decide)
  refine Pa.kA ?_ (by decide)
  refine Pa.kA ?_ (by decide)
  refine Pa.kA ?_ (by decide)
  refine Pa.nw ?_ rfl
  all_goals repeat with_reducible first
    | exact ho
    | apply Ob.kAF
    | apply Ob.kWF
    | apply Ob.kI
theorem p146_28 {a : Nat} (ho : Ob h a (12, 0)) : Pa a (hN h + 28) 28 (50, 37) (HF146a a h) := by
  unfold HF146a
  refine Pa.kI ?_
  refine Pa.kA ?_ (by decide)
  refine Pa.kA ?_ (by decide)
  refine Pa.kA ?_ (by decide)
  refine Pa.kA ?_ (by decide)
  refine Pa.nw ?_ rfl
  all_goals repeat with_reducible first
    | exact ho
    | apply Ob.kAF
    | apply Ob.kWF
    | apply Ob.kI
theorem p146_29 {a : Nat} (ho : Ob h a (12, 0)) : Pa a (hN h + 29) 29 (52, 37) (HF146a a h) := by
  unfold HF146a
  refine Pa.kI ?_
  refine Pa.kA ?_ (by decide)
  refine Pa.kA ?_ (by decide)
  refine Pa.kA ?_ (by decide)
  refine Pa.nw ?_ rfl
  all_goals repeat with_reducible first
    | exact ho
    | apply Ob.kAF
    | apply Ob.kWF
    | apply Ob.kI
theorem p146_27 {a : Nat} (ho : Ob h a (12, 0)) : Pa a (hN h + 27) 27 (50, 222) (HF146a a h) := by
  unfold HF146a
  refine Pa.kI ?_
  refine Pa.kA ?_ (by decide)
  refine Pa.kA ?_ (by decide)
  refine Pa.kA ?_ (by decide)
  refine Pa.kA ?_ (by decide)
  refine Pa.kA ?_ (by decide)
  refine Pa.nw ?_ rfl
  all_goals repeat with_reducible first
    | exact ho
    | apply Ob.kAF
    | apply Ob.kWF
    | apply Ob.kI
theorem q146 {a b : Nat} (p : Pa a b 0 (50, 720) h) : Pa a b 0 (50, 720) (HF146b a h) := by
  unfold HF146b
  refine Pa.kA ?_ (by decide)
  refine Pa.kA ?_ (by decide)
  refine Pa.kA ?_ (by decide)
  refine Pa.kA ?_ (by decide)
  refine Pa.kA ?_ (by decide)
  refine Pa.kA ?_ (by decide)
  refine Pa.kA ?_ (by decide)
  refine Pa.kA ?_ (by decide)
  refine Pa.kA ?_ (by decide)
  refine Pa.kA ?_ (by decide)
  refine Pa.kA ?_ (by decide)
  refine Pa.kA ?_ (by decide)
  refine Pa.kA ?_ (by decide)
  refine Pa.kA ?_ (by decide)
  refine Pa.kA ?_ (by decide)
  refine Pa.kA ?_ (by decide)
  refine Pa.kA ?_ (by decide)
  refine Pa.kA ?_ (by decide)
  refine Pa.kA ?_ (by decide)
  refine Pa.kA ?_ (by decide)
  refine Pa.kA ?_ (by decide)
  refine Pa.kA ?_ (by decide)
  refine Pa.kA ?_ (by decide)
  refine Pa.kA ?_ (by decide)
  refine Pa.kA ?_ (by decide)
  refine Pa.kA ?_ (by decide)
  refine Pa.kA ?_ (by decide)
  refine Pa.kA ?_ (by decide)
  exact p
def HF146 (a : Nat) (h : Hp) : Hp := lpI (hN h) (-1) 720 0 (HF146b a (lpC (hN h + 24) (hN h + 26) (hN h + 28) (hN h + 29) (hN h + 27) 37 0 (HF146a a h)))
theorem c_146 : CT X (d + 2) 146 11 HF146 := fun a h h1 ho => by
  have hlt : 61 ≤ hN h := Nat.le_of_lt (Nat.lt_of_le_of_lt h1 ho.1)
  have p0 := p146_0 ho
  have p24 := p146_24 ho
  have p26 := p146_26 ho
  have p28 := p146_28 ho
  have p29 := p146_29 ho
  have p27 := p146_27 ho
  refine c_146a h1 ho ?_
  unfold HF146
  revert p0 p24 p26 p28 p29 p27
  generalize HF146a a h = x
  intro p0 p24 p26 p28 p29 p27
  refine l_301 (i := 0) h1 (b0 := (hN h + 24)) (b1 := (hN h + 26)) (b2 := (hN h + 28)) (b3 := (hN h + 29)) (b4 := (hN h + 27)) (by omega) (by omega) (by omega) (by omega) (by omega) 37 x rfl ⟨p24.1, ⟨p24.2.1, p24.2.2⟩, ⟨p26.2.1, p26.2.2⟩, ⟨p28.2.1, p28.2.2⟩, ⟨p29.2.1, p29.2.2⟩, p27.2.1, p27.2.2⟩ ?_
  have pc : Pa a (hN h) 0 (50, 720) (lpC (hN h + 24) (hN h + 26) (hN h + 28) (hN h + 29) (hN h + 27) 37 0 x) := ⟨lpC_ob 37 0 x p0.1, lpC_ob 37 0 x p0.2.1, by rw [lpC_hP]; exact p0.2.2⟩
  revert pc
  generalize lpC (hN h + 24) (hN h + 26) (hN h + 28) (hN h + 29) (hN h + 27) 37 0 x = y
  intro pc
  refine c_146b h1 pc.1 ?_
  have pd := q146 pc
  revert pd
  generalize HF146b a y = z
  intro pd
  exact l_545 (i := 0) h1 hlt 720 z rfl pd.1 pd.2.1 pd.2.2
end INI6
