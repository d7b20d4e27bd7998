theorem hN_alcs (sh : Nat × Nat) (w : Nat) : ∀ (n : Nat) (h : Hp), hN (alcs sh w n h) = hN h + n ∧ hK (alcs sh w n h) = hK h + n * w
  | 0, h => ⟨rfl, by simp [alcs]⟩
  | n + 1, h => by
    obtain ⟨h1, h2⟩ := hN_alcs sh w n (alc h sh w)
    refine ⟨?_, ?_⟩
    · show hN (alcs sh w n (alc h sh w)) = _
      rw [h1]
      show hN h + 1 + n = _
      omega
    · show hK (alcs sh w n (alc h sh w)) = _
      rw [h2]
      show hK h + w + n * w = _
      rw [Nat.succ_mul]
      omega
section WSM
variable {p : Program} {l : Launch} {e : Env} {R : Room} {s : State} {m : MethodId} {args : Array Value} {below : List Frame} {meth : Method} {c : Code} {H : Heap} {locs : List Loc} {cells slots : Nat} {Q : State → Prop}
variable {B : Nat} {aS : Nat → Nat} {cT : Nat → ClassId} {D : va_G} {X : Ctx} {C : Orc} {y d pc len : Nat} {ls : LV} {Ls : Array Slot} {st : List Value} {h : Hp} {o : MSt}
theorem w_multi {i dd : Nat} (cx : CX p s m args meth c R B aS cT D X y d) (I : SI s B aS cT D y ls Ls h H locs) (hroom : cells + hN o.2.2.2 ≤ R.cells + hN h ∧ slots + hK o.2.2.2 ≤ R.slots + hK h) (hd : decode (mCode y) pc = .ok (.multianewarray i dd, len)) (hs : stpI (X, C) y (.multianewarray i dd) len pc ls st h = some (.inl o)) (kk : KK p l e R s m args below meth c B aS cT D Q y h cells slots o) : W p l e R s m args below meth c H locs cells slots Q (F0 m pc Ls (st.map (tr B aS))) := by
  sorry
end WSM
