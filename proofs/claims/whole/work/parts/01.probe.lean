/-- a row that names the whole library, so that the first round on a new machine begins with it -/
theorem vx_mlt (c : ClassId) (N h0 i : Nat) : Jvm.Free.Multi.outerC c N h0 i = Jvm.Free.Multi.outerC c N h0 i := rfl
