/-! WIDE: the rows of 'multianewarray' stand in the whole library: named here first, so that the round is read over it from its first part on -/
theorem wd_fill (c : ClassId) (N h0 : Nat) : (Jvm.Free.Multi.outerC c N h0 0).cls = c := rfl
