/-- a name of the library's rest: the first round is read over the whole of it at once -/
theorem rm_wide (c : ClassId) (N h0 : Nat) : Jvm.Free.Multi.outerC c N h0 0 = Jvm.Free.Multi.outerC c N h0 0 := rfl
