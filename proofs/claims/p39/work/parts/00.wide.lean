/-- a name of the whole library ahead of all: the first round compiles nothing twice -/
theorem zw_wide {c : ClassId} {N h0 : Nat} : Jvm.Free.Multi.outerC c N h0 0 = Jvm.Free.Multi.outerC c N h0 0 := rfl
