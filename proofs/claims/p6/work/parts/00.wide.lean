/-! names of the whole library, ahead of all: so that a round reads over it from its start -/
theorem kw_wide (c : ClassId) : Jvm.Free.Multi.outerC c 0 0 0 = Jvm.Free.Multi.outerC c 0 0 0 := rfl
