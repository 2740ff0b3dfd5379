/-! a name of the rest of the library (used by 09): named here first, so that a first round on a new machine is read over the whole library from its first part on -/
theorem zx_wide_first (c : ClassId) (N h0 i : Nat) : Jvm.Free.Multi.outerC c N h0 i = Jvm.Free.Multi.outerC c N h0 i := rfl
