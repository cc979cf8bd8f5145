/-- names what the short library lacks, so that a round on a new machine is wide at once -/
theorem wd_row (c : ClassId) : (Jvm.Free.Multi.outerC c 1 0 0).vm = .none := rfl
