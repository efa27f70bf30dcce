/-! words of the classes (printed) -/
theorem pd_in0 : Cond.instantiable "PascalDesk" 3 ∈ pd_TT := pd_mem 87 (by decide +kernel) (by decide +kernel)
theorem pd_in1 : Cond.instantiable "PascalDesk$Code" 5 ∈ pd_TT := pd_mem 101 (by decide +kernel) (by decide +kernel)
theorem pd_in2 : Cond.instantiable "PascalDesk$Reader" 6 ∈ pd_TT := pd_mem 95 (by decide +kernel) (by decide +kernel)
theorem pd_in3 : Cond.instantiable "PascalDesk$Runner" 12 ∈ pd_TT := pd_mem 151 (by decide +kernel) (by decide +kernel)
theorem pd_in4 : Cond.instantiable "PascalDesk$Calculator" 3 ∈ pd_TT := pd_mem 160 (by decide +kernel) (by decide +kernel)
theorem pd_in5 : Cond.instantiable "PascalDesk$Tape" 3 ∈ pd_TT := pd_mem 178 (by decide +kernel) (by decide +kernel)
theorem pd_in6 : Cond.instantiable "PascalDesk$Strand" 11 ∈ pd_TT := pd_mem 195 (by decide +kernel) (by decide +kernel)
theorem pd_in7 : Cond.instantiable "PascalDeskModel" 40 ∈ pd_TT := pd_mem 811 (by decide +kernel) (by decide +kernel)
theorem pd_ao1 : Cond.arrayOver (.object "PascalDesk$Code") ∈ pd_TT := pd_mem 157 (by decide +kernel) (by decide +kernel)
theorem pd_ao6 : Cond.arrayOver (.object "PascalDesk$Strand") ∈ pd_TT := pd_mem 194 (by decide +kernel) (by decide +kernel)
theorem pd_strw : ∀ q ∈ pd_strs, Cond.stringRef q.1 q.2.1 q.2.2 ∈ lw_tbl := by decide +kernel
theorem pd_lsw : Cond.laysStatic Bundle.tN "UNASSIGNED_STACK" Bundle.steD ∈ lw_tbl ∧ Cond.laysStatic Bundle.tN "SUPPRESSED_SENTINEL" Bundle.listD ∈ lw_tbl := by decide +kernel
theorem pd_ncw : ∀ q ∈ pd_nc, Cond.not (.castable q.1 q.2) ∈ flatC (Jvm.Cond.and given_1 narrow_1) := by decide +kernel
theorem pd_nrw : Cond.isRef (.static Bundle.tN "UNASSIGNED_STACK" Bundle.steD) ∈ flatC (Jvm.Cond.and given_1 narrow_1) ∧ Cond.isRef (.static Bundle.tN "SUPPRESSED_SENTINEL" Bundle.listD) ∈ flatC (Jvm.Cond.and given_1 narrow_1) := by decide +kernel
