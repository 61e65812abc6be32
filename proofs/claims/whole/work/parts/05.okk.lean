theorem xkm5 : xokM 5 = true := by decide +kernel
theorem xkm40 : xokM 40 = true := by decide +kernel
theorem xkm100 : xokM 100 = true := by decide +kernel
theorem xkm170 : xokM 170 = true := by decide +kernel
theorem xkm171 : xokM 171 = true := by decide +kernel
theorem xkm172 : xokM 172 = true := by decide +kernel
theorem xkw1 : Cond.code Lib.Math.max.name Lib.Math.max.code 2 (some .int) ∈ lw_tbl := by decide +kernel
