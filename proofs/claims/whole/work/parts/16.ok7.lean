theorem xk167_0 : xokG 167 0 = true := by decide +kernel
theorem xk168_0 : xokG 168 0 = true := by decide +kernel
theorem xk169_0 : xokG 169 0 = true := by decide +kernel
theorem xk170_0 : xokG 170 0 = true := by decide +kernel
theorem xk171_0 : xokG 171 0 = true := by decide +kernel
theorem xk172_0 : xokG 172 0 = true := by decide +kernel
