/-! what the constructors leave, by the kernel -/
theorem ik_2 : oT (FT0 178 112) iGo = true := by decide +kernel
