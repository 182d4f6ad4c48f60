/-! what the constructors leave, by the kernel -/
theorem ik_1 : oT (FT0 118 60) iGo = true := by decide +kernel
