/-! what the constructors leave, by the kernel -/
theorem ik_0 : oT (fun x => IT x && FT0 0 118 x) iGo = true := by decide +kernel
