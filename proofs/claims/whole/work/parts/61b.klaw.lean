/-! THE LAW'S BYTES -/
theorem kl_360 : ckL 360 60 = true := by decide +kernel
theorem kl_420 : ckL 420 60 = true := by decide +kernel
theorem kl_480 : ckL 480 60 = true := by decide +kernel
theorem kl_540 : ckL 540 60 = true := by decide +kernel
theorem kl_600 : ckL 600 60 = true := by decide +kernel
theorem kl_660 : ckL 660 60 = true := by decide +kernel
