/-! THE LAW'S BYTES -/
theorem kl_720 : ckL 720 60 = true := by decide +kernel
theorem kl_780 : ckL 780 60 = true := by decide +kernel
theorem kl_840 : ckL 840 60 = true := by decide +kernel
theorem kl_900 : ckL 900 60 = true := by decide +kernel
theorem kl_960 : ckL 960 60 = true := by decide +kernel
theorem kl_1020 : ckL 1020 60 = true := by decide +kernel
