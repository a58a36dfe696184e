/-! THE LAW'S BYTES -/
def ckL (a n : Nat) : Bool := (List.range n).all (fun k => okE 6 code (a + k) (U_L_law (a + k)))
theorem kl_0 : ckL 0 60 = true := by decide +kernel
theorem kl_60 : ckL 60 60 = true := by decide +kernel
theorem kl_120 : ckL 120 60 = true := by decide +kernel
theorem kl_180 : ckL 180 60 = true := by decide +kernel
theorem kl_240 : ckL 240 60 = true := by decide +kernel
theorem kl_300 : ckL 300 60 = true := by decide +kernel
