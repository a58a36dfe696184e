/-! a set within a set, by bits -/
theorem and_nl : ∀ m, m < 256 → ∀ l, l < 256 → ((nI m &&& (nI l ^^^ (-1)) = nI 0) ↔ (m &&& l = m)) := by decide +kernel
