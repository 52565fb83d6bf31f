set_option maxRecDepth 1000000 in
theorem shr_0 : ∀ s, s < 4096 → ∀ i, i < 12 → ((((nI s >>> (nI i &&& 31)) &&& 1) = 0) ↔ s.testBit i = false) := by decide +kernel
