set_option maxRecDepth 1000000 in
theorem shr_bit : ∀ s, s < 4096 → ∀ i, i < 12 → ((((nI s >>> (nI i &&& 31)) &&& 1) = 1) ↔ s.testBit i = true) := by decide +kernel
set_option maxRecDepth 1000000 in
theorem pc_down : ∀ s, s < 4096 → s ≠ 0 → pc (s &&& (s - 1)) + 1 = pc s := by decide +kernel
set_option maxRecDepth 1000000 in
theorem anot : ∀ m, m < 4096 → nI m ^^^ (-1) = nI (4294967295 - m) := by decide +kernel
