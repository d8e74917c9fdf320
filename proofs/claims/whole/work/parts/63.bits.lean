/-! two wells: sets and their rests -/
def dif (s c : Nat) : Nat := s &&& (255 ^^^ c)
theorem bt_dif : ∀ s, s < 256 → ∀ c, c < 256 → nI s &&& (nI c ^^^ (-1)) = nI (dif s c) := by decide +kernel
theorem dif_lt : ∀ s, s < 256 → ∀ c, c < 256 → dif s c < 256 := by decide +kernel
theorem dif_sub : ∀ s, s < 256 → ∀ c, c < 256 → dif s c = 0 → s ≤ c ∧ dif c (dif c s) = s ∧ dif (dif c s) c = 0 ∧ (s ≠ c → pop s < pop c) := by decide +kernel
