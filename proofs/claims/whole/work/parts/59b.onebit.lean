/-! LEVEL 2: one bit alone, by trying all -/
/-- one bit alone -/
theorem one_bit : ∀ a, a < 128 → ∀ b, b < 128 → (decide (on1 (128 * a + b) 14 = 1) == ((List.range 14).any fun k => (128 * a + b) == 2 ^ k)) = true := by decide +kernel
