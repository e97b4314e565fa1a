/-! How many items a set has. -/
def pc (m : Nat) : Nat := fb_ct (fun j => m.testBit j) 12
theorem bc_tab : ∀ a, a < 64 → ∀ b, b < 64 → f_J6_bitCount_0f7a4 (nI (64 * a + b)) = some (nI (pc (64 * a + b))) := by decide +kernel
