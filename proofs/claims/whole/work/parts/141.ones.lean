/-! PURE: the ones of a row -/
section PureB1
/-- black cells -/
def onesV (v : Int32) : Int32 := (f_X8_ones v).getD 0
theorem ones_all : ∀ a, a < 64 → ∀ b, b < 64 → f_J6_bitCount_0f7a4 (nI (64 * a + b)) = some (onesV (nI (64 * a + b))) ∧ f_X8_ones (nI (64 * a + b)) = some (onesV (nI (64 * a + b))) := by decide +kernel
theorem ones_n {n : Nat} (h : n < 4096) : f_J6_bitCount_0f7a4 (nI n) = some (onesV (nI n)) ∧ f_X8_ones (nI n) = some (onesV (nI n)) := by
  have := ones_all (n / 64) (by omega) (n % 64) (by omega)
  rwa [show 64 * (n / 64) + n % 64 = n by omega] at this
theorem pow12 : ∀ w, w ≤ 12 → 2 ^ w - 1 < 4096 := by decide
end PureB1
