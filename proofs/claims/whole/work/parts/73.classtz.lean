theorem pop12a : ∀ a, a < 64 → ∀ b, b < 64 → pop32 (nI (64 * a + b)) = onesV (nI (64 * a + b)) := by decide +kernel
theorem pop12 {s : Nat} (h : s < 4096) : pop32 (nI s) = onesV (nI s) := by
  have := pop12a (s / 64) (by omega) (s % 64) (by omega)
  rw [show 64 * (s / 64) + s % 64 = s by omega] at this
  exact this
