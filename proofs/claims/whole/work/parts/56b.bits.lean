/-! Bits of sixteen, counted. -/
theorem bcA : ∀ h, h < 4 → ∀ a, a < 64 → ∀ b, b < 64 → In_bitCount (nI (4096 * h + (64 * a + b))) = some (nI (pc16 (4096 * h + (64 * a + b)))) := by decide +kernel
theorem bcB : ∀ h, h < 4 → ∀ a, a < 64 → ∀ b, b < 64 → In_bitCount (nI (16384 + (4096 * h + (64 * a + b)))) = some (nI (pc16 (16384 + (4096 * h + (64 * a + b))))) := by decide +kernel
theorem bcC : ∀ h, h < 4 → ∀ a, a < 64 → ∀ b, b < 64 → In_bitCount (nI (32768 + (4096 * h + (64 * a + b)))) = some (nI (pc16 (32768 + (4096 * h + (64 * a + b))))) := by decide +kernel
theorem bcD : ∀ h, h < 4 → ∀ a, a < 64 → ∀ b, b < 64 → In_bitCount (nI (49152 + (4096 * h + (64 * a + b)))) = some (nI (pc16 (49152 + (4096 * h + (64 * a + b))))) := by decide +kernel
theorem bc16w {k : Nat} (hk : k < 65536) : In_bitCount (nI k) = some (nI (pc16 k)) := by
  have e : ∀ m, m < 16384 → m = 4096 * (m / 4096) + (64 * (m % 4096 / 64) + m % 64) := by omega
  rcases (show k < 16384 ∨ (16384 ≤ k ∧ k < 32768) ∨ (32768 ≤ k ∧ k < 49152) ∨ 49152 ≤ k by omega) with h | h | h | h
  · rw [e k h]; exact bcA _ (by omega) _ (by omega) _ (by omega)
  · rw [show k = 16384 + (k - 16384) by omega, e (k - 16384) (by omega)]; exact bcB _ (by omega) _ (by omega) _ (by omega)
  · rw [show k = 32768 + (k - 32768) by omega, e (k - 32768) (by omega)]; exact bcC _ (by omega) _ (by omega) _ (by omega)
  · rw [show k = 49152 + (k - 49152) by omega, e (k - 49152) (by omega)]; exact bcD _ (by omega) _ (by omega) _ (by omega)
