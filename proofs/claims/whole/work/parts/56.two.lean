/-! Pure: two who steer at once. -/
theorem pc16a : ∀ h, h < 64 → ∀ l, l < 256 → pcN (256 * h + l) = pcR 8 h + pcR 8 l := by decide +kernel
theorem pc16b : ∀ h, h < 64 → ∀ l, l < 256 → pcN (256 * (64 + h) + l) = pcR 8 (64 + h) + pcR 8 l := by decide +kernel
theorem pc16c : ∀ h, h < 64 → ∀ l, l < 256 → pcN (256 * (128 + h) + l) = pcR 8 (128 + h) + pcR 8 l := by decide +kernel
theorem pc16d : ∀ h, h < 64 → ∀ l, l < 256 → pcN (256 * (192 + h) + l) = pcR 8 (192 + h) + pcR 8 l := by decide +kernel
