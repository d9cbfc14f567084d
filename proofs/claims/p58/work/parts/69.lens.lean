/-! lengths of the texts -/
theorem sx_lens : ∀ w, w < 37 → (sb_y w).length < 100 := by decide +kernel
