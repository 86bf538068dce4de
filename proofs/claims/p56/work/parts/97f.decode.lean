/-! decode, methods, part 4 -/
set_option maxRecDepth 100000 in
theorem mDecM_11 : ∀ y, y < 20 → mDecM (220 + y) = true := by decide +kernel
