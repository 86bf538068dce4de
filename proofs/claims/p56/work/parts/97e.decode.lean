/-! decode, methods, part 3 -/
set_option maxRecDepth 100000 in
theorem mDecM_9 : ∀ y, y < 20 → mDecM (180 + y) = true := by decide +kernel
set_option maxRecDepth 100000 in
theorem mDecM_10 : ∀ y, y < 20 → mDecM (200 + y) = true := by decide +kernel
