/-! decode, methods, part 0 -/
set_option maxRecDepth 100000 in
theorem mDecM_0 : ∀ y, y < 20 → mDecM (0 + y) = true := by decide +kernel
set_option maxRecDepth 100000 in
theorem mDecM_1 : ∀ y, y < 20 → mDecM (20 + y) = true := by decide +kernel
set_option maxRecDepth 100000 in
theorem mDecM_2 : ∀ y, y < 20 → mDecM (40 + y) = true := by decide +kernel
