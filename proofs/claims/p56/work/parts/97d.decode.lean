/-! decode, methods, part 2 -/
set_option maxRecDepth 100000 in
theorem mDecM_6 : ∀ y, y < 20 → mDecM (120 + y) = true := by decide +kernel
set_option maxRecDepth 100000 in
theorem mDecM_7 : ∀ y, y < 20 → mDecM (140 + y) = true := by decide +kernel
set_option maxRecDepth 100000 in
theorem mDecM_8 : ∀ y, y < 20 → mDecM (160 + y) = true := by decide +kernel
