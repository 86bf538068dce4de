/-! decode, methods, part 1 -/
set_option maxRecDepth 100000 in
theorem mDecM_3 : ∀ y, y < 20 → mDecM (60 + y) = true := by decide +kernel
set_option maxRecDepth 100000 in
theorem mDecM_4 : ∀ y, y < 20 → mDecM (80 + y) = true := by decide +kernel
set_option maxRecDepth 100000 in
theorem mDecM_5 : ∀ y, y < 20 → mDecM (100 + y) = true := by decide +kernel
