/-! decode, methods, part 2 -/
set_option maxRecDepth 100000 in
theorem mDecM_12 : ∀ y, y < 20 → mDecM (240 + y) = true := by decide +kernel
set_option maxRecDepth 100000 in
theorem mDecM_13 : ∀ y, y < 20 → mDecM (260 + y) = true := by decide +kernel
set_option maxRecDepth 100000 in
theorem mDecM_14 : ∀ y, y < 20 → mDecM (280 + y) = true := by decide +kernel
set_option maxRecDepth 100000 in
theorem mDecM_15 : ∀ y, y < 20 → mDecM (300 + y) = true := by decide +kernel
set_option maxRecDepth 100000 in
theorem mDecM_16 : ∀ y, y < 20 → mDecM (320 + y) = true := by decide +kernel
set_option maxRecDepth 100000 in
theorem mDecM_17 : ∀ y, y < 17 → mDecM (340 + y) = true := by decide +kernel
