/-! decode, the law, part 0 -/
set_option maxRecDepth 100000 in
theorem mDecLaw_0 : mDecL 357 0 128 = true := by decide +kernel
set_option maxRecDepth 100000 in
theorem mDecLaw_1 : mDecL 357 128 128 = true := by decide +kernel
set_option maxRecDepth 100000 in
theorem mDecLaw_2 : mDecL 357 256 128 = true := by decide +kernel
set_option maxRecDepth 100000 in
theorem mDecLaw_3 : mDecL 357 384 128 = true := by decide +kernel
set_option maxRecDepth 100000 in
theorem mDecLaw_4 : mDecL 357 512 128 = true := by decide +kernel
set_option maxRecDepth 100000 in
theorem mDecLaw_5 : mDecL 357 640 128 = true := by decide +kernel
set_option maxRecDepth 100000 in
theorem mDecLaw_6 : mDecL 357 768 128 = true := by decide +kernel
set_option maxRecDepth 100000 in
theorem mDecLaw_7 : mDecL 357 896 128 = true := by decide +kernel
set_option maxRecDepth 100000 in
theorem mDecLaw_8 : mDecL 357 1024 128 = true := by decide +kernel
set_option maxRecDepth 100000 in
theorem mDecLaw_9 : mDecL 357 1152 128 = true := by decide +kernel
set_option maxRecDepth 100000 in
theorem mDecLaw_10 : mDecL 357 1280 128 = true := by decide +kernel
set_option maxRecDepth 100000 in
theorem mDecLaw_11 : mDecL 357 1408 128 = true := by decide +kernel
set_option maxRecDepth 100000 in
theorem mDecLaw_12 : mDecL 357 1536 128 = true := by decide +kernel
set_option maxRecDepth 100000 in
theorem mDecLaw_13 : mDecL 357 1664 128 = true := by decide +kernel
set_option maxRecDepth 100000 in
theorem mDecLaw_14 : mDecL 357 1792 128 = true := by decide +kernel
set_option maxRecDepth 100000 in
theorem mDecLaw_15 : mDecL 357 1920 128 = true := by decide +kernel
set_option maxRecDepth 100000 in
theorem mDecLaw_16 : mDecL 357 2048 128 = true := by decide +kernel
set_option maxRecDepth 100000 in
theorem mDecLaw_17 : mDecL 357 2176 128 = true := by decide +kernel
