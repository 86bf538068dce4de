/-! decode, the law, part 3 -/
set_option maxRecDepth 100000 in
theorem mDecLaw_x3008 : mDecL 357 3008 32 = true := by decide +kernel
set_option maxRecDepth 100000 in
theorem mDecLaw_x3040 : mDecL 357 3040 32 = true := by decide +kernel
set_option maxRecDepth 100000 in
theorem mDecLaw_x3072 : mDecL 357 3072 32 = true := by decide +kernel
set_option maxRecDepth 100000 in
theorem mDecLaw_x3104 : mDecL 357 3104 32 = true := by decide +kernel
set_option maxRecDepth 100000 in
theorem mDecLaw_x3136 : mDecL 357 3136 32 = true := by decide +kernel
set_option maxRecDepth 100000 in
theorem mDecLaw_x3168 : mDecL 357 3168 32 = true := by decide +kernel
set_option maxRecDepth 100000 in
theorem mDecLaw_x3200 : mDecL 357 3200 32 = true := by decide +kernel
set_option maxRecDepth 100000 in
theorem mDecLaw_x3232 : mDecL 357 3232 32 = true := by decide +kernel
set_option maxRecDepth 100000 in
theorem mDecLaw_x3264 : mDecL 357 3264 32 = true := by decide +kernel
set_option maxRecDepth 100000 in
theorem mDecLaw_x3296 : mDecL 357 3296 32 = true := by decide +kernel
set_option maxRecDepth 100000 in
theorem mDecLaw_x3328 : mDecL 357 3328 32 = true := by decide +kernel
