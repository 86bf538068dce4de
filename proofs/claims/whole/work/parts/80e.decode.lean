/-! decode, the law, part 1 -/
set_option maxRecDepth 100000 in
theorem mDecLaw_x2304 : mDecL 357 2304 32 = true := by decide +kernel
set_option maxRecDepth 100000 in
theorem mDecLaw_x2336 : mDecL 357 2336 32 = true := by decide +kernel
set_option maxRecDepth 100000 in
theorem mDecLaw_x2368 : mDecL 357 2368 32 = true := by decide +kernel
set_option maxRecDepth 100000 in
theorem mDecLaw_x2400 : mDecL 357 2400 32 = true := by decide +kernel
set_option maxRecDepth 100000 in
theorem mDecLaw_x2432 : mDecL 357 2432 32 = true := by decide +kernel
set_option maxRecDepth 100000 in
theorem mDecLaw_x2464 : mDecL 357 2464 32 = true := by decide +kernel
set_option maxRecDepth 100000 in
theorem mDecLaw_x2496 : mDecL 357 2496 32 = true := by decide +kernel
set_option maxRecDepth 100000 in
theorem mDecLaw_x2528 : mDecL 357 2528 32 = true := by decide +kernel
set_option maxRecDepth 100000 in
theorem mDecLaw_x2560 : mDecL 357 2560 32 = true := by decide +kernel
set_option maxRecDepth 100000 in
theorem mDecLaw_x2592 : mDecL 357 2592 32 = true := by decide +kernel
set_option maxRecDepth 100000 in
theorem mDecLaw_x2624 : mDecL 357 2624 32 = true := by decide +kernel
