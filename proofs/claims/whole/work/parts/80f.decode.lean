/-! decode, the law, part 2 -/
set_option maxRecDepth 100000 in
theorem mDecLaw_x2656 : mDecL 357 2656 32 = true := by decide +kernel
set_option maxRecDepth 100000 in
theorem mDecLaw_x2688 : mDecL 357 2688 32 = true := by decide +kernel
set_option maxRecDepth 100000 in
theorem mDecLaw_x2720 : mDecL 357 2720 32 = true := by decide +kernel
set_option maxRecDepth 100000 in
theorem mDecLaw_x2752 : mDecL 357 2752 32 = true := by decide +kernel
set_option maxRecDepth 100000 in
theorem mDecLaw_x2784 : mDecL 357 2784 32 = true := by decide +kernel
set_option maxRecDepth 100000 in
theorem mDecLaw_x2816 : mDecL 357 2816 32 = true := by decide +kernel
set_option maxRecDepth 100000 in
theorem mDecLaw_x2848 : mDecL 357 2848 32 = true := by decide +kernel
set_option maxRecDepth 100000 in
theorem mDecLaw_x2880 : mDecL 357 2880 32 = true := by decide +kernel
set_option maxRecDepth 100000 in
theorem mDecLaw_x2912 : mDecL 357 2912 32 = true := by decide +kernel
set_option maxRecDepth 100000 in
theorem mDecLaw_x2944 : mDecL 357 2944 32 = true := by decide +kernel
set_option maxRecDepth 100000 in
theorem mDecLaw_x2976 : mDecL 357 2976 32 = true := by decide +kernel
