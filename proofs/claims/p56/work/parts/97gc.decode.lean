/-! decode, long methods, part 2 -/
set_option maxRecDepth 100000 in
theorem mDecY_241_640 : mDecL 241 640 128 = true := by decide +kernel
set_option maxRecDepth 100000 in
theorem mDecY_241_768 : mDecL 241 768 128 = true := by decide +kernel
set_option maxRecDepth 100000 in
theorem mDecY_241_896 : mDecL 241 896 128 = true := by decide +kernel
set_option maxRecDepth 100000 in
theorem mDecY_241_1024 : mDecL 241 1024 128 = true := by decide +kernel
set_option maxRecDepth 100000 in
theorem mDecY_241_1152 : mDecL 241 1152 128 = true := by decide +kernel
set_option maxRecDepth 100000 in
theorem mDecY_241_1280 : mDecL 241 1280 128 = true := by decide +kernel
set_option maxRecDepth 100000 in
theorem mDecY_241_1408 : mDecL 241 1408 96 = true := by decide +kernel
