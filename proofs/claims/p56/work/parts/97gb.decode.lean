/-! decode, long methods, part 1 -/
set_option maxRecDepth 100000 in
theorem mDecY_240_896 : mDecL 240 896 128 = true := by decide +kernel
set_option maxRecDepth 100000 in
theorem mDecY_240_1024 : mDecL 240 1024 32 = true := by decide +kernel
set_option maxRecDepth 100000 in
theorem mDecY_241_0 : mDecL 241 0 128 = true := by decide +kernel
set_option maxRecDepth 100000 in
theorem mDecY_241_128 : mDecL 241 128 128 = true := by decide +kernel
set_option maxRecDepth 100000 in
theorem mDecY_241_256 : mDecL 241 256 128 = true := by decide +kernel
set_option maxRecDepth 100000 in
theorem mDecY_241_384 : mDecL 241 384 128 = true := by decide +kernel
set_option maxRecDepth 100000 in
theorem mDecY_241_512 : mDecL 241 512 128 = true := by decide +kernel
