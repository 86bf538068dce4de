/-! decode, long methods, part 4 -/
set_option maxRecDepth 100000 in
theorem mDecY_244_0 : mDecL 244 0 128 = true := by decide +kernel
set_option maxRecDepth 100000 in
theorem mDecY_245_0 : mDecL 245 0 128 = true := by decide +kernel
set_option maxRecDepth 100000 in
theorem mDecY_245_128 : mDecL 245 128 128 = true := by decide +kernel
set_option maxRecDepth 100000 in
theorem mDecY_245_256 : mDecL 245 256 32 = true := by decide +kernel
