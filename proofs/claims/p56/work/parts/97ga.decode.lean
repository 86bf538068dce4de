/-! decode, long methods, part 0 -/
set_option maxRecDepth 100000 in
theorem mDecY_240_0 : mDecL 240 0 128 = true := by decide +kernel
set_option maxRecDepth 100000 in
theorem mDecY_240_128 : mDecL 240 128 128 = true := by decide +kernel
set_option maxRecDepth 100000 in
theorem mDecY_240_256 : mDecL 240 256 128 = true := by decide +kernel
set_option maxRecDepth 100000 in
theorem mDecY_240_384 : mDecL 240 384 128 = true := by decide +kernel
set_option maxRecDepth 100000 in
theorem mDecY_240_512 : mDecL 240 512 128 = true := by decide +kernel
set_option maxRecDepth 100000 in
theorem mDecY_240_640 : mDecL 240 640 128 = true := by decide +kernel
set_option maxRecDepth 100000 in
theorem mDecY_240_768 : mDecL 240 768 128 = true := by decide +kernel
