/-! decode, long methods, part 3 -/
set_option maxRecDepth 100000 in
theorem mDecY_242_0 : mDecL 242 0 128 = true := by decide +kernel
set_option maxRecDepth 100000 in
theorem mDecY_242_128 : mDecL 242 128 128 = true := by decide +kernel
set_option maxRecDepth 100000 in
theorem mDecY_242_256 : mDecL 242 256 128 = true := by decide +kernel
set_option maxRecDepth 100000 in
theorem mDecY_242_384 : mDecL 242 384 128 = true := by decide +kernel
set_option maxRecDepth 100000 in
theorem mDecY_242_512 : mDecL 242 512 128 = true := by decide +kernel
set_option maxRecDepth 100000 in
theorem mDecY_242_640 : mDecL 242 640 128 = true := by decide +kernel
set_option maxRecDepth 100000 in
theorem mDecY_243_0 : mDecL 243 0 64 = true := by decide +kernel
