/-! SWITCHES, by program (gen_tsw.py). -/
theorem ccTw116_0 {g : Nat → mRz} : mTswO (N 0) 12 155 0 12 #[68, 76, 87, 98, 109, 120, 128, 155, 155, 155, 155, 139, 147] g = g 80 := rfl
theorem ccTw116_1 {g : Nat → mRz} : mTswO (N 1) 12 155 0 12 #[68, 76, 87, 98, 109, 120, 128, 155, 155, 155, 155, 139, 147] g = g 88 := rfl
theorem ccTw116_2 {g : Nat → mRz} : mTswO (N 2) 12 155 0 12 #[68, 76, 87, 98, 109, 120, 128, 155, 155, 155, 155, 139, 147] g = g 99 := rfl
theorem ccTw116_3 {g : Nat → mRz} : mTswO (N 3) 12 155 0 12 #[68, 76, 87, 98, 109, 120, 128, 155, 155, 155, 155, 139, 147] g = g 110 := rfl
theorem ccTw116_4 {g : Nat → mRz} : mTswO (N 4) 12 155 0 12 #[68, 76, 87, 98, 109, 120, 128, 155, 155, 155, 155, 139, 147] g = g 121 := rfl
theorem ccTw116_5 {g : Nat → mRz} : mTswO (N 5) 12 155 0 12 #[68, 76, 87, 98, 109, 120, 128, 155, 155, 155, 155, 139, 147] g = g 132 := rfl
theorem ccTw116_6 {g : Nat → mRz} : mTswO (N 6) 12 155 0 12 #[68, 76, 87, 98, 109, 120, 128, 155, 155, 155, 155, 139, 147] g = g 140 := rfl
theorem ccTw116_7 {g : Nat → mRz} : mTswO (N 7) 12 155 0 12 #[68, 76, 87, 98, 109, 120, 128, 155, 155, 155, 155, 139, 147] g = g 167 := rfl
theorem ccTw116_8 {g : Nat → mRz} : mTswO (N 8) 12 155 0 12 #[68, 76, 87, 98, 109, 120, 128, 155, 155, 155, 155, 139, 147] g = g 167 := rfl
theorem ccTw116_9 {g : Nat → mRz} : mTswO (N 9) 12 155 0 12 #[68, 76, 87, 98, 109, 120, 128, 155, 155, 155, 155, 139, 147] g = g 167 := rfl
theorem ccTw116_10 {g : Nat → mRz} : mTswO (N 10) 12 155 0 12 #[68, 76, 87, 98, 109, 120, 128, 155, 155, 155, 155, 139, 147] g = g 167 := rfl
theorem ccTw116_11 {g : Nat → mRz} : mTswO (N 11) 12 155 0 12 #[68, 76, 87, 98, 109, 120, 128, 155, 155, 155, 155, 139, 147] g = g 151 := rfl
theorem ccTw116_12 {g : Nat → mRz} : mTswO (N 12) 12 155 0 12 #[68, 76, 87, 98, 109, 120, 128, 155, 155, 155, 155, 139, 147] g = g 159 := rfl
theorem ccTw119_0 {g : Nat → mRz} : mTswO (N 0) 25 93 0 4 #[35, 48, 58, 67, 80] g = g 60 := rfl
theorem ccTw119_1 {g : Nat → mRz} : mTswO (N 1) 25 93 0 4 #[35, 48, 58, 67, 80] g = g 73 := rfl
theorem ccTw119_2 {g : Nat → mRz} : mTswO (N 2) 25 93 0 4 #[35, 48, 58, 67, 80] g = g 83 := rfl
theorem ccTw119_3 {g : Nat → mRz} : mTswO (N 3) 25 93 0 4 #[35, 48, 58, 67, 80] g = g 92 := rfl
theorem ccTw119_4 {g : Nat → mRz} : mTswO (N 4) 25 93 0 4 #[35, 48, 58, 67, 80] g = g 105 := rfl
theorem ccTw119_5 {g : Nat → mRz} : mTswO (N 5) 25 93 0 4 #[35, 48, 58, 67, 80] g = g 118 := rfl
theorem ccTw119_6 {g : Nat → mRz} : mTswO (N 6) 25 93 0 4 #[35, 48, 58, 67, 80] g = g 118 := rfl
theorem ccTw119_7 {g : Nat → mRz} : mTswO (N 7) 25 93 0 4 #[35, 48, 58, 67, 80] g = g 118 := rfl
theorem ccTw119_8 {g : Nat → mRz} : mTswO (N 8) 25 93 0 4 #[35, 48, 58, 67, 80] g = g 118 := rfl
theorem ccTw119_9 {g : Nat → mRz} : mTswO (N 9) 25 93 0 4 #[35, 48, 58, 67, 80] g = g 118 := rfl
theorem ccTw119_10 {g : Nat → mRz} : mTswO (N 10) 25 93 0 4 #[35, 48, 58, 67, 80] g = g 118 := rfl
theorem ccTw119_11 {g : Nat → mRz} : mTswO (N 11) 25 93 0 4 #[35, 48, 58, 67, 80] g = g 118 := rfl
theorem ccTw119_12 {g : Nat → mRz} : mTswO (N 12) 25 93 0 4 #[35, 48, 58, 67, 80] g = g 118 := rfl
theorem ccTw121_0 {g : Nat → mRz} : mTswO (N 0) 53 116 0 5 #[39, 53, 67, 81, 95, 105] g = g 92 := rfl
theorem ccTw121_1 {g : Nat → mRz} : mTswO (N 1) 53 116 0 5 #[39, 53, 67, 81, 95, 105] g = g 106 := rfl
theorem ccTw121_2 {g : Nat → mRz} : mTswO (N 2) 53 116 0 5 #[39, 53, 67, 81, 95, 105] g = g 120 := rfl
theorem ccTw121_3 {g : Nat → mRz} : mTswO (N 3) 53 116 0 5 #[39, 53, 67, 81, 95, 105] g = g 134 := rfl
theorem ccTw121_4 {g : Nat → mRz} : mTswO (N 4) 53 116 0 5 #[39, 53, 67, 81, 95, 105] g = g 148 := rfl
theorem ccTw121_5 {g : Nat → mRz} : mTswO (N 5) 53 116 0 5 #[39, 53, 67, 81, 95, 105] g = g 158 := rfl
theorem ccTw121_6 {g : Nat → mRz} : mTswO (N 6) 53 116 0 5 #[39, 53, 67, 81, 95, 105] g = g 169 := rfl
theorem ccTw121_7 {g : Nat → mRz} : mTswO (N 7) 53 116 0 5 #[39, 53, 67, 81, 95, 105] g = g 169 := rfl
theorem ccTw121_8 {g : Nat → mRz} : mTswO (N 8) 53 116 0 5 #[39, 53, 67, 81, 95, 105] g = g 169 := rfl
theorem ccTw121_9 {g : Nat → mRz} : mTswO (N 9) 53 116 0 5 #[39, 53, 67, 81, 95, 105] g = g 169 := rfl
theorem ccTw121_10 {g : Nat → mRz} : mTswO (N 10) 53 116 0 5 #[39, 53, 67, 81, 95, 105] g = g 169 := rfl
theorem ccTw121_11 {g : Nat → mRz} : mTswO (N 11) 53 116 0 5 #[39, 53, 67, 81, 95, 105] g = g 169 := rfl
theorem ccTw121_12 {g : Nat → mRz} : mTswO (N 12) 53 116 0 5 #[39, 53, 67, 81, 95, 105] g = g 169 := rfl
theorem ccTw123_0 {g : Nat → mRz} : mTswO (N 0) 52 67 0 2 #[28, 42, 53] g = g 80 := rfl
theorem ccTw123_1 {g : Nat → mRz} : mTswO (N 1) 52 67 0 2 #[28, 42, 53] g = g 94 := rfl
theorem ccTw123_2 {g : Nat → mRz} : mTswO (N 2) 52 67 0 2 #[28, 42, 53] g = g 105 := rfl
theorem ccTw123_3 {g : Nat → mRz} : mTswO (N 3) 52 67 0 2 #[28, 42, 53] g = g 119 := rfl
theorem ccTw123_4 {g : Nat → mRz} : mTswO (N 4) 52 67 0 2 #[28, 42, 53] g = g 119 := rfl
theorem ccTw123_5 {g : Nat → mRz} : mTswO (N 5) 52 67 0 2 #[28, 42, 53] g = g 119 := rfl
theorem ccTw123_6 {g : Nat → mRz} : mTswO (N 6) 52 67 0 2 #[28, 42, 53] g = g 119 := rfl
theorem ccTw123_7 {g : Nat → mRz} : mTswO (N 7) 52 67 0 2 #[28, 42, 53] g = g 119 := rfl
theorem ccTw123_8 {g : Nat → mRz} : mTswO (N 8) 52 67 0 2 #[28, 42, 53] g = g 119 := rfl
theorem ccTw123_9 {g : Nat → mRz} : mTswO (N 9) 52 67 0 2 #[28, 42, 53] g = g 119 := rfl
theorem ccTw123_10 {g : Nat → mRz} : mTswO (N 10) 52 67 0 2 #[28, 42, 53] g = g 119 := rfl
theorem ccTw123_11 {g : Nat → mRz} : mTswO (N 11) 52 67 0 2 #[28, 42, 53] g = g 119 := rfl
theorem ccTw123_12 {g : Nat → mRz} : mTswO (N 12) 52 67 0 2 #[28, 42, 53] g = g 119 := rfl
theorem ccTw231_0 {g : Nat → mRz} : mTswO (N 0) 33 122 0 12 #[67, 72, 77, 85, 90, 95, 102, 122, 122, 122, 122, 109, 117] g = g 100 := rfl
theorem ccTw231_1 {g : Nat → mRz} : mTswO (N 1) 33 122 0 12 #[67, 72, 77, 85, 90, 95, 102, 122, 122, 122, 122, 109, 117] g = g 105 := rfl
theorem ccTw231_2 {g : Nat → mRz} : mTswO (N 2) 33 122 0 12 #[67, 72, 77, 85, 90, 95, 102, 122, 122, 122, 122, 109, 117] g = g 110 := rfl
theorem ccTw231_3 {g : Nat → mRz} : mTswO (N 3) 33 122 0 12 #[67, 72, 77, 85, 90, 95, 102, 122, 122, 122, 122, 109, 117] g = g 118 := rfl
theorem ccTw231_4 {g : Nat → mRz} : mTswO (N 4) 33 122 0 12 #[67, 72, 77, 85, 90, 95, 102, 122, 122, 122, 122, 109, 117] g = g 123 := rfl
theorem ccTw231_5 {g : Nat → mRz} : mTswO (N 5) 33 122 0 12 #[67, 72, 77, 85, 90, 95, 102, 122, 122, 122, 122, 109, 117] g = g 128 := rfl
theorem ccTw231_6 {g : Nat → mRz} : mTswO (N 6) 33 122 0 12 #[67, 72, 77, 85, 90, 95, 102, 122, 122, 122, 122, 109, 117] g = g 135 := rfl
theorem ccTw231_7 {g : Nat → mRz} : mTswO (N 7) 33 122 0 12 #[67, 72, 77, 85, 90, 95, 102, 122, 122, 122, 122, 109, 117] g = g 155 := rfl
theorem ccTw231_8 {g : Nat → mRz} : mTswO (N 8) 33 122 0 12 #[67, 72, 77, 85, 90, 95, 102, 122, 122, 122, 122, 109, 117] g = g 155 := rfl
theorem ccTw231_9 {g : Nat → mRz} : mTswO (N 9) 33 122 0 12 #[67, 72, 77, 85, 90, 95, 102, 122, 122, 122, 122, 109, 117] g = g 155 := rfl
theorem ccTw231_10 {g : Nat → mRz} : mTswO (N 10) 33 122 0 12 #[67, 72, 77, 85, 90, 95, 102, 122, 122, 122, 122, 109, 117] g = g 155 := rfl
theorem ccTw231_11 {g : Nat → mRz} : mTswO (N 11) 33 122 0 12 #[67, 72, 77, 85, 90, 95, 102, 122, 122, 122, 122, 109, 117] g = g 142 := rfl
theorem ccTw231_12 {g : Nat → mRz} : mTswO (N 12) 33 122 0 12 #[67, 72, 77, 85, 90, 95, 102, 122, 122, 122, 122, 109, 117] g = g 150 := rfl
theorem ccTw237_0 {g : Nat → mRz} : mTswO (N 0) 49 92 0 4 #[35, 42, 49, 56, 74] g = g 84 := rfl
theorem ccTw237_1 {g : Nat → mRz} : mTswO (N 1) 49 92 0 4 #[35, 42, 49, 56, 74] g = g 91 := rfl
theorem ccTw237_2 {g : Nat → mRz} : mTswO (N 2) 49 92 0 4 #[35, 42, 49, 56, 74] g = g 98 := rfl
theorem ccTw237_3 {g : Nat → mRz} : mTswO (N 3) 49 92 0 4 #[35, 42, 49, 56, 74] g = g 105 := rfl
theorem ccTw237_4 {g : Nat → mRz} : mTswO (N 4) 49 92 0 4 #[35, 42, 49, 56, 74] g = g 123 := rfl
theorem ccTw237_5 {g : Nat → mRz} : mTswO (N 5) 49 92 0 4 #[35, 42, 49, 56, 74] g = g 141 := rfl
theorem ccTw237_6 {g : Nat → mRz} : mTswO (N 6) 49 92 0 4 #[35, 42, 49, 56, 74] g = g 141 := rfl
theorem ccTw237_7 {g : Nat → mRz} : mTswO (N 7) 49 92 0 4 #[35, 42, 49, 56, 74] g = g 141 := rfl
theorem ccTw237_8 {g : Nat → mRz} : mTswO (N 8) 49 92 0 4 #[35, 42, 49, 56, 74] g = g 141 := rfl
theorem ccTw237_9 {g : Nat → mRz} : mTswO (N 9) 49 92 0 4 #[35, 42, 49, 56, 74] g = g 141 := rfl
theorem ccTw237_10 {g : Nat → mRz} : mTswO (N 10) 49 92 0 4 #[35, 42, 49, 56, 74] g = g 141 := rfl
theorem ccTw237_11 {g : Nat → mRz} : mTswO (N 11) 49 92 0 4 #[35, 42, 49, 56, 74] g = g 141 := rfl
theorem ccTw237_12 {g : Nat → mRz} : mTswO (N 12) 49 92 0 4 #[35, 42, 49, 56, 74] g = g 141 := rfl
theorem ccTw240_0 {g : Nat → mRz} : mTswO (N 0) 57 49 4 6 #[27, 34, 42] g = g 106 := rfl
theorem ccTw240_1 {g : Nat → mRz} : mTswO (N 1) 57 49 4 6 #[27, 34, 42] g = g 106 := rfl
theorem ccTw240_2 {g : Nat → mRz} : mTswO (N 2) 57 49 4 6 #[27, 34, 42] g = g 106 := rfl
theorem ccTw240_3 {g : Nat → mRz} : mTswO (N 3) 57 49 4 6 #[27, 34, 42] g = g 106 := rfl
theorem ccTw240_4 {g : Nat → mRz} : mTswO (N 4) 57 49 4 6 #[27, 34, 42] g = g 84 := rfl
theorem ccTw240_5 {g : Nat → mRz} : mTswO (N 5) 57 49 4 6 #[27, 34, 42] g = g 91 := rfl
theorem ccTw240_6 {g : Nat → mRz} : mTswO (N 6) 57 49 4 6 #[27, 34, 42] g = g 99 := rfl
theorem ccTw240_7 {g : Nat → mRz} : mTswO (N 7) 57 49 4 6 #[27, 34, 42] g = g 106 := rfl
theorem ccTw240_8 {g : Nat → mRz} : mTswO (N 8) 57 49 4 6 #[27, 34, 42] g = g 106 := rfl
theorem ccTw240_9 {g : Nat → mRz} : mTswO (N 9) 57 49 4 6 #[27, 34, 42] g = g 106 := rfl
theorem ccTw240_10 {g : Nat → mRz} : mTswO (N 10) 57 49 4 6 #[27, 34, 42] g = g 106 := rfl
theorem ccTw240_11 {g : Nat → mRz} : mTswO (N 11) 57 49 4 6 #[27, 34, 42] g = g 106 := rfl
theorem ccTw240_12 {g : Nat → mRz} : mTswO (N 12) 57 49 4 6 #[27, 34, 42] g = g 106 := rfl
