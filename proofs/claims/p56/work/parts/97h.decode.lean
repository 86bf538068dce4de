/-! decode, all -/
theorem mDecZ_240 {pc : Nat} {ins : Instr} (hc : cd 240 pc = some ins) : ∃ n, decode (mByt 240) pc = .ok (ins, n) ∧ (n = mLenI ins ∨ mSwi ins = true) := by
  have ht : pc < 1056 := cd_top hc
  rcases Nat.lt_or_ge pc 128 with q | q
  · exact mDec1_ok (mDecL_ok _ mDecY_240_0 pc (by omega) (by omega)) hc
  rcases Nat.lt_or_ge pc 256 with q | q
  · exact mDec1_ok (mDecL_ok _ mDecY_240_128 pc (by omega) (by omega)) hc
  rcases Nat.lt_or_ge pc 384 with q | q
  · exact mDec1_ok (mDecL_ok _ mDecY_240_256 pc (by omega) (by omega)) hc
  rcases Nat.lt_or_ge pc 512 with q | q
  · exact mDec1_ok (mDecL_ok _ mDecY_240_384 pc (by omega) (by omega)) hc
  rcases Nat.lt_or_ge pc 640 with q | q
  · exact mDec1_ok (mDecL_ok _ mDecY_240_512 pc (by omega) (by omega)) hc
  rcases Nat.lt_or_ge pc 768 with q | q
  · exact mDec1_ok (mDecL_ok _ mDecY_240_640 pc (by omega) (by omega)) hc
  rcases Nat.lt_or_ge pc 896 with q | q
  · exact mDec1_ok (mDecL_ok _ mDecY_240_768 pc (by omega) (by omega)) hc
  rcases Nat.lt_or_ge pc 1024 with q | q
  · exact mDec1_ok (mDecL_ok _ mDecY_240_896 pc (by omega) (by omega)) hc
  rcases Nat.lt_or_ge pc 1056 with q | q
  · exact mDec1_ok (mDecL_ok _ mDecY_240_1024 pc (by omega) (by omega)) hc
  omega
theorem mDecZ_241 {pc : Nat} {ins : Instr} (hc : cd 241 pc = some ins) : ∃ n, decode (mByt 241) pc = .ok (ins, n) ∧ (n = mLenI ins ∨ mSwi ins = true) := by
  have ht : pc < 1504 := cd_top hc
  rcases Nat.lt_or_ge pc 128 with q | q
  · exact mDec1_ok (mDecL_ok _ mDecY_241_0 pc (by omega) (by omega)) hc
  rcases Nat.lt_or_ge pc 256 with q | q
  · exact mDec1_ok (mDecL_ok _ mDecY_241_128 pc (by omega) (by omega)) hc
  rcases Nat.lt_or_ge pc 384 with q | q
  · exact mDec1_ok (mDecL_ok _ mDecY_241_256 pc (by omega) (by omega)) hc
  rcases Nat.lt_or_ge pc 512 with q | q
  · exact mDec1_ok (mDecL_ok _ mDecY_241_384 pc (by omega) (by omega)) hc
  rcases Nat.lt_or_ge pc 640 with q | q
  · exact mDec1_ok (mDecL_ok _ mDecY_241_512 pc (by omega) (by omega)) hc
  rcases Nat.lt_or_ge pc 768 with q | q
  · exact mDec1_ok (mDecL_ok _ mDecY_241_640 pc (by omega) (by omega)) hc
  rcases Nat.lt_or_ge pc 896 with q | q
  · exact mDec1_ok (mDecL_ok _ mDecY_241_768 pc (by omega) (by omega)) hc
  rcases Nat.lt_or_ge pc 1024 with q | q
  · exact mDec1_ok (mDecL_ok _ mDecY_241_896 pc (by omega) (by omega)) hc
  rcases Nat.lt_or_ge pc 1152 with q | q
  · exact mDec1_ok (mDecL_ok _ mDecY_241_1024 pc (by omega) (by omega)) hc
  rcases Nat.lt_or_ge pc 1280 with q | q
  · exact mDec1_ok (mDecL_ok _ mDecY_241_1152 pc (by omega) (by omega)) hc
  rcases Nat.lt_or_ge pc 1408 with q | q
  · exact mDec1_ok (mDecL_ok _ mDecY_241_1280 pc (by omega) (by omega)) hc
  rcases Nat.lt_or_ge pc 1504 with q | q
  · exact mDec1_ok (mDecL_ok _ mDecY_241_1408 pc (by omega) (by omega)) hc
  omega
theorem mDecZ_242 {pc : Nat} {ins : Instr} (hc : cd 242 pc = some ins) : ∃ n, decode (mByt 242) pc = .ok (ins, n) ∧ (n = mLenI ins ∨ mSwi ins = true) := by
  have ht : pc < 768 := cd_top hc
  rcases Nat.lt_or_ge pc 128 with q | q
  · exact mDec1_ok (mDecL_ok _ mDecY_242_0 pc (by omega) (by omega)) hc
  rcases Nat.lt_or_ge pc 256 with q | q
  · exact mDec1_ok (mDecL_ok _ mDecY_242_128 pc (by omega) (by omega)) hc
  rcases Nat.lt_or_ge pc 384 with q | q
  · exact mDec1_ok (mDecL_ok _ mDecY_242_256 pc (by omega) (by omega)) hc
  rcases Nat.lt_or_ge pc 512 with q | q
  · exact mDec1_ok (mDecL_ok _ mDecY_242_384 pc (by omega) (by omega)) hc
  rcases Nat.lt_or_ge pc 640 with q | q
  · exact mDec1_ok (mDecL_ok _ mDecY_242_512 pc (by omega) (by omega)) hc
  rcases Nat.lt_or_ge pc 768 with q | q
  · exact mDec1_ok (mDecL_ok _ mDecY_242_640 pc (by omega) (by omega)) hc
  omega
theorem mDecZ_243 {pc : Nat} {ins : Instr} (hc : cd 243 pc = some ins) : ∃ n, decode (mByt 243) pc = .ok (ins, n) ∧ (n = mLenI ins ∨ mSwi ins = true) := by
  have ht : pc < 64 := cd_top hc
  rcases Nat.lt_or_ge pc 64 with q | q
  · exact mDec1_ok (mDecL_ok _ mDecY_243_0 pc (by omega) (by omega)) hc
  omega
theorem mDecZ_244 {pc : Nat} {ins : Instr} (hc : cd 244 pc = some ins) : ∃ n, decode (mByt 244) pc = .ok (ins, n) ∧ (n = mLenI ins ∨ mSwi ins = true) := by
  have ht : pc < 128 := cd_top hc
  rcases Nat.lt_or_ge pc 128 with q | q
  · exact mDec1_ok (mDecL_ok _ mDecY_244_0 pc (by omega) (by omega)) hc
  omega
theorem mDecZ_245 {pc : Nat} {ins : Instr} (hc : cd 245 pc = some ins) : ∃ n, decode (mByt 245) pc = .ok (ins, n) ∧ (n = mLenI ins ∨ mSwi ins = true) := by
  have ht : pc < 288 := cd_top hc
  rcases Nat.lt_or_ge pc 128 with q | q
  · exact mDec1_ok (mDecL_ok _ mDecY_245_0 pc (by omega) (by omega)) hc
  rcases Nat.lt_or_ge pc 256 with q | q
  · exact mDec1_ok (mDecL_ok _ mDecY_245_128 pc (by omega) (by omega)) hc
  rcases Nat.lt_or_ge pc 288 with q | q
  · exact mDec1_ok (mDecL_ok _ mDecY_245_256 pc (by omega) (by omega)) hc
  omega
theorem mDec_all {y pc : Nat} {ins : Instr} (hy : y < 246) (hc : cd y pc = some ins) : ∃ n, decode (mByt y) pc = .ok (ins, n) ∧ (n = mLenI ins ∨ mSwi ins = true) := by
  have ht := cd_top hc
  rcases Nat.lt_or_ge y 20 with q | q
  · have := mDecM_0 (y - 0) (by omega)
    rw [show 0 + (y - 0) = y by omega] at this
    exact mDec1_ok (mDecL_ok _ this pc (Nat.zero_le _) (by omega)) hc
  rcases Nat.lt_or_ge y 40 with q | q
  · have := mDecM_1 (y - 20) (by omega)
    rw [show 20 + (y - 20) = y by omega] at this
    exact mDec1_ok (mDecL_ok _ this pc (Nat.zero_le _) (by omega)) hc
  rcases Nat.lt_or_ge y 60 with q | q
  · have := mDecM_2 (y - 40) (by omega)
    rw [show 40 + (y - 40) = y by omega] at this
    exact mDec1_ok (mDecL_ok _ this pc (Nat.zero_le _) (by omega)) hc
  rcases Nat.lt_or_ge y 80 with q | q
  · have := mDecM_3 (y - 60) (by omega)
    rw [show 60 + (y - 60) = y by omega] at this
    exact mDec1_ok (mDecL_ok _ this pc (Nat.zero_le _) (by omega)) hc
  rcases Nat.lt_or_ge y 100 with q | q
  · have := mDecM_4 (y - 80) (by omega)
    rw [show 80 + (y - 80) = y by omega] at this
    exact mDec1_ok (mDecL_ok _ this pc (Nat.zero_le _) (by omega)) hc
  rcases Nat.lt_or_ge y 120 with q | q
  · have := mDecM_5 (y - 100) (by omega)
    rw [show 100 + (y - 100) = y by omega] at this
    exact mDec1_ok (mDecL_ok _ this pc (Nat.zero_le _) (by omega)) hc
  rcases Nat.lt_or_ge y 140 with q | q
  · have := mDecM_6 (y - 120) (by omega)
    rw [show 120 + (y - 120) = y by omega] at this
    exact mDec1_ok (mDecL_ok _ this pc (Nat.zero_le _) (by omega)) hc
  rcases Nat.lt_or_ge y 160 with q | q
  · have := mDecM_7 (y - 140) (by omega)
    rw [show 140 + (y - 140) = y by omega] at this
    exact mDec1_ok (mDecL_ok _ this pc (Nat.zero_le _) (by omega)) hc
  rcases Nat.lt_or_ge y 180 with q | q
  · have := mDecM_8 (y - 160) (by omega)
    rw [show 160 + (y - 160) = y by omega] at this
    exact mDec1_ok (mDecL_ok _ this pc (Nat.zero_le _) (by omega)) hc
  rcases Nat.lt_or_ge y 200 with q | q
  · have := mDecM_9 (y - 180) (by omega)
    rw [show 180 + (y - 180) = y by omega] at this
    exact mDec1_ok (mDecL_ok _ this pc (Nat.zero_le _) (by omega)) hc
  rcases Nat.lt_or_ge y 220 with q | q
  · have := mDecM_10 (y - 200) (by omega)
    rw [show 200 + (y - 200) = y by omega] at this
    exact mDec1_ok (mDecL_ok _ this pc (Nat.zero_le _) (by omega)) hc
  rcases Nat.lt_or_ge y 240 with q | q
  · have := mDecM_11 (y - 220) (by omega)
    rw [show 220 + (y - 220) = y by omega] at this
    exact mDec1_ok (mDecL_ok _ this pc (Nat.zero_le _) (by omega)) hc
  have g : y = 240 ∨ y = 241 ∨ y = 242 ∨ y = 243 ∨ y = 244 ∨ y = 245 := by omega
  rcases g with rfl | rfl | rfl | rfl | rfl | rfl
  · exact mDecZ_240 hc
  · exact mDecZ_241 hc
  · exact mDecZ_242 hc
  · exact mDecZ_243 hc
  · exact mDecZ_244 hc
  · exact mDecZ_245 hc
