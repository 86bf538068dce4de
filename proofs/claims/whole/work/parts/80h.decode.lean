/-! decode, all -/
theorem mDec_all {y pc : Nat} {ins : Instr} (hy : y < 358) (hc : cd y pc = some ins) : ∃ n, decode (mByt y) pc = .ok (ins, n) ∧ (n = mLenI ins ∨ mSwi ins = true) := by
  have ht := cd_top hc
  rcases Nat.lt_or_ge y 20 with q | q
  · have := mDecM_0 (y - 0) (by omega)
    rw [show 0 + (y - 0) = y by omega] at this
    exact mDec1_ok (mDecL_ok _ this pc (Nat.zero_le _) (by omega)) hc
  rcases Nat.lt_or_ge y 40 with q | q
  · have := mDecM_1 (y - 20) (by omega)
    rw [show 20 + (y - 20) = y by omega] at this
    exact mDec1_ok (mDecL_ok _ this pc (Nat.zero_le _) (by omega)) hc
  rcases Nat.lt_or_ge y 60 with q | q
  · have := mDecM_2 (y - 40) (by omega)
    rw [show 40 + (y - 40) = y by omega] at this
    exact mDec1_ok (mDecL_ok _ this pc (Nat.zero_le _) (by omega)) hc
  rcases Nat.lt_or_ge y 80 with q | q
  · have := mDecM_3 (y - 60) (by omega)
    rw [show 60 + (y - 60) = y by omega] at this
    exact mDec1_ok (mDecL_ok _ this pc (Nat.zero_le _) (by omega)) hc
  rcases Nat.lt_or_ge y 100 with q | q
  · have := mDecM_4 (y - 80) (by omega)
    rw [show 80 + (y - 80) = y by omega] at this
    exact mDec1_ok (mDecL_ok _ this pc (Nat.zero_le _) (by omega)) hc
  rcases Nat.lt_or_ge y 120 with q | q
  · have := mDecM_5 (y - 100) (by omega)
    rw [show 100 + (y - 100) = y by omega] at this
    exact mDec1_ok (mDecL_ok _ this pc (Nat.zero_le _) (by omega)) hc
  rcases Nat.lt_or_ge y 140 with q | q
  · have := mDecM_6 (y - 120) (by omega)
    rw [show 120 + (y - 120) = y by omega] at this
    exact mDec1_ok (mDecL_ok _ this pc (Nat.zero_le _) (by omega)) hc
  rcases Nat.lt_or_ge y 160 with q | q
  · have := mDecM_7 (y - 140) (by omega)
    rw [show 140 + (y - 140) = y by omega] at this
    exact mDec1_ok (mDecL_ok _ this pc (Nat.zero_le _) (by omega)) hc
  rcases Nat.lt_or_ge y 180 with q | q
  · have := mDecM_8 (y - 160) (by omega)
    rw [show 160 + (y - 160) = y by omega] at this
    exact mDec1_ok (mDecL_ok _ this pc (Nat.zero_le _) (by omega)) hc
  rcases Nat.lt_or_ge y 200 with q | q
  · have := mDecM_9 (y - 180) (by omega)
    rw [show 180 + (y - 180) = y by omega] at this
    exact mDec1_ok (mDecL_ok _ this pc (Nat.zero_le _) (by omega)) hc
  rcases Nat.lt_or_ge y 220 with q | q
  · have := mDecM_10 (y - 200) (by omega)
    rw [show 200 + (y - 200) = y by omega] at this
    exact mDec1_ok (mDecL_ok _ this pc (Nat.zero_le _) (by omega)) hc
  rcases Nat.lt_or_ge y 240 with q | q
  · have := mDecM_11 (y - 220) (by omega)
    rw [show 220 + (y - 220) = y by omega] at this
    exact mDec1_ok (mDecL_ok _ this pc (Nat.zero_le _) (by omega)) hc
  rcases Nat.lt_or_ge y 260 with q | q
  · have := mDecM_12 (y - 240) (by omega)
    rw [show 240 + (y - 240) = y by omega] at this
    exact mDec1_ok (mDecL_ok _ this pc (Nat.zero_le _) (by omega)) hc
  rcases Nat.lt_or_ge y 280 with q | q
  · have := mDecM_13 (y - 260) (by omega)
    rw [show 260 + (y - 260) = y by omega] at this
    exact mDec1_ok (mDecL_ok _ this pc (Nat.zero_le _) (by omega)) hc
  rcases Nat.lt_or_ge y 300 with q | q
  · have := mDecM_14 (y - 280) (by omega)
    rw [show 280 + (y - 280) = y by omega] at this
    exact mDec1_ok (mDecL_ok _ this pc (Nat.zero_le _) (by omega)) hc
  rcases Nat.lt_or_ge y 320 with q | q
  · have := mDecM_15 (y - 300) (by omega)
    rw [show 300 + (y - 300) = y by omega] at this
    exact mDec1_ok (mDecL_ok _ this pc (Nat.zero_le _) (by omega)) hc
  rcases Nat.lt_or_ge y 340 with q | q
  · have := mDecM_16 (y - 320) (by omega)
    rw [show 320 + (y - 320) = y by omega] at this
    exact mDec1_ok (mDecL_ok _ this pc (Nat.zero_le _) (by omega)) hc
  rcases Nat.lt_or_ge y 357 with q | q
  · have := mDecM_17 (y - 340) (by omega)
    rw [show 340 + (y - 340) = y by omega] at this
    exact mDec1_ok (mDecL_ok _ this pc (Nat.zero_le _) (by omega)) hc
  obtain rfl : y = 357 := by omega
  have ht : pc < 3360 := ht
  rcases Nat.lt_or_ge pc 128 with q | q
  · exact mDec1_ok (mDecL_ok _ mDecLaw_0 pc (by omega) (by omega)) hc
  rcases Nat.lt_or_ge pc 256 with q | q
  · exact mDec1_ok (mDecL_ok _ mDecLaw_1 pc (by omega) (by omega)) hc
  rcases Nat.lt_or_ge pc 384 with q | q
  · exact mDec1_ok (mDecL_ok _ mDecLaw_2 pc (by omega) (by omega)) hc
  rcases Nat.lt_or_ge pc 512 with q | q
  · exact mDec1_ok (mDecL_ok _ mDecLaw_3 pc (by omega) (by omega)) hc
  rcases Nat.lt_or_ge pc 640 with q | q
  · exact mDec1_ok (mDecL_ok _ mDecLaw_4 pc (by omega) (by omega)) hc
  rcases Nat.lt_or_ge pc 768 with q | q
  · exact mDec1_ok (mDecL_ok _ mDecLaw_5 pc (by omega) (by omega)) hc
  rcases Nat.lt_or_ge pc 896 with q | q
  · exact mDec1_ok (mDecL_ok _ mDecLaw_6 pc (by omega) (by omega)) hc
  rcases Nat.lt_or_ge pc 1024 with q | q
  · exact mDec1_ok (mDecL_ok _ mDecLaw_7 pc (by omega) (by omega)) hc
  rcases Nat.lt_or_ge pc 1152 with q | q
  · exact mDec1_ok (mDecL_ok _ mDecLaw_8 pc (by omega) (by omega)) hc
  rcases Nat.lt_or_ge pc 1280 with q | q
  · exact mDec1_ok (mDecL_ok _ mDecLaw_9 pc (by omega) (by omega)) hc
  rcases Nat.lt_or_ge pc 1408 with q | q
  · exact mDec1_ok (mDecL_ok _ mDecLaw_10 pc (by omega) (by omega)) hc
  rcases Nat.lt_or_ge pc 1536 with q | q
  · exact mDec1_ok (mDecL_ok _ mDecLaw_11 pc (by omega) (by omega)) hc
  rcases Nat.lt_or_ge pc 1664 with q | q
  · exact mDec1_ok (mDecL_ok _ mDecLaw_12 pc (by omega) (by omega)) hc
  rcases Nat.lt_or_ge pc 1792 with q | q
  · exact mDec1_ok (mDecL_ok _ mDecLaw_13 pc (by omega) (by omega)) hc
  rcases Nat.lt_or_ge pc 1920 with q | q
  · exact mDec1_ok (mDecL_ok _ mDecLaw_14 pc (by omega) (by omega)) hc
  rcases Nat.lt_or_ge pc 2048 with q | q
  · exact mDec1_ok (mDecL_ok _ mDecLaw_15 pc (by omega) (by omega)) hc
  rcases Nat.lt_or_ge pc 2176 with q | q
  · exact mDec1_ok (mDecL_ok _ mDecLaw_16 pc (by omega) (by omega)) hc
  rcases Nat.lt_or_ge pc 2304 with q | q
  · exact mDec1_ok (mDecL_ok _ mDecLaw_17 pc (by omega) (by omega)) hc
  rcases Nat.lt_or_ge pc 2336 with q | q
  · exact mDec1_ok (mDecL_ok _ mDecLaw_x2304 pc (by omega) (by omega)) hc
  rcases Nat.lt_or_ge pc 2368 with q | q
  · exact mDec1_ok (mDecL_ok _ mDecLaw_x2336 pc (by omega) (by omega)) hc
  rcases Nat.lt_or_ge pc 2400 with q | q
  · exact mDec1_ok (mDecL_ok _ mDecLaw_x2368 pc (by omega) (by omega)) hc
  rcases Nat.lt_or_ge pc 2432 with q | q
  · exact mDec1_ok (mDecL_ok _ mDecLaw_x2400 pc (by omega) (by omega)) hc
  rcases Nat.lt_or_ge pc 2464 with q | q
  · exact mDec1_ok (mDecL_ok _ mDecLaw_x2432 pc (by omega) (by omega)) hc
  rcases Nat.lt_or_ge pc 2496 with q | q
  · exact mDec1_ok (mDecL_ok _ mDecLaw_x2464 pc (by omega) (by omega)) hc
  rcases Nat.lt_or_ge pc 2528 with q | q
  · exact mDec1_ok (mDecL_ok _ mDecLaw_x2496 pc (by omega) (by omega)) hc
  rcases Nat.lt_or_ge pc 2560 with q | q
  · exact mDec1_ok (mDecL_ok _ mDecLaw_x2528 pc (by omega) (by omega)) hc
  rcases Nat.lt_or_ge pc 2592 with q | q
  · exact mDec1_ok (mDecL_ok _ mDecLaw_x2560 pc (by omega) (by omega)) hc
  rcases Nat.lt_or_ge pc 2624 with q | q
  · exact mDec1_ok (mDecL_ok _ mDecLaw_x2592 pc (by omega) (by omega)) hc
  rcases Nat.lt_or_ge pc 2656 with q | q
  · exact mDec1_ok (mDecL_ok _ mDecLaw_x2624 pc (by omega) (by omega)) hc
  rcases Nat.lt_or_ge pc 2688 with q | q
  · exact mDec1_ok (mDecL_ok _ mDecLaw_x2656 pc (by omega) (by omega)) hc
  rcases Nat.lt_or_ge pc 2720 with q | q
  · exact mDec1_ok (mDecL_ok _ mDecLaw_x2688 pc (by omega) (by omega)) hc
  rcases Nat.lt_or_ge pc 2752 with q | q
  · exact mDec1_ok (mDecL_ok _ mDecLaw_x2720 pc (by omega) (by omega)) hc
  rcases Nat.lt_or_ge pc 2784 with q | q
  · exact mDec1_ok (mDecL_ok _ mDecLaw_x2752 pc (by omega) (by omega)) hc
  rcases Nat.lt_or_ge pc 2816 with q | q
  · exact mDec1_ok (mDecL_ok _ mDecLaw_x2784 pc (by omega) (by omega)) hc
  rcases Nat.lt_or_ge pc 2848 with q | q
  · exact mDec1_ok (mDecL_ok _ mDecLaw_x2816 pc (by omega) (by omega)) hc
  rcases Nat.lt_or_ge pc 2880 with q | q
  · exact mDec1_ok (mDecL_ok _ mDecLaw_x2848 pc (by omega) (by omega)) hc
  rcases Nat.lt_or_ge pc 2912 with q | q
  · exact mDec1_ok (mDecL_ok _ mDecLaw_x2880 pc (by omega) (by omega)) hc
  rcases Nat.lt_or_ge pc 2944 with q | q
  · exact mDec1_ok (mDecL_ok _ mDecLaw_x2912 pc (by omega) (by omega)) hc
  rcases Nat.lt_or_ge pc 2976 with q | q
  · exact mDec1_ok (mDecL_ok _ mDecLaw_x2944 pc (by omega) (by omega)) hc
  rcases Nat.lt_or_ge pc 3008 with q | q
  · exact mDec1_ok (mDecL_ok _ mDecLaw_x2976 pc (by omega) (by omega)) hc
  rcases Nat.lt_or_ge pc 3040 with q | q
  · exact mDec1_ok (mDecL_ok _ mDecLaw_x3008 pc (by omega) (by omega)) hc
  rcases Nat.lt_or_ge pc 3072 with q | q
  · exact mDec1_ok (mDecL_ok _ mDecLaw_x3040 pc (by omega) (by omega)) hc
  rcases Nat.lt_or_ge pc 3104 with q | q
  · exact mDec1_ok (mDecL_ok _ mDecLaw_x3072 pc (by omega) (by omega)) hc
  rcases Nat.lt_or_ge pc 3136 with q | q
  · exact mDec1_ok (mDecL_ok _ mDecLaw_x3104 pc (by omega) (by omega)) hc
  rcases Nat.lt_or_ge pc 3168 with q | q
  · exact mDec1_ok (mDecL_ok _ mDecLaw_x3136 pc (by omega) (by omega)) hc
  rcases Nat.lt_or_ge pc 3200 with q | q
  · exact mDec1_ok (mDecL_ok _ mDecLaw_x3168 pc (by omega) (by omega)) hc
  rcases Nat.lt_or_ge pc 3232 with q | q
  · exact mDec1_ok (mDecL_ok _ mDecLaw_x3200 pc (by omega) (by omega)) hc
  rcases Nat.lt_or_ge pc 3264 with q | q
  · exact mDec1_ok (mDecL_ok _ mDecLaw_x3232 pc (by omega) (by omega)) hc
  rcases Nat.lt_or_ge pc 3296 with q | q
  · exact mDec1_ok (mDecL_ok _ mDecLaw_x3264 pc (by omega) (by omega)) hc
  rcases Nat.lt_or_ge pc 3328 with q | q
  · exact mDec1_ok (mDecL_ok _ mDecLaw_x3296 pc (by omega) (by omega)) hc
  rcases Nat.lt_or_ge pc 3360 with q | q
  · exact mDec1_ok (mDecL_ok _ mDecLaw_x3328 pc (by omega) (by omega)) hc
  omega
