/-! decode, all -/
theorem mDec_all {y pc : Nat} {ins : Instr} (hy : y < 246) (hc : cd y pc = some ins) : ∃ n, decode (mByt y) pc = .ok (ins, n) ∧ (n = mLenI ins ∨ mSwi ins = true) := by
  have ht := cd_top hc
  rcases Nat.lt_or_ge y 20 with q | q
  · have := mDecM_0 (y - 0) (by omega)
    rw [show 0 + (y - 0) = y by omega] at this
    exact mDec1_ok (mDecL_ok _ this pc (Nat.zero_le _) (by omega)) hc
  rcases Nat.lt_or_ge y 40 with q | q
  · have := mDecM_1 (y - 20) (by omega)
    rw [show 20 + (y - 20) = y by omega] at this
    exact mDec1_ok (mDecL_ok _ this pc (Nat.zero_le _) (by omega)) hc
  rcases Nat.lt_or_ge y 60 with q | q
  · have := mDecM_2 (y - 40) (by omega)
    rw [show 40 + (y - 40) = y by omega] at this
    exact mDec1_ok (mDecL_ok _ this pc (Nat.zero_le _) (by omega)) hc
  rcases Nat.lt_or_ge y 80 with q | q
  · have := mDecM_3 (y - 60) (by omega)
    rw [show 60 + (y - 60) = y by omega] at this
    exact mDec1_ok (mDecL_ok _ this pc (Nat.zero_le _) (by omega)) hc
  rcases Nat.lt_or_ge y 100 with q | q
  · have := mDecM_4 (y - 80) (by omega)
    rw [show 80 + (y - 80) = y by omega] at this
    exact mDec1_ok (mDecL_ok _ this pc (Nat.zero_le _) (by omega)) hc
  rcases Nat.lt_or_ge y 120 with q | q
  · have := mDecM_5 (y - 100) (by omega)
    rw [show 100 + (y - 100) = y by omega] at this
    exact mDec1_ok (mDecL_ok _ this pc (Nat.zero_le _) (by omega)) hc
  rcases Nat.lt_or_ge y 140 with q | q
  · have := mDecM_6 (y - 120) (by omega)
    rw [show 120 + (y - 120) = y by omega] at this
    exact mDec1_ok (mDecL_ok _ this pc (Nat.zero_le _) (by omega)) hc
  rcases Nat.lt_or_ge y 160 with q | q
  · have := mDecM_7 (y - 140) (by omega)
    rw [show 140 + (y - 140) = y by omega] at this
    exact mDec1_ok (mDecL_ok _ this pc (Nat.zero_le _) (by omega)) hc
  rcases Nat.lt_or_ge y 180 with q | q
  · have := mDecM_8 (y - 160) (by omega)
    rw [show 160 + (y - 160) = y by omega] at this
    exact mDec1_ok (mDecL_ok _ this pc (Nat.zero_le _) (by omega)) hc
  rcases Nat.lt_or_ge y 200 with q | q
  · have := mDecM_9 (y - 180) (by omega)
    rw [show 180 + (y - 180) = y by omega] at this
    exact mDec1_ok (mDecL_ok _ this pc (Nat.zero_le _) (by omega)) hc
  rcases Nat.lt_or_ge y 220 with q | q
  · have := mDecM_10 (y - 200) (by omega)
    rw [show 200 + (y - 200) = y by omega] at this
    exact mDec1_ok (mDecL_ok _ this pc (Nat.zero_le _) (by omega)) hc
  rcases Nat.lt_or_ge y 240 with q | q
  · have := mDecM_11 (y - 220) (by omega)
    rw [show 220 + (y - 220) = y by omega] at this
    exact mDec1_ok (mDecL_ok _ this pc (Nat.zero_le _) (by omega)) hc
  have := mDecM_12 (y - 240) (by omega)
  rw [show 240 + (y - 240) = y by omega] at this
  exact mDec1_ok (mDecL_ok _ this pc (Nat.zero_le _) (by omega)) hc
