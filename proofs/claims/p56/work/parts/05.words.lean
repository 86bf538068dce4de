/-! THE METHODS BY THEIR WORDS. -/
set_option maxRecDepth 100000 in
theorem mWord_0 : ∀ y, y < 8 → lw_tbl[mWP (0 + y)]? = some (mWord (0 + y)) := by decide +kernel
set_option maxRecDepth 100000 in
theorem mWord_1 : ∀ y, y < 8 → lw_tbl[mWP (8 + y)]? = some (mWord (8 + y)) := by decide +kernel
set_option maxRecDepth 100000 in
theorem mWord_2 : ∀ y, y < 8 → lw_tbl[mWP (16 + y)]? = some (mWord (16 + y)) := by decide +kernel
set_option maxRecDepth 100000 in
theorem mWord_3 : ∀ y, y < 8 → lw_tbl[mWP (24 + y)]? = some (mWord (24 + y)) := by decide +kernel
set_option maxRecDepth 100000 in
theorem mWord_4 : ∀ y, y < 8 → lw_tbl[mWP (32 + y)]? = some (mWord (32 + y)) := by decide +kernel
set_option maxRecDepth 100000 in
theorem mWord_5 : ∀ y, y < 8 → lw_tbl[mWP (40 + y)]? = some (mWord (40 + y)) := by decide +kernel
set_option maxRecDepth 100000 in
theorem mWord_6 : ∀ y, y < 8 → lw_tbl[mWP (48 + y)]? = some (mWord (48 + y)) := by decide +kernel
set_option maxRecDepth 100000 in
theorem mWord_7 : ∀ y, y < 8 → lw_tbl[mWP (56 + y)]? = some (mWord (56 + y)) := by decide +kernel
set_option maxRecDepth 100000 in
theorem mWord_8 : ∀ y, y < 8 → lw_tbl[mWP (64 + y)]? = some (mWord (64 + y)) := by decide +kernel
set_option maxRecDepth 100000 in
theorem mWord_9 : ∀ y, y < 8 → lw_tbl[mWP (72 + y)]? = some (mWord (72 + y)) := by decide +kernel
set_option maxRecDepth 100000 in
theorem mWord_10 : ∀ y, y < 8 → lw_tbl[mWP (80 + y)]? = some (mWord (80 + y)) := by decide +kernel
set_option maxRecDepth 100000 in
theorem mWord_11 : ∀ y, y < 8 → lw_tbl[mWP (88 + y)]? = some (mWord (88 + y)) := by decide +kernel
set_option maxRecDepth 100000 in
theorem mWord_12 : ∀ y, y < 8 → lw_tbl[mWP (96 + y)]? = some (mWord (96 + y)) := by decide +kernel
set_option maxRecDepth 100000 in
theorem mWord_13 : ∀ y, y < 8 → lw_tbl[mWP (104 + y)]? = some (mWord (104 + y)) := by decide +kernel
set_option maxRecDepth 100000 in
theorem mWord_14 : ∀ y, y < 8 → lw_tbl[mWP (112 + y)]? = some (mWord (112 + y)) := by decide +kernel
set_option maxRecDepth 100000 in
theorem mWord_15 : ∀ y, y < 8 → lw_tbl[mWP (120 + y)]? = some (mWord (120 + y)) := by decide +kernel
set_option maxRecDepth 100000 in
theorem mWord_16 : ∀ y, y < 8 → lw_tbl[mWP (128 + y)]? = some (mWord (128 + y)) := by decide +kernel
set_option maxRecDepth 100000 in
theorem mWord_17 : ∀ y, y < 8 → lw_tbl[mWP (136 + y)]? = some (mWord (136 + y)) := by decide +kernel
set_option maxRecDepth 100000 in
theorem mWord_18 : ∀ y, y < 8 → lw_tbl[mWP (144 + y)]? = some (mWord (144 + y)) := by decide +kernel
set_option maxRecDepth 100000 in
theorem mWord_19 : ∀ y, y < 8 → lw_tbl[mWP (152 + y)]? = some (mWord (152 + y)) := by decide +kernel
set_option maxRecDepth 100000 in
theorem mWord_20 : ∀ y, y < 8 → lw_tbl[mWP (160 + y)]? = some (mWord (160 + y)) := by decide +kernel
set_option maxRecDepth 100000 in
theorem mWord_21 : ∀ y, y < 8 → lw_tbl[mWP (168 + y)]? = some (mWord (168 + y)) := by decide +kernel
set_option maxRecDepth 100000 in
theorem mWord_22 : ∀ y, y < 8 → lw_tbl[mWP (176 + y)]? = some (mWord (176 + y)) := by decide +kernel
set_option maxRecDepth 100000 in
theorem mWord_23 : ∀ y, y < 8 → lw_tbl[mWP (184 + y)]? = some (mWord (184 + y)) := by decide +kernel
set_option maxRecDepth 100000 in
theorem mWord_24 : ∀ y, y < 8 → lw_tbl[mWP (192 + y)]? = some (mWord (192 + y)) := by decide +kernel
set_option maxRecDepth 100000 in
theorem mWord_25 : ∀ y, y < 8 → lw_tbl[mWP (200 + y)]? = some (mWord (200 + y)) := by decide +kernel
set_option maxRecDepth 100000 in
theorem mWord_26 : ∀ y, y < 8 → lw_tbl[mWP (208 + y)]? = some (mWord (208 + y)) := by decide +kernel
set_option maxRecDepth 100000 in
theorem mWord_27 : ∀ y, y < 8 → lw_tbl[mWP (216 + y)]? = some (mWord (216 + y)) := by decide +kernel
set_option maxRecDepth 100000 in
theorem mWord_28 : ∀ y, y < 8 → lw_tbl[mWP (224 + y)]? = some (mWord (224 + y)) := by decide +kernel
set_option maxRecDepth 100000 in
theorem mWord_29 : ∀ y, y < 8 → lw_tbl[mWP (232 + y)]? = some (mWord (232 + y)) := by decide +kernel
set_option maxRecDepth 100000 in
theorem mWord_30 : ∀ y, y < 5 → lw_tbl[mWP (240 + y)]? = some (mWord (240 + y)) := by decide +kernel
theorem mWord_in {y : Nat} (h : y < 245) : mWord y ∈ gTbl := by
  have hg : goodWord (mWord y) = true := by
    unfold mWord
    cases mHH y <;> rfl
  refine gTbl_of (mWP y) ?_ hg
  rcases Nat.lt_or_ge y 8 with q | q
  · have := mWord_0 (y - 0) (by omega)
    rwa [show 0 + (y - 0) = y by omega] at this
  rcases Nat.lt_or_ge y 16 with q | q
  · have := mWord_1 (y - 8) (by omega)
    rwa [show 8 + (y - 8) = y by omega] at this
  rcases Nat.lt_or_ge y 24 with q | q
  · have := mWord_2 (y - 16) (by omega)
    rwa [show 16 + (y - 16) = y by omega] at this
  rcases Nat.lt_or_ge y 32 with q | q
  · have := mWord_3 (y - 24) (by omega)
    rwa [show 24 + (y - 24) = y by omega] at this
  rcases Nat.lt_or_ge y 40 with q | q
  · have := mWord_4 (y - 32) (by omega)
    rwa [show 32 + (y - 32) = y by omega] at this
  rcases Nat.lt_or_ge y 48 with q | q
  · have := mWord_5 (y - 40) (by omega)
    rwa [show 40 + (y - 40) = y by omega] at this
  rcases Nat.lt_or_ge y 56 with q | q
  · have := mWord_6 (y - 48) (by omega)
    rwa [show 48 + (y - 48) = y by omega] at this
  rcases Nat.lt_or_ge y 64 with q | q
  · have := mWord_7 (y - 56) (by omega)
    rwa [show 56 + (y - 56) = y by omega] at this
  rcases Nat.lt_or_ge y 72 with q | q
  · have := mWord_8 (y - 64) (by omega)
    rwa [show 64 + (y - 64) = y by omega] at this
  rcases Nat.lt_or_ge y 80 with q | q
  · have := mWord_9 (y - 72) (by omega)
    rwa [show 72 + (y - 72) = y by omega] at this
  rcases Nat.lt_or_ge y 88 with q | q
  · have := mWord_10 (y - 80) (by omega)
    rwa [show 80 + (y - 80) = y by omega] at this
  rcases Nat.lt_or_ge y 96 with q | q
  · have := mWord_11 (y - 88) (by omega)
    rwa [show 88 + (y - 88) = y by omega] at this
  rcases Nat.lt_or_ge y 104 with q | q
  · have := mWord_12 (y - 96) (by omega)
    rwa [show 96 + (y - 96) = y by omega] at this
  rcases Nat.lt_or_ge y 112 with q | q
  · have := mWord_13 (y - 104) (by omega)
    rwa [show 104 + (y - 104) = y by omega] at this
  rcases Nat.lt_or_ge y 120 with q | q
  · have := mWord_14 (y - 112) (by omega)
    rwa [show 112 + (y - 112) = y by omega] at this
  rcases Nat.lt_or_ge y 128 with q | q
  · have := mWord_15 (y - 120) (by omega)
    rwa [show 120 + (y - 120) = y by omega] at this
  rcases Nat.lt_or_ge y 136 with q | q
  · have := mWord_16 (y - 128) (by omega)
    rwa [show 128 + (y - 128) = y by omega] at this
  rcases Nat.lt_or_ge y 144 with q | q
  · have := mWord_17 (y - 136) (by omega)
    rwa [show 136 + (y - 136) = y by omega] at this
  rcases Nat.lt_or_ge y 152 with q | q
  · have := mWord_18 (y - 144) (by omega)
    rwa [show 144 + (y - 144) = y by omega] at this
  rcases Nat.lt_or_ge y 160 with q | q
  · have := mWord_19 (y - 152) (by omega)
    rwa [show 152 + (y - 152) = y by omega] at this
  rcases Nat.lt_or_ge y 168 with q | q
  · have := mWord_20 (y - 160) (by omega)
    rwa [show 160 + (y - 160) = y by omega] at this
  rcases Nat.lt_or_ge y 176 with q | q
  · have := mWord_21 (y - 168) (by omega)
    rwa [show 168 + (y - 168) = y by omega] at this
  rcases Nat.lt_or_ge y 184 with q | q
  · have := mWord_22 (y - 176) (by omega)
    rwa [show 176 + (y - 176) = y by omega] at this
  rcases Nat.lt_or_ge y 192 with q | q
  · have := mWord_23 (y - 184) (by omega)
    rwa [show 184 + (y - 184) = y by omega] at this
  rcases Nat.lt_or_ge y 200 with q | q
  · have := mWord_24 (y - 192) (by omega)
    rwa [show 192 + (y - 192) = y by omega] at this
  rcases Nat.lt_or_ge y 208 with q | q
  · have := mWord_25 (y - 200) (by omega)
    rwa [show 200 + (y - 200) = y by omega] at this
  rcases Nat.lt_or_ge y 216 with q | q
  · have := mWord_26 (y - 208) (by omega)
    rwa [show 208 + (y - 208) = y by omega] at this
  rcases Nat.lt_or_ge y 224 with q | q
  · have := mWord_27 (y - 216) (by omega)
    rwa [show 216 + (y - 216) = y by omega] at this
  rcases Nat.lt_or_ge y 232 with q | q
  · have := mWord_28 (y - 224) (by omega)
    rwa [show 224 + (y - 224) = y by omega] at this
  rcases Nat.lt_or_ge y 240 with q | q
  · have := mWord_29 (y - 232) (by omega)
    rwa [show 232 + (y - 232) = y by omega] at this
  rcases Nat.lt_or_ge y 245 with q | q
  · have := mWord_30 (y - 240) (by omega)
    rwa [show 240 + (y - 240) = y by omega] at this
  omega
