/-! THE INSTRUCTIONS ARE WHAT THE BYTES SAY, by kernel computation. -/
def mLenI (i : Instr) : Nat := match i with
  | .bipush _ => 2
  | .iload _ => 2
  | .istore _ => 2
  | .aload _ => 2
  | .astore _ => 2
  | .fload _ => 2
  | .dload _ => 2
  | .fstore _ => 2
  | .dstore _ => 2
  | .ldc _ => 2
  | .newarray _ => 2
  | .sipush _ => 3
  | .iinc _ _ => 3
  | .goto _ => 3
  | .ifCond _ _ => 3
  | .if_icmp _ _ => 3
  | .getfield _ => 3
  | .putfield _ => 3
  | .getstatic _ => 3
  | .invokevirtual _ => 3
  | .invokestatic _ => 3
  | .invokespecial _ => 3
  | .new _ => 3
  | .anewarray _ => 3
  | .ldc_w _ => 3
  | _ => 1
def mSwi (i : Instr) : Bool := match i with
  | .tableswitch _ _ _ _ => true
  | _ => false
def mDec1 (y pc : Nat) : Bool := match cd y pc with
  | none => true
  | some ins => match decode (mByt y) pc with
    | .ok (i, n) => decide (i = ins) && (Nat.beq n (mLenI ins) || mSwi ins)
    | _ => false
def mDecL (y a : Nat) : Nat → Bool
  | 0 => true
  | n + 1 => mDec1 y (a + n) && mDecL y a n
theorem mDecL_ok {y a : Nat} : ∀ (n : Nat), mDecL y a n = true → ∀ pc, a ≤ pc → pc < a + n → mDec1 y pc = true
  | 0, _, pc, h1, h2 => by omega
  | n + 1, h, pc, h1, h2 => by
    unfold mDecL at h
    rw [Bool.and_eq_true] at h
    by_cases e : pc = a + n
    · rw [e]; exact h.1
    · exact mDecL_ok n h.2 pc h1 (by omega)
theorem mDec1_ok {y pc : Nat} {ins : Instr} (h : mDec1 y pc = true) (hc : cd y pc = some ins) : ∃ n, decode (mByt y) pc = .ok (ins, n) ∧ (n = mLenI ins ∨ mSwi ins = true) := by
  unfold mDec1 at h
  rw [hc] at h
  dsimp only at h
  split at h
  · rename_i i n he
    simp only [Bool.and_eq_true, decide_eq_true_eq, Bool.or_eq_true] at h
    obtain ⟨rfl, h2⟩ := h
    exact ⟨n, he, h2.imp Nat.eq_of_beq_eq_true id⟩
  · cases h
def mTop (y : Nat) : Nat := 32 * (mCode y).length
theorem cd_top {y pc : Nat} {ins : Instr} (hc : cd y pc = some ins) : pc < mTop y := by
  unfold mTop
  rcases Nat.lt_or_ge pc (32 * (mCode y).length) with h | h
  · exact h
  · unfold cd at hc
    rw [List.getD_eq_default (mCode y) [] (by omega)] at hc
    simp at hc
def mDecM (y : Nat) : Bool := mDecL y 0 (mTop y)
set_option maxRecDepth 100000 in
theorem mDecM_0 : ∀ y, y < 20 → mDecM (0 + y) = true := by decide +kernel
set_option maxRecDepth 100000 in
theorem mDecM_1 : ∀ y, y < 20 → mDecM (20 + y) = true := by decide +kernel
set_option maxRecDepth 100000 in
theorem mDecM_2 : ∀ y, y < 20 → mDecM (40 + y) = true := by decide +kernel
set_option maxRecDepth 100000 in
theorem mDecM_3 : ∀ y, y < 20 → mDecM (60 + y) = true := by decide +kernel
set_option maxRecDepth 100000 in
theorem mDecM_4 : ∀ y, y < 20 → mDecM (80 + y) = true := by decide +kernel
set_option maxRecDepth 100000 in
theorem mDecM_5 : ∀ y, y < 20 → mDecM (100 + y) = true := by decide +kernel
set_option maxRecDepth 100000 in
theorem mDecM_6 : ∀ y, y < 20 → mDecM (120 + y) = true := by decide +kernel
set_option maxRecDepth 100000 in
theorem mDecM_7 : ∀ y, y < 20 → mDecM (140 + y) = true := by decide +kernel
set_option maxRecDepth 100000 in
theorem mDecM_8 : ∀ y, y < 20 → mDecM (160 + y) = true := by decide +kernel
set_option maxRecDepth 100000 in
theorem mDecM_9 : ∀ y, y < 20 → mDecM (180 + y) = true := by decide +kernel
set_option maxRecDepth 100000 in
theorem mDecM_10 : ∀ y, y < 20 → mDecM (200 + y) = true := by decide +kernel
set_option maxRecDepth 100000 in
theorem mDecM_11 : ∀ y, y < 20 → mDecM (220 + y) = true := by decide +kernel
set_option maxRecDepth 100000 in
theorem mDecM_12 : ∀ y, y < 20 → mDecM (240 + y) = true := by decide +kernel
set_option maxRecDepth 100000 in
theorem mDecM_13 : ∀ y, y < 20 → mDecM (260 + y) = true := by decide +kernel
set_option maxRecDepth 100000 in
theorem mDecM_14 : ∀ y, y < 20 → mDecM (280 + y) = true := by decide +kernel
set_option maxRecDepth 100000 in
theorem mDecM_15 : ∀ y, y < 20 → mDecM (300 + y) = true := by decide +kernel
set_option maxRecDepth 100000 in
theorem mDecM_16 : ∀ y, y < 20 → mDecM (320 + y) = true := by decide +kernel
set_option maxRecDepth 100000 in
theorem mDecM_17 : ∀ y, y < 17 → mDecM (340 + y) = true := by decide +kernel
set_option maxRecDepth 100000 in
theorem mDecLaw_0 : mDecL 357 0 256 = true := by decide +kernel
set_option maxRecDepth 100000 in
theorem mDecLaw_1 : mDecL 357 256 256 = true := by decide +kernel
set_option maxRecDepth 100000 in
theorem mDecLaw_2 : mDecL 357 512 256 = true := by decide +kernel
set_option maxRecDepth 100000 in
theorem mDecLaw_3 : mDecL 357 768 256 = true := by decide +kernel
set_option maxRecDepth 100000 in
theorem mDecLaw_4 : mDecL 357 1024 256 = true := by decide +kernel
set_option maxRecDepth 100000 in
theorem mDecLaw_5 : mDecL 357 1280 256 = true := by decide +kernel
set_option maxRecDepth 100000 in
theorem mDecLaw_6 : mDecL 357 1536 256 = true := by decide +kernel
set_option maxRecDepth 100000 in
theorem mDecLaw_7 : mDecL 357 1792 256 = true := by decide +kernel
set_option maxRecDepth 100000 in
theorem mDecLaw_8 : mDecL 357 2048 256 = true := by decide +kernel
set_option maxRecDepth 100000 in
theorem mDecLaw_9 : mDecL 357 2304 256 = true := by decide +kernel
set_option maxRecDepth 100000 in
theorem mDecLaw_10 : mDecL 357 2560 256 = true := by decide +kernel
set_option maxRecDepth 100000 in
theorem mDecLaw_11 : mDecL 357 2816 256 = true := by decide +kernel
set_option maxRecDepth 100000 in
theorem mDecLaw_12 : mDecL 357 3072 256 = true := by decide +kernel
set_option maxRecDepth 100000 in
theorem mDecLaw_13 : mDecL 357 3328 32 = true := by decide +kernel
theorem mDec_all {y pc : Nat} {ins : Instr} (hy : y < 358) (hc : cd y pc = some ins) : ∃ n, decode (mByt y) pc = .ok (ins, n) ∧ (n = mLenI ins ∨ mSwi ins = true) := by
  have ht := cd_top hc
  rcases Nat.lt_or_ge y 20 with q | q
  · have := mDecM_0 (y - 0) (by omega)
    rw [show 0 + (y - 0) = y by omega] at this
    exact mDec1_ok (mDecL_ok _ this pc (Nat.zero_le _) (by omega)) hc
  rcases Nat.lt_or_ge y 40 with q | q
  · have := mDecM_1 (y - 20) (by omega)
    rw [show 20 + (y - 20) = y by omega] at this
    exact mDec1_ok (mDecL_ok _ this pc (Nat.zero_le _) (by omega)) hc
  rcases Nat.lt_or_ge y 60 with q | q
  · have := mDecM_2 (y - 40) (by omega)
    rw [show 40 + (y - 40) = y by omega] at this
    exact mDec1_ok (mDecL_ok _ this pc (Nat.zero_le _) (by omega)) hc
  rcases Nat.lt_or_ge y 80 with q | q
  · have := mDecM_3 (y - 60) (by omega)
    rw [show 60 + (y - 60) = y by omega] at this
    exact mDec1_ok (mDecL_ok _ this pc (Nat.zero_le _) (by omega)) hc
  rcases Nat.lt_or_ge y 100 with q | q
  · have := mDecM_4 (y - 80) (by omega)
    rw [show 80 + (y - 80) = y by omega] at this
    exact mDec1_ok (mDecL_ok _ this pc (Nat.zero_le _) (by omega)) hc
  rcases Nat.lt_or_ge y 120 with q | q
  · have := mDecM_5 (y - 100) (by omega)
    rw [show 100 + (y - 100) = y by omega] at this
    exact mDec1_ok (mDecL_ok _ this pc (Nat.zero_le _) (by omega)) hc
  rcases Nat.lt_or_ge y 140 with q | q
  · have := mDecM_6 (y - 120) (by omega)
    rw [show 120 + (y - 120) = y by omega] at this
    exact mDec1_ok (mDecL_ok _ this pc (Nat.zero_le _) (by omega)) hc
  rcases Nat.lt_or_ge y 160 with q | q
  · have := mDecM_7 (y - 140) (by omega)
    rw [show 140 + (y - 140) = y by omega] at this
    exact mDec1_ok (mDecL_ok _ this pc (Nat.zero_le _) (by omega)) hc
  rcases Nat.lt_or_ge y 180 with q | q
  · have := mDecM_8 (y - 160) (by omega)
    rw [show 160 + (y - 160) = y by omega] at this
    exact mDec1_ok (mDecL_ok _ this pc (Nat.zero_le _) (by omega)) hc
  rcases Nat.lt_or_ge y 200 with q | q
  · have := mDecM_9 (y - 180) (by omega)
    rw [show 180 + (y - 180) = y by omega] at this
    exact mDec1_ok (mDecL_ok _ this pc (Nat.zero_le _) (by omega)) hc
  rcases Nat.lt_or_ge y 220 with q | q
  · have := mDecM_10 (y - 200) (by omega)
    rw [show 200 + (y - 200) = y by omega] at this
    exact mDec1_ok (mDecL_ok _ this pc (Nat.zero_le _) (by omega)) hc
  rcases Nat.lt_or_ge y 240 with q | q
  · have := mDecM_11 (y - 220) (by omega)
    rw [show 220 + (y - 220) = y by omega] at this
    exact mDec1_ok (mDecL_ok _ this pc (Nat.zero_le _) (by omega)) hc
  rcases Nat.lt_or_ge y 260 with q | q
  · have := mDecM_12 (y - 240) (by omega)
    rw [show 240 + (y - 240) = y by omega] at this
    exact mDec1_ok (mDecL_ok _ this pc (Nat.zero_le _) (by omega)) hc
  rcases Nat.lt_or_ge y 280 with q | q
  · have := mDecM_13 (y - 260) (by omega)
    rw [show 260 + (y - 260) = y by omega] at this
    exact mDec1_ok (mDecL_ok _ this pc (Nat.zero_le _) (by omega)) hc
  rcases Nat.lt_or_ge y 300 with q | q
  · have := mDecM_14 (y - 280) (by omega)
    rw [show 280 + (y - 280) = y by omega] at this
    exact mDec1_ok (mDecL_ok _ this pc (Nat.zero_le _) (by omega)) hc
  rcases Nat.lt_or_ge y 320 with q | q
  · have := mDecM_15 (y - 300) (by omega)
    rw [show 300 + (y - 300) = y by omega] at this
    exact mDec1_ok (mDecL_ok _ this pc (Nat.zero_le _) (by omega)) hc
  rcases Nat.lt_or_ge y 340 with q | q
  · have := mDecM_16 (y - 320) (by omega)
    rw [show 320 + (y - 320) = y by omega] at this
    exact mDec1_ok (mDecL_ok _ this pc (Nat.zero_le _) (by omega)) hc
  rcases Nat.lt_or_ge y 357 with q | q
  · have := mDecM_17 (y - 340) (by omega)
    rw [show 340 + (y - 340) = y by omega] at this
    exact mDec1_ok (mDecL_ok _ this pc (Nat.zero_le _) (by omega)) hc
  obtain rfl : y = 357 := by omega
  have ht : pc < 3360 := ht
  rcases Nat.lt_or_ge pc 256 with q | q
  · exact mDec1_ok (mDecL_ok _ mDecLaw_0 pc (by omega) (by omega)) hc
  rcases Nat.lt_or_ge pc 512 with q | q
  · exact mDec1_ok (mDecL_ok _ mDecLaw_1 pc (by omega) (by omega)) hc
  rcases Nat.lt_or_ge pc 768 with q | q
  · exact mDec1_ok (mDecL_ok _ mDecLaw_2 pc (by omega) (by omega)) hc
  rcases Nat.lt_or_ge pc 1024 with q | q
  · exact mDec1_ok (mDecL_ok _ mDecLaw_3 pc (by omega) (by omega)) hc
  rcases Nat.lt_or_ge pc 1280 with q | q
  · exact mDec1_ok (mDecL_ok _ mDecLaw_4 pc (by omega) (by omega)) hc
  rcases Nat.lt_or_ge pc 1536 with q | q
  · exact mDec1_ok (mDecL_ok _ mDecLaw_5 pc (by omega) (by omega)) hc
  rcases Nat.lt_or_ge pc 1792 with q | q
  · exact mDec1_ok (mDecL_ok _ mDecLaw_6 pc (by omega) (by omega)) hc
  rcases Nat.lt_or_ge pc 2048 with q | q
  · exact mDec1_ok (mDecL_ok _ mDecLaw_7 pc (by omega) (by omega)) hc
  rcases Nat.lt_or_ge pc 2304 with q | q
  · exact mDec1_ok (mDecL_ok _ mDecLaw_8 pc (by omega) (by omega)) hc
  rcases Nat.lt_or_ge pc 2560 with q | q
  · exact mDec1_ok (mDecL_ok _ mDecLaw_9 pc (by omega) (by omega)) hc
  rcases Nat.lt_or_ge pc 2816 with q | q
  · exact mDec1_ok (mDecL_ok _ mDecLaw_10 pc (by omega) (by omega)) hc
  rcases Nat.lt_or_ge pc 3072 with q | q
  · exact mDec1_ok (mDecL_ok _ mDecLaw_11 pc (by omega) (by omega)) hc
  rcases Nat.lt_or_ge pc 3328 with q | q
  · exact mDec1_ok (mDecL_ok _ mDecLaw_12 pc (by omega) (by omega)) hc
  rcases Nat.lt_or_ge pc 3360 with q | q
  · exact mDec1_ok (mDecL_ok _ mDecLaw_13 pc (by omega) (by omega)) hc
  omega
