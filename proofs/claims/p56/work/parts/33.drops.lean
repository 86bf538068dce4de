/-! A PAIR, A FLAT CARD leaves the grid; a card is dropped. -/
theorem ccNinj {a b : Nat} (h₁ : N a = N b) (h₂ : a < 2147483648) (h₃ : b < 2147483648) : a = b := (N_eq h₂ h₃).mp h₁
theorem ccE204a {mi : mMi} {rs : mRs} {k : Nat} (h₁ : k < 40) : F204 (N k) (N 0) mi rs = rI (mi 4 0 3 (8 + 6 * k)) mi rs := by
  unfold F204
  simp (disch := omega) only [true_and, and_true, false_and, and_false, if_true, if_false, ccIte, ccBi, ccBiX, ccBv, ccBvX, ccZ0, ccZ1, ccTZ, ccT0, ccT1, Bool.or_false, ccMckT, ccMckIn, ne_eq, not_true_eq_false, not_false_eq_true, if_pos, if_neg, reduceIte, eq_self, Bool.false_eq_true, Bool.true_eq_false, mix_N, N_add, N_mul, N_sub, N_div, ccMod, N_lt, N_le, N_eq, ccNm, ccMN, ccNm2, ccM2N, ccMM2, ccM2M, ccMlt, ccMle, ccNltM, ccNleM, ccM2lt, ccM2le, ccNlt2, ccNle2, Nat.reduceAdd, Nat.reduceMul, Nat.reduceSub, Nat.reduceLT, Nat.reduceLeDiff, Nat.reduceEqDiff, Nat.reduceDiv, Nat.reduceMod]
  rfl
theorem ccE204b {mi : mMi} {rs : mRs} {k : Nat} (h₁ : k < 40) : F204 (N k) (N 1) mi rs = rI (mi 4 0 3 (9 + 6 * k)) mi rs := by
  have e₁ : 8 + 6 * k + 1 = 9 + 6 * k := by omega
  unfold F204
  simp (disch := omega) only [true_and, and_true, false_and, and_false, if_true, if_false, ccIte, ccBi, ccBiX, ccBv, ccBvX, ccZ0, ccZ1, ccTZ, ccT0, ccT1, Bool.or_false, ccMckT, ccMckIn, ne_eq, not_true_eq_false, not_false_eq_true, if_pos, if_neg, reduceIte, eq_self, Bool.false_eq_true, Bool.true_eq_false, mix_N, N_add, N_mul, N_sub, N_div, ccMod, N_lt, N_le, N_eq, ccNm, ccMN, ccNm2, ccM2N, ccMM2, ccM2M, ccMlt, ccMle, ccNltM, ccNleM, ccM2lt, ccM2le, ccNlt2, ccNle2, Nat.reduceAdd, Nat.reduceMul, Nat.reduceSub, Nat.reduceLT, Nat.reduceLeDiff, Nat.reduceEqDiff, Nat.reduceDiv, Nat.reduceMod, e₁]
theorem ccE204c {mi : mMi} {rs : mRs} {k : Nat} (h₁ : k < 40) : F204 (N k) (N 2) mi rs = rI (mi 4 0 3 (10 + 6 * k)) mi rs := by
  have e₁ : 8 + 6 * k + 2 = 10 + 6 * k := by omega
  unfold F204
  simp (disch := omega) only [true_and, and_true, false_and, and_false, if_true, if_false, ccIte, ccBi, ccBiX, ccBv, ccBvX, ccZ0, ccZ1, ccTZ, ccT0, ccT1, Bool.or_false, ccMckT, ccMckIn, ne_eq, not_true_eq_false, not_false_eq_true, if_pos, if_neg, reduceIte, eq_self, Bool.false_eq_true, Bool.true_eq_false, mix_N, N_add, N_mul, N_sub, N_div, ccMod, N_lt, N_le, N_eq, ccNm, ccMN, ccNm2, ccM2N, ccMM2, ccM2M, ccMlt, ccMle, ccNltM, ccNleM, ccM2lt, ccM2le, ccNlt2, ccNle2, Nat.reduceAdd, Nat.reduceMul, Nat.reduceSub, Nat.reduceLT, Nat.reduceLeDiff, Nat.reduceEqDiff, Nat.reduceDiv, Nat.reduceMod, e₁]
theorem ccE204d {mi : mMi} {rs : mRs} {k : Nat} (h₁ : k < 40) : F204 (N k) (N 3) mi rs = rI (mi 4 0 3 (11 + 6 * k)) mi rs := by
  have e₁ : 8 + 6 * k + 3 = 11 + 6 * k := by omega
  unfold F204
  simp (disch := omega) only [true_and, and_true, false_and, and_false, if_true, if_false, ccIte, ccBi, ccBiX, ccBv, ccBvX, ccZ0, ccZ1, ccTZ, ccT0, ccT1, Bool.or_false, ccMckT, ccMckIn, ne_eq, not_true_eq_false, not_false_eq_true, if_pos, if_neg, reduceIte, eq_self, Bool.false_eq_true, Bool.true_eq_false, mix_N, N_add, N_mul, N_sub, N_div, ccMod, N_lt, N_le, N_eq, ccNm, ccMN, ccNm2, ccM2N, ccMM2, ccM2M, ccMlt, ccMle, ccNltM, ccNleM, ccM2lt, ccM2le, ccNlt2, ccNle2, Nat.reduceAdd, Nat.reduceMul, Nat.reduceSub, Nat.reduceLT, Nat.reduceLeDiff, Nat.reduceEqDiff, Nat.reduceDiv, Nat.reduceMod, e₁]
theorem ccE204e {mi : mMi} {rs : mRs} {k : Nat} (h₁ : k < 40) : F204 (N k) (N 4) mi rs = rI (mi 4 0 3 (12 + 6 * k)) mi rs := by
  have e₁ : 8 + 6 * k + 4 = 12 + 6 * k := by omega
  unfold F204
  simp (disch := omega) only [true_and, and_true, false_and, and_false, if_true, if_false, ccIte, ccBi, ccBiX, ccBv, ccBvX, ccZ0, ccZ1, ccTZ, ccT0, ccT1, Bool.or_false, ccMckT, ccMckIn, ne_eq, not_true_eq_false, not_false_eq_true, if_pos, if_neg, reduceIte, eq_self, Bool.false_eq_true, Bool.true_eq_false, mix_N, N_add, N_mul, N_sub, N_div, ccMod, N_lt, N_le, N_eq, ccNm, ccMN, ccNm2, ccM2N, ccMM2, ccM2M, ccMlt, ccMle, ccNltM, ccNleM, ccM2lt, ccM2le, ccNlt2, ccNle2, Nat.reduceAdd, Nat.reduceMul, Nat.reduceSub, Nat.reduceLT, Nat.reduceLeDiff, Nat.reduceEqDiff, Nat.reduceDiv, Nat.reduceMod, e₁]
theorem ccE195a {mi : mMi} {rs : mRs} {k : Nat} {v : Int32} (h₁ : k < 40) : F195 (N k) (N 0) v mi rs = rV (mset mi 4 0 3 (8 + 6 * k) v) rs := by
  unfold F195
  simp (disch := omega) only [true_and, and_true, false_and, and_false, if_true, if_false, ccIte, ccBi, ccBiX, ccBv, ccBvX, ccZ0, ccZ1, ccTZ, ccT0, ccT1, Bool.or_false, ccMckT, ccMckIn, ne_eq, not_true_eq_false, not_false_eq_true, if_pos, if_neg, reduceIte, eq_self, Bool.false_eq_true, Bool.true_eq_false, mix_N, N_add, N_mul, N_sub, N_div, ccMod, N_lt, N_le, N_eq, ccNm, ccMN, ccNm2, ccM2N, ccMM2, ccM2M, ccMlt, ccMle, ccNltM, ccNleM, ccM2lt, ccM2le, ccNlt2, ccNle2, Nat.reduceAdd, Nat.reduceMul, Nat.reduceSub, Nat.reduceLT, Nat.reduceLeDiff, Nat.reduceEqDiff, Nat.reduceDiv, Nat.reduceMod]
  rfl
theorem ccE195b {mi : mMi} {rs : mRs} {k : Nat} {v : Int32} (h₁ : k < 40) : F195 (N k) (N 1) v mi rs = rV (mset mi 4 0 3 (9 + 6 * k) v) rs := by
  have e₁ : 8 + 6 * k + 1 = 9 + 6 * k := by omega
  unfold F195
  simp (disch := omega) only [true_and, and_true, false_and, and_false, if_true, if_false, ccIte, ccBi, ccBiX, ccBv, ccBvX, ccZ0, ccZ1, ccTZ, ccT0, ccT1, Bool.or_false, ccMckT, ccMckIn, ne_eq, not_true_eq_false, not_false_eq_true, if_pos, if_neg, reduceIte, eq_self, Bool.false_eq_true, Bool.true_eq_false, mix_N, N_add, N_mul, N_sub, N_div, ccMod, N_lt, N_le, N_eq, ccNm, ccMN, ccNm2, ccM2N, ccMM2, ccM2M, ccMlt, ccMle, ccNltM, ccNleM, ccM2lt, ccM2le, ccNlt2, ccNle2, Nat.reduceAdd, Nat.reduceMul, Nat.reduceSub, Nat.reduceLT, Nat.reduceLeDiff, Nat.reduceEqDiff, Nat.reduceDiv, Nat.reduceMod, e₁]
theorem ccE195c {mi : mMi} {rs : mRs} {k : Nat} {v : Int32} (h₁ : k < 40) : F195 (N k) (N 2) v mi rs = rV (mset mi 4 0 3 (10 + 6 * k) v) rs := by
  have e₁ : 8 + 6 * k + 2 = 10 + 6 * k := by omega
  unfold F195
  simp (disch := omega) only [true_and, and_true, false_and, and_false, if_true, if_false, ccIte, ccBi, ccBiX, ccBv, ccBvX, ccZ0, ccZ1, ccTZ, ccT0, ccT1, Bool.or_false, ccMckT, ccMckIn, ne_eq, not_true_eq_false, not_false_eq_true, if_pos, if_neg, reduceIte, eq_self, Bool.false_eq_true, Bool.true_eq_false, mix_N, N_add, N_mul, N_sub, N_div, ccMod, N_lt, N_le, N_eq, ccNm, ccMN, ccNm2, ccM2N, ccMM2, ccM2M, ccMlt, ccMle, ccNltM, ccNleM, ccM2lt, ccM2le, ccNlt2, ccNle2, Nat.reduceAdd, Nat.reduceMul, Nat.reduceSub, Nat.reduceLT, Nat.reduceLeDiff, Nat.reduceEqDiff, Nat.reduceDiv, Nat.reduceMod, e₁]
theorem ccE195d {mi : mMi} {rs : mRs} {k : Nat} {v : Int32} (h₁ : k < 40) : F195 (N k) (N 3) v mi rs = rV (mset mi 4 0 3 (11 + 6 * k) v) rs := by
  have e₁ : 8 + 6 * k + 3 = 11 + 6 * k := by omega
  unfold F195
  simp (disch := omega) only [true_and, and_true, false_and, and_false, if_true, if_false, ccIte, ccBi, ccBiX, ccBv, ccBvX, ccZ0, ccZ1, ccTZ, ccT0, ccT1, Bool.or_false, ccMckT, ccMckIn, ne_eq, not_true_eq_false, not_false_eq_true, if_pos, if_neg, reduceIte, eq_self, Bool.false_eq_true, Bool.true_eq_false, mix_N, N_add, N_mul, N_sub, N_div, ccMod, N_lt, N_le, N_eq, ccNm, ccMN, ccNm2, ccM2N, ccMM2, ccM2M, ccMlt, ccMle, ccNltM, ccNleM, ccM2lt, ccM2le, ccNlt2, ccNle2, Nat.reduceAdd, Nat.reduceMul, Nat.reduceSub, Nat.reduceLT, Nat.reduceLeDiff, Nat.reduceEqDiff, Nat.reduceDiv, Nat.reduceMod, e₁]
theorem ccE195e {mi : mMi} {rs : mRs} {k : Nat} {v : Int32} (h₁ : k < 40) : F195 (N k) (N 4) v mi rs = rV (mset mi 4 0 3 (12 + 6 * k) v) rs := by
  have e₁ : 8 + 6 * k + 4 = 12 + 6 * k := by omega
  unfold F195
  simp (disch := omega) only [true_and, and_true, false_and, and_false, if_true, if_false, ccIte, ccBi, ccBiX, ccBv, ccBvX, ccZ0, ccZ1, ccTZ, ccT0, ccT1, Bool.or_false, ccMckT, ccMckIn, ne_eq, not_true_eq_false, not_false_eq_true, if_pos, if_neg, reduceIte, eq_self, Bool.false_eq_true, Bool.true_eq_false, mix_N, N_add, N_mul, N_sub, N_div, ccMod, N_lt, N_le, N_eq, ccNm, ccMN, ccNm2, ccM2N, ccMM2, ccM2M, ccMlt, ccMle, ccNltM, ccNleM, ccM2lt, ccM2le, ccNlt2, ccNle2, Nat.reduceAdd, Nat.reduceMul, Nat.reduceSub, Nat.reduceLT, Nat.reduceLeDiff, Nat.reduceEqDiff, Nat.reduceDiv, Nat.reduceMod, e₁]
theorem ccE207 {mi : mMi} {rs : mRs} {k : Nat} {v u : Int32} (h₁ : k < 40) : F207 (N k) v u mi rs = rV (mset (mset mi 4 0 3 (9 + 6 * k) v) 4 0 3 (10 + 6 * k) u) rs := by
  unfold F207
  simp (disch := omega) only [true_and, and_true, false_and, and_false, if_true, if_false, ccIte, ccBi, ccBiX, ccBv, ccBvX, ccZ0, ccZ1, ccTZ, ccT0, ccT1, Bool.or_false, ccMckT, ccMckIn, ne_eq, not_true_eq_false, not_false_eq_true, if_pos, if_neg, reduceIte, eq_self, Bool.false_eq_true, Bool.true_eq_false, mix_N, N_add, N_mul, N_sub, N_div, ccMod, N_lt, N_le, N_eq, ccNm, ccMN, ccNm2, ccM2N, ccMM2, ccM2M, ccMlt, ccMle, ccNltM, ccNleM, ccM2lt, ccM2le, ccNlt2, ccNle2, Nat.reduceAdd, Nat.reduceMul, Nat.reduceSub, Nat.reduceLT, Nat.reduceLeDiff, Nat.reduceEqDiff, Nat.reduceDiv, Nat.reduceMod, ccE195b h₁, ccE195c h₁]
theorem ccE201a {mi : mMi} {rs : mRs} {p : Nat} (h₁ : p < 96) : F201 (N p) (N 0) mi rs = rI (mi 4 0 3 (248 + 4 * p)) mi rs := by
  unfold F201
  simp (disch := omega) only [true_and, and_true, false_and, and_false, if_true, if_false, ccIte, ccBi, ccBiX, ccBv, ccBvX, ccZ0, ccZ1, ccTZ, ccT0, ccT1, Bool.or_false, ccMckT, ccMckIn, ne_eq, not_true_eq_false, not_false_eq_true, if_pos, if_neg, reduceIte, eq_self, Bool.false_eq_true, Bool.true_eq_false, mix_N, N_add, N_mul, N_sub, N_div, ccMod, N_lt, N_le, N_eq, ccNm, ccMN, ccNm2, ccM2N, ccMM2, ccM2M, ccMlt, ccMle, ccNltM, ccNleM, ccM2lt, ccM2le, ccNlt2, ccNle2, Nat.reduceAdd, Nat.reduceMul, Nat.reduceSub, Nat.reduceLT, Nat.reduceLeDiff, Nat.reduceEqDiff, Nat.reduceDiv, Nat.reduceMod]
  rfl
theorem ccE201b {mi : mMi} {rs : mRs} {p : Nat} (h₁ : p < 96) : F201 (N p) (N 1) mi rs = rI (mi 4 0 3 (249 + 4 * p)) mi rs := by
  have e₁ : 248 + 4 * p + 1 = 249 + 4 * p := by omega
  unfold F201
  simp (disch := omega) only [true_and, and_true, false_and, and_false, if_true, if_false, ccIte, ccBi, ccBiX, ccBv, ccBvX, ccZ0, ccZ1, ccTZ, ccT0, ccT1, Bool.or_false, ccMckT, ccMckIn, ne_eq, not_true_eq_false, not_false_eq_true, if_pos, if_neg, reduceIte, eq_self, Bool.false_eq_true, Bool.true_eq_false, mix_N, N_add, N_mul, N_sub, N_div, ccMod, N_lt, N_le, N_eq, ccNm, ccMN, ccNm2, ccM2N, ccMM2, ccM2M, ccMlt, ccMle, ccNltM, ccNleM, ccM2lt, ccM2le, ccNlt2, ccNle2, Nat.reduceAdd, Nat.reduceMul, Nat.reduceSub, Nat.reduceLT, Nat.reduceLeDiff, Nat.reduceEqDiff, Nat.reduceDiv, Nat.reduceMod, e₁]
theorem ccE201c {mi : mMi} {rs : mRs} {p : Nat} (h₁ : p < 96) : F201 (N p) (N 2) mi rs = rI (mi 4 0 3 (250 + 4 * p)) mi rs := by
  have e₁ : 248 + 4 * p + 2 = 250 + 4 * p := by omega
  unfold F201
  simp (disch := omega) only [true_and, and_true, false_and, and_false, if_true, if_false, ccIte, ccBi, ccBiX, ccBv, ccBvX, ccZ0, ccZ1, ccTZ, ccT0, ccT1, Bool.or_false, ccMckT, ccMckIn, ne_eq, not_true_eq_false, not_false_eq_true, if_pos, if_neg, reduceIte, eq_self, Bool.false_eq_true, Bool.true_eq_false, mix_N, N_add, N_mul, N_sub, N_div, ccMod, N_lt, N_le, N_eq, ccNm, ccMN, ccNm2, ccM2N, ccMM2, ccM2M, ccMlt, ccMle, ccNltM, ccNleM, ccM2lt, ccM2le, ccNlt2, ccNle2, Nat.reduceAdd, Nat.reduceMul, Nat.reduceSub, Nat.reduceLT, Nat.reduceLeDiff, Nat.reduceEqDiff, Nat.reduceDiv, Nat.reduceMod, e₁]
theorem ccE201d {mi : mMi} {rs : mRs} {p : Nat} (h₁ : p < 96) : F201 (N p) (N 3) mi rs = rI (mi 4 0 3 (251 + 4 * p)) mi rs := by
  have e₁ : 248 + 4 * p + 3 = 251 + 4 * p := by omega
  unfold F201
  simp (disch := omega) only [true_and, and_true, false_and, and_false, if_true, if_false, ccIte, ccBi, ccBiX, ccBv, ccBvX, ccZ0, ccZ1, ccTZ, ccT0, ccT1, Bool.or_false, ccMckT, ccMckIn, ne_eq, not_true_eq_false, not_false_eq_true, if_pos, if_neg, reduceIte, eq_self, Bool.false_eq_true, Bool.true_eq_false, mix_N, N_add, N_mul, N_sub, N_div, ccMod, N_lt, N_le, N_eq, ccNm, ccMN, ccNm2, ccM2N, ccMM2, ccM2M, ccMlt, ccMle, ccNltM, ccNleM, ccM2lt, ccM2le, ccNlt2, ccNle2, Nat.reduceAdd, Nat.reduceMul, Nat.reduceSub, Nat.reduceLT, Nat.reduceLeDiff, Nat.reduceEqDiff, Nat.reduceDiv, Nat.reduceMod, e₁]
theorem ccE206a {mi : mMi} {rs : mRs} {p : Nat} {v : Int32} (h₁ : p < 96) : F206 (N p) (N 0) v mi rs = rV (mset mi 4 0 3 (248 + 4 * p) v) rs := by
  unfold F206
  simp (disch := omega) only [true_and, and_true, false_and, and_false, if_true, if_false, ccIte, ccBi, ccBiX, ccBv, ccBvX, ccZ0, ccZ1, ccTZ, ccT0, ccT1, Bool.or_false, ccMckT, ccMckIn, ne_eq, not_true_eq_false, not_false_eq_true, if_pos, if_neg, reduceIte, eq_self, Bool.false_eq_true, Bool.true_eq_false, mix_N, N_add, N_mul, N_sub, N_div, ccMod, N_lt, N_le, N_eq, ccNm, ccMN, ccNm2, ccM2N, ccMM2, ccM2M, ccMlt, ccMle, ccNltM, ccNleM, ccM2lt, ccM2le, ccNlt2, ccNle2, Nat.reduceAdd, Nat.reduceMul, Nat.reduceSub, Nat.reduceLT, Nat.reduceLeDiff, Nat.reduceEqDiff, Nat.reduceDiv, Nat.reduceMod]
  rfl
theorem ccE206b {mi : mMi} {rs : mRs} {p : Nat} {v : Int32} (h₁ : p < 96) : F206 (N p) (N 1) v mi rs = rV (mset mi 4 0 3 (249 + 4 * p) v) rs := by
  have e₁ : 248 + 4 * p + 1 = 249 + 4 * p := by omega
  unfold F206
  simp (disch := omega) only [true_and, and_true, false_and, and_false, if_true, if_false, ccIte, ccBi, ccBiX, ccBv, ccBvX, ccZ0, ccZ1, ccTZ, ccT0, ccT1, Bool.or_false, ccMckT, ccMckIn, ne_eq, not_true_eq_false, not_false_eq_true, if_pos, if_neg, reduceIte, eq_self, Bool.false_eq_true, Bool.true_eq_false, mix_N, N_add, N_mul, N_sub, N_div, ccMod, N_lt, N_le, N_eq, ccNm, ccMN, ccNm2, ccM2N, ccMM2, ccM2M, ccMlt, ccMle, ccNltM, ccNleM, ccM2lt, ccM2le, ccNlt2, ccNle2, Nat.reduceAdd, Nat.reduceMul, Nat.reduceSub, Nat.reduceLT, Nat.reduceLeDiff, Nat.reduceEqDiff, Nat.reduceDiv, Nat.reduceMod, e₁]
theorem ccE206c {mi : mMi} {rs : mRs} {p : Nat} {v : Int32} (h₁ : p < 96) : F206 (N p) (N 2) v mi rs = rV (mset mi 4 0 3 (250 + 4 * p) v) rs := by
  have e₁ : 248 + 4 * p + 2 = 250 + 4 * p := by omega
  unfold F206
  simp (disch := omega) only [true_and, and_true, false_and, and_false, if_true, if_false, ccIte, ccBi, ccBiX, ccBv, ccBvX, ccZ0, ccZ1, ccTZ, ccT0, ccT1, Bool.or_false, ccMckT, ccMckIn, ne_eq, not_true_eq_false, not_false_eq_true, if_pos, if_neg, reduceIte, eq_self, Bool.false_eq_true, Bool.true_eq_false, mix_N, N_add, N_mul, N_sub, N_div, ccMod, N_lt, N_le, N_eq, ccNm, ccMN, ccNm2, ccM2N, ccMM2, ccM2M, ccMlt, ccMle, ccNltM, ccNleM, ccM2lt, ccM2le, ccNlt2, ccNle2, Nat.reduceAdd, Nat.reduceMul, Nat.reduceSub, Nat.reduceLT, Nat.reduceLeDiff, Nat.reduceEqDiff, Nat.reduceDiv, Nat.reduceMod, e₁]
theorem ccE206d {mi : mMi} {rs : mRs} {p : Nat} {v : Int32} (h₁ : p < 96) : F206 (N p) (N 3) v mi rs = rV (mset mi 4 0 3 (251 + 4 * p) v) rs := by
  have e₁ : 248 + 4 * p + 3 = 251 + 4 * p := by omega
  unfold F206
  simp (disch := omega) only [true_and, and_true, false_and, and_false, if_true, if_false, ccIte, ccBi, ccBiX, ccBv, ccBvX, ccZ0, ccZ1, ccTZ, ccT0, ccT1, Bool.or_false, ccMckT, ccMckIn, ne_eq, not_true_eq_false, not_false_eq_true, if_pos, if_neg, reduceIte, eq_self, Bool.false_eq_true, Bool.true_eq_false, mix_N, N_add, N_mul, N_sub, N_div, ccMod, N_lt, N_le, N_eq, ccNm, ccMN, ccNm2, ccM2N, ccMM2, ccM2M, ccMlt, ccMle, ccNltM, ccNleM, ccM2lt, ccM2le, ccNlt2, ccNle2, Nat.reduceAdd, Nat.reduceMul, Nat.reduceSub, Nat.reduceLT, Nat.reduceLeDiff, Nat.reduceEqDiff, Nat.reduceDiv, Nat.reduceMod, e₁]
/-! one card is dropped -/
def ccKd (C : Nat → Nat → Int32) (bd L k h z : Nat) (g : Bool) : Nat → Nat → Int32 := if g = true then ccU C 13 k (I (-1)) else
  if L < bd ∨ z ≤ 1 then ccU (ccU (ccU C 14 h (N k)) 10 5 (N (h + 1))) 13 k (I (-2)) else ccU (ccU (ccU (ccU (ccU C 14 h (N k)) 10 5 (N (h + 1))) 13 k (I (-2))) 11 k (N (z - 1))) 12 k (C 12 k + N 1)
def ccSd (s : Nat → Int32) (bd L k h z : Nat) (g : Bool) : Nat → Int32 := if g = true then ccV (ccV s (9 + 6 * k) (N 0)) (10 + 6 * k) (N 0) else
  if L < bd ∨ z ≤ 1 then ccV (ccV (ccV (ccV s (9 + 6 * k) (N 1)) (10 + 6 * k) (N 0)) (728 + h) (N k)) 7 (N (h + 1)) else
    ccV (ccV (ccV (ccV (ccV (ccV (ccV s (9 + 6 * k) (N 1)) (10 + 6 * k) (N 0)) (728 + h) (N k)) 7 (N (h + 1))) (8 + 6 * k) (N (z - 1))) (11 + 6 * k) (s (11 + 6 * k) + N 1)) (12 + 6 * k) (s (12 + 6 * k) + N 1)
def ccDrop (mi : mMi) (i bd L k h z : Nat) (g : Bool) : mMi := if g = true then mset mi 0 i 13 k (I (-1)) else
  if L < bd ∨ z ≤ 1 then mset (mset (mset mi 0 i 14 h (N k)) 0 i 10 5 (N (h + 1))) 0 i 13 k (I (-2)) else mset (mset (mset (mset (mset mi 0 i 14 h (N k)) 0 i 10 5 (N (h + 1))) 0 i 13 k (I (-2))) 0 i 11 k (N (z - 1))) 0 i 12 k (mi 0 i 12 k + N 1)
theorem ccE27 {mi : mMi} {rs : mRs} {i bd L k h z : Nat} {x : Int32} (h₁ : mi 1 (RO i) 1 5 = N bd) (h₂ : bd ≤ 8) (h₃ : L < 8) (h₄ : k < 40) (h₅ : mi 0 i 10 5 = N h) (h₆ : h < 40) (h₇ : mi 0 i 11 k = N z) (h₈ : 1 ≤ z) (h₉ : z ≤ 9) :
    F27 i (N k) (N L) x mi rs = rV (ccDrop mi i bd L k h z (decide (N k = x))) rs := by
  unfold F27 F4 F5 ccDrop
  by_cases g₁ : N k = x
  · subst g₁
    simp (disch := omega) only [true_and, and_true, false_and, and_false, if_true, if_false, ccIte, ccBi, ccBiX, ccBv, ccBvX, ccZ0, ccZ1, ccTZ, ccT0, ccT1, Bool.or_false, ccMckT, ccMckIn, ne_eq, not_true_eq_false, not_false_eq_true, if_pos, if_neg, reduceIte, eq_self, Bool.false_eq_true, Bool.true_eq_false, mix_N, N_add, N_mul, N_sub, N_div, ccMod, N_lt, N_le, N_eq, ccNm, ccMN, ccNm2, ccM2N, ccMM2, ccM2M, ccMlt, ccMle, ccNltM, ccNleM, ccM2lt, ccM2le, ccNlt2, ccNle2, Nat.reduceAdd, Nat.reduceMul, Nat.reduceSub, Nat.reduceLT, Nat.reduceLeDiff, Nat.reduceEqDiff, Nat.reduceDiv, Nat.reduceMod, decide_true, if_true]
  · by_cases g₂ : L < bd
    · simp (disch := omega) only [true_and, and_true, false_and, and_false, if_true, if_false, ccIte, ccBi, ccBiX, ccBv, ccBvX, ccZ0, ccZ1, ccTZ, ccT0, ccT1, Bool.or_false, ccMckT, ccMckIn, ne_eq, not_true_eq_false, not_false_eq_true, if_pos, if_neg, reduceIte, eq_self, Bool.false_eq_true, Bool.true_eq_false, mix_N, N_add, N_mul, N_sub, N_div, ccMod, N_lt, N_le, N_eq, ccNm, ccMN, ccNm2, ccM2N, ccMM2, ccM2M, ccMlt, ccMle, ccNltM, ccNleM, ccM2lt, ccM2le, ccNlt2, ccNle2, Nat.reduceAdd, Nat.reduceMul, Nat.reduceSub, Nat.reduceLT, Nat.reduceLeDiff, Nat.reduceEqDiff, Nat.reduceDiv, Nat.reduceMod, g₁, h₅, ccRd, h₁, decide_false]
    · by_cases g₃ : z ≤ 1
      · simp (disch := omega) only [true_and, and_true, false_and, and_false, if_true, if_false, ccIte, ccBi, ccBiX, ccBv, ccBvX, ccZ0, ccZ1, ccTZ, ccT0, ccT1, Bool.or_false, ccMckT, ccMckIn, ne_eq, not_true_eq_false, not_false_eq_true, if_pos, if_neg, reduceIte, eq_self, Bool.false_eq_true, Bool.true_eq_false, mix_N, N_add, N_mul, N_sub, N_div, ccMod, N_lt, N_le, N_eq, ccNm, ccMN, ccNm2, ccM2N, ccMM2, ccM2M, ccMlt, ccMle, ccNltM, ccNleM, ccM2lt, ccM2le, ccNlt2, ccNle2, Nat.reduceAdd, Nat.reduceMul, Nat.reduceSub, Nat.reduceLT, Nat.reduceLeDiff, Nat.reduceEqDiff, Nat.reduceDiv, Nat.reduceMod, g₁, h₅, ccRd, h₁, h₇, decide_false]
      · simp (disch := omega) only [true_and, and_true, false_and, and_false, if_true, if_false, ccIte, ccBi, ccBiX, ccBv, ccBvX, ccZ0, ccZ1, ccTZ, ccT0, ccT1, Bool.or_false, ccMckT, ccMckIn, ne_eq, not_true_eq_false, not_false_eq_true, if_pos, if_neg, reduceIte, eq_self, Bool.false_eq_true, Bool.true_eq_false, mix_N, N_add, N_mul, N_sub, N_div, ccMod, N_lt, N_le, N_eq, ccNm, ccMN, ccNm2, ccM2N, ccMM2, ccM2M, ccMlt, ccMle, ccNltM, ccNleM, ccM2lt, ccM2le, ccNlt2, ccNle2, Nat.reduceAdd, Nat.reduceMul, Nat.reduceSub, Nat.reduceLT, Nat.reduceLeDiff, Nat.reduceEqDiff, Nat.reduceDiv, Nat.reduceMod, g₁, h₅, ccRd, h₁, h₇, decide_false]
theorem ccDrop_C {mi : mMi} {i bd L k h z : Nat} {g : Bool} : ccDrop mi i bd L k h z g 0 i = ccKd (mi 0 i) bd L k h z g := by
  unfold ccDrop ccKd
  split
  · simp only [ccU_set]
  · split <;> simp only [ccU_set]
theorem ccDrop_fr {mi : mMi} {i bd L k h z : Nat} {g : Bool} : ccFr i mi (ccDrop mi i bd L k h z g) := by
  unfold ccDrop
  split
  · exact ccFr_set ccFr_rfl
  · split
    · exact ccFr_set (ccFr_set (ccFr_set ccFr_rfl))
    · exact ccFr_set (ccFr_set (ccFr_set (ccFr_set (ccFr_set ccFr_rfl))))
def ccDropM (mi : mMi) (bd L k h z : Nat) (g : Bool) : mMi := if g = true then mset (mset mi 4 0 3 (9 + 6 * k) (N 0)) 4 0 3 (10 + 6 * k) (N 0) else
  if L < bd ∨ z ≤ 1 then mset (mset (mset (mset mi 4 0 3 (9 + 6 * k) (N 1)) 4 0 3 (10 + 6 * k) (N 0)) 4 0 3 (728 + h) (N k)) 4 0 3 7 (N (h + 1)) else
    mset (mset (mset (mset (mset (mset (mset mi 4 0 3 (9 + 6 * k) (N 1)) 4 0 3 (10 + 6 * k) (N 0)) 4 0 3 (728 + h) (N k)) 4 0 3 7 (N (h + 1))) 4 0 3 (8 + 6 * k) (N (z - 1))) 4 0 3 (11 + 6 * k) (mi 4 0 3 (11 + 6 * k) + N 1)) 4 0 3 (12 + 6 * k) (mi 4 0 3 (12 + 6 * k) + N 1)
theorem ccE226 {mi : mMi} {rs : mRs} {bd p k h z : Nat} {x : Int32} (h₁ : mi 4 0 0 7 = N bd) (h₂ : bd ≤ 8) (h₃ : p < 96) (h₄ : k < 40) (h₅ : mi 4 0 3 7 = N h) (h₆ : h < 40) (h₇ : mi 4 0 3 (8 + 6 * k) = N z) (h₈ : 1 ≤ z) (h₉ : z ≤ 9) :
    F226 (N k) (N p) x mi rs = rV (ccDropM mi bd (p / 12) k h z (decide (N k = x))) rs := by
  have b₁ : p / 12 < 8 := by omega
  unfold F226 ccDropM
  by_cases g₁ : N k = x
  · subst g₁
    simp (disch := omega) only [true_and, and_true, false_and, and_false, if_true, if_false, ccIte, ccBi, ccBiX, ccBv, ccBvX, ccZ0, ccZ1, ccTZ, ccT0, ccT1, Bool.or_false, ccMckT, ccMckIn, ne_eq, not_true_eq_false, not_false_eq_true, if_pos, if_neg, reduceIte, eq_self, Bool.false_eq_true, Bool.true_eq_false, mix_N, N_add, N_mul, N_sub, N_div, ccMod, N_lt, N_le, N_eq, ccNm, ccMN, ccNm2, ccM2N, ccMM2, ccM2M, ccMlt, ccMle, ccNltM, ccNleM, ccM2lt, ccM2le, ccNlt2, ccNle2, Nat.reduceAdd, Nat.reduceMul, Nat.reduceSub, Nat.reduceLT, Nat.reduceLeDiff, Nat.reduceEqDiff, Nat.reduceDiv, Nat.reduceMod, ccE207, decide_true, if_true]
  · by_cases g₂ : p / 12 < bd
    · simp (disch := omega) only [true_and, and_true, false_and, and_false, if_true, if_false, ccIte, ccBi, ccBiX, ccBv, ccBvX, ccZ0, ccZ1, ccTZ, ccT0, ccT1, Bool.or_false, ccMckT, ccMckIn, ne_eq, not_true_eq_false, not_false_eq_true, if_pos, if_neg, reduceIte, eq_self, Bool.false_eq_true, Bool.true_eq_false, mix_N, N_add, N_mul, N_sub, N_div, ccMod, N_lt, N_le, N_eq, ccNm, ccMN, ccNm2, ccM2N, ccMM2, ccM2M, ccMlt, ccMle, ccNltM, ccNleM, ccM2lt, ccM2le, ccNlt2, ccNle2, Nat.reduceAdd, Nat.reduceMul, Nat.reduceSub, Nat.reduceLT, Nat.reduceLeDiff, Nat.reduceEqDiff, Nat.reduceDiv, Nat.reduceMod, g₁, ccE207, ccRd, h₅, h₁, decide_false]
    · by_cases g₃ : z ≤ 1
      · simp (disch := omega) only [true_and, and_true, false_and, and_false, if_true, if_false, ccIte, ccBi, ccBiX, ccBv, ccBvX, ccZ0, ccZ1, ccTZ, ccT0, ccT1, Bool.or_false, ccMckT, ccMckIn, ne_eq, not_true_eq_false, not_false_eq_true, if_pos, if_neg, reduceIte, eq_self, Bool.false_eq_true, Bool.true_eq_false, mix_N, N_add, N_mul, N_sub, N_div, ccMod, N_lt, N_le, N_eq, ccNm, ccMN, ccNm2, ccM2N, ccMM2, ccM2M, ccMlt, ccMle, ccNltM, ccNleM, ccM2lt, ccM2le, ccNlt2, ccNle2, Nat.reduceAdd, Nat.reduceMul, Nat.reduceSub, Nat.reduceLT, Nat.reduceLeDiff, Nat.reduceEqDiff, Nat.reduceDiv, Nat.reduceMod, g₁, ccE207, ccRd, h₅, h₁, ccE204a, h₇, decide_false]
      · simp (disch := omega) only [true_and, and_true, false_and, and_false, if_true, if_false, ccIte, ccBi, ccBiX, ccBv, ccBvX, ccZ0, ccZ1, ccTZ, ccT0, ccT1, Bool.or_false, ccMckT, ccMckIn, ne_eq, not_true_eq_false, not_false_eq_true, if_pos, if_neg, reduceIte, eq_self, Bool.false_eq_true, Bool.true_eq_false, mix_N, N_add, N_mul, N_sub, N_div, ccMod, N_lt, N_le, N_eq, ccNm, ccMN, ccNm2, ccM2N, ccMM2, ccM2M, ccMlt, ccMle, ccNltM, ccNleM, ccM2lt, ccM2le, ccNlt2, ccNle2, Nat.reduceAdd, Nat.reduceMul, Nat.reduceSub, Nat.reduceLT, Nat.reduceLeDiff, Nat.reduceEqDiff, Nat.reduceDiv, Nat.reduceMod, g₁, ccE207, ccRd, h₅, h₁, ccE204a, ccE204d, ccE204e, ccE195a, ccE195d, ccE195e, h₇, decide_false]
theorem ccDropM_s {mi : mMi} {bd L k h z : Nat} {g : Bool} : ccDropM mi bd L k h z g 4 0 3 = ccSd (mi 4 0 3) bd L k h z g := by
  unfold ccDropM ccSd
  split
  · simp only [ccV_set]
  · split <;> simp only [ccV_set]
theorem ccDropM_fq {mi : mMi} {bd L k h z : Nat} {g : Bool} : ccFq mi (ccDropM mi bd L k h z g) := by
  unfold ccDropM
  split
  · exact ccFq_set (ccFq_set ccFq_rfl (by omega)) (by omega)
  · split
    · exact ccFq_set (ccFq_set (ccFq_set (ccFq_set ccFq_rfl (by omega)) (by omega)) (by omega)) (by omega)
    · exact ccFq_set (ccFq_set (ccFq_set (ccFq_set (ccFq_set (ccFq_set (ccFq_set ccFq_rfl (by omega)) (by omega)) (by omega)) (by omega)) (by omega)) (by omega)) (by omega)
theorem ccDropM_w {mi : mMi} {bd L k h z j : Nat} {g : Bool} (h₁ : j ≠ 3) : ccDropM mi bd L k h z g 4 0 j = mi 4 0 j := by
  funext q₁
  unfold ccDropM
  split
  · simp (disch := omega) only [ccRd, if_neg, Nat.reduceEqDiff, eq_self, true_and, and_true, false_and, and_false, if_true, if_false]
  · split <;> simp (disch := omega) only [ccRd, if_neg, Nat.reduceEqDiff, eq_self, true_and, and_true, false_and, and_false, if_true, if_false]
