/-! A FALL, of the class and of the reference: one step. -/
theorem ccFR26 {f i : Nat} {x1 x2 x3 x4 : Int32} {mi : mMi} {rs : mRs} : FR (f + 1) 26 i x1 x2 x3 x4 mi rs = bI (F81 (RO i) x1 x2 mi rs) (fun v1 m1 r1 => bI (F51 i v1 m1 r1) (fun v2 m2 r2 => mifO (decide (v2 ≠ (N 0))) (mckO (mIn v1 96) (mckO (mIn v1 96) (mckO (mIn v1 96) (bV (F45 i (m2 0 i 0 5) x1 x2 (N 0) x3 (mset m2 0 i 2 (mix v1) (I (-1))) r2) (fun m3 r3 => bV (F27 i (m2 0 i 2 (mix v1)) x1 x4 m3 r3) (fun m4 r4 => bV (F27 i (m2 0 i 3 (mix v1)) x1 x4 m4 r4) (fun m5 r5 => bV (FR f 28 i (x1 + (N 1)) (x2 - (N 1)) (N 2) (I (-1)) m5 r5) (fun m6 r6 => bV (FR f 28 i (x1 + (N 1)) x2 (N 2) (I (-1)) m6 r6) (fun m7 r7 => some (.inl none, m7, r7)))))))))) (some (.inl none, m2, r2)))) := rfl
theorem ccFR28 {f i : Nat} {x1 x2 x3 x4 : Int32} {mi : mMi} {rs : mRs} : FR (f + 1) 28 i x1 x2 x3 x4 mi rs = bI (F81 (RO i) x1 x2 mi rs) (fun v1 m1 r1 => bI (F52 i v1 m1 r1) (fun v2 m2 r2 => mifO (decide (v2 ≠ (N 0))) (mckO (mIn v1 96) (mckO (mIn v1 96) (bV (F45 i (m2 0 i 0 5) x1 x2 (N 1) x3 (mset m2 0 i 6 (mix v1) (I (-1))) r2) (fun m3 r3 => bV (F27 i (m2 0 i 6 (mix v1)) x1 x4 m3 r3) (fun m4 r4 => bV (FR f 26 i x1 x2 (N 2) (I (-1)) m4 r4) (fun m5 r5 => some (.inl none, m5, r5))))))) (some (.inl none, m2, r2)))) := rfl
theorem ccF222 {f : Nat} {x1 x2 x3 x4 : Int32} {mi : mMi} {rs : mRs} : F222_20 (f + 1) x1 x2 x3 x4 mi rs = mifO (decide ((mi 4 0 0 34) ≤ (N 0))) (some (.inl none, mi, rs)) (mckO (mIn ((mi 4 0 0 34) - (N 1)) 100) (bI (F228 (mi 4 0 14 (mix ((mi 4 0 0 34) - (N 1)))) (mset mi 4 0 0 34 ((mi 4 0 0 34) - (N 1))) rs) (fun v1 m1 r1 => mifO (decide (v1 = (N 0))) (F222_20 f x1 x2 x3 x4 m1 r1) (mifO (decide (((mi 4 0 14 (mix ((mi 4 0 0 34) - (N 1)))) - (mi 4 0 14 (mix ((mi 4 0 0 34) - (N 1)))) / (N 2) * (N 2)) ≠ (N 1))) (bV (F223 ((mi 4 0 14 (mix ((mi 4 0 0 34) - (N 1)))) / (N 2)) (N 0) (N 2) m1 r1) (fun m2 r2 => mifO (decide (((mi 4 0 14 (mix ((mi 4 0 0 34) - (N 1)))) - (mi 4 0 14 (mix ((mi 4 0 0 34) - (N 1)))) / (N 2) * (N 2)) ≠ (N 1))) (bV (F225 ((mi 4 0 14 (mix ((mi 4 0 0 34) - (N 1)))) / (N 2)) (N 0) (I (-1)) m2 r2) (fun m3 r3 => F222_20 f x1 x2 x3 x4 m3 r3)) (bV (F225 ((mi 4 0 14 (mix ((mi 4 0 0 34) - (N 1)))) / (N 2)) (N 1) (I (-1)) m2 r2) (fun m4 r4 => F222_20 f x1 x2 x3 x4 m4 r4)))) (bV (F223 ((mi 4 0 14 (mix ((mi 4 0 0 34) - (N 1)))) / (N 2)) (N 1) (N 2) m1 r1) (fun m5 r5 => mifO (decide (((mi 4 0 14 (mix ((mi 4 0 0 34) - (N 1)))) - (mi 4 0 14 (mix ((mi 4 0 0 34) - (N 1)))) / (N 2) * (N 2)) ≠ (N 1))) (bV (F225 ((mi 4 0 14 (mix ((mi 4 0 0 34) - (N 1)))) / (N 2)) (N 0) (I (-1)) m5 r5) (fun m6 r6 => F222_20 f x1 x2 x3 x4 m6 r6)) (bV (F225 ((mi 4 0 14 (mix ((mi 4 0 0 34) - (N 1)))) / (N 2)) (N 1) (I (-1)) m5 r5) (fun m7 r7 => F222_20 f x1 x2 x3 x4 m7 r7)))))))) := rfl
theorem ccBvA {x : mRz} {k k₂ : mMi → mRs → mRz} : bV (bV x k) k₂ = bV x (fun m r => bV (k m r) k₂) := by
  rcases x with _ | ⟨_ | _, mi, rs⟩
  · rfl
  · rename_i o
    cases o <;> rfl
  · rfl
theorem ccSubLt {a b c : Nat} (h₁ : a < b) (h₂ : b < 1000000000) (h₃ : c < 1000000000) : (N a - N b < N c) = True := by
  rw [← I_N, ← I_N, ← I_N, I_sub, I_lt (by omega) (by omega) (by omega) (by omega)]
  exact propext ⟨fun _ => trivial, fun _ => by omega⟩
theorem ccE177 {mi : mMi} {rs : mRs} {a b d : Nat} (h₁ : a < 1000000000) (h₂ : b < 1000000000) (h₃ : d < 1000000000) : F177 (N a) (N b) (N d) mi rs = rI (ccT (decide (b ≤ a) && decide (a ≤ d))) mi rs := by
  unfold F177
  by_cases h₄ : b ≤ a <;> by_cases h₅ : a ≤ d <;> simp (disch := omega) only [true_and, and_true, false_and, and_false, if_true, if_false, ccIte, ccBi, ccBiX, ccBv, ccBvX, ccZ0, ccZ1, ccTZ, ccT0, ccT1, Bool.or_false, ccMckT, ccMckIn, ne_eq, not_true_eq_false, not_false_eq_true, if_pos, if_neg, reduceIte, eq_self, Bool.false_eq_true, Bool.true_eq_false, mix_N, N_add, N_mul, N_sub, N_div, ccMod, N_lt, N_le, N_eq, ccNm, ccMN, ccNm2, ccM2N, ccMM2, ccM2M, ccMlt, ccMle, ccNltM, ccNleM, ccM2lt, ccM2le, ccNlt2, ccNle2, Nat.reduceAdd, Nat.reduceMul, Nat.reduceSub, Nat.reduceLT, Nat.reduceLeDiff, Nat.reduceEqDiff, Nat.reduceDiv, Nat.reduceMod, h₄, h₅, decide_true, decide_false, Bool.true_and, Bool.false_and, Bool.and_false] <;> rfl
theorem ccE199 {mi : mMi} {rs : mRs} {w l n L c : Nat} (q₁ : ccMo mi w l n) (h₁ : L < 1000) (h₂ : c < 1000) : F199 (N L) (N c) mi rs = rI (ccT (ccPl w l L c)) mi rs := by
  obtain ⟨g₁, g₂, g₃, b₁, b₂, b₃, b₄, b₅⟩ := q₁
  unfold F199 ccPl
  by_cases h₃ : L < l
  · by_cases h₄ : L < w
    · by_cases h₅ : L + c < w
      · have e₁ : c ≤ w - 1 - L := by omega
        have e₂ : L ≤ l - 1 := by omega
        simp (disch := omega) only [true_and, and_true, false_and, and_false, if_true, if_false, ccIte, ccBi, ccBiX, ccBv, ccBvX, ccZ0, ccZ1, ccTZ, ccT0, ccT1, Bool.or_false, ccMckT, ccMckIn, ne_eq, not_true_eq_false, not_false_eq_true, if_pos, if_neg, reduceIte, eq_self, Bool.false_eq_true, Bool.true_eq_false, mix_N, N_add, N_mul, N_sub, N_div, ccMod, N_lt, N_le, N_eq, ccNm, ccMN, ccNm2, ccM2N, ccMM2, ccM2M, ccMlt, ccMle, ccNltM, ccNleM, ccM2lt, ccM2le, ccNlt2, ccNle2, Nat.reduceAdd, Nat.reduceMul, Nat.reduceSub, Nat.reduceLT, Nat.reduceLeDiff, Nat.reduceEqDiff, Nat.reduceDiv, Nat.reduceMod, g₁, g₂, ccE177, h₃, h₅, e₁, e₂, Nat.zero_le, decide_true, Bool.true_and]
        rfl
      · have e₁ : ¬ c ≤ w - 1 - L := by omega
        have e₂ : L ≤ l - 1 := by omega
        simp (disch := omega) only [true_and, and_true, false_and, and_false, if_true, if_false, ccIte, ccBi, ccBiX, ccBv, ccBvX, ccZ0, ccZ1, ccTZ, ccT0, ccT1, Bool.or_false, ccMckT, ccMckIn, ne_eq, not_true_eq_false, not_false_eq_true, if_pos, if_neg, reduceIte, eq_self, Bool.false_eq_true, Bool.true_eq_false, mix_N, N_add, N_mul, N_sub, N_div, ccMod, N_lt, N_le, N_eq, ccNm, ccMN, ccNm2, ccM2N, ccMM2, ccM2M, ccMlt, ccMle, ccNltM, ccNleM, ccM2lt, ccM2le, ccNlt2, ccNle2, Nat.reduceAdd, Nat.reduceMul, Nat.reduceSub, Nat.reduceLT, Nat.reduceLeDiff, Nat.reduceEqDiff, Nat.reduceDiv, Nat.reduceMod, g₁, g₂, ccE177, h₃, h₅, e₁, e₂, Nat.zero_le, decide_true, decide_false, Bool.true_and, Bool.and_false]
        rfl
    · have h₅ : ¬ L + c < w := by omega
      have e₂ : L ≤ l - 1 := by omega
      unfold F177
      simp (disch := omega) only [true_and, and_true, false_and, and_false, if_true, if_false, ccIte, ccBi, ccBiX, ccBv, ccBvX, ccZ0, ccZ1, ccTZ, ccT0, ccT1, Bool.or_false, ccMckT, ccMckIn, ne_eq, not_true_eq_false, not_false_eq_true, if_pos, if_neg, reduceIte, eq_self, Bool.false_eq_true, Bool.true_eq_false, mix_N, N_add, N_mul, N_sub, N_div, ccMod, N_lt, N_le, N_eq, ccNm, ccMN, ccNm2, ccM2N, ccMM2, ccM2M, ccMlt, ccMle, ccNltM, ccNleM, ccM2lt, ccM2le, ccNlt2, ccNle2, Nat.reduceAdd, Nat.reduceMul, Nat.reduceSub, Nat.reduceLT, Nat.reduceLeDiff, Nat.reduceEqDiff, Nat.reduceDiv, Nat.reduceMod, g₁, g₂, h₃, h₅, e₂, ccSubLt, decide_true, decide_false, Bool.true_and, Bool.and_false]
      rfl
  · have e₂ : ¬ L ≤ l - 1 := by omega
    simp (disch := omega) only [true_and, and_true, false_and, and_false, if_true, if_false, ccIte, ccBi, ccBiX, ccBv, ccBvX, ccZ0, ccZ1, ccTZ, ccT0, ccT1, Bool.or_false, ccMckT, ccMckIn, ne_eq, not_true_eq_false, not_false_eq_true, if_pos, if_neg, reduceIte, eq_self, Bool.false_eq_true, Bool.true_eq_false, mix_N, N_add, N_mul, N_sub, N_div, ccMod, N_lt, N_le, N_eq, ccNm, ccMN, ccNm2, ccM2N, ccMM2, ccM2M, ccMlt, ccMle, ccNltM, ccNleM, ccM2lt, ccM2le, ccNlt2, ccNle2, Nat.reduceAdd, Nat.reduceMul, Nat.reduceSub, Nat.reduceLT, Nat.reduceLeDiff, Nat.reduceEqDiff, Nat.reduceDiv, Nat.reduceMod, g₁, g₂, ccE177, h₃, e₂, decide_false, Bool.false_and, Bool.and_false]
    rfl
theorem ccE199m {mi : mMi} {rs : mRs} {w l n L : Nat} (q₁ : ccMo mi w l n) (h₁ : L < 1000) : F199 (N L) (I (-1)) mi rs = rI (ccT false) mi rs := by
  obtain ⟨g₁, g₂, g₃, b₁, b₂, b₃, b₄, b₅⟩ := q₁
  unfold F199 F177
  by_cases h₃ : L < l
  · simp (disch := omega) only [true_and, and_true, false_and, and_false, if_true, if_false, ccIte, ccBi, ccBiX, ccBv, ccBvX, ccZ0, ccZ1, ccTZ, ccT0, ccT1, Bool.or_false, ccMckT, ccMckIn, ne_eq, not_true_eq_false, not_false_eq_true, if_pos, if_neg, reduceIte, eq_self, Bool.false_eq_true, Bool.true_eq_false, mix_N, N_add, N_mul, N_sub, N_div, ccMod, N_lt, N_le, N_eq, ccNm, ccMN, ccNm2, ccM2N, ccMM2, ccM2M, ccMlt, ccMle, ccNltM, ccNleM, ccM2lt, ccM2le, ccNlt2, ccNle2, Nat.reduceAdd, Nat.reduceMul, Nat.reduceSub, Nat.reduceLT, Nat.reduceLeDiff, Nat.reduceEqDiff, Nat.reduceDiv, Nat.reduceMod, g₁, g₂]
    rfl
  · simp (disch := omega) only [true_and, and_true, false_and, and_false, if_true, if_false, ccIte, ccBi, ccBiX, ccBv, ccBvX, ccZ0, ccZ1, ccTZ, ccT0, ccT1, Bool.or_false, ccMckT, ccMckIn, ne_eq, not_true_eq_false, not_false_eq_true, if_pos, if_neg, reduceIte, eq_self, Bool.false_eq_true, Bool.true_eq_false, mix_N, N_add, N_mul, N_sub, N_div, ccMod, N_lt, N_le, N_eq, ccNm, ccMN, ccNm2, ccM2N, ccMM2, ccM2M, ccMlt, ccMle, ccNltM, ccNleM, ccM2lt, ccM2le, ccNlt2, ccNle2, Nat.reduceAdd, Nat.reduceMul, Nat.reduceSub, Nat.reduceLT, Nat.reduceLeDiff, Nat.reduceEqDiff, Nat.reduceDiv, Nat.reduceMod, g₁, g₂]
    rfl
theorem ccE200 {mi : mMi} {rs : mRs} {L c : Nat} : F200 (N L) (N c) mi rs = rI (N (12 * L + c)) mi rs := by
  unfold F200
  simp (disch := omega) only [true_and, and_true, false_and, and_false, if_true, if_false, ccIte, ccBi, ccBiX, ccBv, ccBvX, ccZ0, ccZ1, ccTZ, ccT0, ccT1, Bool.or_false, ccMckT, ccMckIn, ne_eq, not_true_eq_false, not_false_eq_true, if_pos, if_neg, reduceIte, eq_self, Bool.false_eq_true, Bool.true_eq_false, mix_N, N_add, N_mul, N_sub, N_div, ccMod, N_lt, N_le, N_eq, ccNm, ccMN, ccNm2, ccM2N, ccMM2, ccM2M, ccMlt, ccMle, ccNltM, ccNleM, ccM2lt, ccM2le, ccNlt2, ccNle2, Nat.reduceAdd, Nat.reduceMul, Nat.reduceSub, Nat.reduceLT, Nat.reduceLeDiff, Nat.reduceEqDiff, Nat.reduceDiv, Nat.reduceMod]
theorem ccE198 {mi : mMi} {rs : mRs} {w l n L c : Nat} (q₁ : ccMo mi w l n) (h₁ : L < 1000) (h₂ : c < 1000) : F198 (N L) (N c) mi rs = rI (ccT (ccHPm (mi 4 0 3) w l L c)) mi rs := by
  have b₁ : w ≤ 12 := q₁.2.2.2.2.1
  have b₂ : l ≤ 8 := q₁.2.2.2.2.2.2.1
  unfold F198 ccHPm ccPm
  cases h₃ : ccPl w l L c
  · simp (disch := omega) only [ccE199 q₁ h₁ h₂, true_and, and_true, false_and, and_false, if_true, if_false, ccIte, ccBi, ccBiX, ccBv, ccBvX, ccZ0, ccZ1, ccTZ, ccT0, ccT1, Bool.or_false, ccMckT, ccMckIn, ne_eq, not_true_eq_false, not_false_eq_true, if_pos, if_neg, reduceIte, eq_self, Bool.false_eq_true, Bool.true_eq_false, mix_N, N_add, N_mul, N_sub, N_div, ccMod, N_lt, N_le, N_eq, ccNm, ccMN, ccNm2, ccM2N, ccMM2, ccM2M, ccMlt, ccMle, ccNltM, ccNleM, ccM2lt, ccM2le, ccNlt2, ccNle2, Nat.reduceAdd, Nat.reduceMul, Nat.reduceSub, Nat.reduceLT, Nat.reduceLeDiff, Nat.reduceEqDiff, Nat.reduceDiv, Nat.reduceMod, h₃, Bool.false_and]
    rfl
  · have h₄ := h₃
    simp only [ccPl, Bool.and_eq_true, decide_eq_true_eq] at h₄
    by_cases h₅ : mi 4 0 3 (248 + 4 * (12 * L + c)) = I (-1)
    · simp (disch := omega) only [ccE199 q₁ h₁ h₂, ccE200, ccE201a, true_and, and_true, false_and, and_false, if_true, if_false, ccIte, ccBi, ccBiX, ccBv, ccBvX, ccZ0, ccZ1, ccTZ, ccT0, ccT1, Bool.or_false, ccMckT, ccMckIn, ne_eq, not_true_eq_false, not_false_eq_true, if_pos, if_neg, reduceIte, eq_self, Bool.false_eq_true, Bool.true_eq_false, mix_N, N_add, N_mul, N_sub, N_div, ccMod, N_lt, N_le, N_eq, ccNm, ccMN, ccNm2, ccM2N, ccMM2, ccM2M, ccMlt, ccMle, ccNltM, ccNleM, ccM2lt, ccM2le, ccNlt2, ccNle2, Nat.reduceAdd, Nat.reduceMul, Nat.reduceSub, Nat.reduceLT, Nat.reduceLeDiff, Nat.reduceEqDiff, Nat.reduceDiv, Nat.reduceMod, h₃, h₅, decide_true, Bool.not_true, Bool.and_false]
      rfl
    · simp (disch := omega) only [ccE199 q₁ h₁ h₂, ccE200, ccE201a, true_and, and_true, false_and, and_false, if_true, if_false, ccIte, ccBi, ccBiX, ccBv, ccBvX, ccZ0, ccZ1, ccTZ, ccT0, ccT1, Bool.or_false, ccMckT, ccMckIn, ne_eq, not_true_eq_false, not_false_eq_true, if_pos, if_neg, reduceIte, eq_self, Bool.false_eq_true, Bool.true_eq_false, mix_N, N_add, N_mul, N_sub, N_div, ccMod, N_lt, N_le, N_eq, ccNm, ccMN, ccNm2, ccM2N, ccMM2, ccM2M, ccMlt, ccMle, ccNltM, ccNleM, ccM2lt, ccM2le, ccNlt2, ccNle2, Nat.reduceAdd, Nat.reduceMul, Nat.reduceSub, Nat.reduceLT, Nat.reduceLeDiff, Nat.reduceEqDiff, Nat.reduceDiv, Nat.reduceMod, h₃, h₅, decide_false, Bool.not_false, Bool.true_and]
      rfl
theorem ccE202 {mi : mMi} {rs : mRs} {w l n L c : Nat} (q₁ : ccMo mi w l n) (h₁ : L < 1000) (h₂ : c < 1000) : F202 (N L) (N c) mi rs = rI (ccT (ccHFm (mi 4 0 3) w l L c)) mi rs := by
  have b₁ : w ≤ 12 := q₁.2.2.2.2.1
  have b₂ : l ≤ 8 := q₁.2.2.2.2.2.2.1
  unfold F202 ccHFm ccFm
  cases h₃ : ccPl w l L c
  · simp (disch := omega) only [ccE199 q₁ h₁ h₂, true_and, and_true, false_and, and_false, if_true, if_false, ccIte, ccBi, ccBiX, ccBv, ccBvX, ccZ0, ccZ1, ccTZ, ccT0, ccT1, Bool.or_false, ccMckT, ccMckIn, ne_eq, not_true_eq_false, not_false_eq_true, if_pos, if_neg, reduceIte, eq_self, Bool.false_eq_true, Bool.true_eq_false, mix_N, N_add, N_mul, N_sub, N_div, ccMod, N_lt, N_le, N_eq, ccNm, ccMN, ccNm2, ccM2N, ccMM2, ccM2M, ccMlt, ccMle, ccNltM, ccNleM, ccM2lt, ccM2le, ccNlt2, ccNle2, Nat.reduceAdd, Nat.reduceMul, Nat.reduceSub, Nat.reduceLT, Nat.reduceLeDiff, Nat.reduceEqDiff, Nat.reduceDiv, Nat.reduceMod, h₃, Bool.false_and]
    rfl
  · have h₄ := h₃
    simp only [ccPl, Bool.and_eq_true, decide_eq_true_eq] at h₄
    by_cases h₅ : mi 4 0 3 (632 + (12 * L + c)) = I (-1)
    · simp (disch := omega) only [ccE199 q₁ h₁ h₂, ccE200, true_and, and_true, false_and, and_false, if_true, if_false, ccIte, ccBi, ccBiX, ccBv, ccBvX, ccZ0, ccZ1, ccTZ, ccT0, ccT1, Bool.or_false, ccMckT, ccMckIn, ne_eq, not_true_eq_false, not_false_eq_true, if_pos, if_neg, reduceIte, eq_self, Bool.false_eq_true, Bool.true_eq_false, mix_N, N_add, N_mul, N_sub, N_div, ccMod, N_lt, N_le, N_eq, ccNm, ccMN, ccNm2, ccM2N, ccMM2, ccM2M, ccMlt, ccMle, ccNltM, ccNleM, ccM2lt, ccM2le, ccNlt2, ccNle2, Nat.reduceAdd, Nat.reduceMul, Nat.reduceSub, Nat.reduceLT, Nat.reduceLeDiff, Nat.reduceEqDiff, Nat.reduceDiv, Nat.reduceMod, h₃, h₅, decide_true, Bool.not_true, Bool.and_false]
      rfl
    · simp (disch := omega) only [ccE199 q₁ h₁ h₂, ccE200, true_and, and_true, false_and, and_false, if_true, if_false, ccIte, ccBi, ccBiX, ccBv, ccBvX, ccZ0, ccZ1, ccTZ, ccT0, ccT1, Bool.or_false, ccMckT, ccMckIn, ne_eq, not_true_eq_false, not_false_eq_true, if_pos, if_neg, reduceIte, eq_self, Bool.false_eq_true, Bool.true_eq_false, mix_N, N_add, N_mul, N_sub, N_div, ccMod, N_lt, N_le, N_eq, ccNm, ccMN, ccNm2, ccM2N, ccMM2, ccM2M, ccMlt, ccMle, ccNltM, ccNleM, ccM2lt, ccM2le, ccNlt2, ccNle2, Nat.reduceAdd, Nat.reduceMul, Nat.reduceSub, Nat.reduceLT, Nat.reduceLeDiff, Nat.reduceEqDiff, Nat.reduceDiv, Nat.reduceMod, h₃, h₅, decide_false, Bool.not_false, Bool.true_and]
      rfl
theorem ccE202m {mi : mMi} {rs : mRs} {w l n L : Nat} (q₁ : ccMo mi w l n) (h₁ : L < 1000) : F202 (N L) (I (-1)) mi rs = rI (ccT false) mi rs := by
  unfold F202
  simp (disch := omega) only [ccE199m q₁ h₁, true_and, and_true, false_and, and_false, if_true, if_false, ccIte, ccBi, ccBiX, ccBv, ccBvX, ccZ0, ccZ1, ccTZ, ccT0, ccT1, Bool.or_false, ccMckT, ccMckIn, ne_eq, not_true_eq_false, not_false_eq_true, if_pos, if_neg, reduceIte, eq_self, Bool.false_eq_true, Bool.true_eq_false, mix_N, N_add, N_mul, N_sub, N_div, ccMod, N_lt, N_le, N_eq, ccNm, ccMN, ccNm2, ccM2N, ccMM2, ccM2M, ccMlt, ccMle, ccNltM, ccNleM, ccM2lt, ccM2le, ccNlt2, ccNle2, Nat.reduceAdd, Nat.reduceMul, Nat.reduceSub, Nat.reduceLT, Nat.reduceLeDiff, Nat.reduceEqDiff, Nat.reduceDiv, Nat.reduceMod]
  rfl
/-- what waits -/
def ccPush (mi : mMi) (k v : Nat) (b : Bool) : mMi := if b = true then mset (mset mi 4 0 14 k (N v)) 4 0 0 34 (N (k + 1)) else mi
theorem ccE227f {mi : mMi} {rs : mRs} {w l n L c k : Nat} (q₁ : ccMo mi w l n) (h₁ : L < 1000) (h₂ : c < 1000) (h₃ : mi 4 0 0 34 = N k) (h₄ : k < 100) : F227 (N L) (N c) (N 1) mi rs = rV (ccPush mi k (2 * (12 * L + c) + 1) (ccHFm (mi 4 0 3) w l L c)) rs := by
  unfold F227 ccPush
  cases h₅ : ccHFm (mi 4 0 3) w l L c
  · simp (disch := omega) only [ccE202 q₁ h₁ h₂, true_and, and_true, false_and, and_false, if_true, if_false, ccIte, ccBi, ccBiX, ccBv, ccBvX, ccZ0, ccZ1, ccTZ, ccT0, ccT1, Bool.or_false, ccMckT, ccMckIn, ne_eq, not_true_eq_false, not_false_eq_true, if_pos, if_neg, reduceIte, eq_self, Bool.false_eq_true, Bool.true_eq_false, mix_N, N_add, N_mul, N_sub, N_div, ccMod, N_lt, N_le, N_eq, ccNm, ccMN, ccNm2, ccM2N, ccMM2, ccM2M, ccMlt, ccMle, ccNltM, ccNleM, ccM2lt, ccM2le, ccNlt2, ccNle2, Nat.reduceAdd, Nat.reduceMul, Nat.reduceSub, Nat.reduceLT, Nat.reduceLeDiff, Nat.reduceEqDiff, Nat.reduceDiv, Nat.reduceMod, h₅]
  · simp (disch := omega) only [ccE202 q₁ h₁ h₂, ccE200, ccE224, true_and, and_true, false_and, and_false, if_true, if_false, ccIte, ccBi, ccBiX, ccBv, ccBvX, ccZ0, ccZ1, ccTZ, ccT0, ccT1, Bool.or_false, ccMckT, ccMckIn, ne_eq, not_true_eq_false, not_false_eq_true, if_pos, if_neg, reduceIte, eq_self, Bool.false_eq_true, Bool.true_eq_false, mix_N, N_add, N_mul, N_sub, N_div, ccMod, N_lt, N_le, N_eq, ccNm, ccMN, ccNm2, ccM2N, ccMM2, ccM2M, ccMlt, ccMle, ccNltM, ccNleM, ccM2lt, ccM2le, ccNlt2, ccNle2, Nat.reduceAdd, Nat.reduceMul, Nat.reduceSub, Nat.reduceLT, Nat.reduceLeDiff, Nat.reduceEqDiff, Nat.reduceDiv, Nat.reduceMod, h₅, h₃, ccRd]
theorem ccE227m {mi : mMi} {rs : mRs} {w l n L : Nat} (q₁ : ccMo mi w l n) (h₁ : L < 1000) : F227 (N L) (I (-1)) (N 1) mi rs = rV mi rs := by
  unfold F227
  simp (disch := omega) only [ccE202m q₁ h₁, true_and, and_true, false_and, and_false, if_true, if_false, ccIte, ccBi, ccBiX, ccBv, ccBvX, ccZ0, ccZ1, ccTZ, ccT0, ccT1, Bool.or_false, ccMckT, ccMckIn, ne_eq, not_true_eq_false, not_false_eq_true, if_pos, if_neg, reduceIte, eq_self, Bool.false_eq_true, Bool.true_eq_false, mix_N, N_add, N_mul, N_sub, N_div, ccMod, N_lt, N_le, N_eq, ccNm, ccMN, ccNm2, ccM2N, ccMM2, ccM2M, ccMlt, ccMle, ccNltM, ccNleM, ccM2lt, ccM2le, ccNlt2, ccNle2, Nat.reduceAdd, Nat.reduceMul, Nat.reduceSub, Nat.reduceLT, Nat.reduceLeDiff, Nat.reduceEqDiff, Nat.reduceDiv, Nat.reduceMod]
theorem ccE227p {mi : mMi} {rs : mRs} {w l n L c k : Nat} (q₁ : ccMo mi w l n) (h₁ : L < 1000) (h₂ : c < 1000) (h₃ : mi 4 0 0 34 = N k) (h₄ : k < 100) : F227 (N L) (N c) (N 0) mi rs = rV (ccPush mi k (2 * (12 * L + c) + 0) (ccHPm (mi 4 0 3) w l L c)) rs := by
  unfold F227 ccPush
  cases h₅ : ccHPm (mi 4 0 3) w l L c
  · simp (disch := omega) only [ccE198 q₁ h₁ h₂, true_and, and_true, false_and, and_false, if_true, if_false, ccIte, ccBi, ccBiX, ccBv, ccBvX, ccZ0, ccZ1, ccTZ, ccT0, ccT1, Bool.or_false, ccMckT, ccMckIn, ne_eq, not_true_eq_false, not_false_eq_true, if_pos, if_neg, reduceIte, eq_self, Bool.false_eq_true, Bool.true_eq_false, mix_N, N_add, N_mul, N_sub, N_div, ccMod, N_lt, N_le, N_eq, ccNm, ccMN, ccNm2, ccM2N, ccMM2, ccM2M, ccMlt, ccMle, ccNltM, ccNleM, ccM2lt, ccM2le, ccNlt2, ccNle2, Nat.reduceAdd, Nat.reduceMul, Nat.reduceSub, Nat.reduceLT, Nat.reduceLeDiff, Nat.reduceEqDiff, Nat.reduceDiv, Nat.reduceMod, h₅]
  · simp (disch := omega) only [ccE198 q₁ h₁ h₂, ccE200, ccE224, true_and, and_true, false_and, and_false, if_true, if_false, ccIte, ccBi, ccBiX, ccBv, ccBvX, ccZ0, ccZ1, ccTZ, ccT0, ccT1, Bool.or_false, ccMckT, ccMckIn, ne_eq, not_true_eq_false, not_false_eq_true, if_pos, if_neg, reduceIte, eq_self, Bool.false_eq_true, Bool.true_eq_false, mix_N, N_add, N_mul, N_sub, N_div, ccMod, N_lt, N_le, N_eq, ccNm, ccMN, ccNm2, ccM2N, ccMM2, ccM2M, ccMlt, ccMle, ccNltM, ccNleM, ccM2lt, ccM2le, ccNlt2, ccNle2, Nat.reduceAdd, Nat.reduceMul, Nat.reduceSub, Nat.reduceLT, Nat.reduceLeDiff, Nat.reduceEqDiff, Nat.reduceDiv, Nat.reduceMod, h₅, h₃, ccRd]
/-- is it still there -/
theorem ccE228f {mi : mMi} {rs : mRs} {p : Nat} (h₁ : p < 96) : F228 (N (2 * p + 1)) mi rs = rI (ccT (ccFm (mi 4 0 3) p)) mi rs := by
  have e₁ : (2 * p + 1) % 2 = 1 := by omega
  have e₂ : (2 * p + 1) / 2 = p := by omega
  unfold F228 ccFm
  by_cases h₅ : mi 4 0 3 (632 + p) = I (-1)
  · simp (disch := omega) only [true_and, and_true, false_and, and_false, if_true, if_false, ccIte, ccBi, ccBiX, ccBv, ccBvX, ccZ0, ccZ1, ccTZ, ccT0, ccT1, Bool.or_false, ccMckT, ccMckIn, ne_eq, not_true_eq_false, not_false_eq_true, if_pos, if_neg, reduceIte, eq_self, Bool.false_eq_true, Bool.true_eq_false, mix_N, N_add, N_mul, N_sub, N_div, ccMod, N_lt, N_le, N_eq, ccNm, ccMN, ccNm2, ccM2N, ccMM2, ccM2M, ccMlt, ccMle, ccNltM, ccNleM, ccM2lt, ccM2le, ccNlt2, ccNle2, Nat.reduceAdd, Nat.reduceMul, Nat.reduceSub, Nat.reduceLT, Nat.reduceLeDiff, Nat.reduceEqDiff, Nat.reduceDiv, Nat.reduceMod, e₁, e₂, h₅, decide_true, Bool.not_true]
    rfl
  · simp (disch := omega) only [true_and, and_true, false_and, and_false, if_true, if_false, ccIte, ccBi, ccBiX, ccBv, ccBvX, ccZ0, ccZ1, ccTZ, ccT0, ccT1, Bool.or_false, ccMckT, ccMckIn, ne_eq, not_true_eq_false, not_false_eq_true, if_pos, if_neg, reduceIte, eq_self, Bool.false_eq_true, Bool.true_eq_false, mix_N, N_add, N_mul, N_sub, N_div, ccMod, N_lt, N_le, N_eq, ccNm, ccMN, ccNm2, ccM2N, ccMM2, ccM2M, ccMlt, ccMle, ccNltM, ccNleM, ccM2lt, ccM2le, ccNlt2, ccNle2, Nat.reduceAdd, Nat.reduceMul, Nat.reduceSub, Nat.reduceLT, Nat.reduceLeDiff, Nat.reduceEqDiff, Nat.reduceDiv, Nat.reduceMod, e₁, e₂, h₅, decide_false, Bool.not_false]
    rfl
theorem ccE228p {mi : mMi} {rs : mRs} {p : Nat} (h₁ : p < 96) : F228 (N (2 * p + 0)) mi rs = rI (ccT (ccPm (mi 4 0 3) p)) mi rs := by
  have e₁ : (2 * p + 0) % 2 = 0 := by omega
  have e₂ : (2 * p + 0) / 2 = p := by omega
  unfold F228 ccPm
  by_cases h₅ : mi 4 0 3 (248 + 4 * p) = I (-1)
  · simp (disch := omega) only [true_and, and_true, false_and, and_false, if_true, if_false, ccIte, ccBi, ccBiX, ccBv, ccBvX, ccZ0, ccZ1, ccTZ, ccT0, ccT1, Bool.or_false, ccMckT, ccMckIn, ne_eq, not_true_eq_false, not_false_eq_true, if_pos, if_neg, reduceIte, eq_self, Bool.false_eq_true, Bool.true_eq_false, mix_N, N_add, N_mul, N_sub, N_div, ccMod, N_lt, N_le, N_eq, ccNm, ccMN, ccNm2, ccM2N, ccMM2, ccM2M, ccMlt, ccMle, ccNltM, ccNleM, ccM2lt, ccM2le, ccNlt2, ccNle2, Nat.reduceAdd, Nat.reduceMul, Nat.reduceSub, Nat.reduceLT, Nat.reduceLeDiff, Nat.reduceEqDiff, Nat.reduceDiv, Nat.reduceMod, e₁, e₂, h₅, ccE201a, decide_true, Bool.not_true]
    rfl
  · simp (disch := omega) only [true_and, and_true, false_and, and_false, if_true, if_false, ccIte, ccBi, ccBiX, ccBv, ccBvX, ccZ0, ccZ1, ccTZ, ccT0, ccT1, Bool.or_false, ccMckT, ccMckIn, ne_eq, not_true_eq_false, not_false_eq_true, if_pos, if_neg, reduceIte, eq_self, Bool.false_eq_true, Bool.true_eq_false, mix_N, N_add, N_mul, N_sub, N_div, ccMod, N_lt, N_le, N_eq, ccNm, ccMN, ccNm2, ccM2N, ccMM2, ccM2M, ccMlt, ccMle, ccNltM, ccNleM, ccM2lt, ccM2le, ccNlt2, ccNle2, Nat.reduceAdd, Nat.reduceMul, Nat.reduceSub, Nat.reduceLT, Nat.reduceLeDiff, Nat.reduceEqDiff, Nat.reduceDiv, Nat.reduceMod, e₁, e₂, h₅, ccE201a, decide_false, Bool.not_false]
    rfl
