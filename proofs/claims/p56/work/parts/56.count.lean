/-! COUNTS. -/
theorem ccE2 {m : mMi} {rs : mRs} {i k : Nat} (h₁ : k < 40) : F2 i (N k) m rs = rI (ccT (decide (m 0 i 13 k = I (-1)))) m rs := by
  unfold F2
  by_cases h₂ : m 0 i 13 k = I (-1)
  · simp (disch := omega) only [true_and, and_true, false_and, and_false, if_true, if_false, ccIte, ccBi, ccBiX, ccBv, ccBvX, ccZ0, ccZ1, ccTZ, ccT0, ccT1, Bool.or_false, ccMckT, ccMckIn, ne_eq, not_true_eq_false, not_false_eq_true, if_pos, if_neg, reduceIte, eq_self, Bool.false_eq_true, Bool.true_eq_false, mix_N, N_add, N_mul, N_sub, N_div, ccMod, N_lt, N_le, N_eq, ccNm, ccMN, ccNm2, ccM2N, ccMM2, ccM2M, ccMlt, ccMle, ccNltM, ccNleM, ccM2lt, ccM2le, ccNlt2, ccNle2, Nat.reduceAdd, Nat.reduceMul, Nat.reduceSub, Nat.reduceLT, Nat.reduceLeDiff, Nat.reduceEqDiff, Nat.reduceDiv, Nat.reduceMod, h₂, decide_true]
    rfl
  · simp (disch := omega) only [true_and, and_true, false_and, and_false, if_true, if_false, ccIte, ccBi, ccBiX, ccBv, ccBvX, ccZ0, ccZ1, ccTZ, ccT0, ccT1, Bool.or_false, ccMckT, ccMckIn, ne_eq, not_true_eq_false, not_false_eq_true, if_pos, if_neg, reduceIte, eq_self, Bool.false_eq_true, Bool.true_eq_false, mix_N, N_add, N_mul, N_sub, N_div, ccMod, N_lt, N_le, N_eq, ccNm, ccMN, ccNm2, ccM2N, ccMM2, ccM2M, ccMlt, ccMle, ccNltM, ccNleM, ccM2lt, ccM2le, ccNlt2, ccNle2, Nat.reduceAdd, Nat.reduceMul, Nat.reduceSub, Nat.reduceLT, Nat.reduceLeDiff, Nat.reduceEqDiff, Nat.reduceDiv, Nat.reduceMod, h₂, decide_false]
    rfl
theorem ccCnt_s {f : Nat → Bool} {k : Nat} : ccCnt f (k + 1) = ccCnt f k + (if f k = true then 1 else 0) := rfl
theorem ccL54 {m : mMi} {i : Nat} : ∀ d p f rs, p + d = 96 → F54_4 i (f + d + 1) (N (ccCnt (ccP (m 0 i)) p)) (N p) m rs = rI (N (ccCnt (ccP (m 0 i)) 96)) m rs := by
  intro d
  induction d with
  | zero =>
    intro p f rs h₁
    have e₁ : p = 96 := by omega
    subst e₁
    rw [ccL54_4]
    simp (disch := omega) only [true_and, and_true, false_and, and_false, if_true, if_false, ccIte, ccBi, ccBiX, ccBv, ccBvX, ccZ0, ccZ1, ccTZ, ccT0, ccT1, Bool.or_false, ccMckT, ccMckIn, ne_eq, not_true_eq_false, not_false_eq_true, if_pos, if_neg, reduceIte, eq_self, Bool.false_eq_true, Bool.true_eq_false, mix_N, N_add, N_mul, N_sub, N_div, ccMod, N_lt, N_le, N_eq, ccNm, ccMN, ccNm2, ccM2N, ccMM2, ccM2M, ccMlt, ccMle, ccNltM, ccNleM, ccM2lt, ccM2le, ccNlt2, ccNle2, Nat.reduceAdd, Nat.reduceMul, Nat.reduceSub, Nat.reduceLT, Nat.reduceLeDiff, Nat.reduceEqDiff, Nat.reduceDiv, Nat.reduceMod]
  | succ d i₁ =>
    intro p f rs h₁
    have e₁ : f + (d + 1) + 1 = f + d + 1 + 1 := by omega
    have e₂ := i₁ (p + 1) f rs (by omega)
    rw [ccCnt_s] at e₂
    rw [e₁, ccL54_4]
    cases h₂ : ccP (m 0 i) p
    · rw [h₂] at e₂
      simp (disch := omega) only [true_and, and_true, false_and, and_false, if_true, if_false, ccIte, ccBi, ccBiX, ccBv, ccBvX, ccZ0, ccZ1, ccTZ, ccT0, ccT1, Bool.or_false, ccMckT, ccMckIn, ne_eq, not_true_eq_false, not_false_eq_true, if_pos, if_neg, reduceIte, eq_self, Bool.false_eq_true, Bool.true_eq_false, mix_N, N_add, N_mul, N_sub, N_div, ccMod, N_lt, N_le, N_eq, ccNm, ccMN, ccNm2, ccM2N, ccMM2, ccM2M, ccMlt, ccMle, ccNltM, ccNleM, ccM2lt, ccM2le, ccNlt2, ccNle2, Nat.reduceAdd, Nat.reduceMul, Nat.reduceSub, Nat.reduceLT, Nat.reduceLeDiff, Nat.reduceEqDiff, Nat.reduceDiv, Nat.reduceMod, ccE51, h₂] at e₂ ⊢
      exact e₂
    · rw [h₂] at e₂
      simp (disch := omega) only [true_and, and_true, false_and, and_false, if_true, if_false, ccIte, ccBi, ccBiX, ccBv, ccBvX, ccZ0, ccZ1, ccTZ, ccT0, ccT1, Bool.or_false, ccMckT, ccMckIn, ne_eq, not_true_eq_false, not_false_eq_true, if_pos, if_neg, reduceIte, eq_self, Bool.false_eq_true, Bool.true_eq_false, mix_N, N_add, N_mul, N_sub, N_div, ccMod, N_lt, N_le, N_eq, ccNm, ccMN, ccNm2, ccM2N, ccMM2, ccM2M, ccMlt, ccMle, ccNltM, ccNleM, ccM2lt, ccM2le, ccNlt2, ccNle2, Nat.reduceAdd, Nat.reduceMul, Nat.reduceSub, Nat.reduceLT, Nat.reduceLeDiff, Nat.reduceEqDiff, Nat.reduceDiv, Nat.reduceMod, ccE51, h₂] at e₂ ⊢
      exact e₂
theorem ccE54 {m : mMi} {rs : mRs} {i : Nat} : F54 i m rs = rI (N (ccCnt (ccP (m 0 i)) 96)) m rs := by
  obtain ⟨g, hg⟩ := ccFU (k := 96) (by omega)
  unfold F54
  rw [hg]
  exact ccL54 96 0 g rs (by omega)
theorem ccL55 {m : mMi} {i : Nat} : ∀ d p f rs, p + d = 96 → F55_4 i (f + d + 1) (N (ccCnt (ccF (m 0 i)) p)) (N p) m rs = rI (N (ccCnt (ccF (m 0 i)) 96)) m rs := by
  intro d
  induction d with
  | zero =>
    intro p f rs h₁
    have e₁ : p = 96 := by omega
    subst e₁
    rw [ccL55_4]
    simp (disch := omega) only [true_and, and_true, false_and, and_false, if_true, if_false, ccIte, ccBi, ccBiX, ccBv, ccBvX, ccZ0, ccZ1, ccTZ, ccT0, ccT1, Bool.or_false, ccMckT, ccMckIn, ne_eq, not_true_eq_false, not_false_eq_true, if_pos, if_neg, reduceIte, eq_self, Bool.false_eq_true, Bool.true_eq_false, mix_N, N_add, N_mul, N_sub, N_div, ccMod, N_lt, N_le, N_eq, ccNm, ccMN, ccNm2, ccM2N, ccMM2, ccM2M, ccMlt, ccMle, ccNltM, ccNleM, ccM2lt, ccM2le, ccNlt2, ccNle2, Nat.reduceAdd, Nat.reduceMul, Nat.reduceSub, Nat.reduceLT, Nat.reduceLeDiff, Nat.reduceEqDiff, Nat.reduceDiv, Nat.reduceMod]
  | succ d i₁ =>
    intro p f rs h₁
    have e₁ : f + (d + 1) + 1 = f + d + 1 + 1 := by omega
    have e₂ := i₁ (p + 1) f rs (by omega)
    rw [ccCnt_s] at e₂
    rw [e₁, ccL55_4]
    cases h₂ : ccF (m 0 i) p
    · rw [h₂] at e₂
      simp (disch := omega) only [true_and, and_true, false_and, and_false, if_true, if_false, ccIte, ccBi, ccBiX, ccBv, ccBvX, ccZ0, ccZ1, ccTZ, ccT0, ccT1, Bool.or_false, ccMckT, ccMckIn, ne_eq, not_true_eq_false, not_false_eq_true, if_pos, if_neg, reduceIte, eq_self, Bool.false_eq_true, Bool.true_eq_false, mix_N, N_add, N_mul, N_sub, N_div, ccMod, N_lt, N_le, N_eq, ccNm, ccMN, ccNm2, ccM2N, ccMM2, ccM2M, ccMlt, ccMle, ccNltM, ccNleM, ccM2lt, ccM2le, ccNlt2, ccNle2, Nat.reduceAdd, Nat.reduceMul, Nat.reduceSub, Nat.reduceLT, Nat.reduceLeDiff, Nat.reduceEqDiff, Nat.reduceDiv, Nat.reduceMod, ccE52, h₂] at e₂ ⊢
      exact e₂
    · rw [h₂] at e₂
      simp (disch := omega) only [true_and, and_true, false_and, and_false, if_true, if_false, ccIte, ccBi, ccBiX, ccBv, ccBvX, ccZ0, ccZ1, ccTZ, ccT0, ccT1, Bool.or_false, ccMckT, ccMckIn, ne_eq, not_true_eq_false, not_false_eq_true, if_pos, if_neg, reduceIte, eq_self, Bool.false_eq_true, Bool.true_eq_false, mix_N, N_add, N_mul, N_sub, N_div, ccMod, N_lt, N_le, N_eq, ccNm, ccMN, ccNm2, ccM2N, ccMM2, ccM2M, ccMlt, ccMle, ccNltM, ccNleM, ccM2lt, ccM2le, ccNlt2, ccNle2, Nat.reduceAdd, Nat.reduceMul, Nat.reduceSub, Nat.reduceLT, Nat.reduceLeDiff, Nat.reduceEqDiff, Nat.reduceDiv, Nat.reduceMod, ccE52, h₂] at e₂ ⊢
      exact e₂
theorem ccE55 {m : mMi} {rs : mRs} {i : Nat} : F55 i m rs = rI (N (ccCnt (ccF (m 0 i)) 96)) m rs := by
  obtain ⟨g, hg⟩ := ccFU (k := 96) (by omega)
  unfold F55
  rw [hg]
  exact ccL55 96 0 g rs (by omega)
def ccHeld (C : Nat → Nat → Int32) : Nat → Bool := fun k => decide (C 13 k = I (-1))
theorem ccL6 {m : mMi} {i w l n : Nat} (q₁ : ccRu m (RO i) w l n) : ∀ d p f rs, p + d = n → F6_4 i (f + d + 1) (N (ccCnt (ccHeld (m 0 i)) p)) (N p) m rs = rI (N (ccCnt (ccHeld (m 0 i)) n)) m rs := by
  have b₃ : n ≤ 40 := q₁.2.2.2.2.2.2.2
  intro d
  induction d with
  | zero =>
    intro p f rs h₁
    have e₁ : p = n := by omega
    subst e₁
    rw [ccL6_4, q₁.2.2.1]
    simp (disch := omega) only [true_and, and_true, false_and, and_false, if_true, if_false, ccIte, ccBi, ccBiX, ccBv, ccBvX, ccZ0, ccZ1, ccTZ, ccT0, ccT1, Bool.or_false, ccMckT, ccMckIn, ne_eq, not_true_eq_false, not_false_eq_true, if_pos, if_neg, reduceIte, eq_self, Bool.false_eq_true, Bool.true_eq_false, mix_N, N_add, N_mul, N_sub, N_div, ccMod, N_lt, N_le, N_eq, ccNm, ccMN, ccNm2, ccM2N, ccMM2, ccM2M, ccMlt, ccMle, ccNltM, ccNleM, ccM2lt, ccM2le, ccNlt2, ccNle2, Nat.reduceAdd, Nat.reduceMul, Nat.reduceSub, Nat.reduceLT, Nat.reduceLeDiff, Nat.reduceEqDiff, Nat.reduceDiv, Nat.reduceMod]
  | succ d i₁ =>
    intro p f rs h₁
    have e₁ : f + (d + 1) + 1 = f + d + 1 + 1 := by omega
    have e₂ := i₁ (p + 1) f rs (by omega)
    rw [ccCnt_s] at e₂
    rw [e₁, ccL6_4, q₁.2.2.1]
    have e₃ : ∀ r₁, F2 i (N p) m r₁ = rI (ccT (ccHeld (m 0 i) p)) m r₁ := fun r₁ => ccE2 (by omega)
    cases h₂ : ccHeld (m 0 i) p
    · rw [h₂] at e₂ e₃
      simp (disch := omega) only [true_and, and_true, false_and, and_false, if_true, if_false, ccIte, ccBi, ccBiX, ccBv, ccBvX, ccZ0, ccZ1, ccTZ, ccT0, ccT1, Bool.or_false, ccMckT, ccMckIn, ne_eq, not_true_eq_false, not_false_eq_true, if_pos, if_neg, reduceIte, eq_self, Bool.false_eq_true, Bool.true_eq_false, mix_N, N_add, N_mul, N_sub, N_div, ccMod, N_lt, N_le, N_eq, ccNm, ccMN, ccNm2, ccM2N, ccMM2, ccM2M, ccMlt, ccMle, ccNltM, ccNleM, ccM2lt, ccM2le, ccNlt2, ccNle2, Nat.reduceAdd, Nat.reduceMul, Nat.reduceSub, Nat.reduceLT, Nat.reduceLeDiff, Nat.reduceEqDiff, Nat.reduceDiv, Nat.reduceMod, e₃] at e₂ ⊢
      exact e₂
    · rw [h₂] at e₂ e₃
      simp (disch := omega) only [true_and, and_true, false_and, and_false, if_true, if_false, ccIte, ccBi, ccBiX, ccBv, ccBvX, ccZ0, ccZ1, ccTZ, ccT0, ccT1, Bool.or_false, ccMckT, ccMckIn, ne_eq, not_true_eq_false, not_false_eq_true, if_pos, if_neg, reduceIte, eq_self, Bool.false_eq_true, Bool.true_eq_false, mix_N, N_add, N_mul, N_sub, N_div, ccMod, N_lt, N_le, N_eq, ccNm, ccMN, ccNm2, ccM2N, ccMM2, ccM2M, ccMlt, ccMle, ccNltM, ccNleM, ccM2lt, ccM2le, ccNlt2, ccNle2, Nat.reduceAdd, Nat.reduceMul, Nat.reduceSub, Nat.reduceLT, Nat.reduceLeDiff, Nat.reduceEqDiff, Nat.reduceDiv, Nat.reduceMod, e₃] at e₂ ⊢
      exact e₂
theorem ccE6 {m : mMi} {rs : mRs} {i w l n : Nat} (q₁ : ccRu m (RO i) w l n) : F6 i m rs = rI (N (ccCnt (ccHeld (m 0 i)) n)) m rs := by
  have b₃ : n ≤ 40 := q₁.2.2.2.2.2.2.2
  obtain ⟨g, hg⟩ := ccFU (k := n) (by omega)
  unfold F6
  rw [hg]
  exact ccL6 q₁ n 0 g rs (by omega)
/-! the reference's -/
theorem ccE224t {m : mMi} {rs : mRs} : F224 (N 1) m rs = rI (N 1) m rs := rfl
theorem ccE224f {m : mMi} {rs : mRs} : F224 (N 0) m rs = rI (N 0) m rs := rfl
theorem ccL233 {m : mMi} {C : Nat → Nat → Int32} (q₁ : ccRA C (m 4 0 3)) : ∀ d p f rs, p + d = 96 → F233_4 (f + d + 1) (N (ccCnt (ccP C) p)) (N p) m rs = rI (N (ccCnt (ccP C) 96)) m rs := by
  intro d
  induction d with
  | zero =>
    intro p f rs h₁
    have e₁ : p = 96 := by omega
    subst e₁
    rw [ccL233_4]
    simp (disch := omega) only [true_and, and_true, false_and, and_false, if_true, if_false, ccIte, ccBi, ccBiX, ccBv, ccBvX, ccZ0, ccZ1, ccTZ, ccT0, ccT1, Bool.or_false, ccMckT, ccMckIn, ne_eq, not_true_eq_false, not_false_eq_true, if_pos, if_neg, reduceIte, eq_self, Bool.false_eq_true, Bool.true_eq_false, mix_N, N_add, N_mul, N_sub, N_div, ccMod, N_lt, N_le, N_eq, ccNm, ccMN, ccNm2, ccM2N, ccMM2, ccM2M, ccMlt, ccMle, ccNltM, ccNleM, ccM2lt, ccM2le, ccNlt2, ccNle2, Nat.reduceAdd, Nat.reduceMul, Nat.reduceSub, Nat.reduceLT, Nat.reduceLeDiff, Nat.reduceEqDiff, Nat.reduceDiv, Nat.reduceMod]
  | succ d i₁ =>
    intro p f rs h₁
    have e₁ : f + (d + 1) + 1 = f + d + 1 + 1 := by omega
    have e₂ := i₁ (p + 1) f rs (by omega)
    have e₃ := (q₁ p (by omega)).1
    rw [ccCnt_s] at e₂
    rw [e₁, ccL233_4]
    by_cases h₂ : C 2 p = I (-1)
    · have h₃ : ccP C p = false := by unfold ccP; rw [h₂]; rfl
      rw [h₃] at e₂
      simp (disch := omega) only [true_and, and_true, false_and, and_false, if_true, if_false, ccIte, ccBi, ccBiX, ccBv, ccBvX, ccZ0, ccZ1, ccTZ, ccT0, ccT1, Bool.or_false, ccMckT, ccMckIn, ne_eq, not_true_eq_false, not_false_eq_true, if_pos, if_neg, reduceIte, eq_self, Bool.false_eq_true, Bool.true_eq_false, mix_N, N_add, N_mul, N_sub, N_div, ccMod, N_lt, N_le, N_eq, ccNm, ccMN, ccNm2, ccM2N, ccMM2, ccM2M, ccMlt, ccMle, ccNltM, ccNleM, ccM2lt, ccM2le, ccNlt2, ccNle2, Nat.reduceAdd, Nat.reduceMul, Nat.reduceSub, Nat.reduceLT, Nat.reduceLeDiff, Nat.reduceEqDiff, Nat.reduceDiv, Nat.reduceMod, ccE201a, e₃, h₂, ccE224f] at e₂ ⊢
      exact e₂
    · have h₃ : ccP C p = true := by unfold ccP; rw [decide_eq_false h₂]; rfl
      rw [h₃] at e₂
      simp (disch := omega) only [true_and, and_true, false_and, and_false, if_true, if_false, ccIte, ccBi, ccBiX, ccBv, ccBvX, ccZ0, ccZ1, ccTZ, ccT0, ccT1, Bool.or_false, ccMckT, ccMckIn, ne_eq, not_true_eq_false, not_false_eq_true, if_pos, if_neg, reduceIte, eq_self, Bool.false_eq_true, Bool.true_eq_false, mix_N, N_add, N_mul, N_sub, N_div, ccMod, N_lt, N_le, N_eq, ccNm, ccMN, ccNm2, ccM2N, ccMM2, ccM2M, ccMlt, ccMle, ccNltM, ccNleM, ccM2lt, ccM2le, ccNlt2, ccNle2, Nat.reduceAdd, Nat.reduceMul, Nat.reduceSub, Nat.reduceLT, Nat.reduceLeDiff, Nat.reduceEqDiff, Nat.reduceDiv, Nat.reduceMod, ccE201a, e₃, h₂, ccE224t] at e₂ ⊢
      exact e₂
theorem ccE233 {m : mMi} {rs : mRs} {C : Nat → Nat → Int32} (q₁ : ccRA C (m 4 0 3)) : F233 m rs = rI (N (ccCnt (ccP C) 96)) m rs := by
  obtain ⟨g, hg⟩ := ccFU (k := 96) (by omega)
  unfold F233
  rw [hg]
  exact ccL233 q₁ 96 0 g rs (by omega)
theorem ccL234 {m : mMi} {C : Nat → Nat → Int32} (q₁ : ccRA C (m 4 0 3)) : ∀ d p f rs, p + d = 96 → F234_4 (f + d + 1) (N (ccCnt (ccF C) p)) (N p) m rs = rI (N (ccCnt (ccF C) 96)) m rs := by
  intro d
  induction d with
  | zero =>
    intro p f rs h₁
    have e₁ : p = 96 := by omega
    subst e₁
    rw [ccL234_4]
    simp (disch := omega) only [true_and, and_true, false_and, and_false, if_true, if_false, ccIte, ccBi, ccBiX, ccBv, ccBvX, ccZ0, ccZ1, ccTZ, ccT0, ccT1, Bool.or_false, ccMckT, ccMckIn, ne_eq, not_true_eq_false, not_false_eq_true, if_pos, if_neg, reduceIte, eq_self, Bool.false_eq_true, Bool.true_eq_false, mix_N, N_add, N_mul, N_sub, N_div, ccMod, N_lt, N_le, N_eq, ccNm, ccMN, ccNm2, ccM2N, ccMM2, ccM2M, ccMlt, ccMle, ccNltM, ccNleM, ccM2lt, ccM2le, ccNlt2, ccNle2, Nat.reduceAdd, Nat.reduceMul, Nat.reduceSub, Nat.reduceLT, Nat.reduceLeDiff, Nat.reduceEqDiff, Nat.reduceDiv, Nat.reduceMod]
  | succ d i₁ =>
    intro p f rs h₁
    have e₁ : f + (d + 1) + 1 = f + d + 1 + 1 := by omega
    have e₂ := i₁ (p + 1) f rs (by omega)
    have e₃ := (q₁ p (by omega)).2.1
    rw [ccCnt_s] at e₂
    rw [e₁, ccL234_4]
    by_cases h₂ : C 6 p = I (-1)
    · have h₃ : ccF C p = false := by unfold ccF; rw [h₂]; rfl
      rw [h₃] at e₂
      simp (disch := omega) only [true_and, and_true, false_and, and_false, if_true, if_false, ccIte, ccBi, ccBiX, ccBv, ccBvX, ccZ0, ccZ1, ccTZ, ccT0, ccT1, Bool.or_false, ccMckT, ccMckIn, ne_eq, not_true_eq_false, not_false_eq_true, if_pos, if_neg, reduceIte, eq_self, Bool.false_eq_true, Bool.true_eq_false, mix_N, N_add, N_mul, N_sub, N_div, ccMod, N_lt, N_le, N_eq, ccNm, ccMN, ccNm2, ccM2N, ccMM2, ccM2M, ccMlt, ccMle, ccNltM, ccNleM, ccM2lt, ccM2le, ccNlt2, ccNle2, Nat.reduceAdd, Nat.reduceMul, Nat.reduceSub, Nat.reduceLT, Nat.reduceLeDiff, Nat.reduceEqDiff, Nat.reduceDiv, Nat.reduceMod, e₃, h₂, ccE224f] at e₂ ⊢
      exact e₂
    · have h₃ : ccF C p = true := by unfold ccF; rw [decide_eq_false h₂]; rfl
      rw [h₃] at e₂
      simp (disch := omega) only [true_and, and_true, false_and, and_false, if_true, if_false, ccIte, ccBi, ccBiX, ccBv, ccBvX, ccZ0, ccZ1, ccTZ, ccT0, ccT1, Bool.or_false, ccMckT, ccMckIn, ne_eq, not_true_eq_false, not_false_eq_true, if_pos, if_neg, reduceIte, eq_self, Bool.false_eq_true, Bool.true_eq_false, mix_N, N_add, N_mul, N_sub, N_div, ccMod, N_lt, N_le, N_eq, ccNm, ccMN, ccNm2, ccM2N, ccMM2, ccM2M, ccMlt, ccMle, ccNltM, ccNleM, ccM2lt, ccM2le, ccNlt2, ccNle2, Nat.reduceAdd, Nat.reduceMul, Nat.reduceSub, Nat.reduceLT, Nat.reduceLeDiff, Nat.reduceEqDiff, Nat.reduceDiv, Nat.reduceMod, e₃, h₂, ccE224t] at e₂ ⊢
      exact e₂
theorem ccE234 {m : mMi} {rs : mRs} {C : Nat → Nat → Int32} (q₁ : ccRA C (m 4 0 3)) : F234 m rs = rI (N (ccCnt (ccF C) 96)) m rs := by
  obtain ⟨g, hg⟩ := ccFU (k := 96) (by omega)
  unfold F234
  rw [hg]
  exact ccL234 q₁ 96 0 g rs (by omega)
/-- in the hand: of both -/
theorem ccHeld_w {n k : Nat} {β : Nat → Int32} {C : Nat → Nat → Int32} {s : Nat → Int32} (q₁ : ccRC ccX0 n β C s) (h₁ : k < n) (h₂ : n ≤ 40) : (s (9 + 6 * k) = N 0) = (ccHeld C k = true) := by
  unfold ccHeld
  rw [decide_eq_true_eq]
  rcases (q₁ k h₁).2 with ⟨h₃, _⟩ | ⟨_, e₁, e₂⟩ | ⟨_, e₁, e₂⟩ | ⟨_, p, e₀, e₁, _, e₂⟩
  · cases h₃
  · rw [e₁, e₂]
    exact propext ⟨fun _ => rfl, fun _ => rfl⟩
  · rw [e₁, e₂]
    exact propext ⟨fun h₃ => absurd h₃ (by decide), fun h₃ => absurd h₃ (by decide)⟩
  · rw [e₁, ccNm (by omega)]
    rcases e₂ with ⟨e₂, _⟩ | ⟨e₂, _⟩
    · rw [e₂]
      exact propext ⟨fun h₃ => absurd h₃ (by decide), False.elim⟩
    · rw [e₂]
      exact propext ⟨fun h₃ => absurd h₃ (by decide), False.elim⟩
theorem ccL232 {m : mMi} {w l n : Nat} {β : Nat → Int32} {C : Nat → Nat → Int32} (q₀ : ccMo m w l n) (q₁ : ccRC ccX0 n β C (m 4 0 3)) : ∀ d p f rs, p + d = n → F232_4 (f + d + 1) (N (ccCnt (ccHeld C) p)) (N p) m rs = rI (N (ccCnt (ccHeld C) n)) m rs := by
  have b₃ : n ≤ 40 := q₀.2.2.2.2.2.2.2
  intro d
  induction d with
  | zero =>
    intro p f rs h₁
    have e₁ : p = n := by omega
    subst e₁
    rw [ccL232_4, q₀.2.2.1]
    simp (disch := omega) only [true_and, and_true, false_and, and_false, if_true, if_false, ccIte, ccBi, ccBiX, ccBv, ccBvX, ccZ0, ccZ1, ccTZ, ccT0, ccT1, Bool.or_false, ccMckT, ccMckIn, ne_eq, not_true_eq_false, not_false_eq_true, if_pos, if_neg, reduceIte, eq_self, Bool.false_eq_true, Bool.true_eq_false, mix_N, N_add, N_mul, N_sub, N_div, ccMod, N_lt, N_le, N_eq, ccNm, ccMN, ccNm2, ccM2N, ccMM2, ccM2M, ccMlt, ccMle, ccNltM, ccNleM, ccM2lt, ccM2le, ccNlt2, ccNle2, Nat.reduceAdd, Nat.reduceMul, Nat.reduceSub, Nat.reduceLT, Nat.reduceLeDiff, Nat.reduceEqDiff, Nat.reduceDiv, Nat.reduceMod]
  | succ d i₁ =>
    intro p f rs h₁
    have e₁ : f + (d + 1) + 1 = f + d + 1 + 1 := by omega
    have e₂ := i₁ (p + 1) f rs (by omega)
    have e₃ := ccHeld_w q₁ (by omega : p < n) b₃
    rw [ccCnt_s] at e₂
    rw [e₁, ccL232_4, q₀.2.2.1]
    cases h₂ : ccHeld C p
    · rw [h₂] at e₂ e₃
      simp (disch := omega) only [true_and, and_true, false_and, and_false, if_true, if_false, ccIte, ccBi, ccBiX, ccBv, ccBvX, ccZ0, ccZ1, ccTZ, ccT0, ccT1, Bool.or_false, ccMckT, ccMckIn, ne_eq, not_true_eq_false, not_false_eq_true, if_pos, if_neg, reduceIte, eq_self, Bool.false_eq_true, Bool.true_eq_false, mix_N, N_add, N_mul, N_sub, N_div, ccMod, N_lt, N_le, N_eq, ccNm, ccMN, ccNm2, ccM2N, ccMM2, ccM2M, ccMlt, ccMle, ccNltM, ccNleM, ccM2lt, ccM2le, ccNlt2, ccNle2, Nat.reduceAdd, Nat.reduceMul, Nat.reduceSub, Nat.reduceLT, Nat.reduceLeDiff, Nat.reduceEqDiff, Nat.reduceDiv, Nat.reduceMod, ccE204b, e₃, ccE224f] at e₂ ⊢
      exact e₂
    · rw [h₂] at e₂ e₃
      simp (disch := omega) only [true_and, and_true, false_and, and_false, if_true, if_false, ccIte, ccBi, ccBiX, ccBv, ccBvX, ccZ0, ccZ1, ccTZ, ccT0, ccT1, Bool.or_false, ccMckT, ccMckIn, ne_eq, not_true_eq_false, not_false_eq_true, if_pos, if_neg, reduceIte, eq_self, Bool.false_eq_true, Bool.true_eq_false, mix_N, N_add, N_mul, N_sub, N_div, ccMod, N_lt, N_le, N_eq, ccNm, ccMN, ccNm2, ccM2N, ccMM2, ccM2M, ccMlt, ccMle, ccNltM, ccNleM, ccM2lt, ccM2le, ccNlt2, ccNle2, Nat.reduceAdd, Nat.reduceMul, Nat.reduceSub, Nat.reduceLT, Nat.reduceLeDiff, Nat.reduceEqDiff, Nat.reduceDiv, Nat.reduceMod, ccE204b, e₃, ccE224t] at e₂ ⊢
      exact e₂
theorem ccE232 {m : mMi} {rs : mRs} {w l n : Nat} {β : Nat → Int32} {C : Nat → Nat → Int32} (q₀ : ccMo m w l n) (q₁ : ccRC ccX0 n β C (m 4 0 3)) : F232 m rs = rI (N (ccCnt (ccHeld C) n)) m rs := by
  have b₃ : n ≤ 40 := q₀.2.2.2.2.2.2.2
  obtain ⟨g, hg⟩ := ccFU (k := n) (by omega)
  unfold F232
  rw [hg]
  exact ccL232 q₀ q₁ n 0 g rs (by omega)
/-! places -/
def ccS (g : Nat → Nat) : Nat → Nat
  | 0 => 0
  | k + 1 => ccS g k + g k
theorem ccS_le {g : Nat → Nat} {b : Nat} (h₁ : ∀ k, g k ≤ b) : ∀ n, ccS g n ≤ b * n := by
  intro n
  induction n with
  | zero => exact Nat.le_refl 0
  | succ k i₁ =>
    have h₂ := h₁ k
    have e₁ : b * (k + 1) = b * k + b := Nat.mul_add b k 1 ▸ (by rw [Nat.mul_one])
    unfold ccS
    omega
def ccCol (w l : Nat) : Nat → Nat := fun L => if L < l then w - L else 0
theorem ccL83 {m : mMi} {i w l n : Nat} (q₁ : ccRu m i w l n) : ∀ d p f rs, p + d = 8 → F83_4 i (f + d + 1) (N (ccS (ccCol w l) p)) (N p) m rs = rI (N (ccS (ccCol w l) 8)) m rs := by
  intro d
  induction d with
  | zero =>
    intro p f rs h₁
    have e₁ : p = 8 := by omega
    subst e₁
    rw [ccL83_4]
    simp (disch := omega) only [true_and, and_true, false_and, and_false, if_true, if_false, ccIte, ccBi, ccBiX, ccBv, ccBvX, ccZ0, ccZ1, ccTZ, ccT0, ccT1, Bool.or_false, ccMckT, ccMckIn, ne_eq, not_true_eq_false, not_false_eq_true, if_pos, if_neg, reduceIte, eq_self, Bool.false_eq_true, Bool.true_eq_false, mix_N, N_add, N_mul, N_sub, N_div, ccMod, N_lt, N_le, N_eq, ccNm, ccMN, ccNm2, ccM2N, ccMM2, ccM2M, ccMlt, ccMle, ccNltM, ccNleM, ccM2lt, ccM2le, ccNlt2, ccNle2, Nat.reduceAdd, Nat.reduceMul, Nat.reduceSub, Nat.reduceLT, Nat.reduceLeDiff, Nat.reduceEqDiff, Nat.reduceDiv, Nat.reduceMod]
  | succ d i₁ =>
    intro p f rs h₁
    have e₁ : f + (d + 1) + 1 = f + d + 1 + 1 := by omega
    rw [e₁, ccL83_4, ccE80 q₁ (by omega)]
    simp (disch := omega) only [ccBi, ccIte, N_le, if_neg, N_add]
    exact i₁ (p + 1) f rs (by omega)
theorem ccE83 {m : mMi} {rs : mRs} {i w l n : Nat} (q₁ : ccRu m i w l n) : F83 i m rs = rI (N (ccS (ccCol w l) 8)) m rs := by
  obtain ⟨g, hg⟩ := ccFU (k := 8) (by omega)
  unfold F83
  rw [hg]
  exact ccL83 q₁ 8 0 g rs (by omega)
theorem ccL235 {m : mMi} {w l n : Nat} (q₀ : ccMo m w l n) : ∀ d p f rs, p + d = l → F235_4 (f + d + 1) (N (ccS (ccCol w l) p)) (N p) m rs = rI (N (ccS (ccCol w l) l)) m rs := by
  obtain ⟨g₁, g₂, g₃, b₁, b₂, b₃, b₄, b₅⟩ := q₀
  intro d
  induction d with
  | zero =>
    intro p f rs h₁
    have e₁ : p = l := by omega
    subst e₁
    rw [ccL235_4, g₂]
    simp (disch := omega) only [true_and, and_true, false_and, and_false, if_true, if_false, ccIte, ccBi, ccBiX, ccBv, ccBvX, ccZ0, ccZ1, ccTZ, ccT0, ccT1, Bool.or_false, ccMckT, ccMckIn, ne_eq, not_true_eq_false, not_false_eq_true, if_pos, if_neg, reduceIte, eq_self, Bool.false_eq_true, Bool.true_eq_false, mix_N, N_add, N_mul, N_sub, N_div, ccMod, N_lt, N_le, N_eq, ccNm, ccMN, ccNm2, ccM2N, ccMM2, ccM2M, ccMlt, ccMle, ccNltM, ccNleM, ccM2lt, ccM2le, ccNlt2, ccNle2, Nat.reduceAdd, Nat.reduceMul, Nat.reduceSub, Nat.reduceLT, Nat.reduceLeDiff, Nat.reduceEqDiff, Nat.reduceDiv, Nat.reduceMod]
  | succ d i₁ =>
    intro p f rs h₁
    have e₁ : f + (d + 1) + 1 = f + d + 1 + 1 := by omega
    have e₂ : (if N 0 < N w - N p then N w - N p else N 0) = N (ccCol w l p) := by
      have e₃ : ccCol w l p = w - p := if_pos (by omega)
      rw [e₃]
      by_cases h₂ : p < w
      · rw [N_sub (by omega), if_pos (by rw [N_lt (by omega) (by omega)]; omega)]
      · have e₄ : w - p = 0 := by omega
        have e₅ : ¬ N 0 < N w - N p := by
          have e₆ := ccSubLe (a := w) (b := p) (c := 0) (by omega) (by omega) (by omega)
          rw [ccLeLt] at e₆
          exact e₆.mpr trivial
        rw [if_neg e₅, e₄]
    rw [e₁, ccL235_4, g₂, g₁, e₂]
    simp (disch := omega) only [ccIte, N_le, if_neg, N_add]
    exact i₁ (p + 1) f rs (by omega)
theorem ccS_l {w l : Nat} (h₁ : l ≤ 8) : ccS (ccCol w l) 8 = ccS (ccCol w l) l := by
  have h₂ : ∀ k, ccS (ccCol w l) (l + k) = ccS (ccCol w l) l := by
    intro k
    induction k with
    | zero => rfl
    | succ k i₁ =>
      show ccS (ccCol w l) (l + k) + ccCol w l (l + k) = _
      have e₁ : ccCol w l (l + k) = 0 := if_neg (by omega)
      rw [i₁, e₁, Nat.add_zero]
  have h₃ := h₂ (8 - l)
  have h₄ : l + (8 - l) = 8 := by omega
  rw [h₄] at h₃
  exact h₃
theorem ccE235 {m : mMi} {rs : mRs} {w l n : Nat} (q₀ : ccMo m w l n) : F235 m rs = rI (N (ccS (ccCol w l) 8)) m rs := by
  have b₂ : l ≤ 8 := q₀.2.2.2.2.2.2.1
  obtain ⟨g, hg⟩ := ccFU (k := l) (by omega)
  unfold F235
  rw [hg, ccS_l b₂]
  exact ccL235 q₀ l 0 g rs (by omega)
