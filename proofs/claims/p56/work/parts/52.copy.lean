/-! COPIES of rows and castles. -/
def ccCp (m : mMi) (j₁ o₁ j₂ o₂ b : Nat) : mMi := fun f i j p => if f = 4 ∧ i = 0 ∧ j = j₁ ∧ o₁ ≤ p ∧ p < o₁ + b then m 4 0 j₂ (o₂ + (p - o₁)) else m f i j p
theorem ccCp_0 {m : mMi} {j₁ o₁ j₂ o₂ : Nat} : ccCp m j₁ o₁ j₂ o₂ 0 = m := by
  funext f i j p
  unfold ccCp
  rw [if_neg (by omega)]
theorem ccCp_rd {m : mMi} {j₁ o₁ j₂ o₂ b : Nat} (h₁ : j₁ ≠ j₂ ∨ o₁ ≤ o₂) : ccCp m j₁ o₁ j₂ o₂ b 4 0 j₂ (o₂ + b) = m 4 0 j₂ (o₂ + b) := by
  unfold ccCp
  rw [if_neg (by omega)]
theorem ccCp_st {m : mMi} {j₁ o₁ j₂ o₂ b : Nat} : mset (ccCp m j₁ o₁ j₂ o₂ b) 4 0 j₁ (o₁ + b) (m 4 0 j₂ (o₂ + b)) = ccCp m j₁ o₁ j₂ o₂ (b + 1) := by
  funext f i j p
  rw [ccRd]
  by_cases h₁ : f = 4 ∧ i = 0 ∧ j = j₁ ∧ p = o₁ + b
  · obtain ⟨e₁, e₂, e₃, e₄⟩ := h₁
    subst e₁ e₂ e₃ e₄
    have e₅ : o₁ + b - o₁ = b := by omega
    unfold ccCp
    rw [if_pos ⟨rfl, rfl, rfl, rfl⟩, if_pos ⟨rfl, rfl, rfl, by omega, by omega⟩, e₅]
  · rw [if_neg h₁]
    unfold ccCp
    by_cases h₂ : f = 4 ∧ i = 0 ∧ j = j₁ ∧ o₁ ≤ p ∧ p < o₁ + b
    · rw [if_pos h₂, if_pos ⟨h₂.1, h₂.2.1, h₂.2.2.1, h₂.2.2.2.1, by omega⟩]
    · rw [if_neg h₂, if_neg (by omega)]
theorem ccL255 {m : mMi} : ∀ d p f rs, p + d = 918 → F255_2 (f + d + 1) (N p) (ccCp m 4 0 3 0 p) rs = rV (ccCp m 4 0 3 0 918) rs := by
  intro d
  induction d with
  | zero =>
    intro p f rs h₁
    have e₁ : p = 918 := by omega
    subst e₁
    rw [ccL255_2]
    simp (disch := omega) only [true_and, and_true, false_and, and_false, if_true, if_false, ccIte, ccBi, ccBiX, ccBv, ccBvX, ccZ0, ccZ1, ccTZ, ccT0, ccT1, Bool.or_false, ccMckT, ccMckIn, ne_eq, not_true_eq_false, not_false_eq_true, if_pos, if_neg, reduceIte, eq_self, Bool.false_eq_true, Bool.true_eq_false, mix_N, N_add, N_mul, N_sub, N_div, ccMod, N_lt, N_le, N_eq, ccNm, ccMN, ccNm2, ccM2N, ccMM2, ccM2M, ccMlt, ccMle, ccNltM, ccNleM, ccM2lt, ccM2le, ccNlt2, ccNle2, Nat.reduceAdd, Nat.reduceMul, Nat.reduceSub, Nat.reduceLT, Nat.reduceLeDiff, Nat.reduceEqDiff, Nat.reduceDiv, Nat.reduceMod]
  | succ d i₁ =>
    intro p f rs h₁
    have e₁ : f + (d + 1) + 1 = f + d + 1 + 1 := by omega
    have e₂ := ccCp_rd (m := m) (j₁ := 4) (o₁ := 0) (j₂ := 3) (o₂ := 0) (b := p) (by omega)
    have e₃ := ccCp_st (m := m) (j₁ := 4) (o₁ := 0) (j₂ := 3) (o₂ := 0) (b := p)
    rw [Nat.zero_add] at e₂ e₃
    rw [e₁, ccL255_2]
    simp (disch := omega) only [true_and, and_true, false_and, and_false, if_true, if_false, ccIte, ccBi, ccBiX, ccBv, ccBvX, ccZ0, ccZ1, ccTZ, ccT0, ccT1, Bool.or_false, ccMckT, ccMckIn, ne_eq, not_true_eq_false, not_false_eq_true, if_pos, if_neg, reduceIte, eq_self, Bool.false_eq_true, Bool.true_eq_false, mix_N, N_add, N_mul, N_sub, N_div, ccMod, N_lt, N_le, N_eq, ccNm, ccMN, ccNm2, ccM2N, ccMM2, ccM2M, ccMlt, ccMle, ccNltM, ccNleM, ccM2lt, ccM2le, ccNlt2, ccNle2, Nat.reduceAdd, Nat.reduceMul, Nat.reduceSub, Nat.reduceLT, Nat.reduceLeDiff, Nat.reduceEqDiff, Nat.reduceDiv, Nat.reduceMod, e₂, e₃]
    exact i₁ (p + 1) f rs (by omega)
theorem ccE255 {m : mMi} {rs : mRs} : F255 m rs = rV (ccCp m 4 0 3 0 918) rs := by
  obtain ⟨g, hg⟩ := ccFU (k := 918) (by omega)
  have e₁ := ccL255 (m := m) 918 0 g rs (by omega)
  rw [ccCp_0] at e₁
  unfold F255
  rw [hg]
  exact e₁
theorem ccL256 {m : mMi} : ∀ d p f rs, p + d = 918 → F256_2 (f + d + 1) (N p) (ccCp m 3 0 4 0 p) rs = rV (ccCp m 3 0 4 0 918) rs := by
  intro d
  induction d with
  | zero =>
    intro p f rs h₁
    have e₁ : p = 918 := by omega
    subst e₁
    rw [ccL256_2]
    simp (disch := omega) only [true_and, and_true, false_and, and_false, if_true, if_false, ccIte, ccBi, ccBiX, ccBv, ccBvX, ccZ0, ccZ1, ccTZ, ccT0, ccT1, Bool.or_false, ccMckT, ccMckIn, ne_eq, not_true_eq_false, not_false_eq_true, if_pos, if_neg, reduceIte, eq_self, Bool.false_eq_true, Bool.true_eq_false, mix_N, N_add, N_mul, N_sub, N_div, ccMod, N_lt, N_le, N_eq, ccNm, ccMN, ccNm2, ccM2N, ccMM2, ccM2M, ccMlt, ccMle, ccNltM, ccNleM, ccM2lt, ccM2le, ccNlt2, ccNle2, Nat.reduceAdd, Nat.reduceMul, Nat.reduceSub, Nat.reduceLT, Nat.reduceLeDiff, Nat.reduceEqDiff, Nat.reduceDiv, Nat.reduceMod]
  | succ d i₁ =>
    intro p f rs h₁
    have e₁ : f + (d + 1) + 1 = f + d + 1 + 1 := by omega
    have e₂ := ccCp_rd (m := m) (j₁ := 3) (o₁ := 0) (j₂ := 4) (o₂ := 0) (b := p) (by omega)
    have e₃ := ccCp_st (m := m) (j₁ := 3) (o₁ := 0) (j₂ := 4) (o₂ := 0) (b := p)
    rw [Nat.zero_add] at e₂ e₃
    rw [e₁, ccL256_2]
    simp (disch := omega) only [true_and, and_true, false_and, and_false, if_true, if_false, ccIte, ccBi, ccBiX, ccBv, ccBvX, ccZ0, ccZ1, ccTZ, ccT0, ccT1, Bool.or_false, ccMckT, ccMckIn, ne_eq, not_true_eq_false, not_false_eq_true, if_pos, if_neg, reduceIte, eq_self, Bool.false_eq_true, Bool.true_eq_false, mix_N, N_add, N_mul, N_sub, N_div, ccMod, N_lt, N_le, N_eq, ccNm, ccMN, ccNm2, ccM2N, ccMM2, ccM2M, ccMlt, ccMle, ccNltM, ccNleM, ccM2lt, ccM2le, ccNlt2, ccNle2, Nat.reduceAdd, Nat.reduceMul, Nat.reduceSub, Nat.reduceLT, Nat.reduceLeDiff, Nat.reduceEqDiff, Nat.reduceDiv, Nat.reduceMod, e₂, e₃]
    exact i₁ (p + 1) f rs (by omega)
theorem ccE256 {m : mMi} {rs : mRs} : F256 m rs = rV (ccCp m 3 0 4 0 918) rs := by
  obtain ⟨g, hg⟩ := ccFU (k := 918) (by omega)
  have e₁ := ccL256 (m := m) 918 0 g rs (by omega)
  rw [ccCp_0] at e₁
  unfold F256
  rw [hg]
  exact e₁
theorem ccL292 {m : mMi} {t : Nat} (h₀ : t < 10) : ∀ d p f rs, p + d = 918 → F292_2 (f + d + 1) (N t) (N p) (ccCp m 5 (918 * t) 3 0 p) rs = rV (ccCp m 5 (918 * t) 3 0 918) rs := by
  intro d
  induction d with
  | zero =>
    intro p f rs h₁
    have e₁ : p = 918 := by omega
    subst e₁
    rw [ccL292_2]
    simp (disch := omega) only [true_and, and_true, false_and, and_false, if_true, if_false, ccIte, ccBi, ccBiX, ccBv, ccBvX, ccZ0, ccZ1, ccTZ, ccT0, ccT1, Bool.or_false, ccMckT, ccMckIn, ne_eq, not_true_eq_false, not_false_eq_true, if_pos, if_neg, reduceIte, eq_self, Bool.false_eq_true, Bool.true_eq_false, mix_N, N_add, N_mul, N_sub, N_div, ccMod, N_lt, N_le, N_eq, ccNm, ccMN, ccNm2, ccM2N, ccMM2, ccM2M, ccMlt, ccMle, ccNltM, ccNleM, ccM2lt, ccM2le, ccNlt2, ccNle2, Nat.reduceAdd, Nat.reduceMul, Nat.reduceSub, Nat.reduceLT, Nat.reduceLeDiff, Nat.reduceEqDiff, Nat.reduceDiv, Nat.reduceMod]
  | succ d i₁ =>
    intro p f rs h₁
    have e₁ : f + (d + 1) + 1 = f + d + 1 + 1 := by omega
    have e₂ := ccCp_rd (m := m) (j₁ := 5) (o₁ := 918 * t) (j₂ := 3) (o₂ := 0) (b := p) (by omega)
    have e₃ := ccCp_st (m := m) (j₁ := 5) (o₁ := 918 * t) (j₂ := 3) (o₂ := 0) (b := p)
    rw [Nat.zero_add] at e₂ e₃
    rw [e₁, ccL292_2]
    simp (disch := omega) only [true_and, and_true, false_and, and_false, if_true, if_false, ccIte, ccBi, ccBiX, ccBv, ccBvX, ccZ0, ccZ1, ccTZ, ccT0, ccT1, Bool.or_false, ccMckT, ccMckIn, ne_eq, not_true_eq_false, not_false_eq_true, if_pos, if_neg, reduceIte, eq_self, Bool.false_eq_true, Bool.true_eq_false, mix_N, N_add, N_mul, N_sub, N_div, ccMod, N_lt, N_le, N_eq, ccNm, ccMN, ccNm2, ccM2N, ccMM2, ccM2M, ccMlt, ccMle, ccNltM, ccNleM, ccM2lt, ccM2le, ccNlt2, ccNle2, Nat.reduceAdd, Nat.reduceMul, Nat.reduceSub, Nat.reduceLT, Nat.reduceLeDiff, Nat.reduceEqDiff, Nat.reduceDiv, Nat.reduceMod, e₂, e₃]
    exact i₁ (p + 1) f rs (by omega)
theorem ccE292 {m : mMi} {rs : mRs} {t : Nat} (h₀ : t < 10) : F292 (N t) m rs = rV (ccCp m 5 (918 * t) 3 0 918) rs := by
  obtain ⟨g, hg⟩ := ccFU (k := 918) (by omega)
  have e₁ := ccL292 (m := m) h₀ 918 0 g rs (by omega)
  rw [ccCp_0] at e₁
  unfold F292
  rw [hg]
  exact e₁
theorem ccL305 {m : mMi} {t : Nat} (h₀ : t < 10) : ∀ d p f rs, p + d = 918 → F305_2 (f + d + 1) (N t) (N p) (ccCp m 3 0 5 (918 * t) p) rs = rV (ccCp m 3 0 5 (918 * t) 918) rs := by
  intro d
  induction d with
  | zero =>
    intro p f rs h₁
    have e₁ : p = 918 := by omega
    subst e₁
    rw [ccL305_2]
    simp (disch := omega) only [true_and, and_true, false_and, and_false, if_true, if_false, ccIte, ccBi, ccBiX, ccBv, ccBvX, ccZ0, ccZ1, ccTZ, ccT0, ccT1, Bool.or_false, ccMckT, ccMckIn, ne_eq, not_true_eq_false, not_false_eq_true, if_pos, if_neg, reduceIte, eq_self, Bool.false_eq_true, Bool.true_eq_false, mix_N, N_add, N_mul, N_sub, N_div, ccMod, N_lt, N_le, N_eq, ccNm, ccMN, ccNm2, ccM2N, ccMM2, ccM2M, ccMlt, ccMle, ccNltM, ccNleM, ccM2lt, ccM2le, ccNlt2, ccNle2, Nat.reduceAdd, Nat.reduceMul, Nat.reduceSub, Nat.reduceLT, Nat.reduceLeDiff, Nat.reduceEqDiff, Nat.reduceDiv, Nat.reduceMod]
  | succ d i₁ =>
    intro p f rs h₁
    have e₁ : f + (d + 1) + 1 = f + d + 1 + 1 := by omega
    have e₂ := ccCp_rd (m := m) (j₁ := 3) (o₁ := 0) (j₂ := 5) (o₂ := 918 * t) (b := p) (by omega)
    have e₃ := ccCp_st (m := m) (j₁ := 3) (o₁ := 0) (j₂ := 5) (o₂ := 918 * t) (b := p)
    rw [Nat.zero_add] at e₃
    rw [e₁, ccL305_2]
    simp (disch := omega) only [true_and, and_true, false_and, and_false, if_true, if_false, ccIte, ccBi, ccBiX, ccBv, ccBvX, ccZ0, ccZ1, ccTZ, ccT0, ccT1, Bool.or_false, ccMckT, ccMckIn, ne_eq, not_true_eq_false, not_false_eq_true, if_pos, if_neg, reduceIte, eq_self, Bool.false_eq_true, Bool.true_eq_false, mix_N, N_add, N_mul, N_sub, N_div, ccMod, N_lt, N_le, N_eq, ccNm, ccMN, ccNm2, ccM2N, ccMM2, ccM2M, ccMlt, ccMle, ccNltM, ccNleM, ccM2lt, ccM2le, ccNlt2, ccNle2, Nat.reduceAdd, Nat.reduceMul, Nat.reduceSub, Nat.reduceLT, Nat.reduceLeDiff, Nat.reduceEqDiff, Nat.reduceDiv, Nat.reduceMod, e₂, e₃]
    exact i₁ (p + 1) f rs (by omega)
theorem ccE305 {m : mMi} {rs : mRs} {t : Nat} (h₀ : t < 10) : F305 (N t) m rs = rV (ccCp m 3 0 5 (918 * t) 918) rs := by
  obtain ⟨g, hg⟩ := ccFU (k := 918) (by omega)
  have e₁ := ccL305 (m := m) h₀ 918 0 g rs (by omega)
  rw [ccCp_0] at e₁
  unfold F305
  rw [hg]
  exact e₁
/-- the changes that are kept: the oldest of eight goes -/
def ccKeep (m : mMi) (k : Nat) : mMi := if k = 8 then mset (ccCp (mset (ccCp m 5 0 5 918 6426) 4 0 0 14 (N 7)) 5 (918 * 7) 3 0 918) 4 0 0 14 (N 8) else mset (ccCp m 5 (918 * k) 3 0 918) 4 0 0 14 (N (k + 1))
theorem ccCp_o {m : mMi} {j₁ o₁ j₂ o₂ b f i j p : Nat} (h₁ : ¬ (f = 4 ∧ i = 0 ∧ j = j₁ ∧ o₁ ≤ p ∧ p < o₁ + b)) : ccCp m j₁ o₁ j₂ o₂ b f i j p = m f i j p := by
  unfold ccCp
  rw [if_neg h₁]
theorem ccCp_i {m : mMi} {j₁ o₁ j₂ o₂ b q : Nat} (h₁ : q < b) : ccCp m j₁ o₁ j₂ o₂ b 4 0 j₁ (o₁ + q) = m 4 0 j₂ (o₂ + q) := by
  have e₁ : o₁ + q - o₁ = q := by omega
  unfold ccCp
  rw [if_pos ⟨rfl, rfl, rfl, by omega, by omega⟩, e₁]
theorem ccL291 {m : mMi} (h₀ : m 4 0 0 14 = N 8) : ∀ d p f rs, p + d = 6426 → F291_11 (f + d + 1) (N p) (ccCp m 5 0 5 918 p) rs = rV (ccKeep m 8) rs := by
  intro d
  induction d with
  | zero =>
    intro p f rs h₁
    have e₁ : p = 6426 := by omega
    subst e₁
    have e₂ : ccCp m 5 0 5 918 6426 4 0 0 14 = N 8 := by rw [ccCp_o (by omega)]; exact h₀
    rw [ccL291_11]
    unfold ccKeep
    simp (disch := omega) only [true_and, and_true, false_and, and_false, if_true, if_false, ccIte, ccBi, ccBiX, ccBv, ccBvX, ccZ0, ccZ1, ccTZ, ccT0, ccT1, Bool.or_false, ccMckT, ccMckIn, ne_eq, not_true_eq_false, not_false_eq_true, if_pos, if_neg, reduceIte, eq_self, Bool.false_eq_true, Bool.true_eq_false, mix_N, N_add, N_mul, N_sub, N_div, ccMod, N_lt, N_le, N_eq, ccNm, ccMN, ccNm2, ccM2N, ccMM2, ccM2M, ccMlt, ccMle, ccNltM, ccNleM, ccM2lt, ccM2le, ccNlt2, ccNle2, Nat.reduceAdd, Nat.reduceMul, Nat.reduceSub, Nat.reduceLT, Nat.reduceLeDiff, Nat.reduceEqDiff, Nat.reduceDiv, Nat.reduceMod, e₂, ccRd, ccE292, ccCp_o]
  | succ d i₁ =>
    intro p f rs h₁
    have e₁ : f + (d + 1) + 1 = f + d + 1 + 1 := by omega
    have e₄ : p + 918 = 918 + p := by omega
    have e₂ := ccCp_rd (m := m) (j₁ := 5) (o₁ := 0) (j₂ := 5) (o₂ := 918) (b := p) (by omega)
    have e₃ := ccCp_st (m := m) (j₁ := 5) (o₁ := 0) (j₂ := 5) (o₂ := 918) (b := p)
    rw [Nat.zero_add] at e₃
    rw [e₁, ccL291_11]
    simp (disch := omega) only [true_and, and_true, false_and, and_false, if_true, if_false, ccIte, ccBi, ccBiX, ccBv, ccBvX, ccZ0, ccZ1, ccTZ, ccT0, ccT1, Bool.or_false, ccMckT, ccMckIn, ne_eq, not_true_eq_false, not_false_eq_true, if_pos, if_neg, reduceIte, eq_self, Bool.false_eq_true, Bool.true_eq_false, mix_N, N_add, N_mul, N_sub, N_div, ccMod, N_lt, N_le, N_eq, ccNm, ccMN, ccNm2, ccM2N, ccMM2, ccM2M, ccMlt, ccMle, ccNltM, ccNleM, ccM2lt, ccM2le, ccNlt2, ccNle2, Nat.reduceAdd, Nat.reduceMul, Nat.reduceSub, Nat.reduceLT, Nat.reduceLeDiff, Nat.reduceEqDiff, Nat.reduceDiv, Nat.reduceMod, e₄, e₂, e₃]
    exact i₁ (p + 1) f rs (by omega)
theorem ccE291 {m : mMi} {rs : mRs} {k : Nat} (h₁ : m 4 0 0 14 = N k) (h₂ : k ≤ 8) : F291 m rs = rV (ccKeep m k) rs := by
  unfold F291
  by_cases h₃ : k = 8
  · subst h₃
    obtain ⟨g, hg⟩ := ccFU (k := 6426) (by omega)
    have e₁ := ccL291 h₁ 6426 0 g rs (by omega)
    rw [ccCp_0] at e₁
    rw [h₁]
    simp (disch := omega) only [true_and, and_true, false_and, and_false, if_true, if_false, ccIte, ccBi, ccBiX, ccBv, ccBvX, ccZ0, ccZ1, ccTZ, ccT0, ccT1, Bool.or_false, ccMckT, ccMckIn, ne_eq, not_true_eq_false, not_false_eq_true, if_pos, if_neg, reduceIte, eq_self, Bool.false_eq_true, Bool.true_eq_false, mix_N, N_add, N_mul, N_sub, N_div, ccMod, N_lt, N_le, N_eq, ccNm, ccMN, ccNm2, ccM2N, ccMM2, ccM2M, ccMlt, ccMle, ccNltM, ccNleM, ccM2lt, ccM2le, ccNlt2, ccNle2, Nat.reduceAdd, Nat.reduceMul, Nat.reduceSub, Nat.reduceLT, Nat.reduceLeDiff, Nat.reduceEqDiff, Nat.reduceDiv, Nat.reduceMod]
    rw [hg]
    exact e₁
  · have e₂ : ccCp m 5 (918 * k) 3 0 918 4 0 0 14 = N k := by rw [ccCp_o (by omega)]; exact h₁
    unfold ccKeep
    rw [if_neg h₃, h₁]
    simp (disch := omega) only [true_and, and_true, false_and, and_false, if_true, if_false, ccIte, ccBi, ccBiX, ccBv, ccBvX, ccZ0, ccZ1, ccTZ, ccT0, ccT1, Bool.or_false, ccMckT, ccMckIn, ne_eq, not_true_eq_false, not_false_eq_true, if_pos, if_neg, reduceIte, eq_self, Bool.false_eq_true, Bool.true_eq_false, mix_N, N_add, N_mul, N_sub, N_div, ccMod, N_lt, N_le, N_eq, ccNm, ccMN, ccNm2, ccM2N, ccMM2, ccM2M, ccMlt, ccMle, ccNltM, ccNleM, ccM2lt, ccM2le, ccNlt2, ccNle2, Nat.reduceAdd, Nat.reduceMul, Nat.reduceSub, Nat.reduceLT, Nat.reduceLeDiff, Nat.reduceEqDiff, Nat.reduceDiv, Nat.reduceMod, h₃, Nat.zero_add, ccE292, e₂]
