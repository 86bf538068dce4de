/-! LOADS of the class. -/
def ccWt (m : mMi) (r n : Nat) (W : Nat → Nat) : Prop := ∀ k, k < n → m 1 r 4 k = N (W k)
def ccWF (W : Nat → Nat) (C : Nat → Nat → Int32) (p : Nat) : Nat := if ccF C p = true then W (mix (C 6 p)) else 0
def ccWP (W : Nat → Nat) (C : Nat → Nat → Int32) (p : Nat) : Nat := if ccP C p = true then W (mix (C 2 p)) + W (mix (C 3 p)) else 0
theorem ccE21 {m : mMi} {rs : mRs} {i n p : Nat} {W : Nat → Nat} {C : Nat → Nat → Int32} (h₀ : m 0 i = C) (h₁ : ccWt m (RO i) n W) (h₂ : ccCd n C) (h₃ : n ≤ 40) (h₄ : p < 96) : F21 i (N p) m rs = rI (N (ccWF W C p)) m rs := by
  subst h₀
  unfold F21 ccWF
  cases h₅ : ccF (m 0 i) p
  · simp (disch := omega) only [ccE52, h₅, true_and, and_true, false_and, and_false, if_true, if_false, ccIte, ccBi, ccBiX, ccBv, ccBvX, ccZ0, ccZ1, ccTZ, ccT0, ccT1, Bool.or_false, ccMckT, ccMckIn, ne_eq, not_true_eq_false, not_false_eq_true, if_pos, if_neg, reduceIte, eq_self, Bool.false_eq_true, Bool.true_eq_false, mix_N, N_add, N_mul, N_sub, N_div, ccMod, N_lt, N_le, N_eq, ccNm, ccMN, ccNm2, ccM2N, ccMM2, ccM2M, ccMlt, ccMle, ccNltM, ccNleM, ccM2lt, ccM2le, ccNlt2, ccNle2, Nat.reduceAdd, Nat.reduceMul, Nat.reduceSub, Nat.reduceLT, Nat.reduceLeDiff, Nat.reduceEqDiff, Nat.reduceDiv, Nat.reduceMod]
  · have h₆ : m 0 i 6 p ≠ I (-1) := by
      unfold ccF at h₅
      simpa only [Bool.not_eq_true', decide_eq_false_iff_not] using h₅
    obtain ⟨a, e₁, e₂⟩ := h₂.2 p h₄ h₆
    simp (disch := omega) only [ccE52, h₅, e₂, h₁ a e₁, true_and, and_true, false_and, and_false, if_true, if_false, ccIte, ccBi, ccBiX, ccBv, ccBvX, ccZ0, ccZ1, ccTZ, ccT0, ccT1, Bool.or_false, ccMckT, ccMckIn, ne_eq, not_true_eq_false, not_false_eq_true, if_pos, if_neg, reduceIte, eq_self, Bool.false_eq_true, Bool.true_eq_false, mix_N, N_add, N_mul, N_sub, N_div, ccMod, N_lt, N_le, N_eq, ccNm, ccMN, ccNm2, ccM2N, ccMM2, ccM2M, ccMlt, ccMle, ccNltM, ccNleM, ccM2lt, ccM2le, ccNlt2, ccNle2, Nat.reduceAdd, Nat.reduceMul, Nat.reduceSub, Nat.reduceLT, Nat.reduceLeDiff, Nat.reduceEqDiff, Nat.reduceDiv, Nat.reduceMod]
theorem ccE22 {m : mMi} {rs : mRs} {i n p : Nat} {W : Nat → Nat} {C : Nat → Nat → Int32} (h₀ : m 0 i = C) (h₁ : ccWt m (RO i) n W) (h₂ : ccCd n C) (h₃ : n ≤ 40) (h₄ : p < 96) : F22 i (N p) m rs = rI (N (ccWP W C p)) m rs := by
  subst h₀
  unfold F22 ccWP
  cases h₅ : ccP (m 0 i) p
  · simp (disch := omega) only [ccE51, h₅, true_and, and_true, false_and, and_false, if_true, if_false, ccIte, ccBi, ccBiX, ccBv, ccBvX, ccZ0, ccZ1, ccTZ, ccT0, ccT1, Bool.or_false, ccMckT, ccMckIn, ne_eq, not_true_eq_false, not_false_eq_true, if_pos, if_neg, reduceIte, eq_self, Bool.false_eq_true, Bool.true_eq_false, mix_N, N_add, N_mul, N_sub, N_div, ccMod, N_lt, N_le, N_eq, ccNm, ccMN, ccNm2, ccM2N, ccMM2, ccM2M, ccMlt, ccMle, ccNltM, ccNleM, ccM2lt, ccM2le, ccNlt2, ccNle2, Nat.reduceAdd, Nat.reduceMul, Nat.reduceSub, Nat.reduceLT, Nat.reduceLeDiff, Nat.reduceEqDiff, Nat.reduceDiv, Nat.reduceMod]
  · have h₆ : m 0 i 2 p ≠ I (-1) := by
      unfold ccP at h₅
      simpa only [Bool.not_eq_true', decide_eq_false_iff_not] using h₅
    obtain ⟨a, b, e₁, e₂, e₃, e₄⟩ := h₂.1 p h₄ h₆
    simp (disch := omega) only [ccE51, h₅, e₃, e₄, h₁ a e₁, h₁ b e₂, true_and, and_true, false_and, and_false, if_true, if_false, ccIte, ccBi, ccBiX, ccBv, ccBvX, ccZ0, ccZ1, ccTZ, ccT0, ccT1, Bool.or_false, ccMckT, ccMckIn, ne_eq, not_true_eq_false, not_false_eq_true, if_pos, if_neg, reduceIte, eq_self, Bool.false_eq_true, Bool.true_eq_false, mix_N, N_add, N_mul, N_sub, N_div, ccMod, N_lt, N_le, N_eq, ccNm, ccMN, ccNm2, ccM2N, ccMM2, ccM2M, ccMlt, ccMle, ccNltM, ccNleM, ccM2lt, ccM2le, ccNlt2, ccNle2, Nat.reduceAdd, Nat.reduceMul, Nat.reduceSub, Nat.reduceLT, Nat.reduceLeDiff, Nat.reduceEqDiff, Nat.reduceDiv, Nat.reduceMod]
theorem ccE108 {m : mMi} {rs : mRs} {a : Nat} (h₁ : a < 1000000) : F108 (N a) m rs = rI (N (a / 2)) m rs := by
  unfold F108
  simp (disch := omega) only [true_and, and_true, false_and, and_false, if_true, if_false, ccIte, ccBi, ccBiX, ccBv, ccBvX, ccZ0, ccZ1, ccTZ, ccT0, ccT1, Bool.or_false, ccMckT, ccMckIn, ne_eq, not_true_eq_false, not_false_eq_true, if_pos, if_neg, reduceIte, eq_self, Bool.false_eq_true, Bool.true_eq_false, mix_N, N_add, N_mul, N_sub, N_div, ccMod, N_lt, N_le, N_eq, ccNm, ccMN, ccNm2, ccM2N, ccMM2, ccM2M, ccMlt, ccMle, ccNltM, ccNleM, ccM2lt, ccM2le, ccNlt2, ccNle2, Nat.reduceAdd, Nat.reduceMul, Nat.reduceSub, Nat.reduceLT, Nat.reduceLeDiff, Nat.reduceEqDiff, Nat.reduceDiv, Nat.reduceMod]
theorem ccE109 {m : mMi} {rs : mRs} {a : Nat} (h₁ : a < 1000000) : F109 (N a) m rs = rI (N (a - a / 2)) m rs := by
  unfold F109
  simp (disch := omega) only [true_and, and_true, false_and, and_false, if_true, if_false, ccIte, ccBi, ccBiX, ccBv, ccBvX, ccZ0, ccZ1, ccTZ, ccT0, ccT1, Bool.or_false, ccMckT, ccMckIn, ne_eq, not_true_eq_false, not_false_eq_true, if_pos, if_neg, reduceIte, eq_self, Bool.false_eq_true, Bool.true_eq_false, mix_N, N_add, N_mul, N_sub, N_div, ccMod, N_lt, N_le, N_eq, ccNm, ccMN, ccNm2, ccM2N, ccMM2, ccM2M, ccMlt, ccMle, ccNltM, ccNleM, ccM2lt, ccM2le, ccNlt2, ccNle2, Nat.reduceAdd, Nat.reduceMul, Nat.reduceSub, Nat.reduceLT, Nat.reduceLeDiff, Nat.reduceEqDiff, Nat.reduceDiv, Nat.reduceMod]
theorem ccSc_0 {m : mMi} {i j p : Nat} {v : Int32} : mset m 2 2 j p v 0 i = m 0 i := by
  funext j₁ p₁
  simp (disch := omega) only [ccRd, if_neg, Nat.reduceEqDiff, eq_self, true_and, and_true, false_and, and_false, if_true, if_false]
theorem ccSc_w {m : mMi} {r n j p : Nat} {v : Int32} {W : Nat → Nat} (h₁ : ccWt m r n W) : ccWt (mset m 2 2 j p v) r n W := fun k g₁ => by
  rw [ccRd, if_neg (by omega)]
  exact h₁ k g₁
/-- the loads of a place are laid -/
def ccWg (m : mMi) (i : Nat) (W : Nat → Nat) (w l d L c : Nat) : mMi := mset (mset m 2 2 1 (12 * L + c) (N (ccPL W (m 0 i) w l d L c))) 2 2 2 (12 * L + c) (N (ccWF W (m 0 i) (12 * L + c) + ccWP W (m 0 i) (12 * L + c) + ccPL W (m 0 i) w l d L c))
theorem ccE86 {m : mMi} {rs : mRs} {i n w l d L c : Nat} {W : Nat → Nat} (q₁ : ccRu m (RO i) w l n) (q₂ : ccWt m (RO i) n W) (q₃ : ccCd n (m 0 i)) (q₄ : ccWok n W) (h₁ : L + (d + 1) = 8) (h₂ : L < l) (h₃ : L + c < w) (h₄ : ∀ c₁, ccHF (m 0 i) w l (L + 1) c₁ = true → m 2 2 2 (12 * (L + 1) + c₁) = N (ccFL W (m 0 i) w l d (L + 1) c₁)) : F86 i (N L) (N c) m rs = rV (ccWg m i W w l d L c) rs := by
  have b₁ : w ≤ 12 := q₁.2.2.2.2.1
  have b₂ : l ≤ 8 := q₁.2.2.2.2.2.2.1
  have b₃ : n ≤ 40 := q₁.2.2.2.2.2.2.2
  have p₁ : 12 * L + c < 96 := by omega
  have s₁ : ccSp w l L c = N (12 * L + c) := by unfold ccSp; rw [if_pos ⟨h₂, h₃⟩]
  have e₁ : ∀ v r₁, F21 i (N (12 * L + c)) (mset m 2 2 1 (12 * L + c) v) r₁ = rI (N (ccWF W (m 0 i) (12 * L + c))) (mset m 2 2 1 (12 * L + c) v) r₁ := fun v r₁ => ccE21 ccSc_0 (ccSc_w q₂) q₃ b₃ p₁
  have e₂ : ∀ v r₁, F22 i (N (12 * L + c)) (mset m 2 2 1 (12 * L + c) v) r₁ = rI (N (ccWP W (m 0 i) (12 * L + c))) (mset m 2 2 1 (12 * L + c) v) r₁ := fun v r₁ => ccE22 ccSc_0 (ccSc_w q₂) q₃ b₃ p₁
  have f₁ : ∀ c₁, ccFL W (m 0 i) w l d (L + 1) c₁ ≤ 27 * d := fun c₁ => ccFL_le q₃ q₄ b₁ b₂ b₃ d (L + 1) c₁
  have f₂ := f₁ c
  unfold F86 ccWg
  have s₃ : ccHF (m 0 i) w l (L + 1) c = true → ccSp w l (L + 1) c = N (12 * (L + 1) + c) ∧ ccF (m 0 i) (12 * (L + 1) + c) = true ∧ 12 * (L + 1) + c < 96 := fun g₁ => by
    obtain ⟨g₂, g₃, g₄⟩ := ccHF_t g₁
    refine ⟨by unfold ccSp; rw [if_pos ⟨g₂, g₃⟩], by unfold ccF; rw [decide_eq_false g₄]; rfl, by omega⟩
  cases c with
  | zero =>
    have e₃ : N 0 - N 1 = I (-1) := rfl
    cases hr : ccHF (m 0 i) w l (L + 1) 0
    · have e₄ : ccPL W (m 0 i) w l d L 0 = 0 := by
        unfold ccPL
        rw [ccFL_0 hr]
      simp (disch := omega) only [ccE81 q₁, s₁, e₃, ccE81m, ccE52m, ccE52s b₁ b₂, hr, e₁, e₂, e₄, true_and, and_true, false_and, and_false, if_true, if_false, ccIte, ccBi, ccBiX, ccBv, ccBvX, ccZ0, ccZ1, ccTZ, ccT0, ccT1, Bool.or_false, ccMckT, ccMckIn, ne_eq, not_true_eq_false, not_false_eq_true, if_pos, if_neg, reduceIte, eq_self, Bool.false_eq_true, Bool.true_eq_false, mix_N, N_add, N_mul, N_sub, N_div, ccMod, N_lt, N_le, N_eq, ccNm, ccMN, ccNm2, ccM2N, ccMM2, ccM2M, ccMlt, ccMle, ccNltM, ccNleM, ccM2lt, ccM2le, ccNlt2, ccNle2, Nat.reduceAdd, Nat.reduceMul, Nat.reduceSub, Nat.reduceLT, Nat.reduceLeDiff, Nat.reduceEqDiff, Nat.reduceDiv, Nat.reduceMod]
    · obtain ⟨s₄, s₅, s₆⟩ := s₃ hr
      have e₄ : ccPL W (m 0 i) w l d L 0 = 0 + (ccFL W (m 0 i) w l d (L + 1) 0 - ccFL W (m 0 i) w l d (L + 1) 0 / 2) := rfl
      simp (disch := omega) only [ccE81 q₁, s₁, s₄, s₅, e₃, ccE81m, ccE52m, ccE52, h₄ 0 hr, ccE109, e₁, e₂, e₄, true_and, and_true, false_and, and_false, if_true, if_false, ccIte, ccBi, ccBiX, ccBv, ccBvX, ccZ0, ccZ1, ccTZ, ccT0, ccT1, Bool.or_false, ccMckT, ccMckIn, ne_eq, not_true_eq_false, not_false_eq_true, if_pos, if_neg, reduceIte, eq_self, Bool.false_eq_true, Bool.true_eq_false, mix_N, N_add, N_mul, N_sub, N_div, ccMod, N_lt, N_le, N_eq, ccNm, ccMN, ccNm2, ccM2N, ccMM2, ccM2M, ccMlt, ccMle, ccNltM, ccNleM, ccM2lt, ccM2le, ccNlt2, ccNle2, Nat.reduceAdd, Nat.reduceMul, Nat.reduceSub, Nat.reduceLT, Nat.reduceLeDiff, Nat.reduceEqDiff, Nat.reduceDiv, Nat.reduceMod]
  | succ c₁ =>
    have f₃ := f₁ c₁
    have e₃ : N (c₁ + 1) - N 1 = N c₁ := by
      rw [N_sub (by omega)]
      rfl
    have s₇ : ccHF (m 0 i) w l (L + 1) c₁ = true → ccSp w l (L + 1) c₁ = N (12 * (L + 1) + c₁) ∧ ccF (m 0 i) (12 * (L + 1) + c₁) = true ∧ 12 * (L + 1) + c₁ < 96 := fun g₁ => by
      obtain ⟨g₂, g₃, g₄⟩ := ccHF_t g₁
      refine ⟨by unfold ccSp; rw [if_pos ⟨g₂, g₃⟩], by unfold ccF; rw [decide_eq_false g₄]; rfl, by omega⟩
    cases hl : ccHF (m 0 i) w l (L + 1) c₁
    · cases hr : ccHF (m 0 i) w l (L + 1) (c₁ + 1)
      · have e₄ : ccPL W (m 0 i) w l d L (c₁ + 1) = 0 := by
          show ccFL W (m 0 i) w l d (L + 1) c₁ / 2 + (ccFL W (m 0 i) w l d (L + 1) (c₁ + 1) - ccFL W (m 0 i) w l d (L + 1) (c₁ + 1) / 2) = 0
          rw [ccFL_0 hl, ccFL_0 hr]
        simp (disch := omega) only [e₃, ccE81 q₁, s₁, ccE52s b₁ b₂, hl, hr, e₁, e₂, e₄, true_and, and_true, false_and, and_false, if_true, if_false, ccIte, ccBi, ccBiX, ccBv, ccBvX, ccZ0, ccZ1, ccTZ, ccT0, ccT1, Bool.or_false, ccMckT, ccMckIn, ne_eq, not_true_eq_false, not_false_eq_true, if_pos, if_neg, reduceIte, eq_self, Bool.false_eq_true, Bool.true_eq_false, mix_N, N_add, N_mul, N_sub, N_div, ccMod, N_lt, N_le, N_eq, ccNm, ccMN, ccNm2, ccM2N, ccMM2, ccM2M, ccMlt, ccMle, ccNltM, ccNleM, ccM2lt, ccM2le, ccNlt2, ccNle2, Nat.reduceAdd, Nat.reduceMul, Nat.reduceSub, Nat.reduceLT, Nat.reduceLeDiff, Nat.reduceEqDiff, Nat.reduceDiv, Nat.reduceMod]
      · obtain ⟨s₄, s₅, s₆⟩ := s₃ hr
        have e₄ : ccPL W (m 0 i) w l d L (c₁ + 1) = 0 + (ccFL W (m 0 i) w l d (L + 1) (c₁ + 1) - ccFL W (m 0 i) w l d (L + 1) (c₁ + 1) / 2) := by
          show ccFL W (m 0 i) w l d (L + 1) c₁ / 2 + (ccFL W (m 0 i) w l d (L + 1) (c₁ + 1) - ccFL W (m 0 i) w l d (L + 1) (c₁ + 1) / 2) = _
          rw [ccFL_0 hl]
        simp (disch := omega) only [e₃, ccE81 q₁, s₁, s₄, s₅, ccE52, ccE52s b₁ b₂, hl, h₄ (c₁ + 1) hr, ccE109, e₁, e₂, e₄, true_and, and_true, false_and, and_false, if_true, if_false, ccIte, ccBi, ccBiX, ccBv, ccBvX, ccZ0, ccZ1, ccTZ, ccT0, ccT1, Bool.or_false, ccMckT, ccMckIn, ne_eq, not_true_eq_false, not_false_eq_true, if_pos, if_neg, reduceIte, eq_self, Bool.false_eq_true, Bool.true_eq_false, mix_N, N_add, N_mul, N_sub, N_div, ccMod, N_lt, N_le, N_eq, ccNm, ccMN, ccNm2, ccM2N, ccMM2, ccM2M, ccMlt, ccMle, ccNltM, ccNleM, ccM2lt, ccM2le, ccNlt2, ccNle2, Nat.reduceAdd, Nat.reduceMul, Nat.reduceSub, Nat.reduceLT, Nat.reduceLeDiff, Nat.reduceEqDiff, Nat.reduceDiv, Nat.reduceMod]
    · obtain ⟨s₈, s₉, s₀⟩ := s₇ hl
      cases hr : ccHF (m 0 i) w l (L + 1) (c₁ + 1)
      · have e₄ : ccPL W (m 0 i) w l d L (c₁ + 1) = 0 + ccFL W (m 0 i) w l d (L + 1) c₁ / 2 := by
          show ccFL W (m 0 i) w l d (L + 1) c₁ / 2 + (ccFL W (m 0 i) w l d (L + 1) (c₁ + 1) - ccFL W (m 0 i) w l d (L + 1) (c₁ + 1) / 2) = _
          rw [ccFL_0 hr]
          omega
        simp (disch := omega) only [e₃, ccE81 q₁, s₁, s₈, s₉, ccE52, ccE52s b₁ b₂, hr, h₄ c₁ hl, ccE108, e₁, e₂, e₄, true_and, and_true, false_and, and_false, if_true, if_false, ccIte, ccBi, ccBiX, ccBv, ccBvX, ccZ0, ccZ1, ccTZ, ccT0, ccT1, Bool.or_false, ccMckT, ccMckIn, ne_eq, not_true_eq_false, not_false_eq_true, if_pos, if_neg, reduceIte, eq_self, Bool.false_eq_true, Bool.true_eq_false, mix_N, N_add, N_mul, N_sub, N_div, ccMod, N_lt, N_le, N_eq, ccNm, ccMN, ccNm2, ccM2N, ccMM2, ccM2M, ccMlt, ccMle, ccNltM, ccNleM, ccM2lt, ccM2le, ccNlt2, ccNle2, Nat.reduceAdd, Nat.reduceMul, Nat.reduceSub, Nat.reduceLT, Nat.reduceLeDiff, Nat.reduceEqDiff, Nat.reduceDiv, Nat.reduceMod]
      · obtain ⟨s₄, s₅, s₆⟩ := s₃ hr
        have e₄ : ccPL W (m 0 i) w l d L (c₁ + 1) = 0 + ccFL W (m 0 i) w l d (L + 1) c₁ / 2 + (ccFL W (m 0 i) w l d (L + 1) (c₁ + 1) - ccFL W (m 0 i) w l d (L + 1) (c₁ + 1) / 2) := by
          show ccFL W (m 0 i) w l d (L + 1) c₁ / 2 + (ccFL W (m 0 i) w l d (L + 1) (c₁ + 1) - ccFL W (m 0 i) w l d (L + 1) (c₁ + 1) / 2) = _
          omega
        simp (disch := omega) only [e₃, ccE81 q₁, s₁, s₄, s₅, s₈, s₉, ccE52, h₄ c₁ hl, h₄ (c₁ + 1) hr, ccE108, ccE109, e₁, e₂, e₄, true_and, and_true, false_and, and_false, if_true, if_false, ccIte, ccBi, ccBiX, ccBv, ccBvX, ccZ0, ccZ1, ccTZ, ccT0, ccT1, Bool.or_false, ccMckT, ccMckIn, ne_eq, not_true_eq_false, not_false_eq_true, if_pos, if_neg, reduceIte, eq_self, Bool.false_eq_true, Bool.true_eq_false, mix_N, N_add, N_mul, N_sub, N_div, ccMod, N_lt, N_le, N_eq, ccNm, ccMN, ccNm2, ccM2N, ccMM2, ccM2M, ccMlt, ccMle, ccNltM, ccNleM, ccM2lt, ccM2le, ccNlt2, ccNle2, Nat.reduceAdd, Nat.reduceMul, Nat.reduceSub, Nat.reduceLT, Nat.reduceLeDiff, Nat.reduceEqDiff, Nat.reduceDiv, Nat.reduceMod]
