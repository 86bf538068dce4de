/-! WORLD: places, one step of a fall. -/
theorem kwE175 {m : mMi} {rs : mRs} {B w l n lm dp cl bd L c : Nat} (hB : rs.2.1.1 B = true) (q : kwS m B w l n lm dp cl bd) (h₁ : L < 1000) (h₂ : c < 1000) : H175 B (N L) (N c) m rs = rI (ccT (ccPl w l L c)) m rs := by
  obtain ⟨g₁, g₂, _, _, _, _, _, b₁, b₂, b₃, b₄, _⟩ := q
  unfold H175 ccPl
  by_cases h₃ : L < l
  · by_cases h₄ : L + c < w
    · have e₁ : ¬ l ≤ L := by omega
      have e₂ : ¬ w - L ≤ c := by omega
      simp (disch := omega) only [hB, true_and, and_true, false_and, and_false, if_true, if_false, ccIte, ccBi, ccBiX, ccBv, ccBvX, ccZ0, ccZ1, ccTZ, ccT0, ccT1, Bool.or_false, ccMckT, ccMckIn, ne_eq, not_true_eq_false, not_false_eq_true, if_pos, if_neg, reduceIte, eq_self, Bool.false_eq_true, Bool.true_eq_false, mix_N, N_add, N_mul, N_sub, N_div, ccMod, N_lt, N_le, N_eq, ccNm, ccMN, ccNm2, ccM2N, ccMM2, ccM2M, ccMlt, ccMle, ccNltM, ccNleM, ccM2lt, ccM2le, ccNlt2, ccNle2, Nat.reduceAdd, Nat.reduceMul, Nat.reduceSub, Nat.reduceLT, Nat.reduceLeDiff, Nat.reduceEqDiff, Nat.reduceDiv, Nat.reduceMod, g₁, g₂, h₃, h₄, e₁, e₂, decide_true, Bool.true_and]
      rfl
    · by_cases h₅ : L ≤ w
      · have e₁ : ¬ l ≤ L := by omega
        have e₂ : w - L ≤ c := by omega
        simp (disch := omega) only [hB, true_and, and_true, false_and, and_false, if_true, if_false, ccIte, ccBi, ccBiX, ccBv, ccBvX, ccZ0, ccZ1, ccTZ, ccT0, ccT1, Bool.or_false, ccMckT, ccMckIn, ne_eq, not_true_eq_false, not_false_eq_true, if_pos, if_neg, reduceIte, eq_self, Bool.false_eq_true, Bool.true_eq_false, mix_N, N_add, N_mul, N_sub, N_div, ccMod, N_lt, N_le, N_eq, ccNm, ccMN, ccNm2, ccM2N, ccMM2, ccM2M, ccMlt, ccMle, ccNltM, ccNleM, ccM2lt, ccM2le, ccNlt2, ccNle2, Nat.reduceAdd, Nat.reduceMul, Nat.reduceSub, Nat.reduceLT, Nat.reduceLeDiff, Nat.reduceEqDiff, Nat.reduceDiv, Nat.reduceMod, g₁, g₂, h₃, h₄, e₁, e₂, decide_true, decide_false, Bool.and_false]
        rfl
      · have e₁ : ¬ l ≤ L := by omega
        simp (disch := omega) only [hB, true_and, and_true, false_and, and_false, if_true, if_false, ccIte, ccBi, ccBiX, ccBv, ccBvX, ccZ0, ccZ1, ccTZ, ccT0, ccT1, Bool.or_false, ccMckT, ccMckIn, ne_eq, not_true_eq_false, not_false_eq_true, if_pos, if_neg, reduceIte, eq_self, Bool.false_eq_true, Bool.true_eq_false, mix_N, N_add, N_mul, N_sub, N_div, ccMod, N_lt, N_le, N_eq, ccNm, ccMN, ccNm2, ccM2N, ccMM2, ccM2M, ccMlt, ccMle, ccNltM, ccNleM, ccM2lt, ccM2le, ccNlt2, ccNle2, Nat.reduceAdd, Nat.reduceMul, Nat.reduceSub, Nat.reduceLT, Nat.reduceLeDiff, Nat.reduceEqDiff, Nat.reduceDiv, Nat.reduceMod, g₁, g₂, h₃, h₄, e₁, ccSubLe, decide_true, decide_false, Bool.and_false]
        rfl
  · have e₁ : l ≤ L := by omega
    simp (disch := omega) only [hB, true_and, and_true, false_and, and_false, if_true, if_false, ccIte, ccBi, ccBiX, ccBv, ccBvX, ccZ0, ccZ1, ccTZ, ccT0, ccT1, Bool.or_false, ccMckT, ccMckIn, ne_eq, not_true_eq_false, not_false_eq_true, if_pos, if_neg, reduceIte, eq_self, Bool.false_eq_true, Bool.true_eq_false, mix_N, N_add, N_mul, N_sub, N_div, ccMod, N_lt, N_le, N_eq, ccNm, ccMN, ccNm2, ccM2N, ccMM2, ccM2M, ccMlt, ccMle, ccNltM, ccNleM, ccM2lt, ccM2le, ccNlt2, ccNle2, Nat.reduceAdd, Nat.reduceMul, Nat.reduceSub, Nat.reduceLT, Nat.reduceLeDiff, Nat.reduceEqDiff, Nat.reduceDiv, Nat.reduceMod, g₂, h₃, e₁, decide_false, Bool.false_and]
    rfl
theorem kwE175m {m : mMi} {rs : mRs} {B L : Nat} (hB : rs.2.1.1 B = true) (h₁ : L < 1000) : H175 B (N L) (I (-1)) m rs = rI (N 0) m rs := by
  unfold H175
  simp (disch := omega) only [hB, true_and, and_true, false_and, and_false, if_true, if_false, ccIte, ccBi, ccBiX, ccBv, ccBvX, ccZ0, ccZ1, ccTZ, ccT0, ccT1, Bool.or_false, ccMckT, ccMckIn, ne_eq, not_true_eq_false, not_false_eq_true, if_pos, if_neg, reduceIte, eq_self, Bool.false_eq_true, Bool.true_eq_false, mix_N, N_add, N_mul, N_sub, N_div, ccMod, N_lt, N_le, N_eq, ccNm, ccMN, ccNm2, ccM2N, ccMM2, ccM2M, ccMlt, ccMle, ccNltM, ccNleM, ccM2lt, ccM2le, ccNlt2, ccNle2, Nat.reduceAdd, Nat.reduceMul, Nat.reduceSub, Nat.reduceLT, Nat.reduceLeDiff, Nat.reduceEqDiff, Nat.reduceDiv, Nat.reduceMod]
theorem kwNeg {C : Nat → Nat → Int32} {j p : Nat} (h₁ : C j p = I (-1) ∨ ∃ a, a < 1000 ∧ C j p = N a) : decide (C j p < N 0) = decide (C j p = I (-1)) := by
  rcases h₁ with h₁ | ⟨a, h₁, h₂⟩
  · rw [h₁]
    rfl
  · rw [h₂]
    simp (disch := omega) only [N_lt, ccNm, decide_false]
    exact decide_eq_false (by omega)
theorem kwCd2 {n p : Nat} {C : Nat → Nat → Int32} (h₁ : ccCd n C) (h₂ : n ≤ 40) (h₃ : p < 96) : C 2 p = I (-1) ∨ ∃ a, a < 1000 ∧ C 2 p = N a := by
  by_cases h₄ : C 2 p = I (-1)
  · exact Or.inl h₄
  · obtain ⟨a, b, e₁, _, e₂, _⟩ := h₁.1 p h₃ h₄
    exact Or.inr ⟨a, by omega, e₂⟩
theorem kwCd6 {n p : Nat} {C : Nat → Nat → Int32} (h₁ : ccCd n C) (h₂ : n ≤ 40) (h₃ : p < 96) : C 6 p = I (-1) ∨ ∃ a, a < 1000 ∧ C 6 p = N a := by
  by_cases h₄ : C 6 p = I (-1)
  · exact Or.inl h₄
  · obtain ⟨a, e₁, e₂⟩ := h₁.2 p h₃ h₄
    exact Or.inr ⟨a, by omega, e₂⟩
theorem ccPl_t {w l L c : Nat} (h₁ : ccPl w l L c = true) : L < l ∧ L + c < w := by
  unfold ccPl at h₁
  simpa only [Bool.and_eq_true, decide_eq_true_eq] using h₁
theorem kwE178 {m : mMi} {rs : mRs} {B w l n lm dp cl bd L c : Nat} {C : Nat → Nat → Int32} (hB : rs.2.1.1 B = true) (q : kwS m B w l n lm dp cl bd) (g : kwG m B C) (q₂ : ccCd n C) (h₁ : L < 1000) (h₂ : c < 1000) : H178 B (N L) (N c) m rs = rI (ccT (ccHP C w l L c)) m rs := by
  have q₁ := q
  obtain ⟨_, _, _, _, _, _, _, b₁, b₂, b₃, b₄, b₅, _⟩ := q
  unfold H178 ccHP
  cases h₃ : ccPl w l L c
  · simp (disch := omega) only [hB, kwE175 hB q₁ h₁ h₂, h₃, true_and, and_true, false_and, and_false, if_true, if_false, ccIte, ccBi, ccBiX, ccBv, ccBvX, ccZ0, ccZ1, ccTZ, ccT0, ccT1, Bool.or_false, ccMckT, ccMckIn, ne_eq, not_true_eq_false, not_false_eq_true, if_pos, if_neg, reduceIte, eq_self, Bool.false_eq_true, Bool.true_eq_false, mix_N, N_add, N_mul, N_sub, N_div, ccMod, N_lt, N_le, N_eq, ccNm, ccMN, ccNm2, ccM2N, ccMM2, ccM2M, ccMlt, ccMle, ccNltM, ccNleM, ccM2lt, ccM2le, ccNlt2, ccNle2, Nat.reduceAdd, Nat.reduceMul, Nat.reduceSub, Nat.reduceLT, Nat.reduceLeDiff, Nat.reduceEqDiff, Nat.reduceDiv, Nat.reduceMod, Bool.false_and]
    rfl
  · obtain ⟨h₄, h₅⟩ := ccPl_t h₃
    have e₁ := (g L c (by omega) (by omega)).1
    have e₂ := kwNeg (kwCd2 (p := 12 * L + c) q₂ b₅ (by omega))
    unfold ccP
    cases h₆ : decide (C 2 (12 * L + c) = I (-1))
    · rw [h₆] at e₂
      have e₃ := of_decide_eq_false e₂
      simp (disch := omega) only [hB, kwE175 hB q₁ h₁ h₂, h₃, true_and, and_true, false_and, and_false, if_true, if_false, ccIte, ccBi, ccBiX, ccBv, ccBvX, ccZ0, ccZ1, ccTZ, ccT0, ccT1, Bool.or_false, ccMckT, ccMckIn, ne_eq, not_true_eq_false, not_false_eq_true, if_pos, if_neg, reduceIte, eq_self, Bool.false_eq_true, Bool.true_eq_false, mix_N, N_add, N_mul, N_sub, N_div, ccMod, N_lt, N_le, N_eq, ccNm, ccMN, ccNm2, ccM2N, ccMM2, ccM2M, ccMlt, ccMle, ccNltM, ccNleM, ccM2lt, ccM2le, ccNlt2, ccNle2, Nat.reduceAdd, Nat.reduceMul, Nat.reduceSub, Nat.reduceLT, Nat.reduceLeDiff, Nat.reduceEqDiff, Nat.reduceDiv, Nat.reduceMod, e₁, e₃, Bool.true_and, Bool.not_false]
      rfl
    · rw [h₆] at e₂
      have e₃ := of_decide_eq_true e₂
      simp (disch := omega) only [hB, kwE175 hB q₁ h₁ h₂, h₃, true_and, and_true, false_and, and_false, if_true, if_false, ccIte, ccBi, ccBiX, ccBv, ccBvX, ccZ0, ccZ1, ccTZ, ccT0, ccT1, Bool.or_false, ccMckT, ccMckIn, ne_eq, not_true_eq_false, not_false_eq_true, if_pos, if_neg, reduceIte, eq_self, Bool.false_eq_true, Bool.true_eq_false, mix_N, N_add, N_mul, N_sub, N_div, ccMod, N_lt, N_le, N_eq, ccNm, ccMN, ccNm2, ccM2N, ccMM2, ccM2M, ccMlt, ccMle, ccNltM, ccNleM, ccM2lt, ccM2le, ccNlt2, ccNle2, Nat.reduceAdd, Nat.reduceMul, Nat.reduceSub, Nat.reduceLT, Nat.reduceLeDiff, Nat.reduceEqDiff, Nat.reduceDiv, Nat.reduceMod, e₁, e₃, Bool.true_and, Bool.not_true]
      rfl
theorem kwE179 {m : mMi} {rs : mRs} {B w l n lm dp cl bd L c : Nat} {C : Nat → Nat → Int32} (hB : rs.2.1.1 B = true) (q : kwS m B w l n lm dp cl bd) (g : kwG m B C) (q₂ : ccCd n C) (h₁ : L < 1000) (h₂ : c < 1000) : H179 B (N L) (N c) m rs = rI (ccT (ccHF C w l L c)) m rs := by
  have q₁ := q
  obtain ⟨_, _, _, _, _, _, _, b₁, b₂, b₃, b₄, b₅, _⟩ := q
  unfold H179 ccHF
  cases h₃ : ccPl w l L c
  · simp (disch := omega) only [hB, kwE175 hB q₁ h₁ h₂, h₃, true_and, and_true, false_and, and_false, if_true, if_false, ccIte, ccBi, ccBiX, ccBv, ccBvX, ccZ0, ccZ1, ccTZ, ccT0, ccT1, Bool.or_false, ccMckT, ccMckIn, ne_eq, not_true_eq_false, not_false_eq_true, if_pos, if_neg, reduceIte, eq_self, Bool.false_eq_true, Bool.true_eq_false, mix_N, N_add, N_mul, N_sub, N_div, ccMod, N_lt, N_le, N_eq, ccNm, ccMN, ccNm2, ccM2N, ccMM2, ccM2M, ccMlt, ccMle, ccNltM, ccNleM, ccM2lt, ccM2le, ccNlt2, ccNle2, Nat.reduceAdd, Nat.reduceMul, Nat.reduceSub, Nat.reduceLT, Nat.reduceLeDiff, Nat.reduceEqDiff, Nat.reduceDiv, Nat.reduceMod, Bool.false_and]
    rfl
  · obtain ⟨h₄, h₅⟩ := ccPl_t h₃
    have e₁ := (g L c (by omega) (by omega)).2.1
    have e₂ := kwNeg (kwCd6 (p := 12 * L + c) q₂ b₅ (by omega))
    unfold ccF
    cases h₆ : decide (C 6 (12 * L + c) = I (-1))
    · rw [h₆] at e₂
      have e₃ := of_decide_eq_false e₂
      simp (disch := omega) only [hB, kwE175 hB q₁ h₁ h₂, h₃, true_and, and_true, false_and, and_false, if_true, if_false, ccIte, ccBi, ccBiX, ccBv, ccBvX, ccZ0, ccZ1, ccTZ, ccT0, ccT1, Bool.or_false, ccMckT, ccMckIn, ne_eq, not_true_eq_false, not_false_eq_true, if_pos, if_neg, reduceIte, eq_self, Bool.false_eq_true, Bool.true_eq_false, mix_N, N_add, N_mul, N_sub, N_div, ccMod, N_lt, N_le, N_eq, ccNm, ccMN, ccNm2, ccM2N, ccMM2, ccM2M, ccMlt, ccMle, ccNltM, ccNleM, ccM2lt, ccM2le, ccNlt2, ccNle2, Nat.reduceAdd, Nat.reduceMul, Nat.reduceSub, Nat.reduceLT, Nat.reduceLeDiff, Nat.reduceEqDiff, Nat.reduceDiv, Nat.reduceMod, e₁, e₃, Bool.true_and, Bool.not_false]
      rfl
    · rw [h₆] at e₂
      have e₃ := of_decide_eq_true e₂
      simp (disch := omega) only [hB, kwE175 hB q₁ h₁ h₂, h₃, true_and, and_true, false_and, and_false, if_true, if_false, ccIte, ccBi, ccBiX, ccBv, ccBvX, ccZ0, ccZ1, ccTZ, ccT0, ccT1, Bool.or_false, ccMckT, ccMckIn, ne_eq, not_true_eq_false, not_false_eq_true, if_pos, if_neg, reduceIte, eq_self, Bool.false_eq_true, Bool.true_eq_false, mix_N, N_add, N_mul, N_sub, N_div, ccMod, N_lt, N_le, N_eq, ccNm, ccMN, ccNm2, ccM2N, ccMM2, ccM2M, ccMlt, ccMle, ccNltM, ccNleM, ccM2lt, ccM2le, ccNlt2, ccNle2, Nat.reduceAdd, Nat.reduceMul, Nat.reduceSub, Nat.reduceLT, Nat.reduceLeDiff, Nat.reduceEqDiff, Nat.reduceDiv, Nat.reduceMod, e₁, e₃, Bool.true_and, Bool.not_true]
      rfl
theorem kwE179m {m : mMi} {rs : mRs} {B L : Nat} (hB : rs.2.1.1 B = true) (h₁ : L < 1000) : H179 B (N L) (I (-1)) m rs = rI (N 0) m rs := by
  unfold H179
  simp (disch := omega) only [hB, kwE175m hB h₁, true_and, and_true, false_and, and_false, if_true, if_false, ccIte, ccBi, ccBiX, ccBv, ccBvX, ccZ0, ccZ1, ccTZ, ccT0, ccT1, Bool.or_false, ccMckT, ccMckIn, ne_eq, not_true_eq_false, not_false_eq_true, if_pos, if_neg, reduceIte, eq_self, Bool.false_eq_true, Bool.true_eq_false, mix_N, N_add, N_mul, N_sub, N_div, ccMod, N_lt, N_le, N_eq, ccNm, ccMN, ccNm2, ccM2N, ccMM2, ccM2M, ccMlt, ccMle, ccNltM, ccNleM, ccM2lt, ccM2le, ccNlt2, ccNle2, Nat.reduceAdd, Nat.reduceMul, Nat.reduceSub, Nat.reduceLT, Nat.reduceLeDiff, Nat.reduceEqDiff, Nat.reduceDiv, Nat.reduceMod]
/-! the class's step, with its castle spelled out -/
theorem kwDropSim {X Y : Nat → Bool} {mc mm : mMi} {i n bd h t L k : Nat} {x : Int32} {β wt : Nat → Int32} (q₁ : mc 1 (RO i) 1 5 = N bd) (q₃ : bd ≤ 8) (q₄ : n ≤ 40) (h₁ : ccR X n β wt h t (mc 0 i) (mm 4 0 3)) (h₂ : L < 8) (h₅ : k < n) (h₆ : X k = true) (h₇ : ∀ j, j ≠ k → X j = Y j) (h₈ : Y k = false) :
    ∃ z m₂ u, mc 0 i 11 k = N z ∧ 1 ≤ z ∧ z ≤ 9 ∧ mc 0 i 10 5 = N h ∧ h < 40 ∧ (∀ rs, F27 i (N k) (N L) x mc rs = rV (ccDrop mc i bd L k h z (decide (N k = x))) rs) ∧ ccFq mm m₂ ∧ ccR Y n β wt u t (ccKd (mc 0 i) bd L k h z (decide (N k = x))) (m₂ 4 0 3) := by
  obtain ⟨z, e₁, e₂, e₃, e₄⟩ := ccR_a h₁ h₅
  obtain ⟨e₅, e₆⟩ := ccR_hh h₁
  have e₇ := ccR_hX h₁ h₅ h₆
  obtain ⟨u, r₁⟩ := ccR_d (bd := bd) (L := L) (g := decide (N k = x)) h₁ q₄ h₅ h₆ h₇ h₈ e₁ e₄
  refine ⟨z, ccDropM mm bd L k h z (decide (N k = x)), u, e₁, e₃, e₄, e₅, by omega, fun rs => ccE27 q₁ q₃ h₂ (by omega) e₅ (by omega) e₁ e₃ e₄, ccDropM_fq, ?_⟩
  rw [ccDropM_s]
  exact r₁
/-- both cards of a pair: the castle behind -/
def kwCP (C : Nat → Nat → Int32) (bd t L c cs a b h₁ z₁ h₂ z₂ : Nat) (x : Int32) : Nat → Nat → Int32 := ccKd (ccKd (ccU (ccKn C t L c 0 cs) 2 (12 * L + c) (I (-1))) bd L a h₁ z₁ (decide (N a = x))) bd L b h₂ z₂ (decide (N b = x))
def kwCF (C : Nat → Nat → Int32) (bd t L c cs a h₁ z₁ : Nat) (x : Int32) : Nat → Nat → Int32 := ccKd (ccU (ccKn C t L c 1 cs) 6 (12 * L + c) (I (-1))) bd L a h₁ z₁ (decide (N a = x))
theorem ccKn_U {C : Nat → Nat → Int32} {t L c kd cs j p : Nat} {v : Int32} (h₁ : j = 2 ∨ j = 6) : ccKn (ccU C j p v) t L c kd cs = ccU (ccKn C t L c kd cs) j p v := by
  funext j₁ p₁
  unfold ccKn ccU
  by_cases h₂ : j₁ = j ∧ p₁ = p
  · obtain ⟨rfl, rfl⟩ := h₂
    simp (disch := omega) only [if_neg, if_pos, Nat.reduceEqDiff, eq_self, true_and, and_true, false_and, and_false, if_true, if_false]
  · simp (disch := omega) only [if_neg, Nat.reduceEqDiff, eq_self, true_and, and_true, false_and, and_false, if_true, if_false]
theorem kwStepP {mc mm : mMi} {i w l n bd h t L c cs : Nat} {x : Int32} {β wt : Nat → Int32} (q₁ : ccRu mc (RO i) w l n) (q₂ : mc 1 (RO i) 1 5 = N bd) (q₅ : bd ≤ 8) (q₆ : ccR ccX0 n β wt h t (mc 0 i) (mm 4 0 3)) (h₁ : t < 1000000000) (h₂ : L < l) (h₃ : L + c < w) (h₄ : mc 0 i 2 (12 * L + c) ≠ I (-1)) (h₅ : cs < 4) :
    ∃ a b h₁ z₁ h₂ z₂ m₁ m₂ u, a < n ∧ b < n ∧ a ≠ b ∧ mc 0 i 2 (12 * L + c) = N a ∧ mc 0 i 3 (12 * L + c) = N b ∧ mc 0 i 11 a = N z₁ ∧ 1 ≤ z₁ ∧ z₁ ≤ 9 ∧ mc 0 i 11 b = N z₂ ∧ 1 ≤ z₂ ∧ z₂ ≤ 9 ∧ mc 0 i 10 5 = N h₁ ∧ h₁ < 40 ∧ (ccKd (ccU (ccKn (mc 0 i) t L c 0 cs) 2 (12 * L + c) (I (-1))) bd L a h₁ z₁ (decide (N a = x))) 10 5 = N h₂ ∧ h₂ < 40 ∧
      (∀ f rs, FR (f + 1) 26 i (N L) (N c) (N cs) x mc rs = bV (FR f 28 i (N (L + 1)) (N c - N 1) (N 2) (I (-1)) m₁ rs) (fun m₃ r₃ => bV (FR f 28 i (N (L + 1)) (N c) (N 2) (I (-1)) m₃ r₃) (fun m₄ r₄ => rV m₄ r₄))) ∧
      ccFr i mc m₁ ∧ ccFq mm m₂ ∧ ccR ccX0 n β wt u (t + 1) (m₁ 0 i) (m₂ 4 0 3) ∧ m₁ 0 i = kwCP (mc 0 i) bd t L c cs a b h₁ z₁ h₂ z₂ x := by
  have b₁ : w ≤ 12 := q₁.2.2.2.2.1
  have b₂ : l ≤ 8 := q₁.2.2.2.2.2.2.1
  have b₃ : n ≤ 40 := q₁.2.2.2.2.2.2.2
  have b₄ : 12 * L + c < 96 := by omega
  obtain ⟨a, b, f₁, f₂, f₃, f₄, f₅, f₆, f₇, r₁⟩ := ccR_p q₆ b₄ b₃ h₄
  have r₂ := ccR_n (L := L) (c := c) (kd := 0) r₁ b₃ h₅ (by omega) (by omega) (by omega) h₁
  obtain ⟨m₅, g₅⟩ : ∃ m, m = ccNote (mset mc 0 i 2 (12 * L + c) (I (-1))) i t (mc 0 i 0 5) L c 0 cs := ⟨_, rfl⟩
  have c₅ : m₅ 0 i = ccKn (ccU (mc 0 i) 2 (12 * L + c) (I (-1))) t L c 0 cs := by
    rw [g₅, ccNote_C (by rw [ccRd, if_neg (by omega)]), ccU_set]
  have d₅ : ccFr i mc m₅ := by rw [g₅]; exact ccFr_trans (ccFr_set ccFr_rfl) ccNote_fr
  obtain ⟨m₆, g₆⟩ : ∃ m, m = mset (ccNoteM mm t (12 * L + c) 0 cs) 4 0 3 (248 + 4 * (12 * L + c)) (I (-1)) := ⟨_, rfl⟩
  have c₆ : m₆ 4 0 3 = ccRn (ccV (mm 4 0 3) (248 + 4 * (12 * L + c)) (I (-1))) t (12 * L + c) 0 cs := by
    rw [g₆, ccV_set, ccNoteM_s, ccRn_V (by omega) (by omega) h₅]
  have d₆ : ccFq mm m₆ := by rw [g₆]; exact ccFq_set ccNoteM_fq (by omega)
  rw [← c₅, ← c₆] at r₂
  obtain ⟨z₁, m₈, u₁, i₁, i₂, i₃, i₄, i₅, s₁, d₈, r₃⟩ := kwDropSim (x := x) (Y := ccX1 b) (by rw [d₅ 1 (RO i) 1 5 (by omega) (by omega)]; exact q₂) q₅ b₃ r₂ (by omega : L < 8) f₁ (by simp only [ccX2, decide_true, Bool.true_or]) (fun j y₁ => by simp only [ccX2, ccX1, y₁, decide_false, Bool.false_or]) (by simp only [ccX1]; exact decide_eq_false f₃)
  obtain ⟨m₇, g₇⟩ : ∃ m, m = ccDrop m₅ i bd L a h z₁ (decide (N a = x)) := ⟨_, rfl⟩
  have c₇ : m₇ 0 i = ccKd (m₅ 0 i) bd L a h z₁ (decide (N a = x)) := by rw [g₇, ccDrop_C]
  have d₇ : ccFr i m₅ m₇ := by rw [g₇]; exact ccDrop_fr
  rw [← c₇] at r₃
  obtain ⟨z₂, m₀, u₂, j₁, j₂, j₃, j₄, j₅, s₃, d₀, r₄⟩ := kwDropSim (x := x) (Y := ccX0) (by rw [d₇ 1 (RO i) 1 5 (by omega) (by omega), d₅ 1 (RO i) 1 5 (by omega) (by omega)]; exact q₂) q₅ b₃ r₃ (by omega : L < 8) f₂ (by simp only [ccX1, decide_true]) (fun j y₁ => by simp only [ccX1, ccX0, y₁, decide_false]) rfl
  obtain ⟨m₉, g₉⟩ : ∃ m, m = ccDrop m₇ i bd L b u₁ z₂ (decide (N b = x)) := ⟨_, rfl⟩
  have c₉ : m₉ 0 i = ccKd (m₇ 0 i) bd L b u₁ z₂ (decide (N b = x)) := by rw [g₉, ccDrop_C]
  have d₉ : ccFr i m₇ m₉ := by rw [g₉]; exact ccDrop_fr
  rw [← c₉] at r₄
  rw [← g₇] at s₁
  rw [← g₉] at s₃
  rw [c₅, ccKn_U (Or.inl rfl)] at c₇
  refine ⟨a, b, h, z₁, u₁, z₂, m₉, m₀, u₂, f₁, f₂, f₃, f₄, f₅, ?_, i₂, i₃, ?_, j₂, j₃, ?_, i₅, ?_, j₅, fun f rs => ?_, ccFr_trans d₅ (ccFr_trans d₇ d₉), ccFq_trans d₆ (ccFq_trans d₈ d₀), r₄, ?_⟩
  · rw [c₅, ccKn_o (by omega) (by omega) (by omega)] at i₁
    unfold ccU at i₁
    rw [if_neg (by omega)] at i₁
    exact i₁
  · rw [c₇, ccKd_o (by omega) (by omega) (by omega) (by omega) (by omega)] at j₁
    unfold ccU at j₁
    rw [if_neg (by omega), ccKn_o (by omega) (by omega) (by omega)] at j₁
    exact j₁
  · exact (ccR_hh q₆).1
  · rw [← c₇]
    exact j₄
  · have e₁ : ccP (mc 0 i) (12 * L + c) = true := by unfold ccP; rw [decide_eq_false h₄]; rfl
    have e₂ : ∀ r₁, F45 i (mc 0 i 0 5) (N L) (N c) (N 0) (N cs) (mset mc 0 i 2 (12 * L + c) (I (-1))) r₁ = rV m₅ r₁ := fun r₁ => by
      rw [g₅]
      exact ccE45 (by rw [ccRd, if_neg (by omega)]; exact (ccR_tt q₆).1) h₁ h₅
    have e₃ : ccSp w l L c = N (12 * L + c) := by unfold ccSp; rw [if_pos ⟨h₂, h₃⟩]
    simp (disch := omega) only [ccFR26, ccE81 q₁, e₃, ccE51, e₁, e₂, f₄, f₅, s₁, s₃, true_and, and_true, false_and, and_false, if_true, if_false, ccIte, ccBi, ccBiX, ccBv, ccBvX, ccZ0, ccZ1, ccTZ, ccT0, ccT1, Bool.or_false, ccMckT, ccMckIn, ne_eq, not_true_eq_false, not_false_eq_true, if_pos, if_neg, reduceIte, eq_self, Bool.false_eq_true, Bool.true_eq_false, mix_N, N_add, N_mul, N_sub, N_div, ccMod, N_lt, N_le, N_eq, ccNm, ccMN, ccNm2, ccM2N, ccMM2, ccM2M, ccMlt, ccMle, ccNltM, ccNleM, ccM2lt, ccM2le, ccNlt2, ccNle2, Nat.reduceAdd, Nat.reduceMul, Nat.reduceSub, Nat.reduceLT, Nat.reduceLeDiff, Nat.reduceEqDiff, Nat.reduceDiv, Nat.reduceMod]
  · rw [c₉, c₇]
    rfl
theorem kwStepF {mc mm : mMi} {i w l n bd h t L c cs : Nat} {x : Int32} {β wt : Nat → Int32} (q₁ : ccRu mc (RO i) w l n) (q₂ : mc 1 (RO i) 1 5 = N bd) (q₅ : bd ≤ 8) (q₆ : ccR ccX0 n β wt h t (mc 0 i) (mm 4 0 3)) (h₁ : t < 1000000000) (h₂ : L < l) (h₃ : L + c < w) (h₄ : mc 0 i 6 (12 * L + c) ≠ I (-1)) (h₅ : cs < 4) :
    ∃ a h₁ z₁ m₁ m₂ u, a < n ∧ mc 0 i 6 (12 * L + c) = N a ∧ mc 0 i 11 a = N z₁ ∧ 1 ≤ z₁ ∧ z₁ ≤ 9 ∧ mc 0 i 10 5 = N h₁ ∧ h₁ < 40 ∧
      (∀ f rs, FR (f + 1) 28 i (N L) (N c) (N cs) x mc rs = bV (FR f 26 i (N L) (N c) (N 2) (I (-1)) m₁ rs) (fun m₄ r₄ => rV m₄ r₄)) ∧
      ccFr i mc m₁ ∧ ccFq mm m₂ ∧ ccR ccX0 n β wt u (t + 1) (m₁ 0 i) (m₂ 4 0 3) ∧ m₁ 0 i = kwCF (mc 0 i) bd t L c cs a h₁ z₁ x := by
  have b₁ : w ≤ 12 := q₁.2.2.2.2.1
  have b₂ : l ≤ 8 := q₁.2.2.2.2.2.2.1
  have b₃ : n ≤ 40 := q₁.2.2.2.2.2.2.2
  have b₄ : 12 * L + c < 96 := by omega
  obtain ⟨a, f₁, f₄, f₆, r₁⟩ := ccR_f q₆ b₄ b₃ h₄
  have r₂ := ccR_n (L := L) (c := c) (kd := 1) r₁ b₃ h₅ (by omega) (by omega) (by omega) h₁
  obtain ⟨m₅, g₅⟩ : ∃ m, m = ccNote (mset mc 0 i 6 (12 * L + c) (I (-1))) i t (mc 0 i 0 5) L c 1 cs := ⟨_, rfl⟩
  have c₅ : m₅ 0 i = ccKn (ccU (mc 0 i) 6 (12 * L + c) (I (-1))) t L c 1 cs := by
    rw [g₅, ccNote_C (by rw [ccRd, if_neg (by omega)]), ccU_set]
  have d₅ : ccFr i mc m₅ := by rw [g₅]; exact ccFr_trans (ccFr_set ccFr_rfl) ccNote_fr
  obtain ⟨m₆, g₆⟩ : ∃ m, m = mset (ccNoteM mm t (12 * L + c) 1 cs) 4 0 3 (632 + (12 * L + c)) (I (-1)) := ⟨_, rfl⟩
  have c₆ : m₆ 4 0 3 = ccRn (ccV (mm 4 0 3) (632 + (12 * L + c)) (I (-1))) t (12 * L + c) 1 cs := by
    rw [g₆, ccV_set, ccNoteM_s, ccRn_V (by omega) (by omega) h₅]
  have d₆ : ccFq mm m₆ := by rw [g₆]; exact ccFq_set ccNoteM_fq (by omega)
  rw [← c₅, ← c₆] at r₂
  obtain ⟨z₁, m₈, u₁, i₁, i₂, i₃, i₄, i₅, s₁, d₈, r₃⟩ := kwDropSim (x := x) (Y := ccX0) (by rw [d₅ 1 (RO i) 1 5 (by omega) (by omega)]; exact q₂) q₅ b₃ r₂ (by omega : L < 8) f₁ (by simp only [ccX1, decide_true]) (fun j y₁ => by simp only [ccX1, ccX0, y₁, decide_false]) rfl
  obtain ⟨m₇, g₇⟩ : ∃ m, m = ccDrop m₅ i bd L a h z₁ (decide (N a = x)) := ⟨_, rfl⟩
  have c₇ : m₇ 0 i = ccKd (m₅ 0 i) bd L a h z₁ (decide (N a = x)) := by rw [g₇, ccDrop_C]
  have d₇ : ccFr i m₅ m₇ := by rw [g₇]; exact ccDrop_fr
  rw [← c₇] at r₃
  rw [← g₇] at s₁
  rw [c₅, ccKn_U (Or.inr rfl)] at c₇
  refine ⟨a, h, z₁, m₇, m₈, u₁, f₁, f₄, ?_, i₂, i₃, ?_, i₅, fun f rs => ?_, ccFr_trans d₅ d₇, ccFq_trans d₆ d₈, r₃, ?_⟩
  · rw [c₅, ccKn_o (by omega) (by omega) (by omega)] at i₁
    unfold ccU at i₁
    rw [if_neg (by omega)] at i₁
    exact i₁
  · exact (ccR_hh q₆).1
  · have e₁ : ccF (mc 0 i) (12 * L + c) = true := by unfold ccF; rw [decide_eq_false h₄]; rfl
    have e₂ : ∀ r₁, F45 i (mc 0 i 0 5) (N L) (N c) (N 1) (N cs) (mset mc 0 i 6 (12 * L + c) (I (-1))) r₁ = rV m₅ r₁ := fun r₁ => by
      rw [g₅]
      exact ccE45 (by rw [ccRd, if_neg (by omega)]; exact (ccR_tt q₆).1) h₁ h₅
    have e₃ : ccSp w l L c = N (12 * L + c) := by unfold ccSp; rw [if_pos ⟨h₂, h₃⟩]
    simp (disch := omega) only [ccFR28, ccE81 q₁, e₃, ccE52, e₁, e₂, f₄, s₁, true_and, and_true, false_and, and_false, if_true, if_false, ccIte, ccBi, ccBiX, ccBv, ccBvX, ccZ0, ccZ1, ccTZ, ccT0, ccT1, Bool.or_false, ccMckT, ccMckIn, ne_eq, not_true_eq_false, not_false_eq_true, if_pos, if_neg, reduceIte, eq_self, Bool.false_eq_true, Bool.true_eq_false, mix_N, N_add, N_mul, N_sub, N_div, ccMod, N_lt, N_le, N_eq, ccNm, ccMN, ccNm2, ccM2N, ccMM2, ccM2M, ccMlt, ccMle, ccNltM, ccNleM, ccM2lt, ccM2le, ccNlt2, ccNle2, Nat.reduceAdd, Nat.reduceMul, Nat.reduceSub, Nat.reduceLT, Nat.reduceLeDiff, Nat.reduceEqDiff, Nat.reduceDiv, Nat.reduceMod]
  · rw [c₇]
    rfl
