/-! THE FIRST PLACE of a kind, of the reference. -/
theorem ccMifT {x y : mRz} : mifO true x y = x := rfl
theorem ccMifF {x y : mRz} : mifO false x y = y := rfl
theorem ccL217in {m : mMi} {w l n L T : Nat} {x : Int32} {bad : Nat → Bool} (q₁ : ccMo m w l n) (h₁ : L < l) (hb : ∀ p, p < 96 → bad p = true → p / 12 < l ∧ p / 12 + p % 12 < w)
    (hs : ∀ c f rs, L + c < w → F217_2 (f + 1) 12 x (N L) (N c) m rs = if bad (12 * L + c) = true then rI (N (12 * L + c)) m rs else F217_2 f 12 x (N L) (N (c + 1)) m rs)
    (hn : ∀ f rs, F217_2 (f + T) 2 x (N (L + 1)) (N 0) m rs = rI (ccFst bad (96 - 12 * (L + 1)) (12 * (L + 1))) m rs) : ∀ e c, c + e = w - L → ∀ f rs, F217_2 (f + T + e + 1) 12 x (N L) (N c) m rs = rI (ccFst bad (96 - (12 * L + c)) (12 * L + c)) m rs := by
  obtain ⟨q₂, q₃, q₄, b₁, b₂, b₃, b₄, b₅⟩ := q₁
  intro e
  induction e with
  | zero =>
    intro c g₁ f rs
    have e₁ : 96 - (12 * L + c) = (12 - c) + (96 - 12 * (L + 1)) := by omega
    have e₂ : 12 * L + c + (12 - c) = 12 * (L + 1) := by omega
    rw [e₁, ccFst_skip (12 - c) _ _ (fun q y₁ y₂ => by
      by_cases y₃ : bad q = true
      · have y₄ := hb q (by omega) y₃
        omega
      · exact Bool.eq_false_iff.mpr y₃), e₂, ccL217_2_12, q₂]
    by_cases y₁ : L ≤ w
    · simp (disch := omega) only [true_and, and_true, false_and, and_false, if_true, if_false, ccIte, ccBi, ccBiX, ccBv, ccBvX, ccZ0, ccZ1, ccTZ, ccT0, ccT1, Bool.or_false, ccMckT, ccMckIn, ne_eq, not_true_eq_false, not_false_eq_true, if_pos, if_neg, reduceIte, eq_self, Bool.false_eq_true, Bool.true_eq_false, mix_N, N_add, N_mul, N_sub, N_div, ccMod, N_lt, N_le, N_eq, ccNm, ccMN, ccNm2, ccM2N, ccMM2, ccM2M, ccMlt, ccMle, ccNltM, ccNleM, ccM2lt, ccM2le, ccNlt2, ccNle2, Nat.reduceAdd, Nat.reduceMul, Nat.reduceSub, Nat.reduceLT, Nat.reduceLeDiff, Nat.reduceEqDiff, Nat.reduceDiv, Nat.reduceMod]
      exact hn f rs
    · simp (disch := omega) only [ccIte, ccSubLe, if_true, N_add]
      exact hn f rs
  | succ e i₁ =>
    intro c g₁ f rs
    have e₁ : f + T + (e + 1) + 1 = f + T + e + 1 + 1 := by omega
    have e₂ : 96 - (12 * L + c) = (96 - (12 * L + (c + 1))) + 1 := by omega
    rw [e₁, hs c _ rs (by omega), e₂]
    show _ = rI (if bad (12 * L + c) = true then N (12 * L + c) else ccFst bad (96 - (12 * L + (c + 1))) (12 * L + c + 1)) m rs
    by_cases y₁ : bad (12 * L + c) = true
    · rw [if_pos y₁, if_pos y₁]
    · rw [if_neg y₁, if_neg y₁]
      exact i₁ (c + 1) (by omega) f rs
theorem ccL217out {m : mMi} {w l n : Nat} {x : Int32} {bad : Nat → Bool} (q₁ : ccMo m w l n) (hb : ∀ p, p < 96 → bad p = true → p / 12 < l ∧ p / 12 + p % 12 < w)
    (hs : ∀ L c f rs, L < l → L + c < w → F217_2 (f + 1) 12 x (N L) (N c) m rs = if bad (12 * L + c) = true then rI (N (12 * L + c)) m rs else F217_2 f 12 x (N L) (N (c + 1)) m rs) : ∀ k L, L + k = l → ∃ T, T ≤ 15 * k + 1 ∧ ∀ f y rs, F217_2 (f + T) 2 x (N L) y m rs = rI (ccFst bad (96 - 12 * L) (12 * L)) m rs := by
  have q₅ := q₁
  obtain ⟨q₂, q₃, q₄, b₁, b₂, b₃, b₄, b₅⟩ := q₁
  intro k
  induction k with
  | zero =>
    intro L g₁
    refine ⟨1, by omega, fun f y rs => ?_⟩
    have e₁ : ccFst bad (96 - 12 * L + 0) (12 * L) = ccFst bad 0 (12 * L + (96 - 12 * L)) := ccFst_skip (96 - 12 * L) 0 (12 * L) (fun q y₁ y₂ => by
      by_cases y₃ : bad q = true
      · have y₄ := hb q (by omega) y₃
        omega
      · exact Bool.eq_false_iff.mpr y₃)
    rw [Nat.add_zero] at e₁
    rw [e₁, ccL217_2_2, q₃]
    simp (disch := omega) only [true_and, and_true, false_and, and_false, if_true, if_false, ccIte, ccBi, ccBiX, ccBv, ccBvX, ccZ0, ccZ1, ccTZ, ccT0, ccT1, Bool.or_false, ccMckT, ccMckIn, ne_eq, not_true_eq_false, not_false_eq_true, if_pos, if_neg, reduceIte, eq_self, Bool.false_eq_true, Bool.true_eq_false, mix_N, N_add, N_mul, N_sub, N_div, ccMod, N_lt, N_le, N_eq, ccNm, ccMN, ccNm2, ccM2N, ccMM2, ccM2M, ccMlt, ccMle, ccNltM, ccNleM, ccM2lt, ccM2le, ccNlt2, ccNle2, Nat.reduceAdd, Nat.reduceMul, Nat.reduceSub, Nat.reduceLT, Nat.reduceLeDiff, Nat.reduceEqDiff, Nat.reduceDiv, Nat.reduceMod]
    rfl
  | succ k i₁ =>
    intro L g₁
    obtain ⟨T, g₂, g₃⟩ := i₁ (L + 1) (by omega)
    have g₄ := ccL217in q₅ (by omega : L < l) hb (fun c f rs y₁ => hs L c f rs (by omega) y₁) (fun f rs => g₃ f (N 0) rs) (w - L) 0 (by omega)
    refine ⟨T + (w - L) + 1 + 1, by omega, fun f y rs => ?_⟩
    have e₁ : f + (T + (w - L) + 1 + 1) = f + T + (w - L) + 1 + 1 := by omega
    rw [e₁, ccL217_2_2, q₃]
    simp (disch := omega) only [true_and, and_true, false_and, and_false, if_true, if_false, ccIte, ccBi, ccBiX, ccBv, ccBvX, ccZ0, ccZ1, ccTZ, ccT0, ccT1, Bool.or_false, ccMckT, ccMckIn, ne_eq, not_true_eq_false, not_false_eq_true, if_pos, if_neg, reduceIte, eq_self, Bool.false_eq_true, Bool.true_eq_false, mix_N, N_add, N_mul, N_sub, N_div, ccMod, N_lt, N_le, N_eq, ccNm, ccMN, ccNm2, ccM2N, ccMM2, ccM2M, ccMlt, ccMle, ccNltM, ccNleM, ccM2lt, ccM2le, ccNlt2, ccNle2, Nat.reduceAdd, Nat.reduceMul, Nat.reduceSub, Nat.reduceLT, Nat.reduceLeDiff, Nat.reduceEqDiff, Nat.reduceDiv, Nat.reduceMod]
    exact g₄ f rs
theorem ccE217 {m : mMi} {w l n : Nat} {x : Int32} {bad : Nat → Bool} {rs : mRs} (q₁ : ccMo m w l n) (hb : ∀ p, p < 96 → bad p = true → p / 12 < l ∧ p / 12 + p % 12 < w)
    (hs : ∀ L c f rs, L < l → L + c < w → F217_2 (f + 1) 12 x (N L) (N c) m rs = if bad (12 * L + c) = true then rI (N (12 * L + c)) m rs else F217_2 f 12 x (N L) (N (c + 1)) m rs) : F217 x m rs = rI (ccFst bad 96 0) m rs := by
  have b₂ : l ≤ 8 := q₁.2.2.2.2.2.2.1
  obtain ⟨T, g₁, g₂⟩ := ccL217out q₁ hb hs l 0 (by omega)
  have e₁ : FU = (100000 - T) + T := by unfold FU; omega
  unfold F217
  rw [e₁]
  exact g₂ _ _ rs
theorem ccPlc_b {w l : Nat} {C : Nat → Nat → Int32} {g : Nat → Bool} (h₁ : ccPlc w l C) : ∀ p, p < 96 → (ccP C p && g p) = true → p / 12 < l ∧ p / 12 + p % 12 < w := fun p g₁ g₂ => by
  unfold ccP at g₂
  simp only [Bool.and_eq_true, Bool.not_eq_true', decide_eq_false_iff_not] at g₂
  exact (h₁ p g₁).1 g₂.1
theorem ccE217l {m : mMi} {w l n : Nat} {W : Nat → Nat} {C : Nat → Nat → Int32} {rs : mRs} (q₁ : ccWm m w l n W C) (q₂ : ccCd n C) (q₃ : ccSs n C (m 4 0 3)) (h₅ : ccDonem m W C w l 0) (h₆ : ccPlc w l C) : F217 (N 0) m rs = rI (ccFst (ccBdl W C w l) 96 0) m rs := by
  have b₁ : w ≤ 12 := q₁.1.2.2.2.2.1
  have b₂ : l ≤ 8 := q₁.1.2.2.2.2.2.2.1
  refine ccE217 q₁.1 (ccPlc_b h₆) (fun L c f rs g₁ g₂ => ?_)
  have q₄ : m 4 0 0 2 = N w := q₁.1.1
  have p₁ : 12 * L + c < 96 := by omega
  rw [ccL217_2_12, q₄]
  unfold ccBdl
  cases g₃ : ccP C (12 * L + c)
  · have g₄ : ccHP C w l L c = false := by unfold ccHP; rw [g₃, Bool.and_false]
    simp (disch := omega) only [ccE200, ccE198' q₁, g₄, true_and, and_true, false_and, and_false, if_true, if_false, ccIte, ccBi, ccBiX, ccBv, ccBvX, ccZ0, ccZ1, ccTZ, ccT0, ccT1, Bool.or_false, ccMckT, ccMckIn, ne_eq, not_true_eq_false, not_false_eq_true, if_pos, if_neg, reduceIte, eq_self, Bool.false_eq_true, Bool.true_eq_false, mix_N, N_add, N_mul, N_sub, N_div, ccMod, N_lt, N_le, N_eq, ccNm, ccMN, ccNm2, ccM2N, ccMM2, ccM2M, ccMlt, ccMle, ccNltM, ccNleM, ccM2lt, ccM2le, ccNlt2, ccNle2, Nat.reduceAdd, Nat.reduceMul, Nat.reduceSub, Nat.reduceLT, Nat.reduceLeDiff, Nat.reduceEqDiff, Nat.reduceDiv, Nat.reduceMod, Bool.false_and]
  · have g₅ : C 2 (12 * L + c) ≠ I (-1) := by
      unfold ccP at g₃
      simpa only [Bool.not_eq_true', decide_eq_false_iff_not] using g₃
    have g₄ : ccHP C w l L c = true := ccHP_i g₁ g₂ g₅
    by_cases g₆ : ccRv W C w l (12 * L + c) < N 0
    · simp (disch := omega) only [ccE200, ccE198' q₁, g₄, ccE218 q₁ q₂ q₃ p₁ g₅ h₅ h₆, ccN0le, g₆, true_and, and_true, false_and, and_false, if_true, if_false, ccIte, ccBi, ccBiX, ccBv, ccBvX, ccZ0, ccZ1, ccTZ, ccT0, ccT1, Bool.or_false, ccMckT, ccMckIn, ne_eq, not_true_eq_false, not_false_eq_true, if_pos, if_neg, reduceIte, eq_self, Bool.false_eq_true, Bool.true_eq_false, mix_N, N_add, N_mul, N_sub, N_div, ccMod, N_lt, N_le, N_eq, ccNm, ccMN, ccNm2, ccM2N, ccMM2, ccM2M, ccMlt, ccMle, ccNltM, ccNleM, ccM2lt, ccM2le, ccNlt2, ccNle2, Nat.reduceAdd, Nat.reduceMul, Nat.reduceSub, Nat.reduceLT, Nat.reduceLeDiff, Nat.reduceEqDiff, Nat.reduceDiv, Nat.reduceMod, ccMifT, ccMifF, decide_true, Bool.true_and]
    · simp (disch := omega) only [ccE200, ccE198' q₁, g₄, ccE218 q₁ q₂ q₃ p₁ g₅ h₅ h₆, ccN0le, g₆, true_and, and_true, false_and, and_false, if_true, if_false, ccIte, ccBi, ccBiX, ccBv, ccBvX, ccZ0, ccZ1, ccTZ, ccT0, ccT1, Bool.or_false, ccMckT, ccMckIn, ne_eq, not_true_eq_false, not_false_eq_true, if_pos, if_neg, reduceIte, eq_self, Bool.false_eq_true, Bool.true_eq_false, mix_N, N_add, N_mul, N_sub, N_div, ccMod, N_lt, N_le, N_eq, ccNm, ccMN, ccNm2, ccM2N, ccMM2, ccM2M, ccMlt, ccMle, ccNltM, ccNleM, ccM2lt, ccM2le, ccNlt2, ccNle2, Nat.reduceAdd, Nat.reduceMul, Nat.reduceSub, Nat.reduceLT, Nat.reduceLeDiff, Nat.reduceEqDiff, Nat.reduceDiv, Nat.reduceMod, ccMifT, ccMifF, decide_false, Bool.and_false]
theorem ccE217w {m : mMi} {w l n : Nat} {W : Nat → Nat} {C : Nat → Nat → Int32} {rs : mRs} {x : Int32} (q₁ : ccWm m w l n W C) (h₆ : ccPlc w l C) (h₇ : m 4 0 0 4 = x) : F217 (N 1) m rs = rI (ccFst (ccBdw x C) 96 0) m rs := by
  have b₁ : w ≤ 12 := q₁.1.2.2.2.2.1
  have b₂ : l ≤ 8 := q₁.1.2.2.2.2.2.2.1
  refine ccE217 q₁.1 (ccPlc_b h₆) (fun L c f rs g₁ g₂ => ?_)
  have q₄ : m 4 0 0 2 = N w := q₁.1.1
  have p₁ : 12 * L + c < 96 := by omega
  rw [ccL217_2_12, q₄]
  unfold ccBdw
  cases g₃ : ccP C (12 * L + c)
  · have g₄ : ccHP C w l L c = false := by unfold ccHP; rw [g₃, Bool.and_false]
    simp (disch := omega) only [ccE200, ccE198' q₁, g₄, true_and, and_true, false_and, and_false, if_true, if_false, ccIte, ccBi, ccBiX, ccBv, ccBvX, ccZ0, ccZ1, ccTZ, ccT0, ccT1, Bool.or_false, ccMckT, ccMckIn, ne_eq, not_true_eq_false, not_false_eq_true, if_pos, if_neg, reduceIte, eq_self, Bool.false_eq_true, Bool.true_eq_false, mix_N, N_add, N_mul, N_sub, N_div, ccMod, N_lt, N_le, N_eq, ccNm, ccMN, ccNm2, ccM2N, ccMM2, ccM2M, ccMlt, ccMle, ccNltM, ccNleM, ccM2lt, ccM2le, ccNlt2, ccNle2, Nat.reduceAdd, Nat.reduceMul, Nat.reduceSub, Nat.reduceLT, Nat.reduceLeDiff, Nat.reduceEqDiff, Nat.reduceDiv, Nat.reduceMod, Bool.false_and]
  · have g₅ : C 2 (12 * L + c) ≠ I (-1) := by
      unfold ccP at g₃
      simpa only [Bool.not_eq_true', decide_eq_false_iff_not] using g₃
    have g₄ : ccHP C w l L c = true := ccHP_i g₁ g₂ g₅
    have g₇ : m 4 0 3 (251 + 4 * (12 * L + c)) = C 5 (12 * L + c) := ((q₁.2.1 (12 * L + c) p₁).2.2 g₅).2.2
    by_cases g₆ : x < C 5 (12 * L + c)
    · simp (disch := omega) only [ccE200, ccE198' q₁, g₄, ccE201d, g₇, h₇, ccLeLt, g₆, true_and, and_true, false_and, and_false, if_true, if_false, ccIte, ccBi, ccBiX, ccBv, ccBvX, ccZ0, ccZ1, ccTZ, ccT0, ccT1, Bool.or_false, ccMckT, ccMckIn, ne_eq, not_true_eq_false, not_false_eq_true, if_pos, if_neg, reduceIte, eq_self, Bool.false_eq_true, Bool.true_eq_false, mix_N, N_add, N_mul, N_sub, N_div, ccMod, N_lt, N_le, N_eq, ccNm, ccMN, ccNm2, ccM2N, ccMM2, ccM2M, ccMlt, ccMle, ccNltM, ccNleM, ccM2lt, ccM2le, ccNlt2, ccNle2, Nat.reduceAdd, Nat.reduceMul, Nat.reduceSub, Nat.reduceLT, Nat.reduceLeDiff, Nat.reduceEqDiff, Nat.reduceDiv, Nat.reduceMod, ccMifT, ccMifF, decide_true, Bool.true_and]
    · simp (disch := omega) only [ccE200, ccE198' q₁, g₄, ccE201d, g₇, h₇, ccLeLt, g₆, true_and, and_true, false_and, and_false, if_true, if_false, ccIte, ccBi, ccBiX, ccBv, ccBvX, ccZ0, ccZ1, ccTZ, ccT0, ccT1, Bool.or_false, ccMckT, ccMckIn, ne_eq, not_true_eq_false, not_false_eq_true, if_pos, if_neg, reduceIte, eq_self, Bool.false_eq_true, Bool.true_eq_false, mix_N, N_add, N_mul, N_sub, N_div, ccMod, N_lt, N_le, N_eq, ccNm, ccMN, ccNm2, ccM2N, ccMM2, ccM2M, ccMlt, ccMle, ccNltM, ccNleM, ccM2lt, ccM2le, ccNlt2, ccNle2, Nat.reduceAdd, Nat.reduceMul, Nat.reduceSub, Nat.reduceLT, Nat.reduceLeDiff, Nat.reduceEqDiff, Nat.reduceDiv, Nat.reduceMod, ccMifT, ccMifF, decide_false, Bool.and_false]
