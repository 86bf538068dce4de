/-! STRENGTHS, RESERVES, and the first place of a kind. -/
def ccSB (x y : Int32) : Int32 := (x * (N 100 - N 2 * (if 0 ≤ y - N 45 then y - N 45 else 0 - (y - N 45)))) / N 25
theorem ccE110 {m : mMi} {rs : mRs} {x y : Int32} : F110 x y m rs = rI (ccSB x y) m rs := rfl
theorem ccE221 {m : mMi} {rs : mRs} {x y : Int32} : F221 x y m rs = rI (ccSB x y) m rs := rfl
def ccStf (C : Nat → Nat → Int32) (p : Nat) : Int32 := C 11 (mix (C 2 p)) + C 11 (mix (C 3 p))
def ccStp (C : Nat → Nat → Int32) (p : Nat) : Int32 := ccSB (ccStf C p) (C 4 p)
def ccRv (W : Nat → Nat) (C : Nat → Nat → Int32) (w l p : Nat) : Int32 := ccStp C p - N (ccPL W C w l (7 - p / 12) (p / 12) (p % 12))
theorem ccE25 {m : mMi} {rs : mRs} {i n p : Nat} {C : Nat → Nat → Int32} (h₀ : m 0 i = C) (h₁ : ccCd n C) (h₂ : n ≤ 40) (h₃ : p < 96) (h₄ : C 2 p ≠ I (-1)) : F25 i (N p) m rs = rI (ccStf C p) m rs := by
  subst h₀
  obtain ⟨a, b, e₁, e₂, e₃, e₄⟩ := h₁.1 p h₃ h₄
  have e₅ : ccP (m 0 i) p = true := by unfold ccP; rw [decide_eq_false h₄]; rfl
  unfold F25 ccStf
  simp (disch := omega) only [ccE51, e₅, e₃, e₄, true_and, and_true, false_and, and_false, if_true, if_false, ccIte, ccBi, ccBiX, ccBv, ccBvX, ccZ0, ccZ1, ccTZ, ccT0, ccT1, Bool.or_false, ccMckT, ccMckIn, ne_eq, not_true_eq_false, not_false_eq_true, if_pos, if_neg, reduceIte, eq_self, Bool.false_eq_true, Bool.true_eq_false, mix_N, N_add, N_mul, N_sub, N_div, ccMod, N_lt, N_le, N_eq, ccNm, ccMN, ccNm2, ccM2N, ccMM2, ccM2M, ccMlt, ccMle, ccNltM, ccNleM, ccM2lt, ccM2le, ccNlt2, ccNle2, Nat.reduceAdd, Nat.reduceMul, Nat.reduceSub, Nat.reduceLT, Nat.reduceLeDiff, Nat.reduceEqDiff, Nat.reduceDiv, Nat.reduceMod]
theorem ccE24 {m : mMi} {rs : mRs} {i n p : Nat} {C : Nat → Nat → Int32} (h₀ : m 0 i = C) (h₁ : ccCd n C) (h₂ : n ≤ 40) (h₃ : p < 96) (h₄ : C 2 p ≠ I (-1)) : F24 i (N p) m rs = rI (ccStp C p) m rs := by
  have e₅ : ccP C p = true := by unfold ccP; rw [decide_eq_false h₄]; rfl
  unfold F24 ccStp
  simp (disch := omega) only [ccE51, h₀, e₅, ccE25 h₀ h₁ h₂ h₃ h₄, ccE110, true_and, and_true, false_and, and_false, if_true, if_false, ccIte, ccBi, ccBiX, ccBv, ccBvX, ccZ0, ccZ1, ccTZ, ccT0, ccT1, Bool.or_false, ccMckT, ccMckIn, ne_eq, not_true_eq_false, not_false_eq_true, if_pos, if_neg, reduceIte, eq_self, Bool.false_eq_true, Bool.true_eq_false, mix_N, N_add, N_mul, N_sub, N_div, ccMod, N_lt, N_le, N_eq, ccNm, ccMN, ccNm2, ccM2N, ccMM2, ccM2M, ccMlt, ccMle, ccNltM, ccNleM, ccM2lt, ccM2le, ccNlt2, ccNle2, Nat.reduceAdd, Nat.reduceMul, Nat.reduceSub, Nat.reduceLT, Nat.reduceLeDiff, Nat.reduceEqDiff, Nat.reduceDiv, Nat.reduceMod]
theorem ccE23 {m : mMi} {rs : mRs} {i n w l p : Nat} {W : Nat → Nat} {C : Nat → Nat → Int32} (h₀ : m 0 i = C) (h₁ : ccCd n C) (h₂ : n ≤ 40) (h₃ : p < 96) (h₄ : C 2 p ≠ I (-1)) (h₅ : ccDone m W C w l 0) (h₆ : ccPlc w l C) : F23 i (N p) m rs = rI (ccRv W C w l p) m rs := by
  obtain ⟨g₁, g₂⟩ := (h₆ p h₃).1 h₄
  have e₁ := (h₅ (p / 12) (p % 12) (7 - p / 12) (by omega) (by omega) g₁ g₂).1
  have e₂ : 12 * (p / 12) + p % 12 = p := by omega
  rw [e₂] at e₁
  unfold F23 ccRv
  simp (disch := omega) only [ccE24 h₀ h₁ h₂ h₃ h₄, e₁, true_and, and_true, false_and, and_false, if_true, if_false, ccIte, ccBi, ccBiX, ccBv, ccBvX, ccZ0, ccZ1, ccTZ, ccT0, ccT1, Bool.or_false, ccMckT, ccMckIn, ne_eq, not_true_eq_false, not_false_eq_true, if_pos, if_neg, reduceIte, eq_self, Bool.false_eq_true, Bool.true_eq_false, mix_N, N_add, N_mul, N_sub, N_div, ccMod, N_lt, N_le, N_eq, ccNm, ccMN, ccNm2, ccM2N, ccMM2, ccM2M, ccMlt, ccMle, ccNltM, ccNleM, ccM2lt, ccM2le, ccNlt2, ccNle2, Nat.reduceAdd, Nat.reduceMul, Nat.reduceSub, Nat.reduceLT, Nat.reduceLeDiff, Nat.reduceEqDiff, Nat.reduceDiv, Nat.reduceMod]
/-- the cards' stiffness, of both -/
def ccSs (n : Nat) (C : Nat → Nat → Int32) (s : Nat → Int32) : Prop := ∀ k, k < n → s (8 + 6 * k) = C 11 k
theorem ccSs_of {X : Nat → Bool} {n : Nat} {β : Nat → Int32} {C : Nat → Nat → Int32} {s : Nat → Int32} (h₁ : ccRC X n β C s) : ccSs n C s := fun k g₁ => (h₁ k g₁).1.1
theorem ccE220 {m : mMi} {rs : mRs} {w l n p : Nat} {W : Nat → Nat} {C : Nat → Nat → Int32} (q₁ : ccWm m w l n W C) (q₂ : ccCd n C) (q₃ : ccSs n C (m 4 0 3)) (h₁ : p < 96) (h₂ : C 2 p ≠ I (-1)) : F220 (N p) m rs = rI (ccStf C p) m rs := by
  have b₃ : n ≤ 40 := q₁.1.2.2.2.2.2.2.2
  obtain ⟨a, b, e₁, e₂, e₃, e₄⟩ := q₂.1 p h₁ h₂
  obtain ⟨f₁, f₂, f₃⟩ := q₁.2.1 p h₁
  unfold F220 ccStf
  simp (disch := omega) only [ccE201a, ccE201b, f₁, (f₃ h₂).1, e₃, e₄, ccE204a, q₃ a e₁, q₃ b e₂, true_and, and_true, false_and, and_false, if_true, if_false, ccIte, ccBi, ccBiX, ccBv, ccBvX, ccZ0, ccZ1, ccTZ, ccT0, ccT1, Bool.or_false, ccMckT, ccMckIn, ne_eq, not_true_eq_false, not_false_eq_true, if_pos, if_neg, reduceIte, eq_self, Bool.false_eq_true, Bool.true_eq_false, mix_N, N_add, N_mul, N_sub, N_div, ccMod, N_lt, N_le, N_eq, ccNm, ccMN, ccNm2, ccM2N, ccMM2, ccM2M, ccMlt, ccMle, ccNltM, ccNleM, ccM2lt, ccM2le, ccNlt2, ccNle2, Nat.reduceAdd, Nat.reduceMul, Nat.reduceSub, Nat.reduceLT, Nat.reduceLeDiff, Nat.reduceEqDiff, Nat.reduceDiv, Nat.reduceMod]
theorem ccE219 {m : mMi} {rs : mRs} {w l n p : Nat} {W : Nat → Nat} {C : Nat → Nat → Int32} (q₁ : ccWm m w l n W C) (q₂ : ccCd n C) (q₃ : ccSs n C (m 4 0 3)) (h₁ : p < 96) (h₂ : C 2 p ≠ I (-1)) : F219 (N p) m rs = rI (ccStp C p) m rs := by
  obtain ⟨f₁, f₂, f₃⟩ := q₁.2.1 p h₁
  unfold F219 ccStp
  simp (disch := omega) only [ccE220 q₁ q₂ q₃ h₁ h₂, ccE201c, (f₃ h₂).2.1, ccE221, true_and, and_true, false_and, and_false, if_true, if_false, ccIte, ccBi, ccBiX, ccBv, ccBvX, ccZ0, ccZ1, ccTZ, ccT0, ccT1, Bool.or_false, ccMckT, ccMckIn, ne_eq, not_true_eq_false, not_false_eq_true, if_pos, if_neg, reduceIte, eq_self, Bool.false_eq_true, Bool.true_eq_false, mix_N, N_add, N_mul, N_sub, N_div, ccMod, N_lt, N_le, N_eq, ccNm, ccMN, ccNm2, ccM2N, ccMM2, ccM2M, ccMlt, ccMle, ccNltM, ccNleM, ccM2lt, ccM2le, ccNlt2, ccNle2, Nat.reduceAdd, Nat.reduceMul, Nat.reduceSub, Nat.reduceLT, Nat.reduceLeDiff, Nat.reduceEqDiff, Nat.reduceDiv, Nat.reduceMod]
theorem ccE218 {m : mMi} {rs : mRs} {w l n p : Nat} {W : Nat → Nat} {C : Nat → Nat → Int32} (q₁ : ccWm m w l n W C) (q₂ : ccCd n C) (q₃ : ccSs n C (m 4 0 3)) (h₁ : p < 96) (h₂ : C 2 p ≠ I (-1)) (h₅ : ccDonem m W C w l 0) (h₆ : ccPlc w l C) : F218 (N p) m rs = rI (ccRv W C w l p) m rs := by
  obtain ⟨g₁, g₂⟩ := (h₆ p h₁).1 h₂
  have e₂ : 12 * (p / 12) + p % 12 = p := by omega
  have e₃ : ccHP C w l (p / 12) (p % 12) = true := ccHP_i g₁ g₂ (by rw [e₂]; exact h₂)
  have e₁ := (h₅ (p / 12) (p % 12) (7 - p / 12) (by omega) (by omega) g₁ g₂).1 e₃
  rw [e₂] at e₁
  unfold F218 ccRv
  simp (disch := omega) only [ccE219 q₁ q₂ q₃ h₁ h₂, e₁, true_and, and_true, false_and, and_false, if_true, if_false, ccIte, ccBi, ccBiX, ccBv, ccBvX, ccZ0, ccZ1, ccTZ, ccT0, ccT1, Bool.or_false, ccMckT, ccMckIn, ne_eq, not_true_eq_false, not_false_eq_true, if_pos, if_neg, reduceIte, eq_self, Bool.false_eq_true, Bool.true_eq_false, mix_N, N_add, N_mul, N_sub, N_div, ccMod, N_lt, N_le, N_eq, ccNm, ccMN, ccNm2, ccM2N, ccMM2, ccM2M, ccMlt, ccMle, ccNltM, ccNleM, ccM2lt, ccM2le, ccNlt2, ccNle2, Nat.reduceAdd, Nat.reduceMul, Nat.reduceSub, Nat.reduceLT, Nat.reduceLeDiff, Nat.reduceEqDiff, Nat.reduceDiv, Nat.reduceMod]
/-- the first place from p on, of d places, where f holds -/
def ccFst (f : Nat → Bool) : Nat → Nat → Int32
  | 0, _ => I (-1)
  | d + 1, p => if f p = true then N p else ccFst f d (p + 1)
theorem ccFst_skip {f : Nat → Bool} : ∀ e d p, (∀ q, p ≤ q → q < p + e → f q = false) → ccFst f (e + d) p = ccFst f d (p + e) := by
  intro e
  induction e with
  | zero => intro d p _; rw [Nat.zero_add, Nat.add_zero]
  | succ e i₁ =>
    intro d p h₁
    have e₁ : e + 1 + d = e + d + 1 := by omega
    have e₂ : p + (e + 1) = p + 1 + e := by omega
    rw [e₁, e₂]
    show (if f p = true then N p else ccFst f (e + d) (p + 1)) = _
    rw [h₁ p (by omega) (by omega), if_neg (by decide)]
    exact i₁ d (p + 1) (fun q g₁ g₂ => h₁ q (by omega) (by omega))
theorem ccFst_no {f : Nat → Bool} : ∀ d p, ccFst f d p = I (-1) → p + d < 1000 → ∀ q, p ≤ q → q < p + d → f q = false := by
  intro d
  induction d with
  | zero => intro p _ _ q g₁ g₂; omega
  | succ d i₁ =>
    intro p h₁ h₂ q g₁ g₂
    have h₃ : (if f p = true then N p else ccFst f d (p + 1)) = I (-1) := h₁
    by_cases h₄ : f p = true
    · rw [if_pos h₄, ccNm (by omega)] at h₃
      exact h₃.elim
    · rw [if_neg h₄] at h₃
      by_cases h₅ : q = p
      · subst h₅
        exact Bool.eq_false_iff.mpr h₄
      · exact i₁ (p + 1) h₃ (by omega) q (by omega) (by omega)
theorem ccFst_is {f : Nat → Bool} : ∀ d p, ccFst f d p = I (-1) ∨ ∃ q, ccFst f d p = N q ∧ p ≤ q ∧ q < p + d ∧ f q = true := by
  intro d
  induction d with
  | zero => intro p; exact Or.inl rfl
  | succ d i₁ =>
    intro p
    show (if f p = true then N p else ccFst f d (p + 1)) = I (-1) ∨ ∃ q, (if f p = true then N p else ccFst f d (p + 1)) = N q ∧ _
    by_cases h₁ : f p = true
    · rw [if_pos h₁]
      exact Or.inr ⟨p, rfl, by omega, by omega, h₁⟩
    · rw [if_neg h₁]
      rcases i₁ (p + 1) with h₂ | ⟨q, h₂, h₃, h₄, h₅⟩
      · exact Or.inl h₂
      · exact Or.inr ⟨q, h₂, by omega, by omega, h₅⟩
def ccBdl (W : Nat → Nat) (C : Nat → Nat → Int32) (w l : Nat) : Nat → Bool := fun p => ccP C p && decide (ccRv W C w l p < N 0)
def ccBdw (x : Int32) (C : Nat → Nat → Int32) : Nat → Bool := fun p => ccP C p && decide (x < C 5 p)
theorem ccN0le {x : Int32} : (N 0 ≤ x) ↔ ¬ (x < N 0) := by
  rw [Int32.le_iff_toInt_le, Int32.lt_iff_toInt_lt]
  omega
theorem ccLeLt {x y : Int32} : (x ≤ y) ↔ ¬ (y < x) := by
  rw [Int32.le_iff_toInt_le, Int32.lt_iff_toInt_lt]
  omega
theorem ccFU {k : Nat} (h₁ : k ≤ 99999) : ∃ g, FU = g + k + 1 := ⟨99999 - k, by unfold FU; omega⟩
/-- the first that bears too much -/
theorem ccL20 {m : mMi} {i n w l : Nat} {W : Nat → Nat} {C : Nat → Nat → Int32} (h₀ : m 0 i = C) (h₁ : ccCd n C) (h₂ : n ≤ 40) (h₅ : ccDone m W C w l 0) (h₆ : ccPlc w l C) : ∀ d p f rs, p + d = 96 → F20_10 i (f + d + 1) (N p) m rs = rI (ccFst (ccBdl W C w l) d p) m rs := by
  intro d
  induction d with
  | zero =>
    intro p f rs g₁
    rw [ccL20_10]
    simp (disch := omega) only [true_and, and_true, false_and, and_false, if_true, if_false, ccIte, ccBi, ccBiX, ccBv, ccBvX, ccZ0, ccZ1, ccTZ, ccT0, ccT1, Bool.or_false, ccMckT, ccMckIn, ne_eq, not_true_eq_false, not_false_eq_true, if_pos, if_neg, reduceIte, eq_self, Bool.false_eq_true, Bool.true_eq_false, mix_N, N_add, N_mul, N_sub, N_div, ccMod, N_lt, N_le, N_eq, ccNm, ccMN, ccNm2, ccM2N, ccMM2, ccM2M, ccMlt, ccMle, ccNltM, ccNleM, ccM2lt, ccM2le, ccNlt2, ccNle2, Nat.reduceAdd, Nat.reduceMul, Nat.reduceSub, Nat.reduceLT, Nat.reduceLeDiff, Nat.reduceEqDiff, Nat.reduceDiv, Nat.reduceMod]
    rfl
  | succ d i₁ =>
    intro p f rs g₁
    have e₁ : f + (d + 1) + 1 = f + d + 1 + 1 := by omega
    rw [e₁, ccL20_10]
    show _ = rI (if ccBdl W C w l p = true then N p else ccFst (ccBdl W C w l) d (p + 1)) m rs
    unfold ccBdl
    cases g₂ : ccP C p
    · simp (disch := omega) only [ccE51, h₀, g₂, true_and, and_true, false_and, and_false, if_true, if_false, ccIte, ccBi, ccBiX, ccBv, ccBvX, ccZ0, ccZ1, ccTZ, ccT0, ccT1, Bool.or_false, ccMckT, ccMckIn, ne_eq, not_true_eq_false, not_false_eq_true, if_pos, if_neg, reduceIte, eq_self, Bool.false_eq_true, Bool.true_eq_false, mix_N, N_add, N_mul, N_sub, N_div, ccMod, N_lt, N_le, N_eq, ccNm, ccMN, ccNm2, ccM2N, ccMM2, ccM2M, ccMlt, ccMle, ccNltM, ccNleM, ccM2lt, ccM2le, ccNlt2, ccNle2, Nat.reduceAdd, Nat.reduceMul, Nat.reduceSub, Nat.reduceLT, Nat.reduceLeDiff, Nat.reduceEqDiff, Nat.reduceDiv, Nat.reduceMod, Bool.false_and]
      exact i₁ (p + 1) f rs (by omega)
    · have g₃ : C 2 p ≠ I (-1) := by
        unfold ccP at g₂
        simpa only [Bool.not_eq_true', decide_eq_false_iff_not] using g₂
      by_cases g₄ : ccRv W C w l p < N 0
      · simp (disch := omega) only [ccE51, h₀, g₂, ccE23 h₀ h₁ h₂ (by omega : p < 96) g₃ h₅ h₆, ccN0le, g₄, true_and, and_true, false_and, and_false, if_true, if_false, ccIte, ccBi, ccBiX, ccBv, ccBvX, ccZ0, ccZ1, ccTZ, ccT0, ccT1, Bool.or_false, ccMckT, ccMckIn, ne_eq, not_true_eq_false, not_false_eq_true, if_pos, if_neg, reduceIte, eq_self, Bool.false_eq_true, Bool.true_eq_false, mix_N, N_add, N_mul, N_sub, N_div, ccMod, N_lt, N_le, N_eq, ccNm, ccMN, ccNm2, ccM2N, ccMM2, ccM2M, ccMlt, ccMle, ccNltM, ccNleM, ccM2lt, ccM2le, ccNlt2, ccNle2, Nat.reduceAdd, Nat.reduceMul, Nat.reduceSub, Nat.reduceLT, Nat.reduceLeDiff, Nat.reduceEqDiff, Nat.reduceDiv, Nat.reduceMod, decide_true, Bool.true_and]
      · simp (disch := omega) only [ccE51, h₀, g₂, ccE23 h₀ h₁ h₂ (by omega : p < 96) g₃ h₅ h₆, ccN0le, g₄, true_and, and_true, false_and, and_false, if_true, if_false, ccIte, ccBi, ccBiX, ccBv, ccBvX, ccZ0, ccZ1, ccTZ, ccT0, ccT1, Bool.or_false, ccMckT, ccMckIn, ne_eq, not_true_eq_false, not_false_eq_true, if_pos, if_neg, reduceIte, eq_self, Bool.false_eq_true, Bool.true_eq_false, mix_N, N_add, N_mul, N_sub, N_div, ccMod, N_lt, N_le, N_eq, ccNm, ccMN, ccNm2, ccM2N, ccMM2, ccM2M, ccMlt, ccMle, ccNltM, ccNleM, ccM2lt, ccM2le, ccNlt2, ccNle2, Nat.reduceAdd, Nat.reduceMul, Nat.reduceSub, Nat.reduceLT, Nat.reduceLeDiff, Nat.reduceEqDiff, Nat.reduceDiv, Nat.reduceMod, decide_false, Bool.and_false]
        exact i₁ (p + 1) f rs (by omega)
/-- the first that wobbles too much -/
theorem ccL57 {m : mMi} {i : Nat} {x : Int32} {C : Nat → Nat → Int32} (h₀ : m 0 i = C) : ∀ d p f rs, p + d = 96 → F57_2 i (f + d + 1) x (N p) m rs = rI (ccFst (ccBdw x C) d p) m rs := by
  intro d
  induction d with
  | zero =>
    intro p f rs g₁
    rw [ccL57_2]
    simp (disch := omega) only [true_and, and_true, false_and, and_false, if_true, if_false, ccIte, ccBi, ccBiX, ccBv, ccBvX, ccZ0, ccZ1, ccTZ, ccT0, ccT1, Bool.or_false, ccMckT, ccMckIn, ne_eq, not_true_eq_false, not_false_eq_true, if_pos, if_neg, reduceIte, eq_self, Bool.false_eq_true, Bool.true_eq_false, mix_N, N_add, N_mul, N_sub, N_div, ccMod, N_lt, N_le, N_eq, ccNm, ccMN, ccNm2, ccM2N, ccMM2, ccM2M, ccMlt, ccMle, ccNltM, ccNleM, ccM2lt, ccM2le, ccNlt2, ccNle2, Nat.reduceAdd, Nat.reduceMul, Nat.reduceSub, Nat.reduceLT, Nat.reduceLeDiff, Nat.reduceEqDiff, Nat.reduceDiv, Nat.reduceMod]
    rfl
  | succ d i₁ =>
    intro p f rs g₁
    have e₁ : f + (d + 1) + 1 = f + d + 1 + 1 := by omega
    rw [e₁, ccL57_2]
    show _ = rI (if ccBdw x C p = true then N p else ccFst (ccBdw x C) d (p + 1)) m rs
    unfold ccBdw
    cases g₂ : ccP C p
    · simp (disch := omega) only [ccE51, h₀, g₂, true_and, and_true, false_and, and_false, if_true, if_false, ccIte, ccBi, ccBiX, ccBv, ccBvX, ccZ0, ccZ1, ccTZ, ccT0, ccT1, Bool.or_false, ccMckT, ccMckIn, ne_eq, not_true_eq_false, not_false_eq_true, if_pos, if_neg, reduceIte, eq_self, Bool.false_eq_true, Bool.true_eq_false, mix_N, N_add, N_mul, N_sub, N_div, ccMod, N_lt, N_le, N_eq, ccNm, ccMN, ccNm2, ccM2N, ccMM2, ccM2M, ccMlt, ccMle, ccNltM, ccNleM, ccM2lt, ccM2le, ccNlt2, ccNle2, Nat.reduceAdd, Nat.reduceMul, Nat.reduceSub, Nat.reduceLT, Nat.reduceLeDiff, Nat.reduceEqDiff, Nat.reduceDiv, Nat.reduceMod, Bool.false_and]
      exact i₁ (p + 1) f rs (by omega)
    · by_cases g₄ : x < C 5 p
      · simp (disch := omega) only [ccE51, h₀, g₂, ccLeLt, g₄, true_and, and_true, false_and, and_false, if_true, if_false, ccIte, ccBi, ccBiX, ccBv, ccBvX, ccZ0, ccZ1, ccTZ, ccT0, ccT1, Bool.or_false, ccMckT, ccMckIn, ne_eq, not_true_eq_false, not_false_eq_true, if_pos, if_neg, reduceIte, eq_self, Bool.false_eq_true, Bool.true_eq_false, mix_N, N_add, N_mul, N_sub, N_div, ccMod, N_lt, N_le, N_eq, ccNm, ccMN, ccNm2, ccM2N, ccMM2, ccM2M, ccMlt, ccMle, ccNltM, ccNleM, ccM2lt, ccM2le, ccNlt2, ccNle2, Nat.reduceAdd, Nat.reduceMul, Nat.reduceSub, Nat.reduceLT, Nat.reduceLeDiff, Nat.reduceEqDiff, Nat.reduceDiv, Nat.reduceMod, decide_true, Bool.true_and]
      · simp (disch := omega) only [ccE51, h₀, g₂, ccLeLt, g₄, true_and, and_true, false_and, and_false, if_true, if_false, ccIte, ccBi, ccBiX, ccBv, ccBvX, ccZ0, ccZ1, ccTZ, ccT0, ccT1, Bool.or_false, ccMckT, ccMckIn, ne_eq, not_true_eq_false, not_false_eq_true, if_pos, if_neg, reduceIte, eq_self, Bool.false_eq_true, Bool.true_eq_false, mix_N, N_add, N_mul, N_sub, N_div, ccMod, N_lt, N_le, N_eq, ccNm, ccMN, ccNm2, ccM2N, ccMM2, ccM2M, ccMlt, ccMle, ccNltM, ccNleM, ccM2lt, ccM2le, ccNlt2, ccNle2, Nat.reduceAdd, Nat.reduceMul, Nat.reduceSub, Nat.reduceLT, Nat.reduceLeDiff, Nat.reduceEqDiff, Nat.reduceDiv, Nat.reduceMod, decide_false, Bool.and_false]
        exact i₁ (p + 1) f rs (by omega)
theorem ccE57 {m : mMi} {rs : mRs} {i : Nat} {x : Int32} {C : Nat → Nat → Int32} (h₀ : m 0 i = C) : F57 i x m rs = rI (ccFst (ccBdw x C) 96 0) m rs := by
  obtain ⟨g, hg⟩ := ccFU (k := 96) (by omega)
  unfold F57
  rw [hg]
  exact ccL57 h₀ 96 0 g rs (by omega)
