/-! THE SCALE weighs a castle. -/
def ccFs (m₁ m₂ : mMi) : Prop := ∀ f a j p, ¬ (f = 2 ∧ a = 2) → m₂ f a j p = m₁ f a j p
theorem ccFs_rfl {m₁ : mMi} : ccFs m₁ m₁ := fun _ _ _ _ _ => rfl
theorem ccFs_trans {m₁ m₂ m₃ : mMi} (h₁ : ccFs m₁ m₂) (h₂ : ccFs m₂ m₃) : ccFs m₁ m₃ := fun f a j p g₁ => Eq.trans (h₂ f a j p g₁) (h₁ f a j p g₁)
theorem ccFs_set {j p : Nat} {v : Int32} {m₁ m₂ : mMi} (h₁ : ccFs m₁ m₂) : ccFs m₁ (mset m₂ 2 2 j p v) := fun f a j₁ p₁ g₁ => by
  rw [ccRd, if_neg (by omega)]
  exact h₁ f a j₁ p₁ g₁
theorem ccFs_fr {i : Nat} {m₁ m₂ : mMi} (h₁ : ccFs m₁ m₂) : ccFr i m₁ m₂ := fun f a j p _ g₂ => h₁ f a j p g₂
theorem ccFs_0 {i : Nat} {m₁ m₂ : mMi} (h₁ : ccFs m₁ m₂) : m₂ 0 i = m₁ 0 i := by
  funext j p
  exact h₁ 0 i j p (by omega)
/-- what the scale needs to know -/
def ccWc (m : mMi) (i w l n : Nat) (W : Nat → Nat) (C : Nat → Nat → Int32) : Prop := ccRu m (RO i) w l n ∧ ccWt m (RO i) n W ∧ m 0 i = C
theorem ccWc_fs {m m₁ : mMi} {i w l n : Nat} {W : Nat → Nat} {C : Nat → Nat → Int32} (h₁ : ccWc m i w l n W C) (h₂ : ccFs m m₁) : ccWc m₁ i w l n W C := ⟨ccRu_fr (ccFs_fr (i := i) h₂) h₁.1, fun k g₁ => by rw [h₂ 1 (RO i) 4 k (by omega)]; exact h₁.2.1 k g₁, by rw [ccFs_0 h₂]; exact h₁.2.2⟩
/-- no pair: nothing above it -/
def ccSup (C : Nat → Nat → Int32) (w l : Nat) : Prop := ∀ L c, L < l → L + c < w → ccHP C w l L c = false → ccHF C w l (L + 1) c = false ∧ ∀ c₁, c = c₁ + 1 → ccHF C w l (L + 1) c₁ = false
def ccOK (m : mMi) (W : Nat → Nat) (C : Nat → Nat → Int32) (w l d L c : Nat) : Prop := m 2 2 1 (12 * L + c) = N (ccPL W C w l d L c) ∧ (ccHF C w l L c = true → m 2 2 2 (12 * L + c) = N (ccFL W C w l (d + 1) L c))
def ccDone (m : mMi) (W : Nat → Nat) (C : Nat → Nat → Int32) (w l k : Nat) : Prop := ∀ L c d, k ≤ L → L + (d + 1) = 8 → L < l → L + c < w → ccOK m W C w l d L c
theorem ccPL_0 {W : Nat → Nat} {C : Nat → Nat → Int32} {w l d L c : Nat} (q₁ : ccSup C w l) (h₁ : L < l) (h₂ : L + c < w) (h₃ : ccHP C w l L c = false) : ccPL W C w l d L c = 0 := by
  obtain ⟨g₁, g₂⟩ := q₁ L c h₁ h₂ h₃
  unfold ccPL
  rw [ccFL_0 g₁]
  cases c with
  | zero => rfl
  | succ c₁ =>
    show ccFL W C w l d (L + 1) c₁ / 2 + (0 - 0 / 2) = 0
    rw [ccFL_0 (g₂ c₁ rfl)]
theorem ccFL_eq {W : Nat → Nat} {C : Nat → Nat → Int32} {w l d L c : Nat} (q₁ : ccSup C w l) (h₃ : ccHF C w l L c = true) : ccWF W C (12 * L + c) + ccWP W C (12 * L + c) + ccPL W C w l d L c = ccFL W C w l (d + 1) L c := by
  obtain ⟨g₁, g₂, g₃⟩ := ccHF_t h₃
  have e₁ : ccFL W C w l (d + 1) L c = if ccHF C w l L c = true then W (mix (C 6 (12 * L + c))) + (if ccHP C w l L c = true then W (mix (C 2 (12 * L + c))) + W (mix (C 3 (12 * L + c))) + ccPL W C w l d L c else 0) else 0 := rfl
  have e₂ : ccF C (12 * L + c) = true := by unfold ccF; rw [decide_eq_false g₃]; rfl
  rw [e₁, if_pos h₃]
  unfold ccWF ccWP
  rw [if_pos e₂]
  cases h₄ : ccHP C w l L c
  · have e₃ : ccP C (12 * L + c) = false := by
      unfold ccHP ccPl at h₄
      rw [decide_eq_true g₁, decide_eq_true g₂] at h₄
      exact h₄
    rw [ccPL_0 q₁ g₁ g₂ h₄, e₃]
    simp only [Bool.false_eq_true, if_false, Nat.add_zero]
  · have e₃ : ccP C (12 * L + c) = true := by unfold ccP; rw [decide_eq_false (ccHP_t h₄).2.2]; rfl
    rw [e₃, if_pos rfl, if_pos rfl]
    omega
theorem ccWg_ok {m : mMi} {i w l n d L c : Nat} {W : Nat → Nat} {C : Nat → Nat → Int32} (q₁ : ccSup C w l) (q₂ : m 0 i = C) (h₁ : L < l) (h₂ : L + c < w) : ccOK (ccWg m i W w l d L c) W C w l d L c := by
  subst q₂
  refine ⟨?_, fun g₁ => ?_⟩
  · unfold ccWg
    simp (disch := omega) only [ccRd, if_neg, if_pos, Nat.reduceEqDiff, eq_self, true_and, and_true, false_and, and_false, if_true, if_false]
  · unfold ccWg
    simp (disch := omega) only [ccRd, if_pos, Nat.reduceEqDiff, eq_self, true_and, and_true, false_and, and_false, if_true, if_false]
    rw [ccFL_eq q₁ g₁]
theorem ccWg_o {m : mMi} {i w l d L c j p : Nat} {W : Nat → Nat} (h₁ : p ≠ 12 * L + c) : ccWg m i W w l d L c 2 2 j p = m 2 2 j p := by
  unfold ccWg
  simp (disch := omega) only [ccRd, if_neg]
theorem ccL85in {i w l n L d : Nat} {W : Nat → Nat} {C : Nat → Nat → Int32} (q₁ : ccSup C w l) (q₂ : ccCd n C) (q₃ : ccWok n W) (h₁ : L + (d + 1) = 8) (h₂ : L < l) : ∀ e c m, c + e = w - L → ccWc m i w l n W C → ccDone m W C w l (L + 1) → (∀ c₁, c₁ < c → L + c₁ < w → ccOK m W C w l d L c₁) →
    ∃ m₁, (∀ f rs, F85_3 i (f + e + 1) 9 (N L) (N c) m rs = F85_3 i f 3 (N L + I (-1)) (N 0) m₁ rs) ∧ ccFs m m₁ ∧ ccDone m₁ W C w l L := by
  intro e
  induction e with
  | zero =>
    intro c m g₁ g₂ g₃ g₄
    have b₁ : w ≤ 12 := g₂.1.2.2.2.2.1
    refine ⟨m, fun f rs => ?_, ccFs_rfl, fun L₁ c₁ d₁ g₅ g₆ g₇ g₈ => ?_⟩
    · have e₁ : (if L < l then w - L else 0) = w - L := if_pos h₂
      rw [ccL85_3_9, ccE80 g₂.1 (by omega), e₁]
      simp (disch := omega) only [true_and, and_true, false_and, and_false, if_true, if_false, ccIte, ccBi, ccBiX, ccBv, ccBvX, ccZ0, ccZ1, ccTZ, ccT0, ccT1, Bool.or_false, ccMckT, ccMckIn, ne_eq, not_true_eq_false, not_false_eq_true, if_pos, if_neg, reduceIte, eq_self, Bool.false_eq_true, Bool.true_eq_false, mix_N, N_add, N_mul, N_sub, N_div, ccMod, N_lt, N_le, N_eq, ccNm, ccMN, ccNm2, ccM2N, ccMM2, ccM2M, ccMlt, ccMle, ccNltM, ccNleM, ccM2lt, ccM2le, ccNlt2, ccNle2, Nat.reduceAdd, Nat.reduceMul, Nat.reduceSub, Nat.reduceLT, Nat.reduceLeDiff, Nat.reduceEqDiff, Nat.reduceDiv, Nat.reduceMod]
    · by_cases g₉ : L₁ = L
      · subst g₉
        have g₀ : d₁ = d := by omega
        subst g₀
        exact g₄ c₁ (by omega) g₈
      · exact g₃ L₁ c₁ d₁ (by omega) g₆ g₇ g₈
  | succ e i₁ =>
    intro c m g₁ g₂ g₃ g₄
    have b₁ : w ≤ 12 := g₂.1.2.2.2.2.1
    have b₂ : l ≤ 8 := g₂.1.2.2.2.2.2.2.1
    obtain ⟨m₁, hm₁⟩ : ∃ x, x = ccWg m i W w l d L c := ⟨_, rfl⟩
    have d₁ : ccFs m m₁ := by rw [hm₁]; exact ccFs_set (ccFs_set ccFs_rfl)
    have g₅ : ∀ rs, F86 i (N L) (N c) m rs = rV m₁ rs := fun rs => by
      rw [hm₁]
      exact ccE86 g₂.1 g₂.2.1 (by rw [g₂.2.2]; exact q₂) q₃ h₁ h₂ (by omega) (fun c₁ y₁ => by
        rw [g₂.2.2] at y₁ ⊢
        obtain ⟨y₂, y₃, _⟩ := ccHF_t y₁
        cases d with
        | zero => omega
        | succ d₂ => exact (g₃ (L + 1) c₁ d₂ (by omega) (by omega) y₂ y₃).2 y₁)
    obtain ⟨m₂, a₁, a₂, a₃⟩ := i₁ (c + 1) m₁ (by omega) (ccWc_fs g₂ d₁) (fun L₁ c₁ d₂ y₁ y₂ y₃ y₄ => by
      have y₅ := g₃ L₁ c₁ d₂ y₁ y₂ y₃ y₄
      unfold ccOK at y₅ ⊢
      rw [hm₁, ccWg_o (by omega), ccWg_o (by omega)]
      exact y₅) (fun c₁ y₁ y₂ => by
      by_cases y₃ : c₁ = c
      · rw [hm₁, y₃]
        exact ccWg_ok (n := n) q₁ g₂.2.2 h₂ (by omega)
      · have y₅ := g₄ c₁ (by omega) y₂
        unfold ccOK at y₅ ⊢
        rw [hm₁, ccWg_o (by omega), ccWg_o (by omega)]
        exact y₅)
    refine ⟨m₂, fun f rs => ?_, ccFs_trans d₁ a₂, a₃⟩
    have e₁ : (if L < l then w - L else 0) = w - L := if_pos h₂
    rw [ccL85_3_9, ccE80 g₂.1 (by omega), e₁]
    simp (disch := omega) only [g₅, true_and, and_true, false_and, and_false, if_true, if_false, ccIte, ccBi, ccBiX, ccBv, ccBvX, ccZ0, ccZ1, ccTZ, ccT0, ccT1, Bool.or_false, ccMckT, ccMckIn, ne_eq, not_true_eq_false, not_false_eq_true, if_pos, if_neg, reduceIte, eq_self, Bool.false_eq_true, Bool.true_eq_false, mix_N, N_add, N_mul, N_sub, N_div, ccMod, N_lt, N_le, N_eq, ccNm, ccMN, ccNm2, ccM2N, ccMM2, ccM2M, ccMlt, ccMle, ccNltM, ccNleM, ccM2lt, ccM2le, ccNlt2, ccNle2, Nat.reduceAdd, Nat.reduceMul, Nat.reduceSub, Nat.reduceLT, Nat.reduceLeDiff, Nat.reduceEqDiff, Nat.reduceDiv, Nat.reduceMod]
    exact a₁ f rs
def ccLv (k : Nat) : Int32 := match k with
  | 0 => I (-1)
  | k + 1 => N k
theorem ccLv_dec {k : Nat} (h₁ : k < 1000) : N k + I (-1) = ccLv k := by
  cases k with
  | zero => rfl
  | succ k =>
    rw [N_dec (by omega)]
    rfl
theorem ccL85out {i w l n : Nat} {W : Nat → Nat} {C : Nat → Nat → Int32} (q₁ : ccSup C w l) (q₂ : ccCd n C) (q₃ : ccWok n W) : ∀ k m, k ≤ 8 → ccWc m i w l n W C → ccDone m W C w l k →
    ∃ m₁ T, (∀ f y rs, F85_3 i (f + T) 3 (ccLv k) y m rs = rV m₁ rs) ∧ T ≤ 16 * k + 1 ∧ ccFs m m₁ ∧ ccDone m₁ W C w l 0 := by
  intro k
  induction k with
  | zero =>
    intro m g₁ g₂ g₃
    refine ⟨m, 1, fun f y rs => ?_, by omega, ccFs_rfl, g₃⟩
    rw [ccL85_3_3]
    show mifO (decide (I (-1) < N 0)) _ _ = _
    simp (disch := omega) only [true_and, and_true, false_and, and_false, if_true, if_false, ccIte, ccBi, ccBiX, ccBv, ccBvX, ccZ0, ccZ1, ccTZ, ccT0, ccT1, Bool.or_false, ccMckT, ccMckIn, ne_eq, not_true_eq_false, not_false_eq_true, if_pos, if_neg, reduceIte, eq_self, Bool.false_eq_true, Bool.true_eq_false, mix_N, N_add, N_mul, N_sub, N_div, ccMod, N_lt, N_le, N_eq, ccNm, ccMN, ccNm2, ccM2N, ccMM2, ccM2M, ccMlt, ccMle, ccNltM, ccNleM, ccM2lt, ccM2le, ccNlt2, ccNle2, Nat.reduceAdd, Nat.reduceMul, Nat.reduceSub, Nat.reduceLT, Nat.reduceLeDiff, Nat.reduceEqDiff, Nat.reduceDiv, Nat.reduceMod]
  | succ L i₁ =>
    intro m g₁ g₂ g₃
    have b₁ : w ≤ 12 := g₂.1.2.2.2.2.1
    have b₂ : l ≤ 8 := g₂.1.2.2.2.2.2.2.1
    by_cases h₂ : L < l
    · obtain ⟨m₁, a₁, a₂, a₃⟩ := ccL85in q₁ q₂ q₃ (d := 7 - L) (by omega) h₂ (w - L) 0 m (by omega) g₂ g₃ (fun c₁ y₁ _ => by omega)
      obtain ⟨m₂, T, c₁, c₂, c₃, c₄⟩ := i₁ m₁ (by omega) (ccWc_fs g₂ a₂) a₃
      refine ⟨m₂, T + (w - L) + 1 + 1, fun f y rs => ?_, by omega, ccFs_trans a₂ c₃, c₄⟩
      have e₁ : f + (T + (w - L) + 1 + 1) = (f + T) + (w - L) + 1 + 1 := by omega
      rw [e₁, ccL85_3_3]
      show mifO (decide (N L < N 0)) _ _ = _
      simp (disch := omega) only [true_and, and_true, false_and, and_false, if_true, if_false, ccIte, ccBi, ccBiX, ccBv, ccBvX, ccZ0, ccZ1, ccTZ, ccT0, ccT1, Bool.or_false, ccMckT, ccMckIn, ne_eq, not_true_eq_false, not_false_eq_true, if_pos, if_neg, reduceIte, eq_self, Bool.false_eq_true, Bool.true_eq_false, mix_N, N_add, N_mul, N_sub, N_div, ccMod, N_lt, N_le, N_eq, ccNm, ccMN, ccNm2, ccM2N, ccMM2, ccM2M, ccMlt, ccMle, ccNltM, ccNleM, ccM2lt, ccM2le, ccNlt2, ccNle2, Nat.reduceAdd, Nat.reduceMul, Nat.reduceSub, Nat.reduceLT, Nat.reduceLeDiff, Nat.reduceEqDiff, Nat.reduceDiv, Nat.reduceMod]
      show F85_3 i (f + T + (w - L) + 1) 9 (N L) (N 0) m rs = _
      rw [a₁, ccLv_dec (by omega)]
      exact c₁ f (N 0) rs
    · obtain ⟨m₂, T, c₁, c₂, c₃, c₄⟩ := i₁ m (by omega) g₂ (fun L₁ c₁ d₁ y₁ y₂ y₃ y₄ => g₃ L₁ c₁ d₁ (by omega) y₂ y₃ y₄)
      refine ⟨m₂, T + 1 + 1, fun f y rs => ?_, by omega, c₃, c₄⟩
      have e₁ : f + (T + 1 + 1) = (f + T) + 1 + 1 := by omega
      have e₂ : (if L < l then w - L else 0) = 0 := if_neg h₂
      rw [e₁, ccL85_3_3]
      show mifO (decide (N L < N 0)) _ _ = _
      simp (disch := omega) only [true_and, and_true, false_and, and_false, if_true, if_false, ccIte, ccBi, ccBiX, ccBv, ccBvX, ccZ0, ccZ1, ccTZ, ccT0, ccT1, Bool.or_false, ccMckT, ccMckIn, ne_eq, not_true_eq_false, not_false_eq_true, if_pos, if_neg, reduceIte, eq_self, Bool.false_eq_true, Bool.true_eq_false, mix_N, N_add, N_mul, N_sub, N_div, ccMod, N_lt, N_le, N_eq, ccNm, ccMN, ccNm2, ccM2N, ccMM2, ccM2M, ccMlt, ccMle, ccNltM, ccNleM, ccM2lt, ccM2le, ccNlt2, ccNle2, Nat.reduceAdd, Nat.reduceMul, Nat.reduceSub, Nat.reduceLT, Nat.reduceLeDiff, Nat.reduceEqDiff, Nat.reduceDiv, Nat.reduceMod]
      show F85_3 i (f + T + 1) 9 (N L) (N 0) m rs = _
      rw [ccL85_3_9, ccE80 g₂.1 (by omega), e₂]
      simp (disch := omega) only [true_and, and_true, false_and, and_false, if_true, if_false, ccIte, ccBi, ccBiX, ccBv, ccBvX, ccZ0, ccZ1, ccTZ, ccT0, ccT1, Bool.or_false, ccMckT, ccMckIn, ne_eq, not_true_eq_false, not_false_eq_true, if_pos, if_neg, reduceIte, eq_self, Bool.false_eq_true, Bool.true_eq_false, mix_N, N_add, N_mul, N_sub, N_div, ccMod, N_lt, N_le, N_eq, ccNm, ccMN, ccNm2, ccM2N, ccMM2, ccM2M, ccMlt, ccMle, ccNltM, ccNleM, ccM2lt, ccM2le, ccNlt2, ccNle2, Nat.reduceAdd, Nat.reduceMul, Nat.reduceSub, Nat.reduceLT, Nat.reduceLeDiff, Nat.reduceEqDiff, Nat.reduceDiv, Nat.reduceMod]
      rw [ccLv_dec (by omega)]
      exact c₁ f (N 0) rs
/-- the scale weighs -/
theorem ccE85 {m : mMi} {i w l n : Nat} {W : Nat → Nat} {C : Nat → Nat → Int32} (q₁ : ccSup C w l) (q₂ : ccCd n C) (q₃ : ccWok n W) (q₄ : ccWc m i w l n W C) : ∃ m₁, (∀ rs, F85 i m rs = rV m₁ rs) ∧ ccFs m m₁ ∧ ccDone m₁ W C w l 0 := by
  have b₂ : l ≤ 8 := q₄.1.2.2.2.2.2.2.1
  obtain ⟨m₁, T, a₁, a₂, a₃, a₄⟩ := ccL85out q₁ q₂ q₃ 8 m (by omega) q₄ (fun L c d y₁ y₂ y₃ y₄ => by omega)
  refine ⟨m₁, fun rs => ?_, a₃, a₄⟩
  have e₁ : FU = (99999 - T + 1) + T := by unfold FU; omega
  unfold F85
  rw [e₁]
  exact a₁ _ _ rs
