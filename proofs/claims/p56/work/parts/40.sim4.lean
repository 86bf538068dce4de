/-! A FALL: the end of the induction. -/
theorem ccPow : ∀ d, 0 < 4 ^ d := by
  intro d
  induction d with
  | zero => decide
  | succ d i₁ =>
    rw [Nat.pow_succ]
    omega
theorem ccPopP_of {d : Nat} (H₁ : ccPopF d) : ccPopP (d + 1) := by
  intro mc mm i w l n bd β wt h t L c k b q₀ h₁ h₂ h₃ h₄ h₅ h₆
  have q₉ := q₀
  obtain ⟨q₁, q₂, q₃, q₄, q₅, q₆, q₇, q₈⟩ := q₀
  have b₁ : w ≤ 12 := q₁.2.2.2.2.1
  have b₂ : l ≤ 8 := q₁.2.2.2.2.2.2.1
  cases b with
  | false =>
    refine ⟨mc, mm, 0, fun f rs g₁ g₂ => ?_, fun g x1 x2 x3 x4 rs => rfl, ?_, ⟨⟨h, t, q₉, ccG_rfl⟩, ccFr_rfl, ccFq_rfl, h₆, fun j _ => rfl, ccGv_rfl⟩, h₄ rfl⟩
    · obtain ⟨f₁, rfl⟩ : ∃ f₁, f = f₁ + 1 := ⟨f - 1, by omega⟩
      exact ccNoP q₁ (by omega) h₂ (h₄ rfl)
    · exact ccPow (d + 1)
  | true =>
    obtain ⟨g₁, g₂, g₃⟩ := h₅ rfl
    rw [if_pos rfl] at h₆
    have p₁ : 12 * L + c < 96 := by omega
    have e₄ : 0 < 4 ^ d := ccPow d
    have e₅ : 4 ^ (d + 1) = 4 ^ d * 4 := Nat.pow_succ 4 d
    obtain ⟨m₃, hm₃⟩ : ∃ m, m = mset mm 4 0 0 34 (N k) := ⟨_, rfl⟩
    have s₃ : m₃ 4 0 3 = mm 4 0 3 := by
      rw [hm₃]
      funext y₁
      simp (disch := omega) only [ccRd, if_neg, Nat.reduceEqDiff, eq_self, true_and, and_true, false_and, and_false, if_true, if_false]
    have d₃ : ccFq mm m₃ := by rw [hm₃]; exact ccFq_w ccFq_rfl
    have k₃ : m₃ 4 0 0 34 = N k := by rw [hm₃]; simp (disch := omega) only [ccRd, if_pos, Nat.reduceEqDiff, eq_self, true_and, and_true, false_and, and_false, if_true, if_false]
    have w₃ : m₃ 4 0 14 = mm 4 0 14 := by
      rw [hm₃]
      funext y₁
      simp (disch := omega) only [ccRd, if_neg, Nat.reduceEqDiff, eq_self, true_and, and_true, false_and, and_false, if_true, if_false]
    have I₃ : ccInv mc m₃ i w l n bd β wt h t := ⟨q₁, q₂, ccMo_fq d₃ q₃, by rw [d₃ 4 0 0 7 (by omega) (by omega)]; exact q₄, q₅, by rw [s₃]; exact q₆, q₇, q₈⟩
    have e₆ : (2 * (12 * L + c) + 0) % 2 = 0 := by omega
    have e₇ : (2 * (12 * L + c) + 0) / 2 = 12 * L + c := by omega
    have e₈ : (2 * (12 * L + c) + 0) - (12 * L + c) * 2 = 0 := by omega
    by_cases g₄ : mc 0 i 2 (12 * L + c) = I (-1)
    · have g₅ : ccHP (mc 0 i) w l L c = false := by
        unfold ccHP ccP
        rw [g₄]
        simp only [decide_true, Bool.not_true, Bool.and_false]
      have g₆ : ccPm (m₃ 4 0 3) (12 * L + c) = false := by
        unfold ccPm
        rw [s₃, (q₆.1 (12 * L + c) p₁).1, g₄]
        rfl
      refine ⟨mc, m₃, 1, fun f rs g₇ _ => ?_, fun g x1 x2 x3 x4 rs => ?_, by omega, ⟨⟨h, t, I₃, ccG_rfl⟩, ccFr_rfl, d₃, k₃, fun j _ => by rw [w₃], ccGv_rfl⟩, g₅⟩
      · obtain ⟨f₁, rfl⟩ : ∃ f₁, f = f₁ + 1 := ⟨f - 1, by omega⟩
        exact ccNoP q₁ (by omega) h₂ g₅
      · rw [ccF222]
        simp (disch := omega) only [h₆, true_and, and_true, false_and, and_false, if_true, if_false, ccIte, ccBi, ccBiX, ccBv, ccBvX, ccZ0, ccZ1, ccTZ, ccT0, ccT1, Bool.or_false, ccMckT, ccMckIn, ne_eq, not_true_eq_false, not_false_eq_true, if_pos, if_neg, reduceIte, eq_self, Bool.false_eq_true, Bool.true_eq_false, mix_N, N_add, N_mul, N_sub, N_div, ccMod, N_lt, N_le, N_eq, ccNm, ccMN, ccNm2, ccM2N, ccMM2, ccM2M, ccMlt, ccMle, ccNltM, ccNleM, ccM2lt, ccM2le, ccNlt2, ccNle2, Nat.reduceAdd, Nat.reduceMul, Nat.reduceSub, Nat.reduceLT, Nat.reduceLeDiff, Nat.reduceEqDiff, Nat.reduceDiv, Nat.reduceMod, Nat.add_sub_cancel, ← hm₃, g₃, ccE228p, g₆]
    · have g₆ : ccPm (m₃ 4 0 3) (12 * L + c) = true := by
        unfold ccPm
        rw [s₃, (q₆.1 (12 * L + c) p₁).1, decide_eq_false g₄]
        rfl
      obtain ⟨m₅, m₆, T, a₁, a₂, a₃, ⟨a₄, a₆, a₇, a₈, a₉, a₀⟩, z₂⟩ := ccBodyP H₁ (cs := 2) (x := I (-1)) I₃ h₁ g₁ g₂ g₄ (by omega) h₃ k₃
      refine ⟨m₅, m₆, T + 1, fun f rs g₇ _ => a₁ f rs g₇, fun g x1 x2 x3 x4 rs => ?_, by omega, ⟨a₄, a₆, ccFq_trans d₃ a₇, a₈, fun j g₇ => by rw [a₉ j g₇, w₃], a₀⟩, z₂⟩
      rw [← Nat.add_assoc, ccF222]
      simp (disch := omega) only [h₆, true_and, and_true, false_and, and_false, if_true, if_false, ccIte, ccBi, ccBiX, ccBv, ccBvX, ccZ0, ccZ1, ccTZ, ccT0, ccT1, Bool.or_false, ccMckT, ccMckIn, ne_eq, not_true_eq_false, not_false_eq_true, if_pos, if_neg, reduceIte, eq_self, Bool.false_eq_true, Bool.true_eq_false, mix_N, N_add, N_mul, N_sub, N_div, ccMod, N_lt, N_le, N_eq, ccNm, ccMN, ccNm2, ccM2N, ccMM2, ccM2M, ccMlt, ccMle, ccNltM, ccNleM, ccM2lt, ccM2le, ccNlt2, ccNle2, Nat.reduceAdd, Nat.reduceMul, Nat.reduceSub, Nat.reduceLT, Nat.reduceLeDiff, Nat.reduceEqDiff, Nat.reduceDiv, Nat.reduceMod, Nat.add_sub_cancel, ← hm₃, g₃, ccE228p, g₆, e₆, e₇, e₈]
      exact a₂ g x1 x2 x3 x4 rs
theorem ccPopP0 : ccPopP 0 := by
  intro mc mm i w l n bd β wt h t L c k b q₀ h₁ h₂ h₃ h₄ h₅ h₆
  have b₂ : l ≤ 8 := q₀.1.2.2.2.2.2.2.1
  cases b with
  | false =>
    refine ⟨mc, mm, 0, fun f rs g₁ g₂ => ?_, fun g x1 x2 x3 x4 rs => rfl, by omega, ⟨⟨h, t, q₀, ccG_rfl⟩, ccFr_rfl, ccFq_rfl, h₆, fun j _ => rfl, ccGv_rfl⟩, h₄ rfl⟩
    obtain ⟨f₁, rfl⟩ : ∃ f₁, f = f₁ + 1 := ⟨f - 1, by omega⟩
    exact ccNoP q₀.1 (by omega) h₂ (h₄ rfl)
  | true =>
    have g₁ := (h₅ rfl).1
    omega
theorem ccBodyF {d : Nat} (H₁ : ccPopP d) {mc mm : mMi} {i w l n bd h t L c k cs : Nat} {x : Int32} {β wt : Nat → Int32} (q₀ : ccInv mc mm i w l n bd β wt h t) (h₁ : L + d = 8) (h₂ : L < l) (h₃ : L + c < w) (h₄ : mc 0 i 6 (12 * L + c) ≠ I (-1)) (h₅ : cs < 4) (h₆ : k ≤ 80 + L) (h₇ : mm 4 0 0 34 = N k) :
    ∃ m₁ m₂ T, (∀ f rs, 2 * d + 1 ≤ f → FR f 28 i (N L) (N c) (N cs) x mc rs = rV m₁ rs) ∧
      (∀ g x1 x2 x3 x4 rs, bV (F223 (N (12 * L + c)) (N 1) (N cs) mm rs) (fun m r => bV (F225 (N (12 * L + c)) (N 1) x m r) (fun m r => F222_20 (g + T) x1 x2 x3 x4 m r)) = F222_20 g x1 x2 x3 x4 m₂ rs) ∧ T + 1 ≤ 4 ^ d ∧ ccOut mc mm m₁ m₂ i w l n bd β wt t k ∧ ccHF (m₁ 0 i) w l L c = false := by
  have q₉ := q₀
  obtain ⟨q₁, q₂, q₃, q₄, q₅, q₆, q₇, q₈⟩ := q₀
  have b₁ : w ≤ 12 := q₁.2.2.2.2.1
  have b₂ : l ≤ 8 := q₁.2.2.2.2.2.2.1
  obtain ⟨m₁, m₂, u, E₁, E₂, d₁, d₂, w₁, v₁, r₁, o₁⟩ := ccStepF (x := x) q₁ q₂ q₃ q₄ q₅ q₆ (by omega) h₂ h₃ h₄ h₅
  have G₁ : ccG (mc 0 i) (m₁ 0 i) t (t + 1) := ccG_f o₁ (by omega) h₄
  have V₁ := ccV_f o₁
  have I₁ : ccInv m₁ m₂ i w l n bd β wt u (t + 1) := ccInv_go q₉ d₁ d₂ r₁ G₁
  have k₁ : m₂ 4 0 0 34 = N k := by rw [v₁]; exact h₇
  have z₁ : ccHF (m₁ 0 i) w l L c = false := by
    unfold ccHF ccF
    rw [o₁ 6 (12 * L + c) (by omega) (by omega)]
    simp (disch := omega) only [ccU, if_pos, Nat.reduceEqDiff, eq_self, true_and, and_true, false_and, and_false, if_true, if_false, decide_true, Bool.not_true, Bool.and_false]
  obtain ⟨br, hbr⟩ : ∃ b, b = ccHP (m₁ 0 i) w l L c := ⟨_, rfl⟩
  have e₁ : ccHPm (m₂ 4 0 3) w l L c = br := by rw [ccHP_eq r₁.1 b₁ b₂, hbr]
  obtain ⟨m₃, hm₃⟩ : ∃ m, m = ccPush m₂ k (2 * (12 * L + c) + 0) br := ⟨_, rfl⟩
  have s₃ : m₃ 4 0 3 = m₂ 4 0 3 := by rw [hm₃, ccPush_s]
  have d₃ : ccFq mm m₃ := by rw [hm₃]; exact ccPush_q d₂
  have k₃ : m₃ 4 0 0 34 = N (if br = true then k + 1 else k) := by rw [hm₃]; exact ccPush_k k₁
  have j₃ : ∀ j, j < k → m₃ 4 0 14 j = mm 4 0 14 j := fun j g₁ => by rw [hm₃, ccPush_j g₁, w₁]
  have F₁ : ∀ rs, F227 (N L) (N c) (N 0) m₂ rs = rV m₃ rs := fun rs => by rw [ccE227p I₁.2.2.1 (by omega) (by omega) k₁ (by omega), e₁, ← hm₃]
  have t₃ : br = true → m₃ 4 0 14 k = N (2 * (12 * L + c) + 0) := fun g₁ => by rw [hm₃, g₁, ccPush_t]
  have I₃ : ccInv m₁ m₃ i w l n bd β wt u (t + 1) := ⟨I₁.1, I₁.2.1, ccMo_fq d₃ q₃, by rw [d₃ 4 0 0 7 (by omega) (by omega)]; exact q₄, q₅, by rw [s₃]; exact r₁, I₁.2.2.2.2.2.2⟩
  obtain ⟨m₅, m₆, T, a₁, a₂, a₃, ⟨⟨v₅, u₅, a₄, a₅⟩, a₆, a₇, a₈, a₉, a₀⟩, z₂⟩ := H₁ m₁ m₃ i w l n bd β wt u (t + 1) L c k br I₃ h₁ (by omega) h₆ (fun g₁ => by rw [← hbr]; exact g₁) (fun g₁ => ⟨h₂, h₃, t₃ g₁⟩) k₃
  refine ⟨m₅, m₆, T, fun f rs g₁ => ?_, fun g x1 x2 x3 x4 rs => ?_, a₃, ⟨⟨v₅, u₅, a₄, ccG_trans G₁ a₅⟩, ccFr_trans d₁ a₆, ccFq_trans d₃ a₇, a₈, fun j g₁ => by rw [a₉ j g₁, j₃ j g₁], fun p g₁ g₂ => ⟨fun g₃ => (V₁ p g₁ g₂).1 ((a₀ p g₁ g₂).1 g₃), fun g₃ => ?_⟩⟩, ccHF_off a₅ z₁⟩
  · obtain ⟨f₁, rfl⟩ : ∃ f₁, f = f₁ + 1 := ⟨f - 1, by omega⟩
    rw [E₁, a₁ f₁ rs (by omega) (by omega)]
    rfl
  · rw [E₂, F₁]
    exact a₂ g x1 x2 x3 x4 rs
  · rcases (V₁ p g₁ g₂).2 ((a₀ p g₁ g₂).2 g₃) with g₄ | g₄
    · exact g₄
    · have g₅ := ccHP_no a₄.2.2.2.2.2.2.1 z₂ (by omega) (by omega)
      rw [← g₄] at g₅
      exact absurd g₅ g₃.1
theorem ccPopF_of {d : Nat} (H₁ : ccPopP d) : ccPopF d := by
  intro mc mm i w l n bd β wt h t L c k b q₀ h₁ h₂ h₃ h₄ h₅ h₆
  have q₉ := q₀
  obtain ⟨q₁, q₂, q₃, q₄, q₅, q₆, q₇, q₈⟩ := q₀
  have b₁ : w ≤ 12 := q₁.2.2.2.2.1
  have b₂ : l ≤ 8 := q₁.2.2.2.2.2.2.1
  have e₄ : 0 < 4 ^ d := ccPow d
  cases b with
  | false =>
    refine ⟨mc, mm, 0, fun f rs g₁ => ?_, fun g x1 x2 x3 x4 rs => rfl, by omega, ⟨⟨h, t, q₉, ccG_rfl⟩, ccFr_rfl, ccFq_rfl, h₆, fun j _ => rfl, ccGv_rfl⟩, h₄ rfl⟩
    obtain ⟨f₁, rfl⟩ : ∃ f₁, f = f₁ + 1 := ⟨f - 1, by omega⟩
    exact ccNoF q₁ (by omega) h₂ (h₄ rfl)
  | true =>
    obtain ⟨g₁, g₂, g₃⟩ := h₅ rfl
    rw [if_pos rfl] at h₆
    have p₁ : 12 * L + c < 96 := by omega
    obtain ⟨m₃, hm₃⟩ : ∃ m, m = mset mm 4 0 0 34 (N k) := ⟨_, rfl⟩
    have s₃ : m₃ 4 0 3 = mm 4 0 3 := by
      rw [hm₃]
      funext y₁
      simp (disch := omega) only [ccRd, if_neg, Nat.reduceEqDiff, eq_self, true_and, and_true, false_and, and_false, if_true, if_false]
    have d₃ : ccFq mm m₃ := by rw [hm₃]; exact ccFq_w ccFq_rfl
    have k₃ : m₃ 4 0 0 34 = N k := by rw [hm₃]; simp (disch := omega) only [ccRd, if_pos, Nat.reduceEqDiff, eq_self, true_and, and_true, false_and, and_false, if_true, if_false]
    have w₃ : m₃ 4 0 14 = mm 4 0 14 := by
      rw [hm₃]
      funext y₁
      simp (disch := omega) only [ccRd, if_neg, Nat.reduceEqDiff, eq_self, true_and, and_true, false_and, and_false, if_true, if_false]
    have I₃ : ccInv mc m₃ i w l n bd β wt h t := ⟨q₁, q₂, ccMo_fq d₃ q₃, by rw [d₃ 4 0 0 7 (by omega) (by omega)]; exact q₄, q₅, by rw [s₃]; exact q₆, q₇, q₈⟩
    have e₆ : (2 * (12 * L + c) + 1) % 2 = 1 := by omega
    have e₇ : (2 * (12 * L + c) + 1) / 2 = 12 * L + c := by omega
    have e₈ : (2 * (12 * L + c) + 1) - (12 * L + c) * 2 = 1 := by omega
    by_cases g₄ : mc 0 i 6 (12 * L + c) = I (-1)
    · have g₅ : ccHF (mc 0 i) w l L c = false := by
        unfold ccHF ccF
        rw [g₄]
        simp only [decide_true, Bool.not_true, Bool.and_false]
      have g₆ : ccFm (m₃ 4 0 3) (12 * L + c) = false := by
        unfold ccFm
        rw [s₃, (q₆.1 (12 * L + c) p₁).2.1, g₄]
        rfl
      refine ⟨mc, m₃, 1, fun f rs g₇ => ?_, fun g x1 x2 x3 x4 rs => ?_, by omega, ⟨⟨h, t, I₃, ccG_rfl⟩, ccFr_rfl, d₃, k₃, fun j _ => by rw [w₃], ccGv_rfl⟩, g₅⟩
      · obtain ⟨f₁, rfl⟩ : ∃ f₁, f = f₁ + 1 := ⟨f - 1, by omega⟩
        exact ccNoF q₁ (by omega) h₂ g₅
      · rw [ccF222]
        simp (disch := omega) only [h₆, true_and, and_true, false_and, and_false, if_true, if_false, ccIte, ccBi, ccBiX, ccBv, ccBvX, ccZ0, ccZ1, ccTZ, ccT0, ccT1, Bool.or_false, ccMckT, ccMckIn, ne_eq, not_true_eq_false, not_false_eq_true, if_pos, if_neg, reduceIte, eq_self, Bool.false_eq_true, Bool.true_eq_false, mix_N, N_add, N_mul, N_sub, N_div, ccMod, N_lt, N_le, N_eq, ccNm, ccMN, ccNm2, ccM2N, ccMM2, ccM2M, ccMlt, ccMle, ccNltM, ccNleM, ccM2lt, ccM2le, ccNlt2, ccNle2, Nat.reduceAdd, Nat.reduceMul, Nat.reduceSub, Nat.reduceLT, Nat.reduceLeDiff, Nat.reduceEqDiff, Nat.reduceDiv, Nat.reduceMod, Nat.add_sub_cancel, ← hm₃, g₃, ccE228f, g₆]
    · have g₆ : ccFm (m₃ 4 0 3) (12 * L + c) = true := by
        unfold ccFm
        rw [s₃, (q₆.1 (12 * L + c) p₁).2.1, decide_eq_false g₄]
        rfl
      obtain ⟨m₅, m₆, T, a₁, a₂, a₃, ⟨a₄, a₆, a₇, a₈, a₉, a₀⟩, z₂⟩ := ccBodyF H₁ (cs := 2) (x := I (-1)) I₃ h₁ g₁ g₂ g₄ (by omega) h₃ k₃
      refine ⟨m₅, m₆, T + 1, fun f rs g₇ => a₁ f rs g₇, fun g x1 x2 x3 x4 rs => ?_, by omega, ⟨a₄, a₆, ccFq_trans d₃ a₇, a₈, fun j g₇ => by rw [a₉ j g₇, w₃], a₀⟩, z₂⟩
      rw [← Nat.add_assoc, ccF222]
      simp (disch := omega) only [h₆, true_and, and_true, false_and, and_false, if_true, if_false, ccIte, ccBi, ccBiX, ccBv, ccBvX, ccZ0, ccZ1, ccTZ, ccT0, ccT1, Bool.or_false, ccMckT, ccMckIn, ne_eq, not_true_eq_false, not_false_eq_true, if_pos, if_neg, reduceIte, eq_self, Bool.false_eq_true, Bool.true_eq_false, mix_N, N_add, N_mul, N_sub, N_div, ccMod, N_lt, N_le, N_eq, ccNm, ccMN, ccNm2, ccM2N, ccMM2, ccM2M, ccMlt, ccMle, ccNltM, ccNleM, ccM2lt, ccM2le, ccNlt2, ccNle2, Nat.reduceAdd, Nat.reduceMul, Nat.reduceSub, Nat.reduceLT, Nat.reduceLeDiff, Nat.reduceEqDiff, Nat.reduceDiv, Nat.reduceMod, Nat.add_sub_cancel, ← hm₃, g₃, ccE228f, g₆, e₆, e₇, e₈]
      exact a₂ g x1 x2 x3 x4 rs
theorem ccPops : ∀ d, ccPopP d ∧ ccPopF d := by
  intro d
  induction d with
  | zero => exact ⟨ccPopP0, ccPopF_of ccPopP0⟩
  | succ d i₁ => exact ⟨ccPopP_of i₁.2, ccPopF_of (ccPopP_of i₁.2)⟩
