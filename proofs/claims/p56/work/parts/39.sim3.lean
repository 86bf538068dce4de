/-! A FALL, with all that falls by it: both sides together. -/
theorem ccG_p {C D : Nat → Nat → Int32} {t p : Nat} (h₁ : ∀ j p₁, j < 8 → j ≠ 7 → D j p₁ = ccU C 2 p (I (-1)) j p₁) (h₂ : p < 96) (h₃ : C 2 p ≠ I (-1)) : ccG C D t (t + 1) := by
  refine ⟨fun p₁ => ?_, ?_⟩
  · rw [h₁ 2 p₁ (by omega) (by omega), h₁ 3 p₁ (by omega) (by omega), h₁ 4 p₁ (by omega) (by omega), h₁ 5 p₁ (by omega) (by omega), h₁ 6 p₁ (by omega) (by omega)]
    simp (disch := omega) only [ccU, if_neg, Nat.reduceEqDiff, eq_self, true_and, and_true, false_and, and_false, if_true, if_false]
    refine ⟨?_, Or.inl trivial⟩
    by_cases h₄ : p₁ = p
    · rw [if_pos h₄]; exact Or.inr rfl
    · rw [if_neg h₄]; exact Or.inl rfl
  · have e₁ := ccCnt_up (f := ccP D) (g := ccP C) (k := p) (by unfold ccP; rw [h₁ 2 p (by omega) (by omega)]; simp (disch := omega) only [ccU, if_pos, Nat.reduceEqDiff, eq_self, true_and, and_true, false_and, and_false, if_true, if_false, decide_true, Bool.not_true]) (by unfold ccP; rw [decide_eq_false h₃]; rfl) (fun j g₁ => by unfold ccP; rw [h₁ 2 j (by omega) (by omega)]; simp (disch := omega) only [ccU, if_neg, Nat.reduceEqDiff, eq_self, true_and, and_true, false_and, and_false, if_true, if_false]) 96
    have e₂ : ccCnt (ccF D) 96 = ccCnt (ccF C) 96 := ccCnt_congr 96 fun j g₁ => by
      unfold ccF
      rw [h₁ 6 j (by omega) (by omega)]
      simp (disch := omega) only [ccU, if_neg, Nat.reduceEqDiff, eq_self, true_and, and_true, false_and, and_false, if_true, if_false]
    rw [if_pos h₂] at e₁
    unfold ccPcs
    omega
theorem ccG_f {C D : Nat → Nat → Int32} {t p : Nat} (h₁ : ∀ j p₁, j < 8 → j ≠ 7 → D j p₁ = ccU C 6 p (I (-1)) j p₁) (h₂ : p < 96) (h₃ : C 6 p ≠ I (-1)) : ccG C D t (t + 1) := by
  refine ⟨fun p₁ => ?_, ?_⟩
  · rw [h₁ 2 p₁ (by omega) (by omega), h₁ 3 p₁ (by omega) (by omega), h₁ 4 p₁ (by omega) (by omega), h₁ 5 p₁ (by omega) (by omega), h₁ 6 p₁ (by omega) (by omega)]
    simp (disch := omega) only [ccU, if_neg, Nat.reduceEqDiff, eq_self, true_and, and_true, false_and, and_false, if_true, if_false]
    refine ⟨Or.inl trivial, ?_⟩
    by_cases h₄ : p₁ = p
    · rw [if_pos h₄]; exact Or.inr rfl
    · rw [if_neg h₄]; exact Or.inl rfl
  · have e₁ := ccCnt_up (f := ccF D) (g := ccF C) (k := p) (by unfold ccF; rw [h₁ 6 p (by omega) (by omega)]; simp (disch := omega) only [ccU, if_pos, Nat.reduceEqDiff, eq_self, true_and, and_true, false_and, and_false, if_true, if_false, decide_true, Bool.not_true]) (by unfold ccF; rw [decide_eq_false h₃]; rfl) (fun j g₁ => by unfold ccF; rw [h₁ 6 j (by omega) (by omega)]; simp (disch := omega) only [ccU, if_neg, Nat.reduceEqDiff, eq_self, true_and, and_true, false_and, and_false, if_true, if_false]) 96
    have e₂ : ccCnt (ccP D) 96 = ccCnt (ccP C) 96 := ccCnt_congr 96 fun j g₁ => by
      unfold ccP
      rw [h₁ 2 j (by omega) (by omega)]
      simp (disch := omega) only [ccU, if_neg, Nat.reduceEqDiff, eq_self, true_and, and_true, false_and, and_false, if_true, if_false]
    rw [if_pos h₂] at e₁
    unfold ccPcs
    omega
theorem ccV_p {C D : Nat → Nat → Int32} {p : Nat} (h₁ : ∀ j p₁, j < 8 → j ≠ 7 → D j p₁ = ccU C 2 p (I (-1)) j p₁) : ∀ p₁, 12 ≤ p₁ → p₁ < 96 → (ccVf D p₁ → ccVf C p₁ ∨ p₁ = p + 12 ∨ p₁ = p + 11) ∧ (ccVp D p₁ → ccVp C p₁) := fun p₁ g₁ g₂ => by
  have e₆ : D 6 p₁ = C 6 p₁ := by rw [h₁ 6 p₁ (by omega) (by omega)]; simp (disch := omega) only [ccU, if_neg, Nat.reduceEqDiff, eq_self, true_and, and_true, false_and, and_false, if_true, if_false]
  refine ⟨fun ⟨a₁, a₂⟩ => ?_, fun ⟨a₁, a₂⟩ => ?_⟩
  · rw [e₆] at a₁
    by_cases g₃ : p₁ = p + 12
    · exact Or.inr (Or.inl g₃)
    by_cases g₄ : p₁ = p + 11
    · exact Or.inr (Or.inr g₄)
    refine Or.inl ⟨a₁, ?_⟩
    rw [h₁ 2 (p₁ - 12) (by omega) (by omega), h₁ 2 (p₁ - 11) (by omega) (by omega)] at a₂
    simp (disch := omega) only [ccU, if_neg, Nat.reduceEqDiff, eq_self, true_and, and_true, false_and, and_false, if_true, if_false] at a₂
    exact a₂
  · rw [e₆] at a₂
    refine ⟨?_, a₂⟩
    rw [h₁ 2 p₁ (by omega) (by omega)] at a₁
    by_cases g₃ : p₁ = p
    · rw [g₃] at a₁
      simp (disch := omega) only [ccU, if_pos, Nat.reduceEqDiff, eq_self, true_and, and_true, false_and, and_false, if_true, if_false, ne_eq, not_true_eq_false] at a₁
    · simp (disch := omega) only [ccU, if_neg, Nat.reduceEqDiff, eq_self, true_and, and_true, false_and, and_false, if_true, if_false] at a₁
      exact a₁
theorem ccV_f {C D : Nat → Nat → Int32} {p : Nat} (h₁ : ∀ j p₁, j < 8 → j ≠ 7 → D j p₁ = ccU C 6 p (I (-1)) j p₁) : ∀ p₁, 12 ≤ p₁ → p₁ < 96 → (ccVf D p₁ → ccVf C p₁) ∧ (ccVp D p₁ → ccVp C p₁ ∨ p₁ = p) := fun p₁ g₁ g₂ => by
  have e₂ : ∀ p₂, D 2 p₂ = C 2 p₂ := fun p₂ => by rw [h₁ 2 p₂ (by omega) (by omega)]; simp (disch := omega) only [ccU, if_neg, Nat.reduceEqDiff, eq_self, true_and, and_true, false_and, and_false, if_true, if_false]
  refine ⟨fun ⟨a₁, a₂⟩ => ?_, fun ⟨a₁, a₂⟩ => ?_⟩
  · rw [e₂, e₂] at a₂
    refine ⟨?_, a₂⟩
    rw [h₁ 6 p₁ (by omega) (by omega)] at a₁
    by_cases g₃ : p₁ = p
    · rw [g₃] at a₁
      simp (disch := omega) only [ccU, if_pos, Nat.reduceEqDiff, eq_self, true_and, and_true, false_and, and_false, if_true, if_false, ne_eq, not_true_eq_false] at a₁
    · simp (disch := omega) only [ccU, if_neg, Nat.reduceEqDiff, eq_self, true_and, and_true, false_and, and_false, if_true, if_false] at a₁
      exact a₁
  · by_cases g₃ : p₁ = p
    · exact Or.inr g₃
    rw [e₂] at a₁
    rw [h₁ 6 p₁ (by omega) (by omega)] at a₂
    simp (disch := omega) only [ccU, if_neg, Nat.reduceEqDiff, eq_self, true_and, and_true, false_and, and_false, if_true, if_false] at a₂
    exact Or.inl ⟨a₁, a₂⟩
theorem ccHF_no {w l L c : Nat} {D : Nat → Nat → Int32} (h₁ : ccPlc w l D) (h₂ : ccHF D w l L c = false) (h₃ : c < 12) (h₄ : 12 * L + c < 96) : D 6 (12 * L + c) = I (-1) := by
  by_cases h₅ : D 6 (12 * L + c) = I (-1)
  · exact h₅
  · obtain ⟨e₁, e₂, e₃⟩ := (h₁ (12 * L + c) h₄).2 h₅
    have e₄ : (12 * L + c) / 12 = L := by omega
    have e₅ : (12 * L + c) % 12 = c := by omega
    rw [e₄] at e₂ e₃
    rw [e₅] at e₃
    unfold ccHF ccPl ccF at h₂
    rw [decide_eq_true e₂, decide_eq_true e₃, decide_eq_false h₅] at h₂
    cases h₂
theorem ccHP_no {w l L c : Nat} {D : Nat → Nat → Int32} (h₁ : ccPlc w l D) (h₂ : ccHP D w l L c = false) (h₃ : c < 12) (h₄ : 12 * L + c < 96) : D 2 (12 * L + c) = I (-1) := by
  by_cases h₅ : D 2 (12 * L + c) = I (-1)
  · exact h₅
  · obtain ⟨e₂, e₃⟩ := (h₁ (12 * L + c) h₄).1 h₅
    have e₄ : (12 * L + c) / 12 = L := by omega
    have e₅ : (12 * L + c) % 12 = c := by omega
    rw [e₄] at e₂ e₃
    rw [e₅] at e₃
    unfold ccHP ccPl ccP at h₂
    rw [decide_eq_true e₂, decide_eq_true e₃, decide_eq_false h₅] at h₂
    cases h₂
theorem ccBodyP {d : Nat} (H₁ : ccPopF d) {mc mm : mMi} {i w l n bd h t L c k cs : Nat} {x : Int32} {β wt : Nat → Int32} (q₀ : ccInv mc mm i w l n bd β wt h t) (h₁ : L + (d + 1) = 8) (h₂ : L < l) (h₃ : L + c < w) (h₄ : mc 0 i 2 (12 * L + c) ≠ I (-1)) (h₅ : cs < 4) (h₆ : k ≤ 80 + L) (h₇ : mm 4 0 0 34 = N k) :
    ∃ m₁ m₂ T, (∀ f rs, 2 * (d + 1) ≤ f → FR f 26 i (N L) (N c) (N cs) x mc rs = rV m₁ rs) ∧
      (∀ g x1 x2 x3 x4 rs, bV (F223 (N (12 * L + c)) (N 0) (N cs) mm rs) (fun m r => bV (F225 (N (12 * L + c)) (N 0) x m r) (fun m r => F222_20 (g + T) x1 x2 x3 x4 m r)) = F222_20 g x1 x2 x3 x4 m₂ rs) ∧ T ≤ 2 * 4 ^ d ∧ ccOut mc mm m₁ m₂ i w l n bd β wt t k ∧ ccHP (m₁ 0 i) w l L c = false := by
  have q₉ := q₀
  obtain ⟨q₁, q₂, q₃, q₄, q₅, q₆, q₇, q₈⟩ := q₀
  have b₁ : w ≤ 12 := q₁.2.2.2.2.1
  have b₂ : l ≤ 8 := q₁.2.2.2.2.2.2.1
  obtain ⟨m₁, m₂, u, E₁, E₂, d₁, d₂, w₁, v₁, r₁, o₁⟩ := ccStepP (x := x) q₁ q₂ q₃ q₄ q₅ q₆ (by omega) h₂ h₃ h₄ h₅
  have G₁ : ccG (mc 0 i) (m₁ 0 i) t (t + 1) := ccG_p o₁ (by omega) h₄
  have V₁ := ccV_p o₁
  have I₁ : ccInv m₁ m₂ i w l n bd β wt u (t + 1) := ccInv_go q₉ d₁ d₂ r₁ G₁
  have k₁ : m₂ 4 0 0 34 = N k := by rw [v₁]; exact h₇
  have z₁ : ccHP (m₁ 0 i) w l L c = false := by
    unfold ccHP ccP
    rw [o₁ 2 (12 * L + c) (by omega) (by omega)]
    simp (disch := omega) only [ccU, if_pos, Nat.reduceEqDiff, eq_self, true_and, and_true, false_and, and_false, if_true, if_false, decide_true, Bool.not_true, Bool.and_false]
  obtain ⟨br, hbr⟩ : ∃ b, b = ccHF (m₁ 0 i) w l (L + 1) c := ⟨_, rfl⟩
  have e₁ : ccHFm (m₂ 4 0 3) w l (L + 1) c = br := by rw [ccHF_eq r₁.1 b₁ b₂, hbr]
  obtain ⟨m₃, hm₃⟩ : ∃ m, m = ccPush m₂ k (2 * (12 * (L + 1) + c) + 1) br := ⟨_, rfl⟩
  have s₃ : m₃ 4 0 3 = m₂ 4 0 3 := by rw [hm₃, ccPush_s]
  have d₃ : ccFq mm m₃ := by rw [hm₃]; exact ccPush_q d₂
  have k₃ : m₃ 4 0 0 34 = N (if br = true then k + 1 else k) := by rw [hm₃]; exact ccPush_k k₁
  have j₃ : ∀ j, j < k → m₃ 4 0 14 j = mm 4 0 14 j := fun j g₁ => by rw [hm₃, ccPush_j g₁, w₁]
  have F₁ : ∀ rs, F227 (N (L + 1)) (N c) (N 1) m₂ rs = rV m₃ rs := fun rs => by rw [ccE227f I₁.2.2.1 (by omega) (by omega) k₁ (by omega), e₁, ← hm₃]
  have p₁ : br = true → L + 1 < l ∧ L + 1 + c < w := fun g₁ => by
    rw [hbr] at g₁
    unfold ccHF ccPl at g₁
    simp only [Bool.and_eq_true, decide_eq_true_eq] at g₁
    exact g₁.1
  have t₃ : br = true → m₃ 4 0 14 k = N (2 * (12 * (L + 1) + c) + 1) := fun g₁ => by rw [hm₃, g₁, ccPush_t]
  -- the end, both ways
  have fin : ∀ (m₅ m₆ : mMi) (v₅ u₅ : Nat), ccInv m₅ m₆ i w l n bd β wt v₅ u₅ → ccG (m₁ 0 i) (m₅ 0 i) (t + 1) u₅ → ccFr i mc m₅ → ccFq mm m₆ → m₆ 4 0 0 34 = N k → (∀ j, j < k → m₆ 4 0 14 j = mm 4 0 14 j) → ccGv (m₁ 0 i) (m₅ 0 i) → ccHF (m₅ 0 i) w l (L + 1) c = false → (∀ c₁, c = c₁ + 1 → ccHF (m₅ 0 i) w l (L + 1) c₁ = false) → ccOut mc mm m₅ m₆ i w l n bd β wt t k ∧ ccHP (m₅ 0 i) w l L c = false := by
    intro m₅ m₆ v₅ u₅ y₁ y₂ y₃ y₄ y₅ y₆ y₇ y₈ y₉
    refine ⟨⟨⟨v₅, u₅, y₁, ccG_trans G₁ y₂⟩, y₃, y₄, y₅, y₆, fun p g₁ g₂ => ⟨fun g₃ => ?_, fun g₃ => (V₁ p g₁ g₂).2 ((y₇ p g₁ g₂).2 g₃)⟩⟩, ccHP_off y₂ z₁⟩
    rcases (V₁ p g₁ g₂).1 ((y₇ p g₁ g₂).1 g₃) with g₄ | g₄ | g₄
    · exact g₄
    · have g₅ := ccHF_no y₁.2.2.2.2.2.2.1 y₈ (by omega) (by omega)
      have g₆ : 12 * (L + 1) + c = p := by omega
      rw [g₆] at g₅
      exact absurd g₅ g₃.1
    · cases c with
      | zero =>
        have g₅ := (y₁.2.2.2.2.2.2.1 p g₂).2 g₃.1
        omega
      | succ c₁ =>
        have g₅ := ccHF_no y₁.2.2.2.2.2.2.1 (y₉ c₁ rfl) (by omega) (by omega)
        have g₆ : 12 * (L + 1) + c₁ = p := by omega
        rw [g₆] at g₅
        exact absurd g₅ g₃.1
  cases c with
  | zero =>
    have I₃ : ccInv m₁ m₃ i w l n bd β wt u (t + 1) := ⟨I₁.1, I₁.2.1, ccMo_fq d₃ q₃, by rw [d₃ 4 0 0 7 (by omega) (by omega)]; exact q₄, q₅, by rw [s₃]; exact r₁, I₁.2.2.2.2.2.2⟩
    obtain ⟨m₅, m₆, T, a₁, a₂, a₃, ⟨⟨v₅, u₅, a₄, a₅⟩, a₆, a₇, a₈, a₉, a₀⟩, z₂⟩ := H₁ m₁ m₃ i w l n bd β wt u (t + 1) (L + 1) 0 k br I₃ (by omega) (by omega) (by omega) (fun g₁ => by rw [← hbr]; exact g₁) (fun g₁ => ⟨(p₁ g₁).1, (p₁ g₁).2, t₃ g₁⟩) k₃
    refine ⟨m₅, m₆, T, fun f rs g₁ => ?_, fun g x1 x2 x3 x4 rs => ?_, by omega, fin m₅ m₆ v₅ u₅ a₄ a₅ (ccFr_trans d₁ a₆) (ccFq_trans d₃ a₇) a₈ (fun j g₁ => by rw [a₉ j g₁, j₃ j g₁]) a₀ z₂ (fun c₁ g₁ => by omega)⟩
    · obtain ⟨f₁, rfl⟩ : ∃ f₁, f = f₁ + 1 + 1 := ⟨f - 2, by omega⟩
      have e₂ : N 0 - N 1 = I (-1) := rfl
      rw [E₁, e₂, ccNoFm]
      show bV (FR (f₁ + 1) 28 i (N (L + 1)) (N 0) (N 2) (I (-1)) m₁ rs) _ = _
      rw [a₁ (f₁ + 1) rs (by omega)]
      rfl
    · have e₂ : N 0 - N 1 = I (-1) := rfl
      rw [E₂, F₁]
      show bV (F227 (N (L + 1)) (N 0 - N 1) (N 1) m₃ rs) _ = _
      rw [e₂, ccE227m I₃.2.2.1 (by omega)]
      exact a₂ g x1 x2 x3 x4 rs
  | succ c₁ =>
    have e₂ : N (c₁ + 1) - N 1 = N c₁ := by
      rw [N_sub (by omega)]
      rfl
    obtain ⟨bl, hbl⟩ : ∃ b, b = ccHF (m₁ 0 i) w l (L + 1) c₁ := ⟨_, rfl⟩
    have I₃ : ccInv m₁ m₃ i w l n bd β wt u (t + 1) := ⟨I₁.1, I₁.2.1, ccMo_fq d₃ q₃, by rw [d₃ 4 0 0 7 (by omega) (by omega)]; exact q₄, q₅, by rw [s₃]; exact r₁, I₁.2.2.2.2.2.2⟩
    obtain ⟨kr, hkr⟩ : ∃ x₁, x₁ = if br = true then k + 1 else k := ⟨_, rfl⟩
    have kb : k ≤ kr ∧ kr ≤ k + 1 := by rw [hkr]; split <;> omega
    rw [← hkr] at k₃
    have e₃ : ccHFm (m₃ 4 0 3) w l (L + 1) c₁ = bl := by rw [s₃, ccHF_eq r₁.1 b₁ b₂, hbl]
    obtain ⟨m₄, hm₄⟩ : ∃ m, m = ccPush m₃ kr (2 * (12 * (L + 1) + c₁) + 1) bl := ⟨_, rfl⟩
    have s₄ : m₄ 4 0 3 = m₂ 4 0 3 := by rw [hm₄, ccPush_s, s₃]
    have d₄ : ccFq mm m₄ := by rw [hm₄]; exact ccPush_q d₃
    have k₄ : m₄ 4 0 0 34 = N (if bl = true then kr + 1 else kr) := by rw [hm₄]; exact ccPush_k k₃
    have F₂ : ∀ rs, F227 (N (L + 1)) (N c₁) (N 1) m₃ rs = rV m₄ rs := fun rs => by rw [ccE227f I₃.2.2.1 (by omega) (by omega) k₃ (by omega), e₃, ← hm₄]
    have p₂ : bl = true → L + 1 < l ∧ L + 1 + c₁ < w := fun g₁ => by
      rw [hbl] at g₁
      unfold ccHF ccPl at g₁
      simp only [Bool.and_eq_true, decide_eq_true_eq] at g₁
      exact g₁.1
    have t₄ : bl = true → m₄ 4 0 14 kr = N (2 * (12 * (L + 1) + c₁) + 1) := fun g₁ => by rw [hm₄, g₁, ccPush_t]
    have I₄ : ccInv m₁ m₄ i w l n bd β wt u (t + 1) := ⟨I₁.1, I₁.2.1, ccMo_fq d₄ q₃, by rw [d₄ 4 0 0 7 (by omega) (by omega)]; exact q₄, q₅, by rw [s₄]; exact r₁, I₁.2.2.2.2.2.2⟩
    obtain ⟨m₅, m₆, T, a₁, a₂, a₃, ⟨⟨v₅, u₅, a₄, a₅⟩, a₆, a₇, a₈, a₉, a₀⟩, z₂⟩ := H₁ m₁ m₄ i w l n bd β wt u (t + 1) (L + 1) c₁ kr bl I₄ (by omega) (by omega) (by omega) (fun g₁ => by rw [← hbl]; exact g₁) (fun g₁ => ⟨(p₂ g₁).1, (p₂ g₁).2, t₄ g₁⟩) k₄
    obtain ⟨m₇, m₈, T₂, c₁', c₂, c₃, ⟨⟨v₇, u₇, c₄, c₅⟩, c₆, c₇, c₈, c₉, c₀⟩, z₃⟩ := H₁ m₅ m₆ i w l n bd β wt v₅ u₅ (L + 1) (c₁ + 1) k br a₄ (by omega) (by omega) (by omega) (fun g₁ => ccHF_off a₅ (by rw [← hbr]; exact g₁)) (fun g₁ => ⟨(p₁ g₁).1, (p₁ g₁).2, by
      have g₂ : kr = k + 1 := by rw [hkr, if_pos g₁]
      rw [a₉ k (by omega), hm₄, ccPush_j (by omega)]
      exact t₃ g₁⟩) (by rw [a₈, hkr])
    refine ⟨m₇, m₈, T₂ + T, fun f rs g₁ => ?_, fun g x1 x2 x3 x4 rs => ?_, by omega, fin m₇ m₈ v₇ u₇ c₄ (ccG_trans a₅ c₅) (ccFr_trans d₁ (ccFr_trans a₆ c₆)) (ccFq_trans d₄ (ccFq_trans a₇ c₇)) c₈ (fun j g₁ => by rw [c₉ j g₁, a₉ j (by omega), hm₄, ccPush_j (by omega), j₃ j g₁]) (ccGv_trans a₀ c₀) z₃ (fun c₅' g₁ => by
      have g₂ : c₅' = c₁ := by omega
      rw [g₂]
      exact ccHF_off c₅ z₂)⟩
    · obtain ⟨f₁, rfl⟩ : ∃ f₁, f = f₁ + 1 := ⟨f - 1, by omega⟩
      rw [E₁, e₂, a₁ f₁ rs (by omega)]
      show bV (FR f₁ 28 i (N (L + 1)) (N (c₁ + 1)) (N 2) (I (-1)) m₅ rs) _ = _
      rw [c₁' f₁ rs (by omega)]
      rfl
    · rw [E₂, F₁]
      show bV (F227 (N (L + 1)) (N (c₁ + 1) - N 1) (N 1) m₃ rs) _ = _
      rw [e₂, F₂]
      show F222_20 (g + (T₂ + T)) x1 x2 x3 x4 m₄ rs = _
      rw [← Nat.add_assoc, a₂ (g + T₂) x1 x2 x3 x4 rs]
      exact c₂ g x1 x2 x3 x4 rs
