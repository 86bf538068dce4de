/-! THE TIE HOLDS behind small changes. -/
def ccX1 (a : Nat) : Nat → Bool := fun k => decide (k = a)
def ccX2 (a b : Nat) : Nat → Bool := fun k => decide (k = a) || decide (k = b)
theorem ccRA_p {C : Nat → Nat → Int32} {s : Nat → Int32} {p : Nat} (h₁ : ccRA C s) (h₂ : p < 96) : ccRA (ccU C 2 p (I (-1))) (ccV s (248 + 4 * p) (I (-1))) := fun p₁ g₁ => by
  have g₂ := h₁ p₁ g₁
  by_cases h₃ : p₁ = p
  · subst h₃
    simp (disch := omega) only [ccU, ccV, if_neg, if_pos, ne_eq, not_true_eq_false, true_and, Nat.reduceEqDiff, eq_self, true_and, and_true, false_and, and_false, if_true, if_false]
    exact ⟨g₂.2.1, fun e₁ => e₁.elim⟩
  · simp (disch := omega) only [ccU, ccV, if_neg, Nat.reduceEqDiff, eq_self, true_and, and_true, false_and, and_false, if_true, if_false]
    exact g₂
theorem ccRA_f {C : Nat → Nat → Int32} {s : Nat → Int32} {p : Nat} (h₁ : ccRA C s) (h₂ : p < 96) : ccRA (ccU C 6 p (I (-1))) (ccV s (632 + p) (I (-1))) := fun p₁ g₁ => by
  have g₂ := h₁ p₁ g₁
  by_cases h₃ : p₁ = p
  · subst h₃
    simp (disch := omega) only [ccU, ccV, if_neg, if_pos, true_and, Nat.reduceEqDiff, eq_self, true_and, and_true, false_and, and_false, if_true, if_false]
    exact ⟨g₂.1, g₂.2.2⟩
  · simp (disch := omega) only [ccU, ccV, if_neg, Nat.reduceEqDiff, eq_self, true_and, and_true, false_and, and_false, if_true, if_false]
    exact g₂
/-- a pair leaves the grid -/
theorem ccRB_p {n p a b : Nat} {C : Nat → Nat → Int32} {s : Nat → Int32} (h₁ : ccRB ccX0 n C s) (h₂ : p < 96) (h₃ : n ≤ 40) (h₄ : a < n) (h₅ : b < n) (h₆ : C 13 a = N p) (h₇ : C 13 b = N p) (h₈ : s (9 + 6 * a) = N 2) (h₉ : s (9 + 6 * b) = N 2) : ccRB (ccX2 a b) n (ccU C 2 p (I (-1))) (ccV s (248 + 4 * p) (I (-1))) := by
  refine ⟨fun p₁ g₁ g₂ => ?_, fun p₁ g₁ g₂ => ?_⟩
  · by_cases h₃ : p₁ = p
    · subst h₃
      simp (disch := omega) only [ccU, if_pos, ne_eq, not_true_eq_false, Nat.reduceEqDiff, eq_self, true_and, and_true, false_and, and_false, if_true, if_false] at g₂
    · simp (disch := omega) only [ccU, ccV, if_neg, Nat.reduceEqDiff, eq_self, true_and, and_true, false_and, and_false, if_true, if_false] at g₂ ⊢
      obtain ⟨x, y, e₁, e₂, e₃, e₄, e₅, e₆, e₇, e₈, e₉, _⟩ := h₁.1 p₁ g₁ g₂
      have f₁ : x ≠ a := fun q₁ => h₃ (ccNinj (by rw [← e₆, q₁, h₆]) (by omega) (by omega))
      have f₂ : x ≠ b := fun q₁ => h₃ (ccNinj (by rw [← e₆, q₁, h₇]) (by omega) (by omega))
      have f₃ : y ≠ a := fun q₁ => h₃ (ccNinj (by rw [← e₇, q₁, h₆]) (by omega) (by omega))
      have f₄ : y ≠ b := fun q₁ => h₃ (ccNinj (by rw [← e₇, q₁, h₇]) (by omega) (by omega))
      refine ⟨x, y, e₁, e₂, e₃, e₄, e₅, e₆, e₇, ?_⟩
      simp (disch := omega) only [if_neg, e₈, e₉, ccX2, f₁, f₂, f₃, f₄, decide_false, Bool.or_false, and_true, true_and]
  · simp (disch := omega) only [ccU, ccV, if_neg, Nat.reduceEqDiff, eq_self, true_and, and_true, false_and, and_false, if_true, if_false] at g₂ ⊢
    obtain ⟨x, e₁, e₂, e₃, e₄, _⟩ := h₁.2 p₁ g₁ g₂
    have f₁ : x ≠ a := fun q₁ => absurd (ccNinj (a := 3) (b := 2) (by rw [← e₄, q₁, h₈]) (by omega) (by omega)) (by omega)
    have f₂ : x ≠ b := fun q₁ => absurd (ccNinj (a := 3) (b := 2) (by rw [← e₄, q₁, h₉]) (by omega) (by omega)) (by omega)
    refine ⟨x, e₁, e₂, e₃, ?_⟩
    simp (disch := omega) only [if_neg, e₄, ccX2, f₁, f₂, decide_false, Bool.or_false, and_true, true_and]
theorem ccRB_f {n p a : Nat} {C : Nat → Nat → Int32} {s : Nat → Int32} (h₁ : ccRB ccX0 n C s) (h₂ : p < 96) (h₃ : n ≤ 40) (h₄ : a < n) (h₆ : C 13 a = N p) (h₈ : s (9 + 6 * a) = N 3) : ccRB (ccX1 a) n (ccU C 6 p (I (-1))) (ccV s (632 + p) (I (-1))) := by
  refine ⟨fun p₁ g₁ g₂ => ?_, fun p₁ g₁ g₂ => ?_⟩
  · simp (disch := omega) only [ccU, ccV, if_neg, Nat.reduceEqDiff, eq_self, true_and, and_true, false_and, and_false, if_true, if_false] at g₂ ⊢
    obtain ⟨x, y, e₁, e₂, e₃, e₄, e₅, e₆, e₇, e₈, e₉, _⟩ := h₁.1 p₁ g₁ g₂
    have f₁ : x ≠ a := fun q₁ => absurd (ccNinj (a := 3) (b := 2) (by rw [← e₈, q₁, h₈]) (by omega) (by omega)) (by omega)
    have f₂ : y ≠ a := fun q₁ => absurd (ccNinj (a := 3) (b := 2) (by rw [← e₉, q₁, h₈]) (by omega) (by omega)) (by omega)
    refine ⟨x, y, e₁, e₂, e₃, e₄, e₅, e₆, e₇, ?_⟩
    simp (disch := omega) only [if_neg, e₈, e₉, ccX1, f₁, f₂, decide_false, and_true, true_and]
  · by_cases h₃ : p₁ = p
    · subst h₃
      simp (disch := omega) only [ccU, if_pos, ne_eq, not_true_eq_false, Nat.reduceEqDiff, eq_self, true_and, and_true, false_and, and_false, if_true, if_false] at g₂
    · simp (disch := omega) only [ccU, ccV, if_neg, Nat.reduceEqDiff, eq_self, true_and, and_true, false_and, and_false, if_true, if_false] at g₂ ⊢
      obtain ⟨x, e₁, e₂, e₃, e₄, _⟩ := h₁.2 p₁ g₁ g₂
      have f₁ : x ≠ a := fun q₁ => h₃ (ccNinj (by rw [← e₃, q₁, h₆]) (by omega) (by omega))
      refine ⟨x, e₁, e₂, e₃, ?_⟩
      simp (disch := omega) only [if_neg, e₄, ccX1, f₁, decide_false, and_true, true_and]
theorem ccRC_p {n p a b : Nat} {β : Nat → Int32} {C : Nat → Nat → Int32} {s : Nat → Int32} (h₁ : ccRC ccX0 n β C s) (h₂ : p < 96) (h₃ : n ≤ 40) (h₄ : a < n) (h₅ : b < n) (h₆ : C 13 a = N p) (h₇ : C 13 b = N p) (h₈ : C 2 p = N a) (h₉ : C 3 p = N b) : ccRC (ccX2 a b) n β (ccU C 2 p (I (-1))) (ccV s (248 + 4 * p) (I (-1))) := fun k g₁ => by
  obtain ⟨g₂, g₃⟩ := h₁ k g₁
  simp (disch := omega) only [ccU, ccV, if_neg, Nat.reduceEqDiff, eq_self, true_and, and_true, false_and, and_false, if_true, if_false]
  refine ⟨g₂, ?_⟩
  by_cases f₁ : k = a
  · subst f₁
    exact Or.inl ⟨by simp only [ccX2, decide_true, Bool.true_or], p, h₂, h₆⟩
  by_cases f₂ : k = b
  · subst f₂
    exact Or.inl ⟨by simp only [ccX2, decide_true, Bool.or_true], p, h₂, h₇⟩
  have f₃ : ccX2 a b k = false := by simp only [ccX2, f₁, f₂, decide_false, Bool.or_false]
  rcases g₃ with g₃ | g₃ | g₃ | ⟨_, p₁, e₁, e₂, e₃, e₄⟩
  · exact absurd g₃.1 (by simp only [ccX0, Bool.false_eq_true, not_false_eq_true])
  · exact Or.inr (Or.inl ⟨f₃, g₃.2⟩)
  · exact Or.inr (Or.inr (Or.inl ⟨f₃, g₃.2⟩))
  · refine Or.inr (Or.inr (Or.inr ⟨f₃, p₁, e₁, e₂, e₃, ?_⟩))
    by_cases f₄ : p₁ = p
    · subst f₄
      rcases e₄ with ⟨_, _, e₅ | e₅⟩ | e₅
      · exact absurd (ccNinj (by rw [← e₅, h₈]) (by omega) (by omega)) f₁
      · exact absurd (ccNinj (by rw [← e₅, h₉]) (by omega) (by omega)) f₂
      · exact Or.inr (by simpa (disch := omega) only [if_neg] using e₅)
    · simp (disch := omega) only [if_neg]
      exact e₄
theorem ccRC_f {n p a : Nat} {β : Nat → Int32} {C : Nat → Nat → Int32} {s : Nat → Int32} (h₁ : ccRC ccX0 n β C s) (h₂ : p < 96) (h₃ : n ≤ 40) (h₄ : a < n) (h₆ : C 13 a = N p) (h₈ : C 6 p = N a) : ccRC (ccX1 a) n β (ccU C 6 p (I (-1))) (ccV s (632 + p) (I (-1))) := fun k g₁ => by
  obtain ⟨g₂, g₃⟩ := h₁ k g₁
  simp (disch := omega) only [ccU, ccV, if_neg, Nat.reduceEqDiff, eq_self, true_and, and_true, false_and, and_false, if_true, if_false]
  refine ⟨g₂, ?_⟩
  by_cases f₁ : k = a
  · subst f₁
    exact Or.inl ⟨by simp only [ccX1, decide_true], p, h₂, h₆⟩
  have f₃ : ccX1 a k = false := by simp only [ccX1, f₁, decide_false]
  rcases g₃ with g₃ | g₃ | g₃ | ⟨_, p₁, e₁, e₂, e₃, e₄⟩
  · exact absurd g₃.1 (by simp only [ccX0, Bool.false_eq_true, not_false_eq_true])
  · exact Or.inr (Or.inl ⟨f₃, g₃.2⟩)
  · exact Or.inr (Or.inr (Or.inl ⟨f₃, g₃.2⟩))
  · refine Or.inr (Or.inr (Or.inr ⟨f₃, p₁, e₁, e₂, e₃, ?_⟩))
    by_cases f₄ : p₁ = p
    · subst f₄
      rcases e₄ with e₅ | ⟨_, e₅⟩
      · exact Or.inl e₅
      · exact absurd (ccNinj (by rw [← e₅, h₈]) (by omega) (by omega)) f₁
    · simp (disch := omega) only [if_neg]
      exact e₄
theorem ccRD_p {h n p j : Nat} {q : Nat} {v : Int32} {C : Nat → Nat → Int32} {s : Nat → Int32} (h₁ : ccRD h n C s) (h₂ : h ≤ 40) (h₃ : j = 2 ∨ j = 6) (h₄ : 248 ≤ q ∧ q < 728) : ccRD h n (ccU C j p v) (ccV s q v) := by
  obtain ⟨e₁, e₂, e₃, e₄, e₅⟩ := h₁
  refine ⟨?_, ?_, ?_, fun u g₁ => ?_, fun k g₁ => ?_⟩
  · simp (disch := omega) only [ccU, if_neg, Nat.reduceEqDiff, eq_self, true_and, and_true, false_and, and_false, if_true, if_false]
    exact e₁
  · simp (disch := omega) only [ccU, if_neg, Nat.reduceEqDiff, eq_self, true_and, and_true, false_and, and_false, if_true, if_false]
    exact e₂
  · simp (disch := omega) only [ccV, if_neg, Nat.reduceEqDiff, eq_self, true_and, and_true, false_and, and_false, if_true, if_false]
    exact e₃
  · simp (disch := omega) only [ccU, ccV, if_neg, Nat.reduceEqDiff, eq_self, true_and, and_true, false_and, and_false, if_true, if_false]
    exact e₄ u g₁
  · simp (disch := omega) only [ccU, if_neg, Nat.reduceEqDiff, eq_self, true_and, and_true, false_and, and_false, if_true, if_false]
    exact e₅ k g₁
theorem ccRE_p {t p j : Nat} {q : Nat} {v : Int32} {C : Nat → Nat → Int32} {s : Nat → Int32} (h₁ : ccRE t C s) (h₃ : j = 2 ∨ j = 3 ∨ j = 4 ∨ j = 5 ∨ j = 6 ∨ 10 ≤ j) (h₄ : 7 ≤ q ∧ q < 768) : ccRE t (ccU C j p v) (ccV s q v) := by
  obtain ⟨e₁, e₂, e₃, e₄, e₅, e₆, e₇⟩ := h₁
  refine ⟨?_, ?_, fun u g₁ g₂ => ?_, fun u g₁ => ?_, ?_, ?_, ?_⟩
  · simp (disch := omega) only [ccU, if_neg, Nat.reduceEqDiff, eq_self, true_and, and_true, false_and, and_false, if_true, if_false]
    exact e₁
  · simp (disch := omega) only [ccV, if_neg, Nat.reduceEqDiff, eq_self, true_and, and_true, false_and, and_false, if_true, if_false]
    exact e₂
  · refine ⟨fun e g₃ => ?_, ?_⟩
    · simp (disch := omega) only [ccU, ccV, if_neg, Nat.reduceEqDiff, eq_self, true_and, and_true, false_and, and_false, if_true, if_false]
      exact (e₃ u g₁ g₂).1 e g₃
    · simp (disch := omega) only [ccU, if_neg, Nat.reduceEqDiff, eq_self, true_and, and_true, false_and, and_false, if_true, if_false]
      exact (e₃ u g₁ g₂).2
  · simp (disch := omega) only [ccU, ccV, if_neg, Nat.reduceEqDiff, eq_self, true_and, and_true, false_and, and_false, if_true, if_false]
    exact e₄ u g₁
  · simp (disch := omega) only [ccU, ccV, if_neg, Nat.reduceEqDiff, eq_self, true_and, and_true, false_and, and_false, if_true, if_false]
    exact e₅
  · simp (disch := omega) only [ccU, ccV, if_neg, Nat.reduceEqDiff, eq_self, true_and, and_true, false_and, and_false, if_true, if_false]
    exact e₆
  · simp (disch := omega) only [ccU, if_neg, Nat.reduceEqDiff, eq_self, true_and, and_true, false_and, and_false, if_true, if_false]
    exact e₇
theorem ccW2_off {n a : Nat} {wt : Nat → Int32} {X Y : Nat → Bool} {s : Nat → Int32} (h₁ : a < n) (h₂ : X a = false) (h₃ : Y a = true) (h₄ : ∀ k, k ≠ a → X k = Y k) (h₅ : N 2 ≤ s (9 + 6 * a)) : ccSum (ccW2 wt X s) n = ccSum (ccW2 wt Y s) n + wt a := by
  have e₁ := ccSum_up (f := ccW2 wt X s) (g := ccW2 wt Y s) (k := a) (fun j g₁ => by unfold ccW2; rw [h₄ j g₁]) n
  have e₂ : ccW2 wt X s a = wt a := by unfold ccW2; rw [if_pos ⟨h₂, h₅⟩]
  have e₃ : ccW2 wt Y s a = N 0 := by unfold ccW2; rw [if_neg (fun q₁ => by rw [h₃] at q₁; cases q₁.1)]
  rw [if_pos h₁, e₂, e₃] at e₁
  have e₄ : N 0 = 0 := rfl
  rw [e₄] at e₁
  grind
theorem ccRF_p {n p a b : Nat} {wt : Nat → Int32} {C : Nat → Nat → Int32} {s : Nat → Int32} (h₁ : ccRF ccX0 n wt C s) (h₂ : p < 96) (h₃ : n ≤ 40) (h₄ : a < n) (h₅ : b < n) (h₆ : a ≠ b) (h₈ : C 2 p = N a) (h₉ : C 3 p = N b) (g₁ : s (9 + 6 * a) = N 2) (g₂ : s (9 + 6 * b) = N 2) : ccRF (ccX2 a b) n wt (ccU C 2 p (I (-1))) (ccV s (248 + 4 * p) (I (-1))) := by
  unfold ccRF at h₁ ⊢
  have e₁ := ccSum_up (f := ccW1 wt C) (g := ccW1 wt (ccU C 2 p (I (-1)))) (k := p) (fun j q₁ => by simp (disch := omega) only [ccW1, ccU, if_neg, Nat.reduceEqDiff, eq_self, true_and, and_true, false_and, and_false, if_true, if_false]) 96
  rw [if_pos h₂] at e₁
  have e₂ : ccW1 wt (ccU C 2 p (I (-1))) p - ccW1 wt C p = N 0 - (wt a + wt b) := by
    have e₃ : ccW1 wt (ccU C 2 p (I (-1))) p = N 0 + (if C 6 p = I (-1) then N 0 else wt (mix (C 6 p))) := by
      simp (disch := omega) only [ccW1, ccU, if_neg, if_pos, Nat.reduceEqDiff, eq_self, true_and, and_true, false_and, and_false, if_true, if_false]
    have e₄ : ccW1 wt C p = (wt a + wt b) + (if C 6 p = I (-1) then N 0 else wt (mix (C 6 p))) := by
      simp (disch := omega) only [ccW1, h₈, h₉, ccNm, mix_N, if_false]
    rw [e₃, e₄]
    grind
  have e₅ : ccSum (ccW2 wt (ccX2 a b) (ccV s (248 + 4 * p) (I (-1)))) n = ccSum (ccW2 wt (ccX2 a b) s) n := ccSum_congr n fun k q₁ => by
    simp (disch := omega) only [ccW2, ccV, if_neg, Nat.reduceEqDiff, eq_self, true_and, and_true, false_and, and_false, if_true, if_false]
  have e₆ := ccW2_off (n := n) (a := a) (wt := wt) (X := ccX0) (Y := ccX1 a) (s := s) h₄ rfl (by simp only [ccX1, decide_true]) (fun k q₁ => by simp only [ccX0, ccX1, q₁, decide_false]) (by rw [g₁]; decide)
  have e₇ := ccW2_off (n := n) (a := b) (wt := wt) (X := ccX1 a) (Y := ccX2 a b) (s := s) h₅ (by simp only [ccX1]; exact decide_eq_false (fun q₁ => h₆ (Eq.symm q₁))) (by simp only [ccX2, decide_true, Bool.or_true]) (fun k q₁ => by simp only [ccX1, ccX2, q₁, decide_false, Bool.or_false]) (by rw [g₂]; decide)
  have e₈ : N 0 = 0 := rfl
  rw [e₁, e₂, e₅, e₈]
  rw [e₆, e₇] at h₁
  rw [h₁]
  grind
theorem ccRF_f {n p a : Nat} {wt : Nat → Int32} {C : Nat → Nat → Int32} {s : Nat → Int32} (h₁ : ccRF ccX0 n wt C s) (h₂ : p < 96) (h₃ : n ≤ 40) (h₄ : a < n) (h₈ : C 6 p = N a) (g₁ : s (9 + 6 * a) = N 3) : ccRF (ccX1 a) n wt (ccU C 6 p (I (-1))) (ccV s (632 + p) (I (-1))) := by
  unfold ccRF at h₁ ⊢
  have e₁ := ccSum_up (f := ccW1 wt C) (g := ccW1 wt (ccU C 6 p (I (-1)))) (k := p) (fun j q₁ => by simp (disch := omega) only [ccW1, ccU, if_neg, Nat.reduceEqDiff, eq_self, true_and, and_true, false_and, and_false, if_true, if_false]) 96
  rw [if_pos h₂] at e₁
  have e₂ : ccW1 wt (ccU C 6 p (I (-1))) p - ccW1 wt C p = N 0 - wt a := by
    have e₃ : ccW1 wt (ccU C 6 p (I (-1))) p = (if C 2 p = I (-1) then N 0 else wt (mix (C 2 p)) + wt (mix (C 3 p))) + N 0 := by
      simp (disch := omega) only [ccW1, ccU, if_neg, if_pos, Nat.reduceEqDiff, eq_self, true_and, and_true, false_and, and_false, if_true, if_false]
    have e₄ : ccW1 wt C p = (if C 2 p = I (-1) then N 0 else wt (mix (C 2 p)) + wt (mix (C 3 p))) + wt a := by
      simp (disch := omega) only [ccW1, h₈, ccNm, mix_N, if_false]
    rw [e₃, e₄]
    grind
  have e₅ : ccSum (ccW2 wt (ccX1 a) (ccV s (632 + p) (I (-1)))) n = ccSum (ccW2 wt (ccX1 a) s) n := ccSum_congr n fun k q₁ => by
    simp (disch := omega) only [ccW2, ccV, if_neg, Nat.reduceEqDiff, eq_self, true_and, and_true, false_and, and_false, if_true, if_false]
  have e₆ := ccW2_off (n := n) (a := a) (wt := wt) (X := ccX0) (Y := ccX1 a) (s := s) h₄ rfl (by simp only [ccX1, decide_true]) (fun k q₁ => by simp only [ccX0, ccX1, q₁, decide_false]) (by rw [g₁]; decide)
  have e₈ : N 0 = 0 := rfl
  rw [e₁, e₂, e₅, e₈]
  rw [e₆] at h₁
  rw [h₁]
  grind
