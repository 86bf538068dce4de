/-! THE TIE HOLDS behind the dropping of a card of X. -/
theorem ccKd_o {C : Nat → Nat → Int32} {bd L k h z j p : Nat} {g : Bool} (h₁ : ¬ (j = 13 ∧ p = k)) (h₂ : ¬ (j = 14 ∧ p = h)) (h₃ : ¬ (j = 10 ∧ p = 5)) (h₄ : ¬ (j = 11 ∧ p = k)) (h₅ : ¬ (j = 12 ∧ p = k)) : ccKd C bd L k h z g j p = C j p := by
  unfold ccKd
  cases g
  · rw [if_neg (by decide)]
    by_cases g₁ : L < bd ∨ z ≤ 1
    · simp (disch := omega) only [if_pos, ccU, if_neg, Nat.reduceEqDiff, eq_self, true_and, and_true, false_and, and_false, if_true, if_false]
    · simp (disch := omega) only [ccU, if_neg, Nat.reduceEqDiff, eq_self, true_and, and_true, false_and, and_false, if_true, if_false]
  · simp (disch := omega) only [if_true, ccU, if_neg, Nat.reduceEqDiff, eq_self, true_and, and_true, false_and, and_false, if_true, if_false]
theorem ccSd_o {s : Nat → Int32} {bd L k h z q : Nat} {g : Bool} (h₁ : q ≠ 8 + 6 * k) (h₂ : q ≠ 9 + 6 * k) (h₃ : q ≠ 10 + 6 * k) (h₄ : q ≠ 11 + 6 * k) (h₅ : q ≠ 12 + 6 * k) (h₆ : q ≠ 728 + h) (h₇ : q ≠ 7) : ccSd s bd L k h z g q = s q := by
  unfold ccSd
  cases g
  · rw [if_neg (by decide)]
    by_cases g₁ : L < bd ∨ z ≤ 1
    · simp (disch := omega) only [if_pos, ccV, if_neg, Nat.reduceEqDiff, eq_self, true_and, and_true, false_and, and_false, if_true, if_false]
    · simp (disch := omega) only [ccV, if_neg, Nat.reduceEqDiff, eq_self, true_and, and_true, false_and, and_false, if_true, if_false]
  · simp (disch := omega) only [if_true, ccV, if_neg, Nat.reduceEqDiff, eq_self, true_and, and_true, false_and, and_false, if_true, if_false]
theorem ccRA_d {C : Nat → Nat → Int32} {s : Nat → Int32} {bd L k h z : Nat} {g : Bool} (h₁ : ccRA C s) (h₂ : k < 40) (h₃ : h < 40) : ccRA (ccKd C bd L k h z g) (ccSd s bd L k h z g) := fun p₁ g₁ => by
  have g₂ := h₁ p₁ g₁
  simp (disch := omega) only [ccKd_o, ccSd_o]
  exact g₂
/-- where a card is behind its fall -/
theorem ccKd_at {C : Nat → Nat → Int32} {bd L k h z : Nat} {g : Bool} : ccKd C bd L k h z g 13 k = if g = true then I (-1) else I (-2) := by
  unfold ccKd
  cases g
  · simp only [Bool.false_eq_true, if_false]
    by_cases g₁ : L < bd ∨ z ≤ 1
    · simp (disch := omega) only [if_pos, ccU, Nat.reduceEqDiff, eq_self, true_and, and_true, false_and, and_false, if_true, if_false]
    · simp (disch := omega) only [ccU, if_neg, if_pos, Nat.reduceEqDiff, eq_self, true_and, and_true, false_and, and_false, if_true, if_false]
  · simp (disch := omega) only [if_true, ccU, if_pos, Nat.reduceEqDiff, eq_self, true_and, and_true, false_and, and_false, if_true, if_false]
theorem ccSd_at {s : Nat → Int32} {bd L k h z : Nat} {g : Bool} (h₂ : k < 40) (h₃ : h < 40) : ccSd s bd L k h z g (9 + 6 * k) = if g = true then N 0 else N 1 := by
  unfold ccSd
  cases g
  · simp only [Bool.false_eq_true, if_false]
    by_cases g₁ : L < bd ∨ z ≤ 1
    · simp (disch := omega) only [if_pos, ccV, if_neg, Nat.reduceEqDiff, eq_self, true_and, and_true, false_and, and_false, if_true, if_false]
    · simp (disch := omega) only [ccV, if_neg, if_pos, Nat.reduceEqDiff, eq_self, true_and, and_true, false_and, and_false, if_true, if_false]
  · simp (disch := omega) only [if_true, ccV, if_pos, if_neg, Nat.reduceEqDiff, eq_self, true_and, and_true, false_and, and_false, if_true, if_false]
theorem ccRB_d {X Y : Nat → Bool} {n bd L k h z : Nat} {g : Bool} {C : Nat → Nat → Int32} {s : Nat → Int32} (h₁ : ccRB X n C s) (h₂ : n ≤ 40) (h₃ : k < n) (h₄ : h < 40) (h₅ : X k = true) (h₆ : ∀ j, j ≠ k → X j = Y j) : ccRB Y n (ccKd C bd L k h z g) (ccSd s bd L k h z g) := by
  refine ⟨fun p₁ g₁ g₂ => ?_, fun p₁ g₁ g₂ => ?_⟩
  · simp (disch := omega) only [ccKd_o] at g₂ ⊢
    obtain ⟨x, y, e₁, e₂, e₃, e₄, e₅, e₆, e₇, e₈, e₉, f₁, f₂⟩ := h₁.1 p₁ g₁ g₂
    have f₃ : x ≠ k := fun q₁ => by rw [q₁, h₅] at f₁; cases f₁
    have f₄ : y ≠ k := fun q₁ => by rw [q₁, h₅] at f₂; cases f₂
    refine ⟨x, y, e₁, e₂, e₃, e₄, e₅, ?_⟩
    simp (disch := omega) only [ccKd_o, ccSd_o]
    exact ⟨e₆, e₇, e₈, e₉, by rw [← h₆ x f₃]; exact f₁, by rw [← h₆ y f₄]; exact f₂⟩
  · simp (disch := omega) only [ccKd_o] at g₂ ⊢
    obtain ⟨x, e₁, e₂, e₃, e₄, f₁⟩ := h₁.2 p₁ g₁ g₂
    have f₃ : x ≠ k := fun q₁ => by rw [q₁, h₅] at f₁; cases f₁
    refine ⟨x, e₁, e₂, ?_⟩
    simp (disch := omega) only [ccKd_o, ccSd_o]
    exact ⟨e₃, e₄, by rw [← h₆ x f₃]; exact f₁⟩
theorem ccRC_d {X Y : Nat → Bool} {n bd L k h z : Nat} {g : Bool} {β : Nat → Int32} {C : Nat → Nat → Int32} {s : Nat → Int32} (h₁ : ccRC X n β C s) (h₂ : n ≤ 40) (h₃ : k < n) (h₄ : h < 40) (h₆ : ∀ j, j ≠ k → X j = Y j) (h₇ : Y k = false) (h₈ : C 11 k = N z) (h₉ : z ≤ 9) : ccRC Y n β (ccKd C bd L k h z g) (ccSd s bd L k h z g) := fun j g₁ => by
  obtain ⟨⟨g₂, g₃, z₁, y₁, g₄, g₅, g₆, g₇, g₈⟩, g₉⟩ := h₁ j g₁
  by_cases f₁ : j = k
  · subst f₁
    have f₂ : z₁ = z := ccNinj (by rw [← g₄, h₈]) (by omega) (by omega)
    subst f₂
    refine ⟨?_, ?_⟩
    · cases g
      · by_cases f₃ : L < bd ∨ z₁ ≤ 1
        · have e₁ : ccSd s bd L j h z₁ false (8 + 6 * j) = s (8 + 6 * j) := by simp (disch := omega) only [ccSd, Bool.false_eq_true, if_false, if_pos, ccV, if_neg, Nat.reduceEqDiff, eq_self, true_and, and_true, false_and, and_false, if_true, if_false]
          have e₂ : ccSd s bd L j h z₁ false (11 + 6 * j) = s (11 + 6 * j) := by simp (disch := omega) only [ccSd, Bool.false_eq_true, if_false, if_pos, ccV, if_neg, Nat.reduceEqDiff, eq_self, true_and, and_true, false_and, and_false, if_true, if_false]
          have e₃ : ccSd s bd L j h z₁ false (12 + 6 * j) = s (12 + 6 * j) := by simp (disch := omega) only [ccSd, Bool.false_eq_true, if_false, if_pos, ccV, if_neg, Nat.reduceEqDiff, eq_self, true_and, and_true, false_and, and_false, if_true, if_false]
          have e₄ : ccKd C bd L j h z₁ false 11 j = C 11 j := by simp (disch := omega) only [ccKd, Bool.false_eq_true, if_false, if_pos, ccU, if_neg, Nat.reduceEqDiff, eq_self, true_and, and_true, false_and, and_false, if_true, if_false]
          have e₅ : ccKd C bd L j h z₁ false 12 j = C 12 j := by simp (disch := omega) only [ccKd, Bool.false_eq_true, if_false, if_pos, ccU, if_neg, Nat.reduceEqDiff, eq_self, true_and, and_true, false_and, and_false, if_true, if_false]
          rw [e₁, e₂, e₃, e₄, e₅]
          exact ⟨g₂, g₃, z₁, y₁, g₄, g₅, g₆, g₇, g₈⟩
        · have e₁ : ccSd s bd L j h z₁ false (8 + 6 * j) = N (z₁ - 1) := by simp (disch := omega) only [ccSd, Bool.false_eq_true, if_false, if_pos, ccV, if_neg, Nat.reduceEqDiff, eq_self, true_and, and_true, false_and, and_false, if_true, if_false]
          have e₂ : ccSd s bd L j h z₁ false (11 + 6 * j) = s (11 + 6 * j) + N 1 := by simp (disch := omega) only [ccSd, Bool.false_eq_true, if_false, if_pos, ccV, if_neg, Nat.reduceEqDiff, eq_self, true_and, and_true, false_and, and_false, if_true, if_false]
          have e₃ : ccSd s bd L j h z₁ false (12 + 6 * j) = s (12 + 6 * j) + N 1 := by simp (disch := omega) only [ccSd, Bool.false_eq_true, if_false, if_pos, ccV, if_neg, Nat.reduceEqDiff, eq_self, true_and, and_true, false_and, and_false, if_true, if_false]
          have e₄ : ccKd C bd L j h z₁ false 11 j = N (z₁ - 1) := by simp (disch := omega) only [ccKd, Bool.false_eq_true, if_false, if_pos, ccU, if_neg, Nat.reduceEqDiff, eq_self, true_and, and_true, false_and, and_false, if_true, if_false]
          have e₅ : ccKd C bd L j h z₁ false 12 j = C 12 j + N 1 := by simp (disch := omega) only [ccKd, Bool.false_eq_true, if_false, if_pos, ccU, if_neg, Nat.reduceEqDiff, eq_self, true_and, and_true, false_and, and_false, if_true, if_false]
          rw [e₁, e₂, e₃, e₄, e₅]
          refine ⟨rfl, by rw [g₃], z₁ - 1, y₁ + 1, rfl, by rw [g₅, N_add], ?_, by omega, by omega⟩
          rw [g₆]
          have e₆ : z₁ - 1 + (y₁ + 1) = z₁ + y₁ := by omega
          rw [e₆]
      · have e₁ : ccSd s bd L j h z₁ true (8 + 6 * j) = s (8 + 6 * j) := by simp (disch := omega) only [ccSd, if_true, ccV, if_neg, Nat.reduceEqDiff, eq_self, true_and, and_true, false_and, and_false, if_true, if_false]
        have e₂ : ccSd s bd L j h z₁ true (11 + 6 * j) = s (11 + 6 * j) := by simp (disch := omega) only [ccSd, if_true, ccV, if_neg, Nat.reduceEqDiff, eq_self, true_and, and_true, false_and, and_false, if_true, if_false]
        have e₃ : ccSd s bd L j h z₁ true (12 + 6 * j) = s (12 + 6 * j) := by simp (disch := omega) only [ccSd, if_true, ccV, if_neg, Nat.reduceEqDiff, eq_self, true_and, and_true, false_and, and_false, if_true, if_false]
        have e₄ : ccKd C bd L j h z₁ true 11 j = C 11 j := by simp (disch := omega) only [ccKd, if_true, ccU, if_neg, Nat.reduceEqDiff, eq_self, true_and, and_true, false_and, and_false, if_true, if_false]
        have e₅ : ccKd C bd L j h z₁ true 12 j = C 12 j := by simp (disch := omega) only [ccKd, if_true, ccU, if_neg, Nat.reduceEqDiff, eq_self, true_and, and_true, false_and, and_false, if_true, if_false]
        rw [e₁, e₂, e₃, e₄, e₅]
        exact ⟨g₂, g₃, z₁, y₁, g₄, g₅, g₆, g₇, g₈⟩
    · cases g
      · exact Or.inr (Or.inr (Or.inl ⟨h₇, by rw [ccKd_at]; rfl, by rw [ccSd_at (by omega) h₄]; rfl⟩))
      · exact Or.inr (Or.inl ⟨h₇, by rw [ccKd_at]; rfl, by rw [ccSd_at (by omega) h₄]; rfl⟩)
  · simp (disch := omega) only [ccKd_o, ccSd_o, ← h₆ j f₁]
    exact ⟨⟨g₂, g₃, z₁, y₁, g₄, g₅, g₆, g₇, g₈⟩, g₉⟩
/-- the heap grows by a card that isn't pulled -/
theorem ccRD_d {n bd L k h z p : Nat} {C : Nat → Nat → Int32} {s : Nat → Int32} (h₁ : ccRD h n C s) (h₂ : n ≤ 40) (h₃ : k < n) (h₄ : h < 40) (h₅ : C 13 k = N p) (h₆ : p < 96) : ccRD (h + 1) n (ccKd C bd L k h z false) (ccSd s bd L k h z false) := by
  obtain ⟨e₁, e₂, e₃, e₄, e₅⟩ := h₁
  have f₁ : ccKd C bd L k h z false 10 5 = N (h + 1) := by
    by_cases f₃ : L < bd ∨ z ≤ 1
    · simp (disch := omega) only [ccKd, Bool.false_eq_true, if_false, if_pos, ccU, if_neg, Nat.reduceEqDiff, eq_self, true_and, and_true, false_and, and_false, if_true, if_false]
    · simp (disch := omega) only [ccKd, Bool.false_eq_true, if_false, if_pos, ccU, if_neg, Nat.reduceEqDiff, eq_self, true_and, and_true, false_and, and_false, if_true, if_false]
  have f₂ : ccSd s bd L k h z false 7 = N (h + 1) := by
    by_cases f₃ : L < bd ∨ z ≤ 1
    · simp (disch := omega) only [ccSd, Bool.false_eq_true, if_false, if_pos, ccV, if_neg, Nat.reduceEqDiff, eq_self, true_and, and_true, false_and, and_false, if_true, if_false]
    · simp (disch := omega) only [ccSd, Bool.false_eq_true, if_false, if_pos, ccV, if_neg, Nat.reduceEqDiff, eq_self, true_and, and_true, false_and, and_false, if_true, if_false]
  have f₄ : ccKd C bd L k h z false 14 h = N k := by
    by_cases f₃ : L < bd ∨ z ≤ 1
    · simp (disch := omega) only [ccKd, Bool.false_eq_true, if_false, if_pos, ccU, if_neg, Nat.reduceEqDiff, eq_self, true_and, and_true, false_and, and_false, if_true, if_false]
    · simp (disch := omega) only [ccKd, Bool.false_eq_true, if_false, if_pos, ccU, if_neg, Nat.reduceEqDiff, eq_self, true_and, and_true, false_and, and_false, if_true, if_false]
  have f₅ : ccSd s bd L k h z false (728 + h) = N k := by
    by_cases f₃ : L < bd ∨ z ≤ 1
    · simp (disch := omega) only [ccSd, Bool.false_eq_true, if_false, if_pos, ccV, if_neg, Nat.reduceEqDiff, eq_self, true_and, and_true, false_and, and_false, if_true, if_false]
    · simp (disch := omega) only [ccSd, Bool.false_eq_true, if_false, if_pos, ccV, if_neg, Nat.reduceEqDiff, eq_self, true_and, and_true, false_and, and_false, if_true, if_false]
  refine ⟨?_, f₁, f₂, fun u g₁ => ?_, fun j g₁ => ?_⟩
  · have g₁ := ccCnt_up (f := fun x => decide (C 13 x = I (-2))) (g := fun x => decide (ccKd C bd L k h z false 13 x = I (-2))) (k := k) (by simp (disch := omega) only [h₅, ccNm2, decide_false]) (by simp only [ccKd_at, Bool.false_eq_true, if_false, decide_true]) (fun x g₂ => by simp (disch := omega) only [ccKd_o]) n
    rw [g₁, if_pos h₃, ← e₁]
  · by_cases g₂ : u = h
    · subst g₂
      rw [f₄, f₅]
    · simp (disch := omega) only [ccKd_o, ccSd_o]
      exact e₄ u (by omega)
  · have g₂ : ccCnt (fun u => decide (ccKd C bd L k h z false 14 u = N j)) h = ccCnt (fun u => decide (C 14 u = N j)) h := ccCnt_congr h fun u g₃ => by simp (disch := omega) only [ccKd_o]
    show ccCnt (fun u => decide (ccKd C bd L k h z false 14 u = N j)) h + (if decide (ccKd C bd L k h z false 14 h = N j) = true then 1 else 0) = _
    rw [g₂, e₅ j g₁, f₄]
    by_cases g₄ : j = k
    · subst g₄
      simp (disch := omega) only [h₅, ccNm2, if_false, ccKd_at, Bool.false_eq_true, if_true, decide_true]
    · have g₅ : (N k = N j) = False := propext ⟨fun q₁ => g₄ (Eq.symm (ccNinj q₁ (by omega) (by omega))), False.elim⟩
      simp (disch := omega) only [g₅, decide_false, Bool.false_eq_true, if_false, ccKd_o, Nat.add_zero]
theorem ccRD_d2 {n bd L k h z p : Nat} {C : Nat → Nat → Int32} {s : Nat → Int32} (h₁ : ccRD h n C s) (h₂ : n ≤ 40) (h₃ : k < n) (h₄ : h ≤ 40) (h₅ : C 13 k = N p) (h₆ : p < 96) : ccRD h n (ccKd C bd L k h z true) (ccSd s bd L k h z true) := by
  obtain ⟨e₁, e₂, e₃, e₄, e₅⟩ := h₁
  refine ⟨?_, ?_, ?_, fun u g₁ => ?_, fun j g₁ => ?_⟩
  · rw [e₁]
    refine ccCnt_congr n fun x g₁ => ?_
    by_cases g₂ : x = k
    · subst g₂
      simp (disch := omega) only [h₅, ccNm2, ccKd_at, if_true, ccMM2]
    · simp (disch := omega) only [ccKd, if_true, ccU, if_neg, Nat.reduceEqDiff, eq_self, true_and, and_true, false_and, and_false, if_true, if_false]
  · simp (disch := omega) only [ccKd, if_true, ccU, if_neg, Nat.reduceEqDiff, eq_self, true_and, and_true, false_and, and_false, if_true, if_false]
    exact e₂
  · simp (disch := omega) only [ccSd, if_true, ccV, if_neg, Nat.reduceEqDiff, eq_self, true_and, and_true, false_and, and_false, if_true, if_false]
    exact e₃
  · simp (disch := omega) only [ccKd, ccSd, if_true, ccU, ccV, if_neg, Nat.reduceEqDiff, eq_self, true_and, and_true, false_and, and_false, if_true, if_false]
    exact e₄ u g₁
  · have g₃ := e₅ j g₁
    by_cases g₂ : j = k
    · subst g₂
      simp (disch := omega) only [h₅, ccNm2, if_false] at g₃
      simp (disch := omega) only [ccKd, if_true, ccU, if_neg, if_pos, ccMM2, if_false, Nat.reduceEqDiff, eq_self, true_and, and_true, false_and, and_false, if_true, if_false]
      exact g₃
    · simp (disch := omega) only [ccKd, if_true, ccU, if_neg, Nat.reduceEqDiff, eq_self, true_and, and_true, false_and, and_false, if_true, if_false]
      exact g₃
theorem ccRE_d {t bd L k h z : Nat} {g : Bool} {C : Nat → Nat → Int32} {s : Nat → Int32} (h₁ : ccRE t C s) (h₂ : k < 40) (h₃ : h < 40) : ccRE t (ccKd C bd L k h z g) (ccSd s bd L k h z g) := by
  obtain ⟨e₁, e₂, e₃, e₄, e₅, e₆, e₇⟩ := h₁
  refine ⟨?_, ?_, fun u g₁ g₂ => ?_, fun u g₁ => ?_, ?_, ?_, ?_⟩
  · simp (disch := omega) only [ccKd_o]
    exact e₁
  · simp (disch := omega) only [ccSd_o]
    exact e₂
  · refine ⟨fun e g₃ => ?_, ?_⟩
    · simp (disch := omega) only [ccKd_o, ccSd_o]
      exact (e₃ u g₁ g₂).1 e g₃
    · simp (disch := omega) only [ccKd_o]
      exact (e₃ u g₁ g₂).2
  · simp (disch := omega) only [ccKd_o, ccSd_o]
    exact e₄ u g₁
  · simp (disch := omega) only [ccKd_o, ccSd_o]
    exact e₅
  · simp (disch := omega) only [ccKd_o, ccSd_o]
    exact e₆
  · simp (disch := omega) only [ccKd_o]
    exact e₇
theorem ccRF_d {X Y : Nat → Bool} {n bd L k h z : Nat} {g : Bool} {wt : Nat → Int32} {C : Nat → Nat → Int32} {s : Nat → Int32} (h₁ : ccRF X n wt C s) (h₂ : n ≤ 40) (h₃ : k < n) (h₄ : h < 40) (h₅ : X k = true) (h₆ : ∀ j, j ≠ k → X j = Y j) (h₇ : Y k = false) : ccRF Y n wt (ccKd C bd L k h z g) (ccSd s bd L k h z g) := by
  unfold ccRF at h₁ ⊢
  have e₁ : ccSum (ccW1 wt (ccKd C bd L k h z g)) 96 = ccSum (ccW1 wt C) 96 := ccSum_congr 96 fun j g₁ => by
    simp (disch := omega) only [ccW1, ccKd_o]
  have e₂ : ccSum (ccW2 wt Y (ccSd s bd L k h z g)) n = ccSum (ccW2 wt X s) n := ccSum_congr n fun j g₁ => by
    by_cases g₂ : j = k
    · subst g₂
      have e₃ : ccW2 wt X s j = N 0 := by unfold ccW2; rw [if_neg (fun q₁ => by rw [h₅] at q₁; cases q₁.1)]
      have e₄ : ccW2 wt Y (ccSd s bd L j h z g) j = N 0 := by
        unfold ccW2
        rw [ccSd_at (by omega) h₄]
        cases g
        · exact if_neg fun q₁ => absurd q₁.2 (by decide)
        · exact if_neg fun q₁ => absurd q₁.2 (by decide)
      rw [e₃, e₄]
    · simp (disch := omega) only [ccW2, ccSd_o, h₆ j g₂]
  rw [e₁, e₂]
  exact h₁
/-! the tie as a whole -/
def ccR (X : Nat → Bool) (n : Nat) (β wt : Nat → Int32) (h t : Nat) (C : Nat → Nat → Int32) (s : Nat → Int32) : Prop := ccRA C s ∧ ccRB X n C s ∧ ccRC X n β C s ∧ ccRD h n C s ∧ ccRE t C s ∧ ccRF X n wt C s
theorem ccR_h {X : Nat → Bool} {n h t : Nat} {β wt : Nat → Int32} {C : Nat → Nat → Int32} {s : Nat → Int32} (h₁ : ccR X n β wt h t C s) : h ≤ n := by
  rw [h₁.2.2.2.1.1]
  exact ccCnt_le n
theorem ccR_hX {X : Nat → Bool} {n h t k : Nat} {β wt : Nat → Int32} {C : Nat → Nat → Int32} {s : Nat → Int32} (h₁ : ccR X n β wt h t C s) (h₂ : k < n) (h₃ : X k = true) : h < n := by
  rw [h₁.2.2.2.1.1]
  refine ccCnt_lt ?_ n h₂
  rcases (h₁.2.2.1 k h₂).2 with ⟨_, p, e₁, e₂⟩ | ⟨e₁, _⟩ | ⟨e₁, _⟩ | ⟨e₁, _⟩
  · rw [e₂]
    simp (disch := omega) only [ccNm2, decide_false]
  · rw [h₃] at e₁; cases e₁
  · rw [h₃] at e₁; cases e₁
  · rw [h₃] at e₁; cases e₁
theorem ccR_d {X Y : Nat → Bool} {n bd L k h t z : Nat} {g : Bool} {β wt : Nat → Int32} {C : Nat → Nat → Int32} {s : Nat → Int32} (h₁ : ccR X n β wt h t C s) (h₂ : n ≤ 40) (h₃ : k < n) (h₅ : X k = true) (h₆ : ∀ j, j ≠ k → X j = Y j) (h₇ : Y k = false) (h₈ : C 11 k = N z) (h₉ : z ≤ 9) : ∃ u, ccR Y n β wt u t (ccKd C bd L k h z g) (ccSd s bd L k h z g) := by
  have g₁ := ccR_hX h₁ h₃ h₅
  obtain ⟨e₁, e₂, e₃, e₄, e₅, e₆⟩ := h₁
  have g₂ : ∃ p, p < 96 ∧ C 13 k = N p := by
    rcases (e₃ k h₃).2 with ⟨_, p, f₁, f₂⟩ | ⟨f₁, _⟩ | ⟨f₁, _⟩ | ⟨f₁, _⟩
    · exact ⟨p, f₁, f₂⟩
    · rw [h₅] at f₁; cases f₁
    · rw [h₅] at f₁; cases f₁
    · rw [h₅] at f₁; cases f₁
  obtain ⟨p, g₃, g₄⟩ := g₂
  cases g
  · exact ⟨h + 1, ccRA_d e₁ (by omega) (by omega), ccRB_d e₂ h₂ h₃ (by omega) h₅ h₆, ccRC_d e₃ h₂ h₃ (by omega) h₆ h₇ h₈ h₉, ccRD_d e₄ h₂ h₃ (by omega) g₄ g₃, ccRE_d e₅ (by omega) (by omega), ccRF_d e₆ h₂ h₃ (by omega) h₅ h₆ h₇⟩
  · exact ⟨h, ccRA_d e₁ (by omega) (by omega), ccRB_d e₂ h₂ h₃ (by omega) h₅ h₆, ccRC_d e₃ h₂ h₃ (by omega) h₆ h₇ h₈ h₉, ccRD_d2 e₄ h₂ h₃ (by omega) g₄ g₃, ccRE_d e₅ (by omega) (by omega), ccRF_d e₆ h₂ h₃ (by omega) h₅ h₆ h₇⟩
theorem ccR_n {X : Nat → Bool} {n h t L c kd cs : Nat} {β wt : Nat → Int32} {C : Nat → Nat → Int32} {s : Nat → Int32} (h₁ : ccR X n β wt h t C s) (h₂ : n ≤ 40) (h₃ : cs < 4) (h₄ : kd < 2) (h₅ : L < 8) (h₆ : c < 12) (h₇ : t < 1000000000) : ccR X n β wt h (t + 1) (ccKn C t L c kd cs) (ccRn s t (12 * L + c) kd cs) := by
  have g₁ := ccR_h h₁
  obtain ⟨e₁, e₂, e₃, e₄, e₅, e₆⟩ := h₁
  exact ⟨ccRA_n e₁ h₃, ccRB_n e₂ h₂ h₃, ccRC_n e₃ h₂ h₃, ccRD_n e₄ (by omega) h₃, ccRE_n e₅ h₃ h₄ h₅ h₆ h₇, ccRF_n e₆ h₂ h₃⟩
theorem ccR_p {n h t p : Nat} {β wt : Nat → Int32} {C : Nat → Nat → Int32} {s : Nat → Int32} (h₁ : ccR ccX0 n β wt h t C s) (h₂ : p < 96) (h₃ : n ≤ 40) (h₄ : C 2 p ≠ I (-1)) : ∃ a b, a < n ∧ b < n ∧ a ≠ b ∧ C 2 p = N a ∧ C 3 p = N b ∧ s (248 + 4 * p) = N a ∧ s (249 + 4 * p) = N b ∧ ccR (ccX2 a b) n β wt h t (ccU C 2 p (I (-1))) (ccV s (248 + 4 * p) (I (-1))) := by
  have g₁ := ccR_h h₁
  obtain ⟨e₁, e₂, e₃, e₄, e₅, e₆⟩ := h₁
  obtain ⟨a, b, f₁, f₂, f₃, f₄, f₅, f₆, f₇, f₈, f₉, _⟩ := e₂.1 p h₂ h₄
  have g₂ := e₁ p h₂
  exact ⟨a, b, f₁, f₂, f₃, f₄, f₅, by rw [g₂.1, f₄], by rw [(g₂.2.2 h₄).1, f₅], ccRA_p e₁ h₂, ccRB_p e₂ h₂ h₃ f₁ f₂ f₆ f₇ f₈ f₉, ccRC_p e₃ h₂ h₃ f₁ f₂ f₆ f₇ f₄ f₅, ccRD_p e₄ (by omega) (by omega) (by omega), ccRE_p e₅ (by omega) (by omega), ccRF_p e₆ h₂ h₃ f₁ f₂ f₃ f₄ f₅ f₈ f₉⟩
theorem ccR_f {n h t p : Nat} {β wt : Nat → Int32} {C : Nat → Nat → Int32} {s : Nat → Int32} (h₁ : ccR ccX0 n β wt h t C s) (h₂ : p < 96) (h₃ : n ≤ 40) (h₄ : C 6 p ≠ I (-1)) : ∃ a, a < n ∧ C 6 p = N a ∧ s (632 + p) = N a ∧ ccR (ccX1 a) n β wt h t (ccU C 6 p (I (-1))) (ccV s (632 + p) (I (-1))) := by
  have g₁ := ccR_h h₁
  obtain ⟨e₁, e₂, e₃, e₄, e₅, e₆⟩ := h₁
  obtain ⟨a, f₁, f₄, f₆, f₈, _⟩ := e₂.2 p h₂ h₄
  have g₂ := e₁ p h₂
  exact ⟨a, f₁, f₄, by rw [g₂.2.1, f₄], ccRA_f e₁ h₂, ccRB_f e₂ h₂ h₃ f₁ f₆ f₈, ccRC_f e₃ h₂ h₃ f₁ f₆ f₄, ccRD_p e₄ (by omega) (by omega) (by omega), ccRE_p e₅ (by omega) (by omega), ccRF_f e₆ h₂ h₃ f₁ f₄ f₈⟩
