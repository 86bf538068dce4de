/-! WORLD: a card is dropped. -/
def kwDrop (m : mMi) (B bd L k a z : Nat) (g : Bool) : mMi := if g = true then mset (mset (mset m 6 B 4 k (N 0)) 6 B 5 k (N 0)) 6 B 6 k (N 0) else
  if L < bd ∨ z ≤ 1 then mset (mset (mset (mset (mset m 6 B 4 k (N 1)) 6 B 5 k (N 0)) 6 B 6 k (N 0)) 6 B 9 a (N k)) 6 B 0 18 (N (a + 1)) else
    mset (mset (mset (mset (mset (mset (mset (mset m 6 B 4 k (N 1)) 6 B 5 k (N 0)) 6 B 6 k (N 0)) 6 B 9 a (N k)) 6 B 0 18 (N (a + 1))) 6 B 2 k (N (z - 1))) 6 B 7 k (m 6 B 7 k + N 1)) 6 B 8 k (m 6 B 8 k + N 1)
theorem kwE182 {m : mMi} {rs : mRs} {B k : Nat} {x y z : Int32} (hB : rs.2.1.1 B = true) (h₁ : k < 40) : H182 B (N k) x y z m rs = rV (mset (mset (mset m 6 B 4 k x) 6 B 5 k y) 6 B 6 k z) rs := by
  unfold H182
  simp (disch := omega) only [hB, true_and, and_true, false_and, and_false, if_true, if_false, ccIte, ccBi, ccBiX, ccBv, ccBvX, ccZ0, ccZ1, ccTZ, ccT0, ccT1, Bool.or_false, ccMckT, ccMckIn, ne_eq, not_true_eq_false, not_false_eq_true, if_pos, if_neg, reduceIte, eq_self, Bool.false_eq_true, Bool.true_eq_false, mix_N, N_add, N_mul, N_sub, N_div, ccMod, N_lt, N_le, N_eq, ccNm, ccMN, ccNm2, ccM2N, ccMM2, ccM2M, ccMlt, ccMle, ccNltM, ccNleM, ccM2lt, ccM2le, ccNlt2, ccNle2, Nat.reduceAdd, Nat.reduceMul, Nat.reduceSub, Nat.reduceLT, Nat.reduceLeDiff, Nat.reduceEqDiff, Nat.reduceDiv, Nat.reduceMod]
theorem kwE193 {m : mMi} {rs : mRs} {B bd L k a z : Nat} {x : Int32} (hB : rs.2.1.1 B = true) (h₁ : m 6 B 1 5 = N bd) (h₂ : bd ≤ 8) (h₃ : L < 8) (h₄ : k < 40) (h₅ : m 6 B 0 18 = N a) (h₆ : a < 40) (h₇ : m 6 B 2 k = N z) (h₈ : 1 ≤ z) (h₉ : z ≤ 9) :
    H193 B (N k) (N L) x m rs = rV (kwDrop m B bd L k a z (decide (N k = x))) rs := by
  unfold H193 kwDrop
  by_cases g₁ : N k = x
  · subst g₁
    simp (disch := omega) only [hB, kwE182, true_and, and_true, false_and, and_false, if_true, if_false, ccIte, ccBi, ccBiX, ccBv, ccBvX, ccZ0, ccZ1, ccTZ, ccT0, ccT1, Bool.or_false, ccMckT, ccMckIn, ne_eq, not_true_eq_false, not_false_eq_true, if_pos, if_neg, reduceIte, eq_self, Bool.false_eq_true, Bool.true_eq_false, mix_N, N_add, N_mul, N_sub, N_div, ccMod, N_lt, N_le, N_eq, ccNm, ccMN, ccNm2, ccM2N, ccMM2, ccM2M, ccMlt, ccMle, ccNltM, ccNleM, ccM2lt, ccM2le, ccNlt2, ccNle2, Nat.reduceAdd, Nat.reduceMul, Nat.reduceSub, Nat.reduceLT, Nat.reduceLeDiff, Nat.reduceEqDiff, Nat.reduceDiv, Nat.reduceMod, decide_true, if_true]
  · by_cases g₂ : L < bd
    · simp (disch := omega) only [hB, kwE182, true_and, and_true, false_and, and_false, if_true, if_false, ccIte, ccBi, ccBiX, ccBv, ccBvX, ccZ0, ccZ1, ccTZ, ccT0, ccT1, Bool.or_false, ccMckT, ccMckIn, ne_eq, not_true_eq_false, not_false_eq_true, if_pos, if_neg, reduceIte, eq_self, Bool.false_eq_true, Bool.true_eq_false, mix_N, N_add, N_mul, N_sub, N_div, ccMod, N_lt, N_le, N_eq, ccNm, ccMN, ccNm2, ccM2N, ccMM2, ccM2M, ccMlt, ccMle, ccNltM, ccNleM, ccM2lt, ccM2le, ccNlt2, ccNle2, Nat.reduceAdd, Nat.reduceMul, Nat.reduceSub, Nat.reduceLT, Nat.reduceLeDiff, Nat.reduceEqDiff, Nat.reduceDiv, Nat.reduceMod, g₁, h₅, ccRd, h₁, decide_false]
    · by_cases g₃ : z ≤ 1
      · have g₄ : z = 1 := by omega
        subst g₄
        simp (disch := omega) only [hB, kwE182, true_and, and_true, false_and, and_false, if_true, if_false, ccIte, ccBi, ccBiX, ccBv, ccBvX, ccZ0, ccZ1, ccTZ, ccT0, ccT1, Bool.or_false, ccMckT, ccMckIn, ne_eq, not_true_eq_false, not_false_eq_true, if_pos, if_neg, reduceIte, eq_self, Bool.false_eq_true, Bool.true_eq_false, mix_N, N_add, N_mul, N_sub, N_div, ccMod, N_lt, N_le, N_eq, ccNm, ccMN, ccNm2, ccM2N, ccMM2, ccM2M, ccMlt, ccMle, ccNltM, ccNleM, ccM2lt, ccM2le, ccNlt2, ccNle2, Nat.reduceAdd, Nat.reduceMul, Nat.reduceSub, Nat.reduceLT, Nat.reduceLeDiff, Nat.reduceEqDiff, Nat.reduceDiv, Nat.reduceMod, g₁, h₅, ccRd, h₁, h₇, decide_false, or_true]
      · have g₄ : ¬ z = 1 := by omega
        simp (disch := omega) only [hB, kwE182, true_and, and_true, false_and, and_false, if_true, if_false, ccIte, ccBi, ccBiX, ccBv, ccBvX, ccZ0, ccZ1, ccTZ, ccT0, ccT1, Bool.or_false, ccMckT, ccMckIn, ne_eq, not_true_eq_false, not_false_eq_true, if_pos, if_neg, reduceIte, eq_self, Bool.false_eq_true, Bool.true_eq_false, mix_N, N_add, N_mul, N_sub, N_div, ccMod, N_lt, N_le, N_eq, ccNm, ccMN, ccNm2, ccM2N, ccMM2, ccM2M, ccMlt, ccMle, ccNltM, ccNleM, ccM2lt, ccM2le, ccNlt2, ccNle2, Nat.reduceAdd, Nat.reduceMul, Nat.reduceSub, Nat.reduceLT, Nat.reduceLeDiff, Nat.reduceEqDiff, Nat.reduceDiv, Nat.reduceMod, g₁, g₄, h₅, ccRd, h₁, h₇, decide_false]
theorem kwDrop_fr {m : mMi} {B bd L k a z : Nat} {g : Bool} : kwFr B m (kwDrop m B bd L k a z g) := by
  unfold kwDrop
  split
  · exact kwFr_6 (kwFr_6 (kwFr_6 kwFr_rfl))
  · split
    · exact kwFr_6 (kwFr_6 (kwFr_6 (kwFr_6 (kwFr_6 kwFr_rfl))))
    · exact kwFr_6 (kwFr_6 (kwFr_6 (kwFr_6 (kwFr_6 (kwFr_6 (kwFr_6 (kwFr_6 kwFr_rfl)))))))
theorem kwDrop_st {m : mMi} {B bd L k a z : Nat} {g : Bool} : kwSt B m (kwDrop m B bd L k a z g) := by
  unfold kwDrop
  split
  · exact kwSt_6 (kwSt_6 (kwSt_6 kwSt_rfl (by omega)) (by omega)) (by omega)
  · split
    · exact kwSt_6 (kwSt_6 (kwSt_6 (kwSt_6 (kwSt_6 kwSt_rfl (by omega)) (by omega)) (by omega)) (by omega)) (by omega)
    · exact kwSt_6 (kwSt_6 (kwSt_6 (kwSt_6 (kwSt_6 (kwSt_6 (kwSt_6 (kwSt_6 kwSt_rfl (by omega)) (by omega)) (by omega)) (by omega)) (by omega)) (by omega)) (by omega)) (by omega)
theorem kwDrop_o {m : mMi} {B bd L k a z f j p : Nat} {g : Bool} (h₁ : ¬ (f = 6 ∧ (p = k ∧ (j = 2 ∨ (4 ≤ j ∧ j ≤ 8)) ∨ (j = 9 ∧ p = a) ∨ (j = 0 ∧ p = 18)))) : kwDrop m B bd L k a z g f B j p = m f B j p := by
  unfold kwDrop
  split
  · rw [ccRd, if_neg (by omega), ccRd, if_neg (by omega), ccRd, if_neg (by omega)]
  · split
    · rw [ccRd, if_neg (by omega), ccRd, if_neg (by omega), ccRd, if_neg (by omega), ccRd, if_neg (by omega), ccRd, if_neg (by omega)]
    · rw [ccRd, if_neg (by omega), ccRd, if_neg (by omega), ccRd, if_neg (by omega), ccRd, if_neg (by omega), ccRd, if_neg (by omega), ccRd, if_neg (by omega), ccRd, if_neg (by omega), ccRd, if_neg (by omega)]
theorem kwG_d {m : mMi} {B bd L k a h z : Nat} {g : Bool} {C : Nat → Nat → Int32} (h₁ : kwG m B C) : kwG (kwDrop m B bd L k a z g) B (ccKd C bd L k h z g) := fun L₁ c₁ g₁ g₂ => by
  simp (disch := omega) only [kwDrop_o, ccKd_o]
  exact h₁ L₁ c₁ g₁ g₂
theorem kwK_d {m : mMi} {B n bd L k a h z : Nat} {g : Bool} {X Y : Nat → Bool} {C : Nat → Nat → Int32} (h₁ : kwK X n m B C) (h₂ : n ≤ 40) (h₃ : k < n) (h₄ : h < 40) (h₆ : ∀ j, j ≠ k → X j = Y j) (h₇ : C 11 k = N z) (h₈ : 1 ≤ z) : kwK Y n (kwDrop m B bd L k a z g) B (ccKd C bd L k h z g) := fun j g₁ => by
  obtain ⟨e₁, e₂⟩ := h₁ j g₁
  by_cases g₂ : j = k
  · subst g₂
    cases g
    · by_cases g₃ : L < bd ∨ z ≤ 1
      · unfold kwDrop ccKd kwL
        simp only [Bool.false_eq_true, if_false, if_pos g₃]
        unfold ccU
        simp (disch := omega) only [ccRd, if_neg, if_pos, Nat.reduceEqDiff, eq_self, true_and, and_true, false_and, and_false, if_true, if_false]
        exact ⟨e₁, Or.inr (Or.inr (Or.inl trivial))⟩
      · unfold kwDrop ccKd kwL
        simp only [Bool.false_eq_true, if_false, if_neg g₃]
        unfold ccU
        simp (disch := omega) only [ccRd, if_neg, if_pos, Nat.reduceEqDiff, eq_self, true_and, and_true, false_and, and_false, if_true, if_false]
        exact Or.inr (Or.inr (Or.inl trivial))
    · unfold kwDrop ccKd kwL
      simp only [if_true]
      unfold ccU
      simp (disch := omega) only [ccRd, if_neg, if_pos, Nat.reduceEqDiff, eq_self, true_and, and_true, false_and, and_false, if_true, if_false]
      exact ⟨e₁, Or.inr (Or.inl trivial)⟩
  · rw [h₆ j g₂] at e₂
    unfold kwL at e₂ ⊢
    simp (disch := omega) only [kwDrop_o, ccKd_o]
    exact ⟨e₁, e₂⟩
theorem kwF_d {m : mMi} {B bd L k a h z : Nat} {g : Bool} {C : Nat → Nat → Int32} (h₁ : kwF m B C) (h₂ : m 6 B 0 18 = N a) (h₃ : C 10 5 = N h) (h₄ : a < 1000) (h₅ : h < 40) : kwF (kwDrop m B bd L k a z g) B (ccKd C bd L k h z g) := by
  obtain ⟨e₁, a₁, c₁, e₂, e₃, e₄⟩ := h₁
  rw [h₂] at e₂
  rw [h₃] at e₃
  refine ⟨by simp (disch := omega) only [kwDrop_o, ccKd_o]; exact e₁, ?_⟩
  have f₁ : a ≤ h := by
    rw [ccNinj e₂ (by omega) (by omega), ccNinj e₃ (by omega) (by omega)]
    exact e₄.1
  cases g
  · refine ⟨a + 1, h + 1, ?_, ?_, by omega, by omega⟩
    · unfold kwDrop
      simp only [Bool.false_eq_true, if_false]
      by_cases g₃ : L < bd ∨ z ≤ 1
      · rw [if_pos g₃]
        simp (disch := omega) only [ccRd, if_neg, if_pos, Nat.reduceEqDiff, eq_self, true_and, and_true, false_and, and_false, if_true, if_false]
      · rw [if_neg g₃]
        simp (disch := omega) only [ccRd, if_neg, if_pos, Nat.reduceEqDiff, eq_self, true_and, and_true, false_and, and_false, if_true, if_false]
    · unfold ccKd
      simp only [Bool.false_eq_true, if_false]
      by_cases g₃ : L < bd ∨ z ≤ 1
      · rw [if_pos g₃]
        unfold ccU
        simp (disch := omega) only [if_neg, if_pos, Nat.reduceEqDiff, eq_self, true_and, and_true, false_and, and_false, if_true, if_false]
      · rw [if_neg g₃]
        unfold ccU
        simp (disch := omega) only [if_neg, if_pos, Nat.reduceEqDiff, eq_self, true_and, and_true, false_and, and_false, if_true, if_false]
  · refine ⟨a, h, ?_, ?_, f₁, by omega⟩
    · unfold kwDrop
      simp only [if_true]
      simp (disch := omega) only [ccRd, if_neg]
      exact h₂
    · unfold ccKd ccU
      simp only [if_true]
      simp (disch := omega) only [if_neg]
      exact h₃
theorem kwX_d {m : mMi} {B n t bd L k a h z : Nat} {g : Bool} {β : Nat → Int32} {C : Nat → Nat → Int32} (h₁ : kwX n t β m B C) (h₂ : m 6 B 0 18 = N a) (h₃ : C 10 5 = N h) (h₄ : a < 1000) (h₅ : h < 40) (h₆ : k < n) (h₇ : n ≤ 40) (h₈ : C 11 k = N z) (h₉ : z ≤ 9) : kwX n t β (kwDrop m B bd L k a z g) B (ccKd C bd L k h z g) := by
  obtain ⟨e₁, e₂, ⟨e₃, e₄⟩, e₅, e₆, e₇⟩ := h₁
  have f₁ : a = h := ccNinj (by rw [← h₂, e₃, h₃]) (by omega) (by omega)
  subst f₁
  refine ⟨fun u e g₁ g₂ g₃ => ?_, fun u g₁ => ?_, ?_, fun j g₁ => ?_, ?_, ?_⟩
  · simp (disch := omega) only [kwDrop_o, ccKd_o]
    exact e₁ u e g₁ g₂ g₃
  · simp (disch := omega) only [kwDrop_o, ccKd_o]
    exact e₂ u g₁
  · cases g
    · have c₁ : ccKd C bd L k a z false 10 5 = N (a + 1) := by
        unfold ccKd
        simp only [Bool.false_eq_true, if_false]
        by_cases g₃ : L < bd ∨ z ≤ 1
        · rw [if_pos g₃]
          unfold ccU
          simp (disch := omega) only [if_neg, if_pos, Nat.reduceEqDiff, eq_self, true_and, and_true, false_and, and_false, if_true, if_false]
        · rw [if_neg g₃]
          unfold ccU
          simp (disch := omega) only [if_neg, if_pos, Nat.reduceEqDiff, eq_self, true_and, and_true, false_and, and_false, if_true, if_false]
      have c₂ : kwDrop m B bd L k a z false 6 B 0 18 = N (a + 1) := by
        unfold kwDrop
        simp only [Bool.false_eq_true, if_false]
        by_cases g₃ : L < bd ∨ z ≤ 1
        · rw [if_pos g₃]
          simp (disch := omega) only [ccRd, if_neg, if_pos, Nat.reduceEqDiff, eq_self, true_and, and_true, false_and, and_false, if_true, if_false]
        · rw [if_neg g₃]
          simp (disch := omega) only [ccRd, if_neg, if_pos, Nat.reduceEqDiff, eq_self, true_and, and_true, false_and, and_false, if_true, if_false]
      refine ⟨by rw [c₁, c₂], fun h q₁ q₂ u q₃ => ?_⟩
      rw [c₁] at q₁
      have q₄ : a + 1 = h := ccNinj q₁ (by omega) (by omega)
      by_cases q₅ : u = a
      · subst q₅
        have c₃ : ccKd C bd L k u z false 14 u = N k := by
          unfold ccKd
          simp only [Bool.false_eq_true, if_false]
          by_cases g₃ : L < bd ∨ z ≤ 1
          · rw [if_pos g₃]
            unfold ccU
            simp (disch := omega) only [if_neg, if_pos, Nat.reduceEqDiff, eq_self, true_and, and_true, false_and, and_false, if_true, if_false]
          · rw [if_neg g₃]
            unfold ccU
            simp (disch := omega) only [if_neg, if_pos, Nat.reduceEqDiff, eq_self, true_and, and_true, false_and, and_false, if_true, if_false]
        have c₄ : kwDrop m B bd L k u z false 6 B 9 u = N k := by
          unfold kwDrop
          simp only [Bool.false_eq_true, if_false]
          by_cases g₃ : L < bd ∨ z ≤ 1
          · rw [if_pos g₃]
            simp (disch := omega) only [ccRd, if_neg, if_pos, Nat.reduceEqDiff, eq_self, true_and, and_true, false_and, and_false, if_true, if_false]
          · rw [if_neg g₃]
            simp (disch := omega) only [ccRd, if_neg, if_pos, Nat.reduceEqDiff, eq_self, true_and, and_true, false_and, and_false, if_true, if_false]
        rw [c₃, c₄]
      · rw [kwDrop_o (by omega), ccKd_o (by omega) (by omega) (by omega) (by omega) (by omega)]
        exact e₄ a h₃ (by omega) u (by omega)
    · refine ⟨?_, fun h q₁ q₂ u q₃ => ?_⟩
      · unfold kwDrop ccKd ccU
        simp only [if_true]
        simp (disch := omega) only [ccRd, if_neg]
        exact e₃
      · unfold ccKd ccU at q₁ ⊢
        unfold kwDrop
        simp only [if_true] at q₁ ⊢
        simp (disch := omega) only [ccRd, if_neg] at q₁ ⊢
        exact e₄ h q₁ q₂ u q₃
  · obtain ⟨f₁, z₁, y₁, f₂, f₃, f₄, f₅, f₆⟩ := e₅ j g₁
    by_cases g₂ : j = k
    · subst g₂
      have f₇ : z₁ = z := ccNinj (by rw [← f₂, h₈]) (by omega) (by omega)
      cases g
      · by_cases g₃ : L < bd ∨ z ≤ 1
        · unfold kwDrop ccKd
          simp only [Bool.false_eq_true, if_false, if_pos g₃]
          unfold ccU
          simp (disch := omega) only [ccRd, if_neg, Nat.reduceEqDiff, eq_self, true_and, and_true, false_and, and_false, if_true, if_false]
          exact ⟨f₁, z₁, y₁, f₂, f₃, f₄, f₅, f₆⟩
        · unfold kwDrop ccKd
          simp only [Bool.false_eq_true, if_false, if_neg g₃]
          unfold ccU
          simp (disch := omega) only [ccRd, if_neg, if_pos, Nat.reduceEqDiff, eq_self, true_and, and_true, false_and, and_false, if_true, if_false]
          subst f₇
          refine ⟨by rw [f₁], z₁ - 1, y₁ + 1, rfl, by rw [f₃, N_add], ?_, by omega, by omega⟩
          have e₀ : z₁ - 1 + (y₁ + 1) = z₁ + y₁ := by omega
          rw [e₀]
          exact f₄
      · unfold kwDrop ccKd
        simp only [if_true]
        unfold ccU
        simp (disch := omega) only [ccRd, if_neg, Nat.reduceEqDiff, eq_self, true_and, and_true, false_and, and_false, if_true, if_false]
        exact ⟨f₁, z₁, y₁, f₂, f₃, f₄, f₅, f₆⟩
    · simp (disch := omega) only [kwDrop_o, ccKd_o]
      exact ⟨f₁, z₁, y₁, f₂, f₃, f₄, f₅, f₆⟩
  · simp (disch := omega) only [kwDrop_o, ccKd_o]
    exact e₆
  · simp (disch := omega) only [kwDrop_o, ccKd_o]
    exact e₇
