/-! CALLS: card, top, weakest, shakiest. -/
theorem ccE29 {m : mMi} {rs : mRs} {i n h t k : Nat} {β wt : Nat → Int32} {s : Nat → Int32} (q : ccR ccX0 n β wt h t (m 0 i) s) (h₁ : k < n) (h₂ : n ≤ 40) : F29 i (N k) m rs = rI (s (9 + 6 * k)) m rs := by
  rcases (q.2.2.1 k h₁).2 with ⟨h₃, _⟩ | ⟨_, e₁, e₂⟩ | ⟨_, e₁, e₂⟩ | ⟨_, p, e₀, e₁, _, e₂⟩
  · cases h₃
  · unfold F29
    simp (disch := omega) only [true_and, and_true, false_and, and_false, if_true, if_false, ccIte, ccBi, ccBiX, ccBv, ccBvX, ccZ0, ccZ1, ccTZ, ccT0, ccT1, Bool.or_false, ccMckT, ccMckIn, ne_eq, not_true_eq_false, not_false_eq_true, if_pos, if_neg, reduceIte, eq_self, Bool.false_eq_true, Bool.true_eq_false, mix_N, N_add, N_mul, N_sub, N_div, ccMod, N_lt, N_le, N_eq, ccNm, ccMN, ccNm2, ccM2N, ccMM2, ccM2M, ccMlt, ccMle, ccNltM, ccNleM, ccM2lt, ccM2le, ccNlt2, ccNle2, Nat.reduceAdd, Nat.reduceMul, Nat.reduceSub, Nat.reduceLT, Nat.reduceLeDiff, Nat.reduceEqDiff, Nat.reduceDiv, Nat.reduceMod, e₁, e₂]
  · unfold F29
    simp (disch := omega) only [true_and, and_true, false_and, and_false, if_true, if_false, ccIte, ccBi, ccBiX, ccBv, ccBvX, ccZ0, ccZ1, ccTZ, ccT0, ccT1, Bool.or_false, ccMckT, ccMckIn, ne_eq, not_true_eq_false, not_false_eq_true, if_pos, if_neg, reduceIte, eq_self, Bool.false_eq_true, Bool.true_eq_false, mix_N, N_add, N_mul, N_sub, N_div, ccMod, N_lt, N_le, N_eq, ccNm, ccMN, ccNm2, ccM2N, ccMM2, ccM2M, ccMlt, ccMle, ccNltM, ccNleM, ccM2lt, ccM2le, ccNlt2, ccNle2, Nat.reduceAdd, Nat.reduceMul, Nat.reduceSub, Nat.reduceLT, Nat.reduceLeDiff, Nat.reduceEqDiff, Nat.reduceDiv, Nat.reduceMod, e₁, e₂]
  · rcases e₂ with ⟨e₃, e₄, e₅⟩ | ⟨e₃, e₄⟩
    · have f₃ : ∀ rs, F30 i (N k) m rs = rI (N 0) m rs := fun rs => by
        unfold F30
        by_cases y₁ : m 0 i 6 p = I (-1)
        · have y₂ : ccF (m 0 i) p = false := by unfold ccF; rw [y₁]; rfl
          simp (disch := omega) only [true_and, and_true, false_and, and_false, if_true, if_false, ccIte, ccBi, ccBiX, ccBv, ccBvX, ccZ0, ccZ1, ccTZ, ccT0, ccT1, Bool.or_false, ccMckT, ccMckIn, ne_eq, not_true_eq_false, not_false_eq_true, if_pos, if_neg, reduceIte, eq_self, Bool.false_eq_true, Bool.true_eq_false, mix_N, N_add, N_mul, N_sub, N_div, ccMod, N_lt, N_le, N_eq, ccNm, ccMN, ccNm2, ccM2N, ccMM2, ccM2M, ccMlt, ccMle, ccNltM, ccNleM, ccM2lt, ccM2le, ccNlt2, ccNle2, Nat.reduceAdd, Nat.reduceMul, Nat.reduceSub, Nat.reduceLT, Nat.reduceLeDiff, Nat.reduceEqDiff, Nat.reduceDiv, Nat.reduceMod, e₁, ccE52, y₂]
        · have y₂ : ccF (m 0 i) p = true := by unfold ccF; rw [decide_eq_false y₁]; rfl
          have y₃ : m 0 i 6 p ≠ N k := fun y₃ => by
            obtain ⟨a, z₁, z₂, z₃, z₄, _⟩ := q.2.1.2 p e₀ y₁
            rw [y₃] at z₂
            have z₅ : k = a := ccNinj z₂ (by omega) (by omega)
            rw [← z₅, e₃] at z₄
            exact absurd z₄ (by decide)
          simp (disch := omega) only [true_and, and_true, false_and, and_false, if_true, if_false, ccIte, ccBi, ccBiX, ccBv, ccBvX, ccZ0, ccZ1, ccTZ, ccT0, ccT1, Bool.or_false, ccMckT, ccMckIn, ne_eq, not_true_eq_false, not_false_eq_true, if_pos, if_neg, reduceIte, eq_self, Bool.false_eq_true, Bool.true_eq_false, mix_N, N_add, N_mul, N_sub, N_div, ccMod, N_lt, N_le, N_eq, ccNm, ccMN, ccNm2, ccM2N, ccMM2, ccM2M, ccMlt, ccMle, ccNltM, ccNleM, ccM2lt, ccM2le, ccNlt2, ccNle2, Nat.reduceAdd, Nat.reduceMul, Nat.reduceSub, Nat.reduceLT, Nat.reduceLeDiff, Nat.reduceEqDiff, Nat.reduceDiv, Nat.reduceMod, e₁, ccE52, y₂, y₃]
      unfold F29
      simp (disch := omega) only [true_and, and_true, false_and, and_false, if_true, if_false, ccIte, ccBi, ccBiX, ccBv, ccBvX, ccZ0, ccZ1, ccTZ, ccT0, ccT1, Bool.or_false, ccMckT, ccMckIn, ne_eq, not_true_eq_false, not_false_eq_true, if_pos, if_neg, reduceIte, eq_self, Bool.false_eq_true, Bool.true_eq_false, mix_N, N_add, N_mul, N_sub, N_div, ccMod, N_lt, N_le, N_eq, ccNm, ccMN, ccNm2, ccM2N, ccMM2, ccM2M, ccMlt, ccMle, ccNltM, ccNleM, ccM2lt, ccM2le, ccNlt2, ccNle2, Nat.reduceAdd, Nat.reduceMul, Nat.reduceSub, Nat.reduceLT, Nat.reduceLeDiff, Nat.reduceEqDiff, Nat.reduceDiv, Nat.reduceMod, e₁, f₃, e₃]
    · have e₅ : m 0 i 6 p ≠ I (-1) := by
        rw [e₄, ne_eq, ccNm (by omega)]
        exact fun h => h
      have f₃ : ∀ rs, F30 i (N k) m rs = rI (N 1) m rs := fun rs => by
        unfold F30
        have y₂ : ccF (m 0 i) p = true := by unfold ccF; rw [decide_eq_false e₅]; rfl
        simp (disch := omega) only [true_and, and_true, false_and, and_false, if_true, if_false, ccIte, ccBi, ccBiX, ccBv, ccBvX, ccZ0, ccZ1, ccTZ, ccT0, ccT1, Bool.or_false, ccMckT, ccMckIn, ne_eq, not_true_eq_false, not_false_eq_true, if_pos, if_neg, reduceIte, eq_self, Bool.false_eq_true, Bool.true_eq_false, mix_N, N_add, N_mul, N_sub, N_div, ccMod, N_lt, N_le, N_eq, ccNm, ccMN, ccNm2, ccM2N, ccMM2, ccM2M, ccMlt, ccMle, ccNltM, ccNleM, ccM2lt, ccM2le, ccNlt2, ccNle2, Nat.reduceAdd, Nat.reduceMul, Nat.reduceSub, Nat.reduceLT, Nat.reduceLeDiff, Nat.reduceEqDiff, Nat.reduceDiv, Nat.reduceMod, e₁, ccE52, y₂, e₄]
      unfold F29
      simp (disch := omega) only [true_and, and_true, false_and, and_false, if_true, if_false, ccIte, ccBi, ccBiX, ccBv, ccBvX, ccZ0, ccZ1, ccTZ, ccT0, ccT1, Bool.or_false, ccMckT, ccMckIn, ne_eq, not_true_eq_false, not_false_eq_true, if_pos, if_neg, reduceIte, eq_self, Bool.false_eq_true, Bool.true_eq_false, mix_N, N_add, N_mul, N_sub, N_div, ccMod, N_lt, N_le, N_eq, ccNm, ccMN, ccNm2, ccM2N, ccMM2, ccM2M, ccMlt, ccMle, ccNltM, ccNleM, ccM2lt, ccM2le, ccNlt2, ccNle2, Nat.reduceAdd, Nat.reduceMul, Nat.reduceSub, Nat.reduceLT, Nat.reduceLeDiff, Nat.reduceEqDiff, Nat.reduceDiv, Nat.reduceMod, e₁, f₃, e₃]
/-- a card lies somewhere, or doesn't -/
theorem ccCardF {n k : Nat} {β : Nat → Int32} {C : Nat → Nat → Int32} {s : Nat → Int32} (q₁ : ccRC ccX0 n β C s) (h₁ : k < n) : (∃ p, p < 96 ∧ C 13 k = N p ∧ s (10 + 6 * k) = N p ∧ ¬ s (9 + 6 * k) < N 2) ∨ (¬ N 0 ≤ C 13 k ∧ s (9 + 6 * k) < N 2) := by
  rcases (q₁ k h₁).2 with ⟨h₃, _⟩ | ⟨_, e₁, e₂⟩ | ⟨_, e₁, e₂⟩ | ⟨_, p, e₀, e₁, e₃, e₂⟩
  · cases h₃
  · refine Or.inr ⟨?_, ?_⟩
    · rw [e₁, ccNleM (by omega)]
      exact fun h => h
    · rw [e₂, N_lt (by omega) (by omega)]
      omega
  · refine Or.inr ⟨?_, ?_⟩
    · rw [e₁, ccNle2 (by omega)]
      exact fun h => h
    · rw [e₂, N_lt (by omega) (by omega)]
      omega
  · refine Or.inl ⟨p, e₀, e₁, e₃, ?_⟩
    rcases e₂ with ⟨e₂, _⟩ | ⟨e₂, _⟩
    · rw [e₂, N_lt (by omega) (by omega)]
      omega
    · rw [e₂, N_lt (by omega) (by omega)]
      omega
theorem ccOk_119 {B : Nat} {m : mMi} {x y : Int32} (h₁ : ccTop B m) : ccOk B (F119 x y) (F237 x y) [(1, 1), (2, 2), (3, 3)] m := by
  refine ccOk_card (b := N 0) h₁ (List.mem_cons_self) (List.mem_cons_of_mem _ List.mem_cons_self) (fun m rs => rfl) (fun m rs => rfl) (fun w l n bd lm dp cl β W k h₂ e₁ e₂ => ?_)
  refine ccOk_rng (c := 3) (b := N 0) h₁ (List.mem_cons_of_mem _ (List.mem_cons_of_mem _ List.mem_cons_self)) (by omega) (by omega) (by omega) (by omega) (fun m rs => rfl) (fun m rs => rfl) (fun a e₅ _ e₇ => ?_)
  obtain ⟨h, t, q₁, _⟩ := ccLd_R h₂
  have b₃ : n ≤ 40 := h₂.2.2.1.1.2.2.2.2.2.2.2
  have wt : m 1 0 4 k = N (W k) := h₂.2.2.1.2.2.2.2.2.2.1 k e₂
  have wu : m 4 0 2 k = N (W k) := h₂.2.2.1.2.2.2.2.2.2.2.1 k e₂
  obtain ⟨r₁, r₂, _⟩ := (q₁.2.2.1 k e₂).1
  have f₁ : ∀ rs, F29 0 (N k) m rs = rI (m 4 0 3 (9 + 6 * k)) m rs := fun rs => ccE29 q₁ e₂ b₃
  have k₁ : k < 40 := by omega
  have u₀ := ccM0_r (m := m) (j := 3) (p := 8 + 6 * k) (by omega)
  have u₁ := ccM0_r (m := m) (j := 3) (p := 9 + 6 * k) (by omega)
  have u₂ := ccM0_r (m := m) (j := 3) (p := 10 + 6 * k) (by omega)
  have u₃ := ccM0_r (m := m) (j := 3) (p := 11 + 6 * k) (by omega)
  have u₄ := ccM0_r (m := m) (j := 2) (p := k) (by omega)
  have e₈ : a = 0 ∨ a = 1 ∨ a = 2 ∨ a = 3 ∨ a = 4 ∨ a = 5 := by omega
  rcases ccCardF q₁.2.2.1 e₂ with ⟨p, p₁, p₂, p₃, p₄⟩ | ⟨p₂, p₄⟩
  · have p₅ : N 0 ≤ N p := by rw [N_le (by omega) (by omega)]; omega
    rcases e₈ with y₁ | y₁ | y₁ | y₁ | y₁ | y₁ <;> subst y₁
    · refine ccOk_r0 (v := m 0 0 11 k) h₁ (fun rs => ?_) (fun rs => ?_)
      · rw [e₁, e₅, ccTw119_0]
        simp (disch := omega) only [true_and, and_true, false_and, and_false, if_true, if_false, ccIte, ccBi, ccBiX, ccBv, ccBvX, ccZ0, ccZ1, ccTZ, ccT0, ccT1, Bool.or_false, ccMckT, ccMckIn, ne_eq, not_true_eq_false, not_false_eq_true, if_pos, if_neg, reduceIte, eq_self, Bool.false_eq_true, Bool.true_eq_false, mix_N, N_add, N_mul, N_sub, N_div, ccMod, N_lt, N_le, N_eq, ccNm, ccMN, ccNm2, ccM2N, ccMM2, ccM2M, ccMlt, ccMle, ccNltM, ccNleM, ccM2lt, ccM2le, ccNlt2, ccNle2, Nat.reduceAdd, Nat.reduceMul, Nat.reduceSub, Nat.reduceLT, Nat.reduceLeDiff, Nat.reduceEqDiff, Nat.reduceDiv, Nat.reduceMod]
      · rw [e₁, e₅, ccE204b k₁, u₁, ccBi, ccIte, if_neg p₄, ccTw237_0]
        simp (disch := omega) only [ccE204a, u₀, r₁, true_and, and_true, false_and, and_false, if_true, if_false, ccIte, ccBi, ccBiX, ccBv, ccBvX, ccZ0, ccZ1, ccTZ, ccT0, ccT1, Bool.or_false, ccMckT, ccMckIn, ne_eq, not_true_eq_false, not_false_eq_true, if_pos, if_neg, reduceIte, eq_self, Bool.false_eq_true, Bool.true_eq_false, mix_N, N_add, N_mul, N_sub, N_div, ccMod, N_lt, N_le, N_eq, ccNm, ccMN, ccNm2, ccM2N, ccMM2, ccM2M, ccMlt, ccMle, ccNltM, ccNleM, ccM2lt, ccM2le, ccNlt2, ccNle2, Nat.reduceAdd, Nat.reduceMul, Nat.reduceSub, Nat.reduceLT, Nat.reduceLeDiff, Nat.reduceEqDiff, Nat.reduceDiv, Nat.reduceMod]
    · refine ccOk_r0 (v := N (W k)) h₁ (fun rs => ?_) (fun rs => ?_)
      · rw [e₁, e₅, ccTw119_1]
        simp (disch := omega) only [wt, true_and, and_true, false_and, and_false, if_true, if_false, ccIte, ccBi, ccBiX, ccBv, ccBvX, ccZ0, ccZ1, ccTZ, ccT0, ccT1, Bool.or_false, ccMckT, ccMckIn, ne_eq, not_true_eq_false, not_false_eq_true, if_pos, if_neg, reduceIte, eq_self, Bool.false_eq_true, Bool.true_eq_false, mix_N, N_add, N_mul, N_sub, N_div, ccMod, N_lt, N_le, N_eq, ccNm, ccMN, ccNm2, ccM2N, ccMM2, ccM2M, ccMlt, ccMle, ccNltM, ccNleM, ccM2lt, ccM2le, ccNlt2, ccNle2, Nat.reduceAdd, Nat.reduceMul, Nat.reduceSub, Nat.reduceLT, Nat.reduceLeDiff, Nat.reduceEqDiff, Nat.reduceDiv, Nat.reduceMod]
      · rw [e₁, e₅, ccE204b k₁, u₁, ccBi, ccIte, if_neg p₄, ccTw237_1]
        simp (disch := omega) only [u₄, wu, true_and, and_true, false_and, and_false, if_true, if_false, ccIte, ccBi, ccBiX, ccBv, ccBvX, ccZ0, ccZ1, ccTZ, ccT0, ccT1, Bool.or_false, ccMckT, ccMckIn, ne_eq, not_true_eq_false, not_false_eq_true, if_pos, if_neg, reduceIte, eq_self, Bool.false_eq_true, Bool.true_eq_false, mix_N, N_add, N_mul, N_sub, N_div, ccMod, N_lt, N_le, N_eq, ccNm, ccMN, ccNm2, ccM2N, ccMM2, ccM2M, ccMlt, ccMle, ccNltM, ccNleM, ccM2lt, ccM2le, ccNlt2, ccNle2, Nat.reduceAdd, Nat.reduceMul, Nat.reduceSub, Nat.reduceLT, Nat.reduceLeDiff, Nat.reduceEqDiff, Nat.reduceDiv, Nat.reduceMod]
    · refine ccOk_r0 (v := m 4 0 3 (9 + 6 * k)) h₁ (fun rs => ?_) (fun rs => ?_)
      · rw [e₁, e₅, ccTw119_2]
        simp (disch := omega) only [f₁, true_and, and_true, false_and, and_false, if_true, if_false, ccIte, ccBi, ccBiX, ccBv, ccBvX, ccZ0, ccZ1, ccTZ, ccT0, ccT1, Bool.or_false, ccMckT, ccMckIn, ne_eq, not_true_eq_false, not_false_eq_true, if_pos, if_neg, reduceIte, eq_self, Bool.false_eq_true, Bool.true_eq_false, mix_N, N_add, N_mul, N_sub, N_div, ccMod, N_lt, N_le, N_eq, ccNm, ccMN, ccNm2, ccM2N, ccMM2, ccM2M, ccMlt, ccMle, ccNltM, ccNleM, ccM2lt, ccM2le, ccNlt2, ccNle2, Nat.reduceAdd, Nat.reduceMul, Nat.reduceSub, Nat.reduceLT, Nat.reduceLeDiff, Nat.reduceEqDiff, Nat.reduceDiv, Nat.reduceMod]
      · rw [e₁, e₅, ccE204b k₁, u₁, ccBi, ccIte, if_neg p₄, ccTw237_2]
        simp (disch := omega) only [ccE204b, u₁, true_and, and_true, false_and, and_false, if_true, if_false, ccIte, ccBi, ccBiX, ccBv, ccBvX, ccZ0, ccZ1, ccTZ, ccT0, ccT1, Bool.or_false, ccMckT, ccMckIn, ne_eq, not_true_eq_false, not_false_eq_true, if_pos, if_neg, reduceIte, eq_self, Bool.false_eq_true, Bool.true_eq_false, mix_N, N_add, N_mul, N_sub, N_div, ccMod, N_lt, N_le, N_eq, ccNm, ccMN, ccNm2, ccM2N, ccMM2, ccM2M, ccMlt, ccMle, ccNltM, ccNleM, ccM2lt, ccM2le, ccNlt2, ccNle2, Nat.reduceAdd, Nat.reduceMul, Nat.reduceSub, Nat.reduceLT, Nat.reduceLeDiff, Nat.reduceEqDiff, Nat.reduceDiv, Nat.reduceMod]
    · refine ccOk_r0 (v := N (p / 12)) h₁ (fun rs => ?_) (fun rs => ?_)
      · rw [e₁, e₅, ccTw119_3]
        simp (disch := omega) only [p₂, p₅, ccE111, true_and, and_true, false_and, and_false, if_true, if_false, ccIte, ccBi, ccBiX, ccBv, ccBvX, ccZ0, ccZ1, ccTZ, ccT0, ccT1, Bool.or_false, ccMckT, ccMckIn, ne_eq, not_true_eq_false, not_false_eq_true, if_pos, if_neg, reduceIte, eq_self, Bool.false_eq_true, Bool.true_eq_false, mix_N, N_add, N_mul, N_sub, N_div, ccMod, N_lt, N_le, N_eq, ccNm, ccMN, ccNm2, ccM2N, ccMM2, ccM2M, ccMlt, ccMle, ccNltM, ccNleM, ccM2lt, ccM2le, ccNlt2, ccNle2, Nat.reduceAdd, Nat.reduceMul, Nat.reduceSub, Nat.reduceLT, Nat.reduceLeDiff, Nat.reduceEqDiff, Nat.reduceDiv, Nat.reduceMod]
      · rw [e₁, e₅, ccE204b k₁, u₁, ccBi, ccIte, if_neg p₄, ccTw237_3]
        simp (disch := omega) only [ccE204c, u₂, p₃, true_and, and_true, false_and, and_false, if_true, if_false, ccIte, ccBi, ccBiX, ccBv, ccBvX, ccZ0, ccZ1, ccTZ, ccT0, ccT1, Bool.or_false, ccMckT, ccMckIn, ne_eq, not_true_eq_false, not_false_eq_true, if_pos, if_neg, reduceIte, eq_self, Bool.false_eq_true, Bool.true_eq_false, mix_N, N_add, N_mul, N_sub, N_div, ccMod, N_lt, N_le, N_eq, ccNm, ccMN, ccNm2, ccM2N, ccMM2, ccM2M, ccMlt, ccMle, ccNltM, ccNleM, ccM2lt, ccM2le, ccNlt2, ccNle2, Nat.reduceAdd, Nat.reduceMul, Nat.reduceSub, Nat.reduceLT, Nat.reduceLeDiff, Nat.reduceEqDiff, Nat.reduceDiv, Nat.reduceMod]
    · refine ccOk_r0 (v := N (p % 12)) h₁ (fun rs => ?_) (fun rs => ?_)
      · rw [e₁, e₅, ccTw119_4]
        simp (disch := omega) only [p₂, p₅, ccE112, true_and, and_true, false_and, and_false, if_true, if_false, ccIte, ccBi, ccBiX, ccBv, ccBvX, ccZ0, ccZ1, ccTZ, ccT0, ccT1, Bool.or_false, ccMckT, ccMckIn, ne_eq, not_true_eq_false, not_false_eq_true, if_pos, if_neg, reduceIte, eq_self, Bool.false_eq_true, Bool.true_eq_false, mix_N, N_add, N_mul, N_sub, N_div, ccMod, N_lt, N_le, N_eq, ccNm, ccMN, ccNm2, ccM2N, ccMM2, ccM2M, ccMlt, ccMle, ccNltM, ccNleM, ccM2lt, ccM2le, ccNlt2, ccNle2, Nat.reduceAdd, Nat.reduceMul, Nat.reduceSub, Nat.reduceLT, Nat.reduceLeDiff, Nat.reduceEqDiff, Nat.reduceDiv, Nat.reduceMod]
      · rw [e₁, e₅, ccE204b k₁, u₁, ccBi, ccIte, if_neg p₄, ccTw237_4]
        simp (disch := omega) only [ccE204c, u₂, p₃, true_and, and_true, false_and, and_false, if_true, if_false, ccIte, ccBi, ccBiX, ccBv, ccBvX, ccZ0, ccZ1, ccTZ, ccT0, ccT1, Bool.or_false, ccMckT, ccMckIn, ne_eq, not_true_eq_false, not_false_eq_true, if_pos, if_neg, reduceIte, eq_self, Bool.false_eq_true, Bool.true_eq_false, mix_N, N_add, N_mul, N_sub, N_div, ccMod, N_lt, N_le, N_eq, ccNm, ccMN, ccNm2, ccM2N, ccMM2, ccM2M, ccMlt, ccMle, ccNltM, ccNleM, ccM2lt, ccM2le, ccNlt2, ccNle2, Nat.reduceAdd, Nat.reduceMul, Nat.reduceSub, Nat.reduceLT, Nat.reduceLeDiff, Nat.reduceEqDiff, Nat.reduceDiv, Nat.reduceMod]
    · refine ccOk_r0 (v := m 0 0 12 k) h₁ (fun rs => ?_) (fun rs => ?_)
      · rw [e₁, e₅, ccTw119_5]
        simp (disch := omega) only [true_and, and_true, false_and, and_false, if_true, if_false, ccIte, ccBi, ccBiX, ccBv, ccBvX, ccZ0, ccZ1, ccTZ, ccT0, ccT1, Bool.or_false, ccMckT, ccMckIn, ne_eq, not_true_eq_false, not_false_eq_true, if_pos, if_neg, reduceIte, eq_self, Bool.false_eq_true, Bool.true_eq_false, mix_N, N_add, N_mul, N_sub, N_div, ccMod, N_lt, N_le, N_eq, ccNm, ccMN, ccNm2, ccM2N, ccMM2, ccM2M, ccMlt, ccMle, ccNltM, ccNleM, ccM2lt, ccM2le, ccNlt2, ccNle2, Nat.reduceAdd, Nat.reduceMul, Nat.reduceSub, Nat.reduceLT, Nat.reduceLeDiff, Nat.reduceEqDiff, Nat.reduceDiv, Nat.reduceMod]
      · rw [e₁, e₅, ccE204b k₁, u₁, ccBi, ccIte, if_neg p₄, ccTw237_5]
        simp (disch := omega) only [ccE204d, u₃, r₂, true_and, and_true, false_and, and_false, if_true, if_false, ccIte, ccBi, ccBiX, ccBv, ccBvX, ccZ0, ccZ1, ccTZ, ccT0, ccT1, Bool.or_false, ccMckT, ccMckIn, ne_eq, not_true_eq_false, not_false_eq_true, if_pos, if_neg, reduceIte, eq_self, Bool.false_eq_true, Bool.true_eq_false, mix_N, N_add, N_mul, N_sub, N_div, ccMod, N_lt, N_le, N_eq, ccNm, ccMN, ccNm2, ccM2N, ccMM2, ccM2M, ccMlt, ccMle, ccNltM, ccNleM, ccM2lt, ccM2le, ccNlt2, ccNle2, Nat.reduceAdd, Nat.reduceMul, Nat.reduceSub, Nat.reduceLT, Nat.reduceLeDiff, Nat.reduceEqDiff, Nat.reduceDiv, Nat.reduceMod]
  · rcases e₈ with y₁ | y₁ | y₁ | y₁ | y₁ | y₁ <;> subst y₁
    · refine ccOk_r0 (v := m 0 0 11 k) h₁ (fun rs => ?_) (fun rs => ?_)
      · rw [e₁, e₅, ccTw119_0]
        simp (disch := omega) only [true_and, and_true, false_and, and_false, if_true, if_false, ccIte, ccBi, ccBiX, ccBv, ccBvX, ccZ0, ccZ1, ccTZ, ccT0, ccT1, Bool.or_false, ccMckT, ccMckIn, ne_eq, not_true_eq_false, not_false_eq_true, if_pos, if_neg, reduceIte, eq_self, Bool.false_eq_true, Bool.true_eq_false, mix_N, N_add, N_mul, N_sub, N_div, ccMod, N_lt, N_le, N_eq, ccNm, ccMN, ccNm2, ccM2N, ccMM2, ccM2M, ccMlt, ccMle, ccNltM, ccNleM, ccM2lt, ccM2le, ccNlt2, ccNle2, Nat.reduceAdd, Nat.reduceMul, Nat.reduceSub, Nat.reduceLT, Nat.reduceLeDiff, Nat.reduceEqDiff, Nat.reduceDiv, Nat.reduceMod]
      · rw [e₁, e₅, ccE204b k₁, u₁, ccBi, ccIte, if_pos p₄, ccTw237_0]
        simp (disch := omega) only [ccE204a, u₀, r₁, true_and, and_true, false_and, and_false, if_true, if_false, ccIte, ccBi, ccBiX, ccBv, ccBvX, ccZ0, ccZ1, ccTZ, ccT0, ccT1, Bool.or_false, ccMckT, ccMckIn, ne_eq, not_true_eq_false, not_false_eq_true, if_pos, if_neg, reduceIte, eq_self, Bool.false_eq_true, Bool.true_eq_false, mix_N, N_add, N_mul, N_sub, N_div, ccMod, N_lt, N_le, N_eq, ccNm, ccMN, ccNm2, ccM2N, ccMM2, ccM2M, ccMlt, ccMle, ccNltM, ccNleM, ccM2lt, ccM2le, ccNlt2, ccNle2, Nat.reduceAdd, Nat.reduceMul, Nat.reduceSub, Nat.reduceLT, Nat.reduceLeDiff, Nat.reduceEqDiff, Nat.reduceDiv, Nat.reduceMod]
    · refine ccOk_r0 (v := N (W k)) h₁ (fun rs => ?_) (fun rs => ?_)
      · rw [e₁, e₅, ccTw119_1]
        simp (disch := omega) only [wt, true_and, and_true, false_and, and_false, if_true, if_false, ccIte, ccBi, ccBiX, ccBv, ccBvX, ccZ0, ccZ1, ccTZ, ccT0, ccT1, Bool.or_false, ccMckT, ccMckIn, ne_eq, not_true_eq_false, not_false_eq_true, if_pos, if_neg, reduceIte, eq_self, Bool.false_eq_true, Bool.true_eq_false, mix_N, N_add, N_mul, N_sub, N_div, ccMod, N_lt, N_le, N_eq, ccNm, ccMN, ccNm2, ccM2N, ccMM2, ccM2M, ccMlt, ccMle, ccNltM, ccNleM, ccM2lt, ccM2le, ccNlt2, ccNle2, Nat.reduceAdd, Nat.reduceMul, Nat.reduceSub, Nat.reduceLT, Nat.reduceLeDiff, Nat.reduceEqDiff, Nat.reduceDiv, Nat.reduceMod]
      · rw [e₁, e₅, ccE204b k₁, u₁, ccBi, ccIte, if_pos p₄, ccTw237_1]
        simp (disch := omega) only [u₄, wu, true_and, and_true, false_and, and_false, if_true, if_false, ccIte, ccBi, ccBiX, ccBv, ccBvX, ccZ0, ccZ1, ccTZ, ccT0, ccT1, Bool.or_false, ccMckT, ccMckIn, ne_eq, not_true_eq_false, not_false_eq_true, if_pos, if_neg, reduceIte, eq_self, Bool.false_eq_true, Bool.true_eq_false, mix_N, N_add, N_mul, N_sub, N_div, ccMod, N_lt, N_le, N_eq, ccNm, ccMN, ccNm2, ccM2N, ccMM2, ccM2M, ccMlt, ccMle, ccNltM, ccNleM, ccM2lt, ccM2le, ccNlt2, ccNle2, Nat.reduceAdd, Nat.reduceMul, Nat.reduceSub, Nat.reduceLT, Nat.reduceLeDiff, Nat.reduceEqDiff, Nat.reduceDiv, Nat.reduceMod]
    · refine ccOk_r0 (v := m 4 0 3 (9 + 6 * k)) h₁ (fun rs => ?_) (fun rs => ?_)
      · rw [e₁, e₅, ccTw119_2]
        simp (disch := omega) only [f₁, true_and, and_true, false_and, and_false, if_true, if_false, ccIte, ccBi, ccBiX, ccBv, ccBvX, ccZ0, ccZ1, ccTZ, ccT0, ccT1, Bool.or_false, ccMckT, ccMckIn, ne_eq, not_true_eq_false, not_false_eq_true, if_pos, if_neg, reduceIte, eq_self, Bool.false_eq_true, Bool.true_eq_false, mix_N, N_add, N_mul, N_sub, N_div, ccMod, N_lt, N_le, N_eq, ccNm, ccMN, ccNm2, ccM2N, ccMM2, ccM2M, ccMlt, ccMle, ccNltM, ccNleM, ccM2lt, ccM2le, ccNlt2, ccNle2, Nat.reduceAdd, Nat.reduceMul, Nat.reduceSub, Nat.reduceLT, Nat.reduceLeDiff, Nat.reduceEqDiff, Nat.reduceDiv, Nat.reduceMod]
      · rw [e₁, e₅, ccE204b k₁, u₁, ccBi, ccIte, if_pos p₄, ccTw237_2]
        simp (disch := omega) only [ccE204b, u₁, true_and, and_true, false_and, and_false, if_true, if_false, ccIte, ccBi, ccBiX, ccBv, ccBvX, ccZ0, ccZ1, ccTZ, ccT0, ccT1, Bool.or_false, ccMckT, ccMckIn, ne_eq, not_true_eq_false, not_false_eq_true, if_pos, if_neg, reduceIte, eq_self, Bool.false_eq_true, Bool.true_eq_false, mix_N, N_add, N_mul, N_sub, N_div, ccMod, N_lt, N_le, N_eq, ccNm, ccMN, ccNm2, ccM2N, ccMM2, ccM2M, ccMlt, ccMle, ccNltM, ccNleM, ccM2lt, ccM2le, ccNlt2, ccNle2, Nat.reduceAdd, Nat.reduceMul, Nat.reduceSub, Nat.reduceLT, Nat.reduceLeDiff, Nat.reduceEqDiff, Nat.reduceDiv, Nat.reduceMod]
    · refine ccOk_r0 (v := I (-1)) h₁ (fun rs => ?_) (fun rs => ?_)
      · rw [e₁, e₅, ccTw119_3]
        simp (disch := omega) only [p₂, true_and, and_true, false_and, and_false, if_true, if_false, ccIte, ccBi, ccBiX, ccBv, ccBvX, ccZ0, ccZ1, ccTZ, ccT0, ccT1, Bool.or_false, ccMckT, ccMckIn, ne_eq, not_true_eq_false, not_false_eq_true, if_pos, if_neg, reduceIte, eq_self, Bool.false_eq_true, Bool.true_eq_false, mix_N, N_add, N_mul, N_sub, N_div, ccMod, N_lt, N_le, N_eq, ccNm, ccMN, ccNm2, ccM2N, ccMM2, ccM2M, ccMlt, ccMle, ccNltM, ccNleM, ccM2lt, ccM2le, ccNlt2, ccNle2, Nat.reduceAdd, Nat.reduceMul, Nat.reduceSub, Nat.reduceLT, Nat.reduceLeDiff, Nat.reduceEqDiff, Nat.reduceDiv, Nat.reduceMod]
      · rw [e₁, e₅, ccE204b k₁, u₁, ccBi, ccIte, if_pos p₄, ccTw237_3]
        simp (disch := omega) only [true_and, and_true, false_and, and_false, if_true, if_false, ccIte, ccBi, ccBiX, ccBv, ccBvX, ccZ0, ccZ1, ccTZ, ccT0, ccT1, Bool.or_false, ccMckT, ccMckIn, ne_eq, not_true_eq_false, not_false_eq_true, if_pos, if_neg, reduceIte, eq_self, Bool.false_eq_true, Bool.true_eq_false, mix_N, N_add, N_mul, N_sub, N_div, ccMod, N_lt, N_le, N_eq, ccNm, ccMN, ccNm2, ccM2N, ccMM2, ccM2M, ccMlt, ccMle, ccNltM, ccNleM, ccM2lt, ccM2le, ccNlt2, ccNle2, Nat.reduceAdd, Nat.reduceMul, Nat.reduceSub, Nat.reduceLT, Nat.reduceLeDiff, Nat.reduceEqDiff, Nat.reduceDiv, Nat.reduceMod]
    · refine ccOk_r0 (v := I (-1)) h₁ (fun rs => ?_) (fun rs => ?_)
      · rw [e₁, e₅, ccTw119_4]
        simp (disch := omega) only [p₂, true_and, and_true, false_and, and_false, if_true, if_false, ccIte, ccBi, ccBiX, ccBv, ccBvX, ccZ0, ccZ1, ccTZ, ccT0, ccT1, Bool.or_false, ccMckT, ccMckIn, ne_eq, not_true_eq_false, not_false_eq_true, if_pos, if_neg, reduceIte, eq_self, Bool.false_eq_true, Bool.true_eq_false, mix_N, N_add, N_mul, N_sub, N_div, ccMod, N_lt, N_le, N_eq, ccNm, ccMN, ccNm2, ccM2N, ccMM2, ccM2M, ccMlt, ccMle, ccNltM, ccNleM, ccM2lt, ccM2le, ccNlt2, ccNle2, Nat.reduceAdd, Nat.reduceMul, Nat.reduceSub, Nat.reduceLT, Nat.reduceLeDiff, Nat.reduceEqDiff, Nat.reduceDiv, Nat.reduceMod]
      · rw [e₁, e₅, ccE204b k₁, u₁, ccBi, ccIte, if_pos p₄, ccTw237_4]
        simp (disch := omega) only [true_and, and_true, false_and, and_false, if_true, if_false, ccIte, ccBi, ccBiX, ccBv, ccBvX, ccZ0, ccZ1, ccTZ, ccT0, ccT1, Bool.or_false, ccMckT, ccMckIn, ne_eq, not_true_eq_false, not_false_eq_true, if_pos, if_neg, reduceIte, eq_self, Bool.false_eq_true, Bool.true_eq_false, mix_N, N_add, N_mul, N_sub, N_div, ccMod, N_lt, N_le, N_eq, ccNm, ccMN, ccNm2, ccM2N, ccMM2, ccM2M, ccMlt, ccMle, ccNltM, ccNleM, ccM2lt, ccM2le, ccNlt2, ccNle2, Nat.reduceAdd, Nat.reduceMul, Nat.reduceSub, Nat.reduceLT, Nat.reduceLeDiff, Nat.reduceEqDiff, Nat.reduceDiv, Nat.reduceMod]
    · refine ccOk_r0 (v := m 0 0 12 k) h₁ (fun rs => ?_) (fun rs => ?_)
      · rw [e₁, e₅, ccTw119_5]
        simp (disch := omega) only [true_and, and_true, false_and, and_false, if_true, if_false, ccIte, ccBi, ccBiX, ccBv, ccBvX, ccZ0, ccZ1, ccTZ, ccT0, ccT1, Bool.or_false, ccMckT, ccMckIn, ne_eq, not_true_eq_false, not_false_eq_true, if_pos, if_neg, reduceIte, eq_self, Bool.false_eq_true, Bool.true_eq_false, mix_N, N_add, N_mul, N_sub, N_div, ccMod, N_lt, N_le, N_eq, ccNm, ccMN, ccNm2, ccM2N, ccMM2, ccM2M, ccMlt, ccMle, ccNltM, ccNleM, ccM2lt, ccM2le, ccNlt2, ccNle2, Nat.reduceAdd, Nat.reduceMul, Nat.reduceSub, Nat.reduceLT, Nat.reduceLeDiff, Nat.reduceEqDiff, Nat.reduceDiv, Nat.reduceMod]
      · rw [e₁, e₅, ccE204b k₁, u₁, ccBi, ccIte, if_pos p₄, ccTw237_5]
        simp (disch := omega) only [ccE204d, u₃, r₂, true_and, and_true, false_and, and_false, if_true, if_false, ccIte, ccBi, ccBiX, ccBv, ccBvX, ccZ0, ccZ1, ccTZ, ccT0, ccT1, Bool.or_false, ccMckT, ccMckIn, ne_eq, not_true_eq_false, not_false_eq_true, if_pos, if_neg, reduceIte, eq_self, Bool.false_eq_true, Bool.true_eq_false, mix_N, N_add, N_mul, N_sub, N_div, ccMod, N_lt, N_le, N_eq, ccNm, ccMN, ccNm2, ccM2N, ccMM2, ccM2M, ccMlt, ccMle, ccNltM, ccNleM, ccM2lt, ccM2le, ccNlt2, ccNle2, Nat.reduceAdd, Nat.reduceMul, Nat.reduceSub, Nat.reduceLT, Nat.reduceLeDiff, Nat.reduceEqDiff, Nat.reduceDiv, Nat.reduceMod]
/-! the highest level -/
def ccTopv (f : Nat → Bool) : Nat → Nat → Int32 → Int32
  | 0, _, x => x
  | d + 1, p, x => ccTopv f d (p + 1) (if f p = true then N (p / 12) else x)
theorem ccL129 {m : mMi} : ∀ d p f x rs, p + d = 96 → F129_8 (f + d + 1) x (N p) m rs = rI (ccTopv (ccP (m 0 0)) d p x) m rs := by
  intro d
  induction d with
  | zero =>
    intro p f x rs g₁
    rw [ccL129_8]
    simp (disch := omega) only [true_and, and_true, false_and, and_false, if_true, if_false, ccIte, ccBi, ccBiX, ccBv, ccBvX, ccZ0, ccZ1, ccTZ, ccT0, ccT1, Bool.or_false, ccMckT, ccMckIn, ne_eq, not_true_eq_false, not_false_eq_true, if_pos, if_neg, reduceIte, eq_self, Bool.false_eq_true, Bool.true_eq_false, mix_N, N_add, N_mul, N_sub, N_div, ccMod, N_lt, N_le, N_eq, ccNm, ccMN, ccNm2, ccM2N, ccMM2, ccM2M, ccMlt, ccMle, ccNltM, ccNleM, ccM2lt, ccM2le, ccNlt2, ccNle2, Nat.reduceAdd, Nat.reduceMul, Nat.reduceSub, Nat.reduceLT, Nat.reduceLeDiff, Nat.reduceEqDiff, Nat.reduceDiv, Nat.reduceMod]
    rfl
  | succ d i₁ =>
    intro p f x rs g₁
    have e₁ : f + (d + 1) + 1 = f + d + 1 + 1 := by omega
    have e₂ := i₁ (p + 1) f (if ccP (m 0 0) p = true then N (p / 12) else x) rs (by omega)
    rw [e₁, ccL129_8]
    show _ = rI (ccTopv (ccP (m 0 0)) d (p + 1) (if ccP (m 0 0) p = true then N (p / 12) else x)) m rs
    rw [← e₂]
    cases g₂ : ccP (m 0 0) p <;> simp (disch := omega) only [ccE51, ccE111, g₂, true_and, and_true, false_and, and_false, if_true, if_false, ccIte, ccBi, ccBiX, ccBv, ccBvX, ccZ0, ccZ1, ccTZ, ccT0, ccT1, Bool.or_false, ccMckT, ccMckIn, ne_eq, not_true_eq_false, not_false_eq_true, if_pos, if_neg, reduceIte, eq_self, Bool.false_eq_true, Bool.true_eq_false, mix_N, N_add, N_mul, N_sub, N_div, ccMod, N_lt, N_le, N_eq, ccNm, ccMN, ccNm2, ccM2N, ccMM2, ccM2M, ccMlt, ccMle, ccNltM, ccNleM, ccM2lt, ccM2le, ccNlt2, ccNle2, Nat.reduceAdd, Nat.reduceMul, Nat.reduceSub, Nat.reduceLT, Nat.reduceLeDiff, Nat.reduceEqDiff, Nat.reduceDiv, Nat.reduceMod]
theorem ccL250 {m : mMi} {C : Nat → Nat → Int32} (q : ccRA C (m 4 0 3)) : ∀ d p f x rs, p + d = 96 → F250_13 (f + d + 1) x (N p) m rs = rI (ccTopv (ccP C) d p x) m rs := by
  intro d
  induction d with
  | zero =>
    intro p f x rs g₁
    rw [ccL250_13]
    simp (disch := omega) only [true_and, and_true, false_and, and_false, if_true, if_false, ccIte, ccBi, ccBiX, ccBv, ccBvX, ccZ0, ccZ1, ccTZ, ccT0, ccT1, Bool.or_false, ccMckT, ccMckIn, ne_eq, not_true_eq_false, not_false_eq_true, if_pos, if_neg, reduceIte, eq_self, Bool.false_eq_true, Bool.true_eq_false, mix_N, N_add, N_mul, N_sub, N_div, ccMod, N_lt, N_le, N_eq, ccNm, ccMN, ccNm2, ccM2N, ccMM2, ccM2M, ccMlt, ccMle, ccNltM, ccNleM, ccM2lt, ccM2le, ccNlt2, ccNle2, Nat.reduceAdd, Nat.reduceMul, Nat.reduceSub, Nat.reduceLT, Nat.reduceLeDiff, Nat.reduceEqDiff, Nat.reduceDiv, Nat.reduceMod]
    rfl
  | succ d i₁ =>
    intro p f x rs g₁
    have e₁ : f + (d + 1) + 1 = f + d + 1 + 1 := by omega
    have e₂ := i₁ (p + 1) f (if ccP C p = true then N (p / 12) else x) rs (by omega)
    have e₃ := (q p (by omega)).1
    rw [e₁, ccL250_13]
    show _ = rI (ccTopv (ccP C) d (p + 1) (if ccP C p = true then N (p / 12) else x)) m rs
    rw [← e₂]
    by_cases g₂ : C 2 p = I (-1)
    · have g₃ : ccP C p = false := by unfold ccP; rw [g₂]; rfl
      simp (disch := omega) only [ccE201a, e₃, g₂, g₃, true_and, and_true, false_and, and_false, if_true, if_false, ccIte, ccBi, ccBiX, ccBv, ccBvX, ccZ0, ccZ1, ccTZ, ccT0, ccT1, Bool.or_false, ccMckT, ccMckIn, ne_eq, not_true_eq_false, not_false_eq_true, if_pos, if_neg, reduceIte, eq_self, Bool.false_eq_true, Bool.true_eq_false, mix_N, N_add, N_mul, N_sub, N_div, ccMod, N_lt, N_le, N_eq, ccNm, ccMN, ccNm2, ccM2N, ccMM2, ccM2M, ccMlt, ccMle, ccNltM, ccNleM, ccM2lt, ccM2le, ccNlt2, ccNle2, Nat.reduceAdd, Nat.reduceMul, Nat.reduceSub, Nat.reduceLT, Nat.reduceLeDiff, Nat.reduceEqDiff, Nat.reduceDiv, Nat.reduceMod]
    · have g₃ : ccP C p = true := by unfold ccP; rw [decide_eq_false g₂]; rfl
      simp (disch := omega) only [ccE201a, e₃, g₂, g₃, true_and, and_true, false_and, and_false, if_true, if_false, ccIte, ccBi, ccBiX, ccBv, ccBvX, ccZ0, ccZ1, ccTZ, ccT0, ccT1, Bool.or_false, ccMckT, ccMckIn, ne_eq, not_true_eq_false, not_false_eq_true, if_pos, if_neg, reduceIte, eq_self, Bool.false_eq_true, Bool.true_eq_false, mix_N, N_add, N_mul, N_sub, N_div, ccMod, N_lt, N_le, N_eq, ccNm, ccMN, ccNm2, ccM2N, ccMM2, ccM2M, ccMlt, ccMle, ccNltM, ccNleM, ccM2lt, ccM2le, ccNlt2, ccNle2, Nat.reduceAdd, Nat.reduceMul, Nat.reduceSub, Nat.reduceLT, Nat.reduceLeDiff, Nat.reduceEqDiff, Nat.reduceDiv, Nat.reduceMod]
theorem ccOk_129 {B : Nat} {m : mMi} (h₁ : ccTop B m) : ccOk B F129 F250 [(1, 1)] m := by
  refine ccOk_texte (b := N 0) h₁ (List.mem_cons_self) (fun m rs => rfl) (fun m rs => rfl) (fun w l n bd lm dp cl β W h₂ => ?_)
  obtain ⟨g, hg⟩ := ccFU (k := 96) (by omega)
  refine ccOk_r0 (v := ccTopv (ccP (m 0 0)) 96 0 (I (-1))) h₁ (fun rs => ?_) (fun rs => ?_)
  · show F129_8 FU (I (-1)) (N 0) m rs = _
    rw [hg]
    exact ccL129 96 0 g _ rs (by omega)
  · show F250_13 FU (I (-1)) (N 0) (ccM0 m) rs = _
    rw [hg]
    exact ccL250 (ccLd_wm0 h₂).2.1 96 0 g _ rs (by omega)
/-! the best of all pairs, by a comparison -/
def ccBst (P : Nat → Bool) (lt : Nat → Nat → Bool) : Nat → Nat → Int32 → Int32
  | 0, _, x => x
  | d + 1, p, x => ccBst P lt d (p + 1) (if P p = true then (if x = I (-1) then N p else if lt p (mix x) = true then N p else x) else x)
def ccBs (P : Nat → Bool) (x : Int32) : Prop := x = I (-1) ∨ ∃ q, q < 96 ∧ x = N q ∧ P q = true
theorem ccBs_st {P : Nat → Bool} {lt : Nat → Nat → Bool} {p : Nat} {x : Int32} (h₁ : p < 96) (h₂ : ccBs P x) : ccBs P (if P p = true then (if x = I (-1) then N p else if lt p (mix x) = true then N p else x) else x) := by
  by_cases h₃ : P p = true
  · rw [if_pos h₃]
    have h₄ : ccBs P (N p) := Or.inr ⟨p, h₁, rfl, h₃⟩
    by_cases h₅ : x = I (-1)
    · rw [if_pos h₅]
      exact h₄
    · rw [if_neg h₅]
      by_cases h₆ : lt p (mix x) = true
      · rw [if_pos h₆]
        exact h₄
      · rw [if_neg h₆]
        exact h₂
  · rw [if_neg h₃]
    exact h₂
theorem ccBst_is {P : Nat → Bool} {lt : Nat → Nat → Bool} : ∀ d p x, p + d ≤ 96 → ccBs P x → ccBs P (ccBst P lt d p x) := by
  intro d
  induction d with
  | zero => intro p x _ h₁; exact h₁
  | succ d i₁ => intro p x h₁ h₂; exact i₁ (p + 1) _ (by omega) (ccBs_st (by omega) h₂)
def ccCode (x : Int32) : Int32 := if x = I (-1) then I (-1) else N (100 * (mix x / 12) + mix x % 12)
theorem ccE131 {m : mMi} {rs : mRs} {x : Int32} {P : Nat → Bool} (h₁ : ccBs P x) : F131 x m rs = rI (ccCode x) m rs := by
  unfold F131 ccCode
  rcases h₁ with e₁ | ⟨q, e₁, e₂, _⟩
  · simp (disch := omega) only [e₁, true_and, and_true, false_and, and_false, if_true, if_false, ccIte, ccBi, ccBiX, ccBv, ccBvX, ccZ0, ccZ1, ccTZ, ccT0, ccT1, Bool.or_false, ccMckT, ccMckIn, ne_eq, not_true_eq_false, not_false_eq_true, if_pos, if_neg, reduceIte, eq_self, Bool.false_eq_true, Bool.true_eq_false, mix_N, N_add, N_mul, N_sub, N_div, ccMod, N_lt, N_le, N_eq, ccNm, ccMN, ccNm2, ccM2N, ccMM2, ccM2M, ccMlt, ccMle, ccNltM, ccNleM, ccM2lt, ccM2le, ccNlt2, ccNle2, Nat.reduceAdd, Nat.reduceMul, Nat.reduceSub, Nat.reduceLT, Nat.reduceLeDiff, Nat.reduceEqDiff, Nat.reduceDiv, Nat.reduceMod]
  · simp (disch := omega) only [e₂, ccE111, ccE112, true_and, and_true, false_and, and_false, if_true, if_false, ccIte, ccBi, ccBiX, ccBv, ccBvX, ccZ0, ccZ1, ccTZ, ccT0, ccT1, Bool.or_false, ccMckT, ccMckIn, ne_eq, not_true_eq_false, not_false_eq_true, if_pos, if_neg, reduceIte, eq_self, Bool.false_eq_true, Bool.true_eq_false, mix_N, N_add, N_mul, N_sub, N_div, ccMod, N_lt, N_le, N_eq, ccNm, ccMN, ccNm2, ccM2N, ccMM2, ccM2M, ccMlt, ccMle, ccNltM, ccNleM, ccM2lt, ccM2le, ccNlt2, ccNle2, Nat.reduceAdd, Nat.reduceMul, Nat.reduceSub, Nat.reduceLT, Nat.reduceLeDiff, Nat.reduceEqDiff, Nat.reduceDiv, Nat.reduceMod]
theorem ccE252 {m : mMi} {rs : mRs} {x : Int32} {P : Nat → Bool} (h₁ : ccBs P x) : F252 x m rs = rI (ccCode x) m rs := by
  unfold F252 ccCode
  rcases h₁ with e₁ | ⟨q, e₁, e₂, _⟩
  · simp (disch := omega) only [e₁, true_and, and_true, false_and, and_false, if_true, if_false, ccIte, ccBi, ccBiX, ccBv, ccBvX, ccZ0, ccZ1, ccTZ, ccT0, ccT1, Bool.or_false, ccMckT, ccMckIn, ne_eq, not_true_eq_false, not_false_eq_true, if_pos, if_neg, reduceIte, eq_self, Bool.false_eq_true, Bool.true_eq_false, mix_N, N_add, N_mul, N_sub, N_div, ccMod, N_lt, N_le, N_eq, ccNm, ccMN, ccNm2, ccM2N, ccMM2, ccM2M, ccMlt, ccMle, ccNltM, ccNleM, ccM2lt, ccM2le, ccNlt2, ccNle2, Nat.reduceAdd, Nat.reduceMul, Nat.reduceSub, Nat.reduceLT, Nat.reduceLeDiff, Nat.reduceEqDiff, Nat.reduceDiv, Nat.reduceMod]
  · simp (disch := omega) only [e₂, true_and, and_true, false_and, and_false, if_true, if_false, ccIte, ccBi, ccBiX, ccBv, ccBvX, ccZ0, ccZ1, ccTZ, ccT0, ccT1, Bool.or_false, ccMckT, ccMckIn, ne_eq, not_true_eq_false, not_false_eq_true, if_pos, if_neg, reduceIte, eq_self, Bool.false_eq_true, Bool.true_eq_false, mix_N, N_add, N_mul, N_sub, N_div, ccMod, N_lt, N_le, N_eq, ccNm, ccMN, ccNm2, ccM2N, ccMM2, ccM2M, ccMlt, ccMle, ccNltM, ccNleM, ccM2lt, ccM2le, ccNlt2, ccNle2, Nat.reduceAdd, Nat.reduceMul, Nat.reduceSub, Nat.reduceLT, Nat.reduceLeDiff, Nat.reduceEqDiff, Nat.reduceDiv, Nat.reduceMod]
theorem ccP_t {C : Nat → Nat → Int32} {p : Nat} (h₁ : ccP C p = true) : C 2 p ≠ I (-1) := by
  unfold ccP at h₁
  simpa only [Bool.not_eq_true', decide_eq_false_iff_not] using h₁
theorem ccP_f {C : Nat → Nat → Int32} {p : Nat} (h₁ : ccP C p = false) : C 2 p = I (-1) := by
  rcases Classical.em (C 2 p = I (-1)) with e₁ | e₁
  · exact e₁
  · unfold ccP at h₁
    rw [decide_eq_false e₁] at h₁
    cases h₁
def ccLtR (W : Nat → Nat) (C : Nat → Nat → Int32) (w l : Nat) : Nat → Nat → Bool := fun p q => decide (ccRv W C w l p < ccRv W C w l q)
theorem ccL31 {m : mMi} {i n w l : Nat} {W : Nat → Nat} {C : Nat → Nat → Int32} (h₀ : m 0 i = C) (h₁ : ccCd n C) (h₂ : n ≤ 40) (h₅ : ccDone m W C w l 0) (h₆ : ccPlc w l C) : ∀ d p f x rs, p + d = 96 → ccBs (ccP C) x → F31_12 i (f + d + 1) x (N p) m rs = rI (ccBst (ccP C) (ccLtR W C w l) d p x) m rs := by
  intro d
  induction d with
  | zero =>
    intro p f x rs g₁ _
    rw [ccL31_12]
    simp (disch := omega) only [true_and, and_true, false_and, and_false, if_true, if_false, ccIte, ccBi, ccBiX, ccBv, ccBvX, ccZ0, ccZ1, ccTZ, ccT0, ccT1, Bool.or_false, ccMckT, ccMckIn, ne_eq, not_true_eq_false, not_false_eq_true, if_pos, if_neg, reduceIte, eq_self, Bool.false_eq_true, Bool.true_eq_false, mix_N, N_add, N_mul, N_sub, N_div, ccMod, N_lt, N_le, N_eq, ccNm, ccMN, ccNm2, ccM2N, ccMM2, ccM2M, ccMlt, ccMle, ccNltM, ccNleM, ccM2lt, ccM2le, ccNlt2, ccNle2, Nat.reduceAdd, Nat.reduceMul, Nat.reduceSub, Nat.reduceLT, Nat.reduceLeDiff, Nat.reduceEqDiff, Nat.reduceDiv, Nat.reduceMod]
    rfl
  | succ d i₁ =>
    intro p f x rs g₁ g₂
    have e₁ : f + (d + 1) + 1 = f + d + 1 + 1 := by omega
    have e₂ := i₁ (p + 1) f _ rs (by omega) (ccBs_st (lt := ccLtR W C w l) (p := p) (by omega) g₂)
    rw [e₁, ccL31_12]
    show _ = rI (ccBst (ccP C) (ccLtR W C w l) d (p + 1) _) m rs
    rw [← e₂]
    cases g₃ : ccP C p
    · simp (disch := omega) only [ccE51, h₀, g₃, true_and, and_true, false_and, and_false, if_true, if_false, ccIte, ccBi, ccBiX, ccBv, ccBvX, ccZ0, ccZ1, ccTZ, ccT0, ccT1, Bool.or_false, ccMckT, ccMckIn, ne_eq, not_true_eq_false, not_false_eq_true, if_pos, if_neg, reduceIte, eq_self, Bool.false_eq_true, Bool.true_eq_false, mix_N, N_add, N_mul, N_sub, N_div, ccMod, N_lt, N_le, N_eq, ccNm, ccMN, ccNm2, ccM2N, ccMM2, ccM2M, ccMlt, ccMle, ccNltM, ccNleM, ccM2lt, ccM2le, ccNlt2, ccNle2, Nat.reduceAdd, Nat.reduceMul, Nat.reduceSub, Nat.reduceLT, Nat.reduceLeDiff, Nat.reduceEqDiff, Nat.reduceDiv, Nat.reduceMod]
    · have g₄ := ccP_t g₃
      rcases g₂ with g₅ | ⟨q, g₅, g₆, g₇⟩
      · simp (disch := omega) only [ccE51, h₀, g₃, g₅, true_and, and_true, false_and, and_false, if_true, if_false, ccIte, ccBi, ccBiX, ccBv, ccBvX, ccZ0, ccZ1, ccTZ, ccT0, ccT1, Bool.or_false, ccMckT, ccMckIn, ne_eq, not_true_eq_false, not_false_eq_true, if_pos, if_neg, reduceIte, eq_self, Bool.false_eq_true, Bool.true_eq_false, mix_N, N_add, N_mul, N_sub, N_div, ccMod, N_lt, N_le, N_eq, ccNm, ccMN, ccNm2, ccM2N, ccMM2, ccM2M, ccMlt, ccMle, ccNltM, ccNleM, ccM2lt, ccM2le, ccNlt2, ccNle2, Nat.reduceAdd, Nat.reduceMul, Nat.reduceSub, Nat.reduceLT, Nat.reduceLeDiff, Nat.reduceEqDiff, Nat.reduceDiv, Nat.reduceMod]
      · have g₈ := ccP_t g₇
        unfold ccLtR
        by_cases g₉ : ccRv W C w l p < ccRv W C w l q
        · simp (disch := omega) only [ccE51, h₀, g₃, g₆, ccE23 h₀ h₁ h₂ (by omega : p < 96) g₄ h₅ h₆, ccE23 h₀ h₁ h₂ g₅ g₈ h₅ h₆, ccLeLt, g₉, true_and, and_true, false_and, and_false, if_true, if_false, ccIte, ccBi, ccBiX, ccBv, ccBvX, ccZ0, ccZ1, ccTZ, ccT0, ccT1, Bool.or_false, ccMckT, ccMckIn, ne_eq, not_true_eq_false, not_false_eq_true, if_pos, if_neg, reduceIte, eq_self, Bool.false_eq_true, Bool.true_eq_false, mix_N, N_add, N_mul, N_sub, N_div, ccMod, N_lt, N_le, N_eq, ccNm, ccMN, ccNm2, ccM2N, ccMM2, ccM2M, ccMlt, ccMle, ccNltM, ccNleM, ccM2lt, ccM2le, ccNlt2, ccNle2, Nat.reduceAdd, Nat.reduceMul, Nat.reduceSub, Nat.reduceLT, Nat.reduceLeDiff, Nat.reduceEqDiff, Nat.reduceDiv, Nat.reduceMod, decide_true]
        · simp (disch := omega) only [ccE51, h₀, g₃, g₆, ccE23 h₀ h₁ h₂ (by omega : p < 96) g₄ h₅ h₆, ccE23 h₀ h₁ h₂ g₅ g₈ h₅ h₆, ccLeLt, g₉, true_and, and_true, false_and, and_false, if_true, if_false, ccIte, ccBi, ccBiX, ccBv, ccBvX, ccZ0, ccZ1, ccTZ, ccT0, ccT1, Bool.or_false, ccMckT, ccMckIn, ne_eq, not_true_eq_false, not_false_eq_true, if_pos, if_neg, reduceIte, eq_self, Bool.false_eq_true, Bool.true_eq_false, mix_N, N_add, N_mul, N_sub, N_div, ccMod, N_lt, N_le, N_eq, ccNm, ccMN, ccNm2, ccM2N, ccMM2, ccM2M, ccMlt, ccMle, ccNltM, ccNleM, ccM2lt, ccM2le, ccNlt2, ccNle2, Nat.reduceAdd, Nat.reduceMul, Nat.reduceSub, Nat.reduceLT, Nat.reduceLeDiff, Nat.reduceEqDiff, Nat.reduceDiv, Nat.reduceMod, decide_false, ccMifF]
theorem ccL251 {m : mMi} {w l n : Nat} {W : Nat → Nat} {C : Nat → Nat → Int32} (q₁ : ccWm m w l n W C) (q₂ : ccCd n C) (q₃ : ccSs n C (m 4 0 3)) (h₅ : ccDonem m W C w l 0) (h₆ : ccPlc w l C) : ∀ d p f x rs, p + d = 96 → ccBs (ccP C) x → F251_17 (f + d + 1) x (N p) m rs = rI (ccCode (ccBst (ccP C) (ccLtR W C w l) d p x)) m rs := by
  intro d
  induction d with
  | zero =>
    intro p f x rs g₁ g₂
    rw [ccL251_17]
    simp (disch := omega) only [ccE252 g₂, true_and, and_true, false_and, and_false, if_true, if_false, ccIte, ccBi, ccBiX, ccBv, ccBvX, ccZ0, ccZ1, ccTZ, ccT0, ccT1, Bool.or_false, ccMckT, ccMckIn, ne_eq, not_true_eq_false, not_false_eq_true, if_pos, if_neg, reduceIte, eq_self, Bool.false_eq_true, Bool.true_eq_false, mix_N, N_add, N_mul, N_sub, N_div, ccMod, N_lt, N_le, N_eq, ccNm, ccMN, ccNm2, ccM2N, ccMM2, ccM2M, ccMlt, ccMle, ccNltM, ccNleM, ccM2lt, ccM2le, ccNlt2, ccNle2, Nat.reduceAdd, Nat.reduceMul, Nat.reduceSub, Nat.reduceLT, Nat.reduceLeDiff, Nat.reduceEqDiff, Nat.reduceDiv, Nat.reduceMod]
    rfl
  | succ d i₁ =>
    intro p f x rs g₁ g₂
    have e₁ : f + (d + 1) + 1 = f + d + 1 + 1 := by omega
    have e₂ := i₁ (p + 1) f _ rs (by omega) (ccBs_st (lt := ccLtR W C w l) (p := p) (by omega) g₂)
    have e₃ := (q₁.2.1 p (by omega)).1
    rw [e₁, ccL251_17]
    show _ = rI (ccCode (ccBst (ccP C) (ccLtR W C w l) d (p + 1) _)) m rs
    rw [← e₂]
    cases g₃ : ccP C p
    · have g₄ := ccP_f g₃
      simp (disch := omega) only [ccE201a, e₃, g₄, true_and, and_true, false_and, and_false, if_true, if_false, ccIte, ccBi, ccBiX, ccBv, ccBvX, ccZ0, ccZ1, ccTZ, ccT0, ccT1, Bool.or_false, ccMckT, ccMckIn, ne_eq, not_true_eq_false, not_false_eq_true, if_pos, if_neg, reduceIte, eq_self, Bool.false_eq_true, Bool.true_eq_false, mix_N, N_add, N_mul, N_sub, N_div, ccMod, N_lt, N_le, N_eq, ccNm, ccMN, ccNm2, ccM2N, ccMM2, ccM2M, ccMlt, ccMle, ccNltM, ccNleM, ccM2lt, ccM2le, ccNlt2, ccNle2, Nat.reduceAdd, Nat.reduceMul, Nat.reduceSub, Nat.reduceLT, Nat.reduceLeDiff, Nat.reduceEqDiff, Nat.reduceDiv, Nat.reduceMod]
    · have g₄ := ccP_t g₃
      rcases g₂ with g₅ | ⟨q, g₅, g₆, g₇⟩
      · simp (disch := omega) only [ccE201a, e₃, g₄, g₅, true_and, and_true, false_and, and_false, if_true, if_false, ccIte, ccBi, ccBiX, ccBv, ccBvX, ccZ0, ccZ1, ccTZ, ccT0, ccT1, Bool.or_false, ccMckT, ccMckIn, ne_eq, not_true_eq_false, not_false_eq_true, if_pos, if_neg, reduceIte, eq_self, Bool.false_eq_true, Bool.true_eq_false, mix_N, N_add, N_mul, N_sub, N_div, ccMod, N_lt, N_le, N_eq, ccNm, ccMN, ccNm2, ccM2N, ccMM2, ccM2M, ccMlt, ccMle, ccNltM, ccNleM, ccM2lt, ccM2le, ccNlt2, ccNle2, Nat.reduceAdd, Nat.reduceMul, Nat.reduceSub, Nat.reduceLT, Nat.reduceLeDiff, Nat.reduceEqDiff, Nat.reduceDiv, Nat.reduceMod]
      · have g₈ := ccP_t g₇
        unfold ccLtR
        by_cases g₉ : ccRv W C w l p < ccRv W C w l q
        · simp (disch := omega) only [ccE201a, e₃, g₄, g₆, ccE218 q₁ q₂ q₃ (by omega : p < 96) g₄ h₅ h₆, ccE218 q₁ q₂ q₃ g₅ g₈ h₅ h₆, ccLeLt, g₉, true_and, and_true, false_and, and_false, if_true, if_false, ccIte, ccBi, ccBiX, ccBv, ccBvX, ccZ0, ccZ1, ccTZ, ccT0, ccT1, Bool.or_false, ccMckT, ccMckIn, ne_eq, not_true_eq_false, not_false_eq_true, if_pos, if_neg, reduceIte, eq_self, Bool.false_eq_true, Bool.true_eq_false, mix_N, N_add, N_mul, N_sub, N_div, ccMod, N_lt, N_le, N_eq, ccNm, ccMN, ccNm2, ccM2N, ccMM2, ccM2M, ccMlt, ccMle, ccNltM, ccNleM, ccM2lt, ccM2le, ccNlt2, ccNle2, Nat.reduceAdd, Nat.reduceMul, Nat.reduceSub, Nat.reduceLT, Nat.reduceLeDiff, Nat.reduceEqDiff, Nat.reduceDiv, Nat.reduceMod, decide_true]
        · simp (disch := omega) only [ccE201a, e₃, g₄, g₆, ccE218 q₁ q₂ q₃ (by omega : p < 96) g₄ h₅ h₆, ccE218 q₁ q₂ q₃ g₅ g₈ h₅ h₆, ccLeLt, g₉, true_and, and_true, false_and, and_false, if_true, if_false, ccIte, ccBi, ccBiX, ccBv, ccBvX, ccZ0, ccZ1, ccTZ, ccT0, ccT1, Bool.or_false, ccMckT, ccMckIn, ne_eq, not_true_eq_false, not_false_eq_true, if_pos, if_neg, reduceIte, eq_self, Bool.false_eq_true, Bool.true_eq_false, mix_N, N_add, N_mul, N_sub, N_div, ccMod, N_lt, N_le, N_eq, ccNm, ccMN, ccNm2, ccM2N, ccMM2, ccM2M, ccMlt, ccMle, ccNltM, ccNleM, ccM2lt, ccM2le, ccNlt2, ccNle2, Nat.reduceAdd, Nat.reduceMul, Nat.reduceSub, Nat.reduceLT, Nat.reduceLeDiff, Nat.reduceEqDiff, Nat.reduceDiv, Nat.reduceMod, decide_false, ccMifF]
theorem ccOk_130 {B : Nat} {m : mMi} (h₁ : ccTop B m) : ccOk B F130 F251 [(1, 1)] m := by
  refine ccOk_texte (b := N 0) h₁ (List.mem_cons_self) (fun m rs => rfl) (fun m rs => rfl) (fun w l n bd lm dp cl β W h₂ => ?_)
  obtain ⟨m₁, m₂, a₁, a₂, a₃, z₀, c₁, c₂, c₃, wm, ss, cd, pl, wm₁, wc, wk⟩ := ccLoads h₂
  have b₃ : n ≤ 40 := h₂.2.2.1.1.2.2.2.2.2.2.2
  obtain ⟨g, hg⟩ := ccFU (k := 96) (by omega)
  have is := ccBst_is (P := ccP (m 0 0)) (lt := ccLtR W (m 0 0) w l) 96 0 (I (-1)) (by omega) (Or.inl rfl)
  refine ccOk_r2 (v := ccCode (ccBst (ccP (m 0 0)) (ccLtR W (m 0 0) w l) 96 0 (I (-1)))) h₁ (fun rs => ?_) (fun rs => ?_) a₂ c₂
  · have f₁ : F31 0 m rs = rI (ccBst (ccP (m 0 0)) (ccLtR W (m 0 0) w l) 96 0 (I (-1))) m₁ rs := by
      unfold F31
      rw [a₁, ccBv, hg]
      exact ccL31 z₀ cd b₃ a₃ pl 96 0 g _ rs (by omega) (Or.inl rfl)
    show bI (F31 0 m rs) _ = _
    rw [f₁, ccBi, ccE131 is, ccBi]
  · show bV (F213 (ccM0 m₁) rs) _ = _
    rw [c₁, ccBv, hg]
    exact ccL251 wm cd ss c₃ pl 96 0 g _ rs (by omega) (Or.inl rfl)
/-! the one that wobbles most -/
def ccLtW (C : Nat → Nat → Int32) : Nat → Nat → Bool := fun p q => decide (C 5 q < C 5 p)
theorem ccL56 {m : mMi} {i : Nat} {C : Nat → Nat → Int32} (h₀ : m 0 i = C) : ∀ d p f x rs, p + d = 96 → ccBs (ccP C) x → F56_4 i (f + d + 1) x (N p) m rs = rI (ccBst (ccP C) (ccLtW C) d p x) m rs := by
  intro d
  induction d with
  | zero =>
    intro p f x rs g₁ _
    rw [ccL56_4]
    simp (disch := omega) only [true_and, and_true, false_and, and_false, if_true, if_false, ccIte, ccBi, ccBiX, ccBv, ccBvX, ccZ0, ccZ1, ccTZ, ccT0, ccT1, Bool.or_false, ccMckT, ccMckIn, ne_eq, not_true_eq_false, not_false_eq_true, if_pos, if_neg, reduceIte, eq_self, Bool.false_eq_true, Bool.true_eq_false, mix_N, N_add, N_mul, N_sub, N_div, ccMod, N_lt, N_le, N_eq, ccNm, ccMN, ccNm2, ccM2N, ccMM2, ccM2M, ccMlt, ccMle, ccNltM, ccNleM, ccM2lt, ccM2le, ccNlt2, ccNle2, Nat.reduceAdd, Nat.reduceMul, Nat.reduceSub, Nat.reduceLT, Nat.reduceLeDiff, Nat.reduceEqDiff, Nat.reduceDiv, Nat.reduceMod]
    rfl
  | succ d i₁ =>
    intro p f x rs g₁ g₂
    have e₁ : f + (d + 1) + 1 = f + d + 1 + 1 := by omega
    have e₂ := i₁ (p + 1) f _ rs (by omega) (ccBs_st (lt := ccLtW C) (p := p) (by omega) g₂)
    rw [e₁, ccL56_4]
    show _ = rI (ccBst (ccP C) (ccLtW C) d (p + 1) _) m rs
    rw [← e₂]
    cases g₃ : ccP C p
    · simp (disch := omega) only [ccE51, h₀, g₃, true_and, and_true, false_and, and_false, if_true, if_false, ccIte, ccBi, ccBiX, ccBv, ccBvX, ccZ0, ccZ1, ccTZ, ccT0, ccT1, Bool.or_false, ccMckT, ccMckIn, ne_eq, not_true_eq_false, not_false_eq_true, if_pos, if_neg, reduceIte, eq_self, Bool.false_eq_true, Bool.true_eq_false, mix_N, N_add, N_mul, N_sub, N_div, ccMod, N_lt, N_le, N_eq, ccNm, ccMN, ccNm2, ccM2N, ccMM2, ccM2M, ccMlt, ccMle, ccNltM, ccNleM, ccM2lt, ccM2le, ccNlt2, ccNle2, Nat.reduceAdd, Nat.reduceMul, Nat.reduceSub, Nat.reduceLT, Nat.reduceLeDiff, Nat.reduceEqDiff, Nat.reduceDiv, Nat.reduceMod]
    · rcases g₂ with g₅ | ⟨q, g₅, g₆, g₇⟩
      · simp (disch := omega) only [ccE51, h₀, g₃, g₅, true_and, and_true, false_and, and_false, if_true, if_false, ccIte, ccBi, ccBiX, ccBv, ccBvX, ccZ0, ccZ1, ccTZ, ccT0, ccT1, Bool.or_false, ccMckT, ccMckIn, ne_eq, not_true_eq_false, not_false_eq_true, if_pos, if_neg, reduceIte, eq_self, Bool.false_eq_true, Bool.true_eq_false, mix_N, N_add, N_mul, N_sub, N_div, ccMod, N_lt, N_le, N_eq, ccNm, ccMN, ccNm2, ccM2N, ccMM2, ccM2M, ccMlt, ccMle, ccNltM, ccNleM, ccM2lt, ccM2le, ccNlt2, ccNle2, Nat.reduceAdd, Nat.reduceMul, Nat.reduceSub, Nat.reduceLT, Nat.reduceLeDiff, Nat.reduceEqDiff, Nat.reduceDiv, Nat.reduceMod]
      · unfold ccLtW
        by_cases g₉ : C 5 q < C 5 p
        · simp (disch := omega) only [ccE51, h₀, g₃, g₆, ccLeLt, g₉, true_and, and_true, false_and, and_false, if_true, if_false, ccIte, ccBi, ccBiX, ccBv, ccBvX, ccZ0, ccZ1, ccTZ, ccT0, ccT1, Bool.or_false, ccMckT, ccMckIn, ne_eq, not_true_eq_false, not_false_eq_true, if_pos, if_neg, reduceIte, eq_self, Bool.false_eq_true, Bool.true_eq_false, mix_N, N_add, N_mul, N_sub, N_div, ccMod, N_lt, N_le, N_eq, ccNm, ccMN, ccNm2, ccM2N, ccMM2, ccM2M, ccMlt, ccMle, ccNltM, ccNleM, ccM2lt, ccM2le, ccNlt2, ccNle2, Nat.reduceAdd, Nat.reduceMul, Nat.reduceSub, Nat.reduceLT, Nat.reduceLeDiff, Nat.reduceEqDiff, Nat.reduceDiv, Nat.reduceMod, decide_true]
        · simp (disch := omega) only [ccE51, h₀, g₃, g₆, ccLeLt, g₉, true_and, and_true, false_and, and_false, if_true, if_false, ccIte, ccBi, ccBiX, ccBv, ccBvX, ccZ0, ccZ1, ccTZ, ccT0, ccT1, Bool.or_false, ccMckT, ccMckIn, ne_eq, not_true_eq_false, not_false_eq_true, if_pos, if_neg, reduceIte, eq_self, Bool.false_eq_true, Bool.true_eq_false, mix_N, N_add, N_mul, N_sub, N_div, ccMod, N_lt, N_le, N_eq, ccNm, ccMN, ccNm2, ccM2N, ccMM2, ccM2M, ccMlt, ccMle, ccNltM, ccNleM, ccM2lt, ccM2le, ccNlt2, ccNle2, Nat.reduceAdd, Nat.reduceMul, Nat.reduceSub, Nat.reduceLT, Nat.reduceLeDiff, Nat.reduceEqDiff, Nat.reduceDiv, Nat.reduceMod, decide_false, ccMifF]
theorem ccL253 {m : mMi} {C : Nat → Nat → Int32} (q₁ : ccRA C (m 4 0 3)) : ∀ d p f x rs, p + d = 96 → ccBs (ccP C) x → F253_13 (f + d + 1) x (N p) m rs = rI (ccCode (ccBst (ccP C) (ccLtW C) d p x)) m rs := by
  intro d
  induction d with
  | zero =>
    intro p f x rs g₁ g₂
    rw [ccL253_13]
    simp (disch := omega) only [ccE252 g₂, true_and, and_true, false_and, and_false, if_true, if_false, ccIte, ccBi, ccBiX, ccBv, ccBvX, ccZ0, ccZ1, ccTZ, ccT0, ccT1, Bool.or_false, ccMckT, ccMckIn, ne_eq, not_true_eq_false, not_false_eq_true, if_pos, if_neg, reduceIte, eq_self, Bool.false_eq_true, Bool.true_eq_false, mix_N, N_add, N_mul, N_sub, N_div, ccMod, N_lt, N_le, N_eq, ccNm, ccMN, ccNm2, ccM2N, ccMM2, ccM2M, ccMlt, ccMle, ccNltM, ccNleM, ccM2lt, ccM2le, ccNlt2, ccNle2, Nat.reduceAdd, Nat.reduceMul, Nat.reduceSub, Nat.reduceLT, Nat.reduceLeDiff, Nat.reduceEqDiff, Nat.reduceDiv, Nat.reduceMod]
    rfl
  | succ d i₁ =>
    intro p f x rs g₁ g₂
    have e₁ : f + (d + 1) + 1 = f + d + 1 + 1 := by omega
    have e₂ := i₁ (p + 1) f _ rs (by omega) (ccBs_st (lt := ccLtW C) (p := p) (by omega) g₂)
    obtain ⟨e₃, _, e₄⟩ := q₁ p (by omega)
    rw [e₁, ccL253_13]
    show _ = rI (ccCode (ccBst (ccP C) (ccLtW C) d (p + 1) _)) m rs
    rw [← e₂]
    cases g₃ : ccP C p
    · have g₄ := ccP_f g₃
      simp (disch := omega) only [ccE201a, e₃, g₄, true_and, and_true, false_and, and_false, if_true, if_false, ccIte, ccBi, ccBiX, ccBv, ccBvX, ccZ0, ccZ1, ccTZ, ccT0, ccT1, Bool.or_false, ccMckT, ccMckIn, ne_eq, not_true_eq_false, not_false_eq_true, if_pos, if_neg, reduceIte, eq_self, Bool.false_eq_true, Bool.true_eq_false, mix_N, N_add, N_mul, N_sub, N_div, ccMod, N_lt, N_le, N_eq, ccNm, ccMN, ccNm2, ccM2N, ccMM2, ccM2M, ccMlt, ccMle, ccNltM, ccNleM, ccM2lt, ccM2le, ccNlt2, ccNle2, Nat.reduceAdd, Nat.reduceMul, Nat.reduceSub, Nat.reduceLT, Nat.reduceLeDiff, Nat.reduceEqDiff, Nat.reduceDiv, Nat.reduceMod]
    · have g₄ := ccP_t g₃
      rcases g₂ with g₅ | ⟨q, g₅, g₆, g₇⟩
      · simp (disch := omega) only [ccE201a, e₃, g₄, g₅, true_and, and_true, false_and, and_false, if_true, if_false, ccIte, ccBi, ccBiX, ccBv, ccBvX, ccZ0, ccZ1, ccTZ, ccT0, ccT1, Bool.or_false, ccMckT, ccMckIn, ne_eq, not_true_eq_false, not_false_eq_true, if_pos, if_neg, reduceIte, eq_self, Bool.false_eq_true, Bool.true_eq_false, mix_N, N_add, N_mul, N_sub, N_div, ccMod, N_lt, N_le, N_eq, ccNm, ccMN, ccNm2, ccM2N, ccMM2, ccM2M, ccMlt, ccMle, ccNltM, ccNleM, ccM2lt, ccM2le, ccNlt2, ccNle2, Nat.reduceAdd, Nat.reduceMul, Nat.reduceSub, Nat.reduceLT, Nat.reduceLeDiff, Nat.reduceEqDiff, Nat.reduceDiv, Nat.reduceMod]
      · have g₈ := ccP_t g₇
        have e₅ := ((q₁ q g₅).2.2 g₈).2.2
        have e₆ := (e₄ g₄).2.2
        unfold ccLtW
        by_cases g₉ : C 5 q < C 5 p
        · simp (disch := omega) only [ccE201a, ccE201d, e₃, e₅, e₆, g₄, g₆, ccLeLt, g₉, true_and, and_true, false_and, and_false, if_true, if_false, ccIte, ccBi, ccBiX, ccBv, ccBvX, ccZ0, ccZ1, ccTZ, ccT0, ccT1, Bool.or_false, ccMckT, ccMckIn, ne_eq, not_true_eq_false, not_false_eq_true, if_pos, if_neg, reduceIte, eq_self, Bool.false_eq_true, Bool.true_eq_false, mix_N, N_add, N_mul, N_sub, N_div, ccMod, N_lt, N_le, N_eq, ccNm, ccMN, ccNm2, ccM2N, ccMM2, ccM2M, ccMlt, ccMle, ccNltM, ccNleM, ccM2lt, ccM2le, ccNlt2, ccNle2, Nat.reduceAdd, Nat.reduceMul, Nat.reduceSub, Nat.reduceLT, Nat.reduceLeDiff, Nat.reduceEqDiff, Nat.reduceDiv, Nat.reduceMod, decide_true]
        · simp (disch := omega) only [ccE201a, ccE201d, e₃, e₅, e₆, g₄, g₆, ccLeLt, g₉, true_and, and_true, false_and, and_false, if_true, if_false, ccIte, ccBi, ccBiX, ccBv, ccBvX, ccZ0, ccZ1, ccTZ, ccT0, ccT1, Bool.or_false, ccMckT, ccMckIn, ne_eq, not_true_eq_false, not_false_eq_true, if_pos, if_neg, reduceIte, eq_self, Bool.false_eq_true, Bool.true_eq_false, mix_N, N_add, N_mul, N_sub, N_div, ccMod, N_lt, N_le, N_eq, ccNm, ccMN, ccNm2, ccM2N, ccMM2, ccM2M, ccMlt, ccMle, ccNltM, ccNleM, ccM2lt, ccM2le, ccNlt2, ccNle2, Nat.reduceAdd, Nat.reduceMul, Nat.reduceSub, Nat.reduceLT, Nat.reduceLeDiff, Nat.reduceEqDiff, Nat.reduceDiv, Nat.reduceMod, decide_false, ccMifF]
theorem ccOk_132 {B : Nat} {m : mMi} (h₁ : ccTop B m) : ccOk B F132 F253 [(1, 1)] m := by
  refine ccOk_texte (b := N 0) h₁ (List.mem_cons_self) (fun m rs => rfl) (fun m rs => rfl) (fun w l n bd lm dp cl β W h₂ => ?_)
  obtain ⟨g, hg⟩ := ccFU (k := 96) (by omega)
  have is := ccBst_is (P := ccP (m 0 0)) (lt := ccLtW (m 0 0)) 96 0 (I (-1)) (by omega) (Or.inl rfl)
  refine ccOk_r0 (v := ccCode (ccBst (ccP (m 0 0)) (ccLtW (m 0 0)) 96 0 (I (-1)))) h₁ (fun rs => ?_) (fun rs => ?_)
  · have f₁ : F56 0 m rs = rI (ccBst (ccP (m 0 0)) (ccLtW (m 0 0)) 96 0 (I (-1))) m rs := by
      unfold F56
      rw [hg]
      exact ccL56 rfl 96 0 g _ rs (by omega) (Or.inl rfl)
    show bI (F56 0 m rs) _ = _
    rw [f₁, ccBi, ccE131 is, ccBi]
  · show F253_13 FU (I (-1)) (N 0) (ccM0 m) rs = _
    rw [hg]
    exact ccL253 (ccLd_wm0 h₂).2.1 96 0 g _ rs (by omega) (Or.inl rfl)
