/-! LOADS of the reference: all places. -/
theorem ccSubLe {a b c : Nat} (h₁ : a ≤ b) (h₂ : b < 1000000000) (h₃ : c < 1000000000) : (N a - N b ≤ N c) = True := by
  rw [← I_N, ← I_N, ← I_N, I_sub, I_le (by omega) (by omega) (by omega) (by omega)]
  exact propext ⟨fun _ => trivial, fun _ => by omega⟩
theorem ccL213in {w l n L d : Nat} {W : Nat → Nat} {C : Nat → Nat → Int32} (q₂ : ccCd n C) (q₃ : ccWok n W) (h₁ : L + (d + 1) = 8) (h₂ : L < l) : ∀ e c m, c + e = w - L → ccWm m w l n W C → ccDonem m W C w l (L + 1) → (∀ c₁, c₁ < c → L + c₁ < w → ccOKm m W C w l d L c₁) →
    ∃ m₁, (∀ f rs, F213_7 (f + e + 1) 13 (N L) (N c) m rs = F213_7 f 7 (N L + I (-1)) (N 0) m₁ rs) ∧ ccFt m m₁ ∧ ccDonem m₁ W C w l L := by
  intro e
  induction e with
  | zero =>
    intro c m g₁ g₂ g₃ g₄
    have b₁ : w ≤ 12 := g₂.1.2.2.2.2.1
    have q₄ : m 4 0 0 2 = N w := g₂.1.1
    refine ⟨m, fun f rs => ?_, ccFt_rfl, fun L₁ c₁ d₁ g₅ g₆ g₇ g₈ => ?_⟩
    · rw [ccL213_7_13, q₄]
      by_cases y₁ : L ≤ w
      · simp (disch := omega) only [true_and, and_true, false_and, and_false, if_true, if_false, ccIte, ccBi, ccBiX, ccBv, ccBvX, ccZ0, ccZ1, ccTZ, ccT0, ccT1, Bool.or_false, ccMckT, ccMckIn, ne_eq, not_true_eq_false, not_false_eq_true, if_pos, if_neg, reduceIte, eq_self, Bool.false_eq_true, Bool.true_eq_false, mix_N, N_add, N_mul, N_sub, N_div, ccMod, N_lt, N_le, N_eq, ccNm, ccMN, ccNm2, ccM2N, ccMM2, ccM2M, ccMlt, ccMle, ccNltM, ccNleM, ccM2lt, ccM2le, ccNlt2, ccNle2, Nat.reduceAdd, Nat.reduceMul, Nat.reduceSub, Nat.reduceLT, Nat.reduceLeDiff, Nat.reduceEqDiff, Nat.reduceDiv, Nat.reduceMod]
      · simp (disch := omega) only [ccIte, ccSubLe, if_true]
    · by_cases g₉ : L₁ = L
      · subst g₉
        have g₀ : d₁ = d := by omega
        subst g₀
        exact g₄ c₁ (by omega) g₈
      · exact g₃ L₁ c₁ d₁ (by omega) g₆ g₇ g₈
  | succ e i₁ =>
    intro c m g₁ g₂ g₃ g₄
    have b₁ : w ≤ 12 := g₂.1.2.2.2.2.1
    have b₂ : l ≤ 8 := g₂.1.2.2.2.2.2.2.1
    obtain ⟨m₁, y₅, d₁, k₁, o₁⟩ := ccL213st g₂ q₂ q₃ h₁ h₂ (by omega : L + c < w) (fun c₁ y₁ => by
      obtain ⟨y₂, y₃, _⟩ := ccHF_t y₁
      cases d with
      | zero => omega
      | succ d₂ => exact (g₃ (L + 1) c₁ d₂ (by omega) (by omega) y₂ y₃).2)
    obtain ⟨m₂, a₁, a₂, a₃⟩ := i₁ (c + 1) m₁ (by omega) (ccWm_ft g₂ d₁) (fun L₁ c₁ d₂ y₁ y₂ y₃ y₄ => by
      have y₆ := g₃ L₁ c₁ d₂ y₁ y₂ y₃ y₄
      unfold ccOKm at y₆ ⊢
      rw [o₁ 12 _ (by omega), o₁ 13 _ (by omega)]
      exact y₆) (fun c₁ y₁ y₂ => by
      by_cases y₃ : c₁ = c
      · rw [y₃]
        exact k₁
      · have y₆ := g₄ c₁ (by omega) y₂
        unfold ccOKm at y₆ ⊢
        rw [o₁ 12 _ (by omega), o₁ 13 _ (by omega)]
        exact y₆)
    refine ⟨m₂, fun f rs => ?_, ccFt_trans d₁ a₂, a₃⟩
    have e₁ : f + (e + 1) + 1 = f + e + 1 + 1 := by omega
    rw [e₁, y₅]
    exact a₁ f rs
theorem ccL213out {w l n : Nat} {W : Nat → Nat} {C : Nat → Nat → Int32} (q₂ : ccCd n C) (q₃ : ccWok n W) : ∀ k m, k ≤ l → ccWm m w l n W C → ccDonem m W C w l k →
    ∃ m₁ T, (∀ f y rs, F213_7 (f + T) 7 (ccLv k) y m rs = rV m₁ rs) ∧ T ≤ 16 * k + 1 ∧ ccFt m m₁ ∧ ccDonem m₁ W C w l 0 := by
  intro k
  induction k with
  | zero =>
    intro m g₁ g₂ g₃
    refine ⟨m, 1, fun f y rs => ?_, by omega, ccFt_rfl, g₃⟩
    rw [ccL213_7_7]
    show mifO (decide (I (-1) < N 0)) _ _ = _
    simp (disch := omega) only [true_and, and_true, false_and, and_false, if_true, if_false, ccIte, ccBi, ccBiX, ccBv, ccBvX, ccZ0, ccZ1, ccTZ, ccT0, ccT1, Bool.or_false, ccMckT, ccMckIn, ne_eq, not_true_eq_false, not_false_eq_true, if_pos, if_neg, reduceIte, eq_self, Bool.false_eq_true, Bool.true_eq_false, mix_N, N_add, N_mul, N_sub, N_div, ccMod, N_lt, N_le, N_eq, ccNm, ccMN, ccNm2, ccM2N, ccMM2, ccM2M, ccMlt, ccMle, ccNltM, ccNleM, ccM2lt, ccM2le, ccNlt2, ccNle2, Nat.reduceAdd, Nat.reduceMul, Nat.reduceSub, Nat.reduceLT, Nat.reduceLeDiff, Nat.reduceEqDiff, Nat.reduceDiv, Nat.reduceMod]
  | succ L i₁ =>
    intro m g₁ g₂ g₃
    have b₁ : w ≤ 12 := g₂.1.2.2.2.2.1
    have b₂ : l ≤ 8 := g₂.1.2.2.2.2.2.2.1
    obtain ⟨m₁, a₁, a₂, a₃⟩ := ccL213in q₂ q₃ (d := 7 - L) (by omega) (by omega : L < l) (w - L) 0 m (by omega) g₂ g₃ (fun c₁ y₁ _ => by omega)
    obtain ⟨m₂, T, c₁, c₂, c₃, c₄⟩ := i₁ m₁ (by omega) (ccWm_ft g₂ a₂) a₃
    refine ⟨m₂, T + (w - L) + 1 + 1, fun f y rs => ?_, by omega, ccFt_trans a₂ c₃, c₄⟩
    have e₁ : f + (T + (w - L) + 1 + 1) = (f + T) + (w - L) + 1 + 1 := by omega
    rw [e₁, ccL213_7_7]
    show mifO (decide (N L < N 0)) _ _ = _
    simp (disch := omega) only [true_and, and_true, false_and, and_false, if_true, if_false, ccIte, ccBi, ccBiX, ccBv, ccBvX, ccZ0, ccZ1, ccTZ, ccT0, ccT1, Bool.or_false, ccMckT, ccMckIn, ne_eq, not_true_eq_false, not_false_eq_true, if_pos, if_neg, reduceIte, eq_self, Bool.false_eq_true, Bool.true_eq_false, mix_N, N_add, N_mul, N_sub, N_div, ccMod, N_lt, N_le, N_eq, ccNm, ccMN, ccNm2, ccM2N, ccMM2, ccM2M, ccMlt, ccMle, ccNltM, ccNleM, ccM2lt, ccM2le, ccNlt2, ccNle2, Nat.reduceAdd, Nat.reduceMul, Nat.reduceSub, Nat.reduceLT, Nat.reduceLeDiff, Nat.reduceEqDiff, Nat.reduceDiv, Nat.reduceMod]
    show F213_7 (f + T + (w - L) + 1) 13 (N L) (N 0) m rs = _
    rw [a₁, ccLv_dec (by omega)]
    exact c₁ f (N 0) rs
/-- the reference lays the loads -/
theorem ccE213 {m : mMi} {w l n : Nat} {W : Nat → Nat} {C : Nat → Nat → Int32} (q₂ : ccCd n C) (q₃ : ccWok n W) (q₄ : ccWm m w l n W C) : ∃ m₁, (∀ rs, F213 m rs = rV m₁ rs) ∧ ccFt m m₁ ∧ ccDonem m₁ W C w l 0 := by
  have b₁ : 1 ≤ l := q₄.1.2.2.2.2.2.1
  have b₂ : l ≤ 8 := q₄.1.2.2.2.2.2.2.1
  obtain ⟨m₁, T, a₁, a₂, a₃, a₄⟩ := ccL213out q₂ q₃ l m (by omega) q₄ (fun L c d y₁ y₂ y₃ y₄ => by omega)
  refine ⟨m₁, fun rs => ?_, a₃, a₄⟩
  have e₁ : FU = (99999 - T + 1) + T := by unfold FU; omega
  have e₂ : N l - N 1 = ccLv l := by
    obtain ⟨k, rfl⟩ : ∃ k, l = k + 1 := ⟨l - 1, by omega⟩
    rw [N_sub (by omega), Nat.add_sub_cancel]
    rfl
  unfold F213
  rw [e₁, q₄.1.2.1, e₂]
  exact a₁ _ _ rs
