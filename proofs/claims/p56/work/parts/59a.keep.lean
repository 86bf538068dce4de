/-! A CHANGE is kept, on both sides. -/
theorem ccE60 {m : mMi} {k x : Nat} (h₁ : m 2 5 0 2 = N x) (h₂ : x < 8) (h₃ : m 2 5 0 1 = N k) (h₄ : k ≤ 8) : ∃ m₁, (∀ rs, F60 0 m rs = rV m₁ rs) ∧ (∀ f a j p, ¬ (f = 0 ∧ a = 3 + x) → ¬ (f = 2 ∧ a = 5 ∧ j = 0 ∧ (p = 1 ∨ p = 2)) → m₁ f a j p = m f a j p) ∧ ccAg (m 0 0) (m₁ 0 (3 + x)) ∧ m₁ 2 5 0 2 = N ((x + 1) % 8) ∧ m₁ 2 5 0 1 = N (if k = 8 then 8 else k + 1) := by
  obtain ⟨m₂, a₁, a₂, a₃⟩ := ccE18 (m := m) (i := 3 + x) (i₂ := 0) (by omega)
  have e₁ : m₂ 2 5 0 2 = N x := by rw [a₂ 2 5 0 2 (by omega)]; exact h₁
  have e₂ : m₂ 2 5 0 1 = N k := by rw [a₂ 2 5 0 1 (by omega)]; exact h₃
  have e₃ : (if N 8 < N k + N 1 then N 8 else N k + N 1) = N (if k = 8 then 8 else k + 1) := by
    rw [N_add]
    by_cases g₁ : k = 8
    · subst g₁
      rfl
    · have g₂ : ¬ N 8 < N (k + 1) := by rw [N_lt (by omega) (by omega)]; omega
      rw [if_neg g₁, if_neg g₂]
  refine ⟨mset (mset m₂ 2 5 0 2 (N ((x + 1) % 8))) 2 5 0 1 (N (if k = 8 then 8 else k + 1)), fun rs => ?_, fun f a j p g₁ g₂ => ?_, ?_, ?_, ?_⟩
  · unfold F60
    rw [h₁, ccMckIn h₂ (by omega), mix_N (by omega), a₁, ccBv, e₁, e₂, e₃]
    simp (disch := omega) only [mix_N, N_add, N_mul, N_sub, N_div, ccMod, N_lt, N_le, N_eq, ccNm, ccMN, ccNm2, ccM2N, ccMM2, ccM2M, ccMlt, ccMle, ccNltM, ccNleM, ccM2lt, ccM2le, ccNlt2, ccNle2]
  · rw [ccRd, if_neg (by omega), ccRd, if_neg (by omega)]
    exact a₂ f a j p g₁
  · have e₄ : mset (mset m₂ 2 5 0 2 (N ((x + 1) % 8))) 2 5 0 1 (N (if k = 8 then 8 else k + 1)) 0 (3 + x) = m₂ 0 (3 + x) := by
      funext j p
      rw [ccRd, if_neg (by omega), ccRd, if_neg (by omega)]
    rw [e₄]
    exact a₃
  · rw [ccRd, if_neg (by omega), ccRd, if_pos ⟨rfl, rfl, rfl, rfl⟩]
  · rw [ccRd, if_pos ⟨rfl, rfl, rfl, rfl⟩]
theorem ccKeep_14 {m : mMi} {k : Nat} : ccKeep m k 4 0 0 14 = N (if k = 8 then 8 else k + 1) := by
  unfold ccKeep
  by_cases h₁ : k = 8
  · rw [if_pos h₁, if_pos h₁, ccRd, if_pos ⟨rfl, rfl, rfl, rfl⟩]
  · rw [if_neg h₁, if_neg h₁, ccRd, if_pos ⟨rfl, rfl, rfl, rfl⟩]
theorem ccKeep_o {m : mMi} {k f a j p : Nat} (h₁ : ¬ (f = 4 ∧ a = 0 ∧ j = 5)) (h₂ : ¬ (f = 4 ∧ a = 0 ∧ j = 0 ∧ p = 14)) : ccKeep m k f a j p = m f a j p := by
  unfold ccKeep
  by_cases h₃ : k = 8
  · rw [if_pos h₃, ccRd, if_neg (by omega), ccCp_o (by omega), ccRd, if_neg (by omega), ccCp_o (by omega)]
  · rw [if_neg h₃, ccRd, if_neg (by omega), ccCp_o (by omega)]
theorem ccKeep_row {m : mMi} {k t : Nat} (h₀ : k ≤ 8) (h₁ : t < (if k = 8 then 8 else k + 1)) : ccAr (if t + 1 = (if k = 8 then 8 else k + 1) then m 4 0 3 else ccRow m (if k = 8 then t + 1 else t)) (ccRow (ccKeep m k) t) := fun q g₁ => by
  unfold ccRow ccKeep
  by_cases h₂ : k = 8
  · subst h₂
    simp only [if_true] at h₁ ⊢
    rw [ccRd, if_neg (by omega)]
    by_cases h₃ : t = 7
    · subst h₃
      rw [if_pos rfl, ccCp_i g₁, ccRd, if_neg (by omega), ccCp_o (by omega), Nat.zero_add]
    · have e₁ : 918 * t + q = 0 + (918 * t + q) := by omega
      have e₂ : 918 + (918 * t + q) = 918 * (t + 1) + q := by omega
      rw [if_neg (by omega), ccCp_o (by omega), ccRd, if_neg (by omega), e₁, ccCp_i (by omega), e₂]
  · simp only [if_neg h₂] at h₁ ⊢
    rw [ccRd, if_neg (by omega)]
    by_cases h₃ : t = k
    · subst h₃
      rw [if_pos rfl, ccCp_i g₁, Nat.zero_add]
    · rw [if_neg (by omega), ccCp_o (by omega)]
theorem ccKeep_high {m : mMi} {k e : Nat} (h₁ : k ≤ 8) (h₂ : 8 ≤ e) : ccRow (ccKeep m k) e = ccRow m e := by
  funext q
  unfold ccRow ccKeep
  by_cases h₃ : k = 8
  · rw [if_pos h₃, ccRd, if_neg (by omega), ccCp_o (by omega), ccRd, if_neg (by omega), ccCp_o (by omega)]
  · rw [if_neg h₃, ccRd, if_neg (by omega), ccCp_o (by omega)]
/-- what may change of the class's memory in a change: castle 0, what is kept, junk -/
def ccCg (x : Nat) (m m₁ : mMi) : Prop := ∀ f a j p, ¬ ccJk f a j p → ¬ (f = 0 ∧ a = 0) → ¬ (f = 0 ∧ a = 3 + x) → ¬ (f = 2 ∧ a = 5 ∧ j = 0 ∧ (p = 1 ∨ p = 2)) → m₁ f a j p = m f a j p
/-- the end of a change: all of the state -/
theorem ccFin {B k x : Nat} {m m₁ m₂ : mMi} {w l n bd lm dp cl : Nat} {β : Nat → Int32} {W : Nat → Nat} (h₁ : ccTop B m) (h₂ : ccLd B m w l n bd lm dp cl β W) (hk : m 2 5 0 1 = N k ∧ k ≤ 8) (hx : m 2 5 0 2 = N x ∧ x < 8)
    (c₁ : ccCg x m m₁) (c₂ : ccAg (m 0 0) (m₁ 0 (3 + x))) (c₃ : m₁ 2 5 0 2 = N ((x + 1) % 8)) (c₄ : m₁ 2 5 0 1 = N (if k = 8 then 8 else k + 1))
    (d₁ : ∀ f a j p, f ≠ 4 → m₂ f a j p = m₁ f a j p) (d₂ : ∀ a j p, ¬ ccJk 4 a j p → ¬ (a = 0 ∧ j = 3) → m₂ 4 a j p = ccKeep m k 4 a j p) (d₃ : ccKK w l n lm β W (B + 192) (m₂ 0 0) (m₂ 4 0 3)) : ccTop (B + 192) m₂ := by
  have b₁ : w ≤ 12 := h₂.2.2.1.1.2.2.2.2.1
  have b₂ : l ≤ 8 := h₂.2.2.1.1.2.2.2.2.2.2.1
  have b₃ : n ≤ 40 := h₂.2.2.1.1.2.2.2.2.2.2.2
  obtain ⟨e₁, e₂, e₃, _⟩ := h₁
  -- cells that stay
  have st : ∀ f a j p, ¬ ccJk f a j p → ¬ (f = 0 ∧ a = 0) → ¬ (f = 0 ∧ a = 3 + x) → ¬ (f = 2 ∧ a = 5 ∧ j = 0 ∧ (p = 1 ∨ p = 2)) → ¬ (f = 4 ∧ a = 0 ∧ (j = 3 ∨ j = 5)) → ¬ (f = 4 ∧ a = 0 ∧ j = 0 ∧ p = 14) → m₂ f a j p = m f a j p := fun f a j p g₁ g₂ g₃ g₄ g₅ g₆ => by
    by_cases g₇ : f = 4
    · subst g₇
      rw [d₂ a j p g₁ (by omega), ccKeep_o (by omega) (by omega)]
    · rw [d₁ f a j p g₇]
      exact c₁ f a j p g₁ g₂ g₃ g₄
  refine ⟨?_, ?_, ?_, Or.inr ⟨w, l, n, bd, lm, dp, cl, β, W, ?_, ?_, ?_, d₃, ?_, ?_⟩⟩
  · obtain ⟨e, y₁, y₂, y₃, y₄⟩ := e₁
    refine ⟨e, y₁, by rw [st 2 1 0 1 (by unfold ccJk; omega) (by omega) (by omega) (by omega) (by omega) (by omega)]; exact y₂, by rw [st 4 0 0 17 (by unfold ccJk; omega) (by omega) (by omega) (by omega) (by omega) (by omega)]; exact y₃, fun q g₁ => ?_⟩
    rw [st 4 0 7 q (by unfold ccJk; omega) (by omega) (by omega) (by omega) (by omega) (by omega), st 2 1 1 q (by unfold ccJk; omega) (by omega) (by omega) (by omega) (by omega) (by omega)]
    exact y₄ q g₁
  · unfold ccEr at e₂ ⊢
    rw [st 2 3 0 3 (by unfold ccJk; omega) (by omega) (by omega) (by omega) (by omega) (by omega), st 2 3 0 4 (by unfold ccJk; omega) (by omega) (by omega) (by omega) (by omega) (by omega), st 4 0 0 18 (by unfold ccJk; omega) (by omega) (by omega) (by omega) (by omega) (by omega), st 4 0 0 19 (by unfold ccJk; omega) (by omega) (by omega) (by omega) (by omega) (by omega)]
    exact e₂
  · obtain ⟨e, y₁, y₂, y₃, y₄⟩ := e₃
    refine ⟨e, y₁, by rw [st 2 7 0 1 (by unfold ccJk; omega) (by omega) (by omega) (by omega) (by omega) (by omega)]; exact y₂, by rw [st 4 0 0 36 (by unfold ccJk; omega) (by omega) (by omega) (by omega) (by omega) (by omega)]; exact y₃, fun q g₁ => ?_⟩
    rw [st 4 0 15 q (by unfold ccJk; omega) (by omega) (by omega) (by omega) (by omega) (by omega), st 2 7 1 q (by unfold ccJk; omega) (by omega) (by omega) (by omega) (by omega) (by omega)]
    exact y₄ q g₁
  · rw [st 2 0 0 10 (by unfold ccJk; omega) (by omega) (by omega) (by omega) (by omega) (by omega)]
    exact h₂.1
  · rw [st 4 0 0 1 (by unfold ccJk; omega) (by omega) (by omega) (by omega) (by omega) (by omega)]
    exact h₂.2.1
  · exact ccPar_eq (fun f a j p y₁ => st f a j p (by unfold ccJk; omega) (by omega) (by omega) (by omega) (by omega) (by omega)) h₂.2.2.1
  · obtain ⟨k₀, x₀, y₁, y₂, y₃, y₄, y₅, y₆⟩ := h₂.2.2.2.2.1
    have z₁ : k₀ = k := ccNinj (by rw [← y₃, hk.1]) (by omega) (by omega)
    have z₂ : x₀ = x := ccNinj (by rw [← y₅, hx.1]) (by omega) (by omega)
    subst z₁ z₂
    refine ⟨if k₀ = 8 then 8 else k₀ + 1, (x₀ + 1) % 8, by split <;> omega, by omega, by rw [d₁ 2 5 0 1 (by omega)]; exact c₄, by rw [d₂ 0 0 14 (by unfold ccJk; omega) (by omega), ccKeep_14], by rw [d₁ 2 5 0 2 (by omega)]; exact c₃, fun t g₁ => ?_⟩
    have g₂ := ccKeep_row (m := m) y₁ g₁
    have g₃ : ccAr (if t + 1 = (if k₀ = 8 then 8 else k₀ + 1) then m 4 0 3 else ccRow m (if k₀ = 8 then t + 1 else t)) (ccRow m₂ t) := fun q g₄ => by
      rw [← g₂ q g₄]
      exact d₂ 0 5 _ (by unfold ccJk; omega) (by omega)
    by_cases g₄ : t + 1 = (if k₀ = 8 then 8 else k₀ + 1)
    · rw [if_pos g₄] at g₃
      have g₅ : (x₀ + 1) % 8 + 8 - (if k₀ = 8 then 8 else k₀ + 1) + t = (x₀ + 1) % 8 + 7 := by
        have g₆ : (if k₀ = 8 then 8 else k₀ + 1) ≤ 8 := by split <;> omega
        omega
      have g₆ : ((x₀ + 1) % 8 + 7) % 8 = x₀ := by omega
      rw [g₅, g₆]
      have g₇ : m₂ 0 (3 + x₀) = m₁ 0 (3 + x₀) := by
        funext j p
        exact d₁ 0 (3 + x₀) j p (by omega)
      rw [g₇]
      exact ccK_B (ccK_ag h₂.2.2.2.1 b₁ b₂ b₃ c₂ g₃) (by omega)
    · rw [if_neg g₄] at g₃
      have g₅ : (if k₀ = 8 then t + 1 else t) < k₀ ∧ ((x₀ + 1) % 8 + 8 - (if k₀ = 8 then 8 else k₀ + 1) + t) % 8 = (x₀ + 8 - k₀ + (if k₀ = 8 then t + 1 else t)) % 8 ∧ (x₀ + 8 - k₀ + (if k₀ = 8 then t + 1 else t)) % 8 ≠ x₀ := by
        by_cases z₃ : k₀ = 8
        · simp only [if_pos z₃] at g₁ g₄ ⊢
          omega
        · simp only [if_neg z₃] at g₁ g₄ ⊢
          omega
      obtain ⟨g₆, g₇, g₈⟩ := g₅
      rw [g₇]
      have g₉ : m₂ 0 (3 + (x₀ + 8 - k₀ + (if k₀ = 8 then t + 1 else t)) % 8) = m 0 (3 + (x₀ + 8 - k₀ + (if k₀ = 8 then t + 1 else t)) % 8) := by
        funext j p
        exact st 0 _ j p (by unfold ccJk; omega) (by omega) (by omega) (by omega) (by omega) (by omega)
      rw [g₉]
      exact ccK_B (ccK_ag (y₆ _ g₆) b₁ b₂ b₃ ccAg_rfl g₃) (by omega)
  · intro e g₁
    have g₂ : m₂ 0 (11 + e) = m 0 (11 + e) := by
      funext j p
      exact st 0 (11 + e) j p (by unfold ccJk; omega) (by omega) (by omega) (by omega) (by omega) (by omega)
    have g₃ : ccRow m₂ (8 + e) = ccRow m (8 + e) := by
      rw [← ccKeep_high (m := m) hk.2 (by omega : 8 ≤ 8 + e)]
      funext q
      exact d₂ 0 5 _ (by unfold ccJk; omega) (by omega)
    rw [st 2 6 1 e (by unfold ccJk; omega) (by omega) (by omega) (by omega) (by omega) (by omega), st 4 0 6 e (by unfold ccJk; omega) (by omega) (by omega) (by omega) (by omega) (by omega), g₂, g₃]
    exact ccSav_mono (fun _ _ y₁ => ccK_B y₁ (by omega)) h₂.2.2.2.2.2 e g₁
