/-! CARDS ARE LAID: the tie stays. -/
theorem ccRE_cg {t : Nat} {C D : Nat → Nat → Int32} {s u : Nat → Int32} (h₁ : ccRE t C s) (c₁ : ∀ j p, j = 0 ∨ j = 7 ∨ j = 8 ∨ j = 9 → D j p = C j p) (c₂ : ∀ q, q < 7 ∨ 768 ≤ q → u q = s q) : ccRE t D u := by
  obtain ⟨e₁, e₂, e₃, e₄, e₅, e₆, e₇⟩ := h₁
  refine ⟨by rw [c₁ 7 2 (by omega)]; exact e₁, by rw [c₂ 1 (by omega)]; exact e₂, fun v g₁ g₂ => ⟨fun e g₃ => ?_, ?_⟩, fun v g₁ => ?_, ?_, ?_, ?_⟩
  · rw [c₁ 8 _ (by omega), c₂ _ (by omega)]
    exact (e₃ v g₁ g₂).1 e g₃
  · rw [c₁ 8 _ (by omega), c₁ 8 _ (by omega), c₁ 8 _ (by omega), c₁ 8 _ (by omega)]
    exact (e₃ v g₁ g₂).2
  · rw [c₁ 9 _ (by omega), c₂ _ (by omega)]
    exact e₄ v g₁
  · rw [c₁ 0 5 (by omega), c₂ 0 (by omega)]
    exact e₅
  · rw [c₁ 0 6 (by omega), c₂ 6 (by omega)]
    exact e₆
  · rw [c₁ 0 5 (by omega)]
    exact e₇
theorem ccRC_hand {n a : Nat} {β : Nat → Int32} {C : Nat → Nat → Int32} {s : Nat → Int32} (q₁ : ccRC ccX0 n β C s) (h₁ : a < n) (h₂ : C 13 a = I (-1)) : s (9 + 6 * a) = N 0 := by
  rcases (q₁ a h₁).2 with ⟨h₃, _⟩ | ⟨_, e₁, e₂⟩ | ⟨_, e₁, e₂⟩ | ⟨_, p, e₀, e₁, e₃, e₂⟩
  · cases h₃
  · exact e₂
  · rw [h₂, ccMM2] at e₁
    exact e₁.elim
  · rw [h₂, ccMN (by omega)] at e₁
    exact e₁.elim
theorem ccSum_at {f : Nat → Int32} {a n : Nat} {x : Int32} (h₁ : a < n) (h₂ : f a = N 0) : ccSum (fun k => if k = a then x else f k) n = ccSum f n + x := by
  have e₁ := ccSum_up (f := f) (g := fun k => if k = a then x else f k) (k := a) (fun j y₁ => (if_neg y₁).symm) n
  have e₂ : (if a = a then x else f a) = x := if_pos rfl
  have e₃ : N 0 = 0 := rfl
  rw [if_pos h₁, e₂, h₂, e₃] at e₁
  rw [e₁]
  grind
theorem ccR_lay {n h t p a : Nat} {β wt : Nat → Int32} {C D : Nat → Nat → Int32} {s u : Nat → Int32} (h₁ : ccR ccX0 n β wt h t C s) (b₁ : n ≤ 40) (b₂ : p < 96) (b₃ : a < n) (h₂ : C 13 a = I (-1)) (h₃ : C 6 p = I (-1))
    (c₆ : ∀ q, D 6 q = if q = p then N a else C 6 q) (c₁₃ : ∀ q, D 13 q = if q = a then N p else C 13 q) (co : ∀ j q, j ≠ 6 → j ≠ 13 → D j q = C j q)
    (s₁ : u (632 + p) = N a) (s₂ : u (9 + 6 * a) = N 3) (s₃ : u (10 + 6 * a) = N p) (so : ∀ q, q ≠ 632 + p → q ≠ 9 + 6 * a → q ≠ 10 + 6 * a → u q = s q) : ccR ccX0 n β wt h t D u := by
  have hn := ccR_h h₁
  obtain ⟨r₁, r₂, r₃, r₄, r₅, r₆⟩ := h₁
  have sa := ccRC_hand r₃ b₃ h₂
  have na : ∀ x, x < 96 → ¬ N x = I (-1) := fun x y₁ y₂ => (ccNm (by omega)).mp y₂
  have ne : ∀ k x, C 13 k = N x → x < 96 → k ≠ a := fun k x y₁ y₂ y₃ => by
    rw [y₃, h₂, ccMN (by omega)] at y₁
    exact y₁
  refine ⟨fun q y₁ => ?_, ⟨fun q y₁ y₂ => ?_, fun q y₁ y₂ => ?_⟩, fun k y₁ => ?_, ?_, ccRE_cg r₅ (fun j q y₁ => co j q (by omega) (by omega)) (fun q y₁ => so q (by omega) (by omega) (by omega)), ?_⟩
  · obtain ⟨f₁, f₂, f₃⟩ := r₁ q y₁
    rw [so (248 + 4 * q) (by omega) (by omega) (by omega), so (249 + 4 * q) (by omega) (by omega) (by omega), so (250 + 4 * q) (by omega) (by omega) (by omega), so (251 + 4 * q) (by omega) (by omega) (by omega), co 2 q (by omega) (by omega), co 3 q (by omega) (by omega), co 4 q (by omega) (by omega), co 5 q (by omega) (by omega), c₆]
    refine ⟨f₁, ?_, f₃⟩
    by_cases y₂ : q = p
    · subst y₂
      rw [if_pos rfl]
      exact s₁
    · rw [if_neg y₂, so (632 + q) (by omega) (by omega) (by omega)]
      exact f₂
  · rw [co 2 q (by omega) (by omega)] at y₂
    obtain ⟨x, y, f₁, f₂, f₃, f₄, f₅, f₆, f₇, f₈, f₉, f₁₀⟩ := r₂.1 q y₁ y₂
    have g₁ := ne x q f₆ y₁
    have g₂ := ne y q f₇ y₁
    refine ⟨x, y, f₁, f₂, f₃, by rw [co 2 q (by omega) (by omega)]; exact f₄, by rw [co 3 q (by omega) (by omega)]; exact f₅, by rw [c₁₃, if_neg g₁]; exact f₆, by rw [c₁₃, if_neg g₂]; exact f₇, ?_, ?_, f₁₀⟩
    · rw [so _ (by omega) (by omega) (by omega)]
      exact f₈
    · rw [so _ (by omega) (by omega) (by omega)]
      exact f₉
  · rw [c₆] at y₂ ⊢
    by_cases y₃ : q = p
    · subst y₃
      rw [if_pos rfl]
      exact ⟨a, b₃, rfl, by rw [c₁₃, if_pos rfl], s₂, rfl⟩
    · rw [if_neg y₃] at y₂ ⊢
      obtain ⟨x, f₁, f₂, f₃, f₄, f₅⟩ := r₂.2 q y₁ y₂
      have g₁ := ne x q f₃ y₁
      refine ⟨x, f₁, f₂, by rw [c₁₃, if_neg g₁]; exact f₃, ?_, f₅⟩
      rw [so _ (by omega) (by omega) (by omega)]
      exact f₄
  · obtain ⟨f₁, f₂⟩ := r₃ k y₁
    rw [so (8 + 6 * k) (by omega) (by omega) (by omega), so (11 + 6 * k) (by omega) (by omega) (by omega), so (12 + 6 * k) (by omega) (by omega) (by omega), co 11 k (by omega) (by omega), co 12 k (by omega) (by omega)]
    refine ⟨f₁, ?_⟩
    by_cases y₂ : k = a
    · subst y₂
      exact Or.inr (Or.inr (Or.inr ⟨rfl, p, b₂, by rw [c₁₃, if_pos rfl], s₃, Or.inr ⟨s₂, by rw [c₆, if_pos rfl]⟩⟩))
    · rw [c₁₃, if_neg y₂, so (9 + 6 * k) (by omega) (by omega) (by omega), so (10 + 6 * k) (by omega) (by omega) (by omega)]
      rcases f₂ with f₂ | f₂ | f₂ | ⟨f₂, q, f₃, f₄, f₅, f₆⟩
      · exact Or.inl f₂
      · exact Or.inr (Or.inl f₂)
      · exact Or.inr (Or.inr (Or.inl f₂))
      · refine Or.inr (Or.inr (Or.inr ⟨f₂, q, f₃, f₄, f₅, ?_⟩))
        rw [co 2 q (by omega) (by omega), co 3 q (by omega) (by omega)]
        rcases f₆ with f₆ | ⟨f₆, f₇⟩
        · exact Or.inl f₆
        · refine Or.inr ⟨f₆, ?_⟩
          have y₃ : q ≠ p := fun y₃ => by
            rw [y₃, h₃, ccMN (by omega)] at f₇
            exact f₇
          rw [c₆, if_neg y₃]
          exact f₇
  · obtain ⟨f₁, f₂, f₃, f₄, f₅⟩ := r₄
    have d₁ : ∀ k, (D 13 k = I (-2)) = (C 13 k = I (-2)) := fun k => by
      rw [c₁₃]
      by_cases y₂ : k = a
      · rw [if_pos y₂, ccNm2 (by omega), y₂, h₂, ccMM2]
      · rw [if_neg y₂]
    refine ⟨?_, by rw [co 10 5 (by omega) (by omega)]; exact f₂, by rw [so 7 (by omega) (by omega) (by omega)]; exact f₃, fun v y₁ => ?_, fun k y₁ => ?_⟩
    · rw [f₁]
      exact ccCnt_congr n fun k _ => by simp only [d₁ k]
    · rw [so (728 + v) (by omega) (by omega) (by omega), co 14 v (by omega) (by omega)]
      exact f₄ v y₁
    · simp only [d₁ k]
      rw [← f₅ k y₁]
      exact ccCnt_congr h fun v _ => by rw [co 14 v (by omega) (by omega)]
  · unfold ccRF at r₆ ⊢
    have e₁ := ccSum_up (f := ccW1 wt C) (g := ccW1 wt D) (k := p) (fun j y₁ => by unfold ccW1; rw [co 2 j (by omega) (by omega), co 3 j (by omega) (by omega), c₆, if_neg y₁]) 96
    rw [if_pos b₂] at e₁
    have e₂ : ccW1 wt D p - ccW1 wt C p = wt a := by
      have e₃ : ccW1 wt D p = (if C 2 p = I (-1) then N 0 else wt (mix (C 2 p)) + wt (mix (C 3 p))) + wt a := by
        unfold ccW1
        rw [co 2 p (by omega) (by omega), co 3 p (by omega) (by omega), c₆, if_pos rfl, if_neg (na a (by omega)), mix_N (by omega)]
      have e₄ : ccW1 wt C p = (if C 2 p = I (-1) then N 0 else wt (mix (C 2 p)) + wt (mix (C 3 p))) + N 0 := by
        unfold ccW1
        rw [h₃, if_pos rfl]
      have e₅ : N 0 = 0 := rfl
      rw [e₃, e₄, e₅]
      grind
    have e₄ : ccW2 wt ccX0 s a = N 0 := by
      unfold ccW2
      rw [sa, if_neg (fun y₁ => absurd y₁.2 (by decide))]
    have e₅ : ccSum (ccW2 wt ccX0 u) n = ccSum (fun k => if k = a then wt a else ccW2 wt ccX0 s k) n := ccSum_congr n fun k y₁ => by
      show _ = if k = a then wt a else ccW2 wt ccX0 s k
      by_cases y₂ : k = a
      · rw [if_pos y₂, y₂]
        unfold ccW2
        rw [s₂, if_pos ⟨rfl, by decide⟩]
      · rw [if_neg y₂]
        unfold ccW2
        rw [so (9 + 6 * k) (by omega) (by omega) (by omega)]
    rw [e₁, e₂, e₅, ccSum_at b₃ e₄, r₆]
theorem ccR_lean {n h t p a b : Nat} {g : Int32} {β wt : Nat → Int32} {C D : Nat → Nat → Int32} {s u : Nat → Int32} (h₁ : ccR ccX0 n β wt h t C s) (b₁ : n ≤ 40) (b₂ : p < 96) (b₃ : a < n) (b₄ : b < n) (b₅ : a ≠ b) (h₂ : C 13 a = I (-1)) (h₄ : C 13 b = I (-1)) (h₃ : C 2 p = I (-1))
    (c₂ : ∀ q, D 2 q = if q = p then N a else C 2 q) (c₃ : ∀ q, D 3 q = if q = p then N b else C 3 q) (c₄ : ∀ q, D 4 q = if q = p then g else C 4 q) (c₅ : ∀ q, D 5 q = if q = p then N 0 else C 5 q) (c₁₃ : ∀ q, D 13 q = if q = a ∨ q = b then N p else C 13 q) (co : ∀ j q, j ≠ 2 → j ≠ 3 → j ≠ 4 → j ≠ 5 → j ≠ 13 → D j q = C j q)
    (s₁ : u (248 + 4 * p) = N a) (s₂ : u (249 + 4 * p) = N b) (s₃ : u (250 + 4 * p) = g) (s₄ : u (251 + 4 * p) = N 0) (s₅ : u (9 + 6 * a) = N 2) (s₆ : u (10 + 6 * a) = N p) (s₇ : u (9 + 6 * b) = N 2) (s₈ : u (10 + 6 * b) = N p)
    (so : ∀ q, ¬ (248 + 4 * p ≤ q ∧ q ≤ 251 + 4 * p) → q ≠ 9 + 6 * a → q ≠ 10 + 6 * a → q ≠ 9 + 6 * b → q ≠ 10 + 6 * b → u q = s q) : ccR ccX0 n β wt h t D u := by
  have hn := ccR_h h₁
  obtain ⟨r₁, r₂, r₃, r₄, r₅, r₆⟩ := h₁
  have sa := ccRC_hand r₃ b₃ h₂
  have sb := ccRC_hand r₃ b₄ h₄
  have na : ∀ x, x < 96 → ¬ N x = I (-1) := fun x y₁ y₂ => (ccNm (by omega)).mp y₂
  have ne : ∀ k x, C 13 k = N x → x < 96 → ¬ (k = a ∨ k = b) := fun k x y₁ y₂ y₃ => by
    rcases y₃ with y₃ | y₃
    · rw [y₃, h₂, ccMN (by omega)] at y₁
      exact y₁
    · rw [y₃, h₄, ccMN (by omega)] at y₁
      exact y₁
  refine ⟨fun q y₁ => ?_, ⟨fun q y₁ y₂ => ?_, fun q y₁ y₂ => ?_⟩, fun k y₁ => ?_, ?_, ccRE_cg r₅ (fun j q y₁ => co j q (by omega) (by omega) (by omega) (by omega) (by omega)) (fun q y₁ => so q (by omega) (by omega) (by omega) (by omega) (by omega)), ?_⟩
  · obtain ⟨f₁, f₂, f₃⟩ := r₁ q y₁
    rw [so (632 + q) (by omega) (by omega) (by omega) (by omega) (by omega), co 6 q (by omega) (by omega) (by omega) (by omega) (by omega), c₂, c₃, c₄, c₅]
    by_cases y₂ : q = p
    · subst y₂
      rw [if_pos rfl, if_pos rfl, if_pos rfl, if_pos rfl]
      exact ⟨s₁, f₂, fun _ => ⟨s₂, s₃, s₄⟩⟩
    · rw [if_neg y₂, if_neg y₂, if_neg y₂, if_neg y₂, so (248 + 4 * q) (by omega) (by omega) (by omega) (by omega) (by omega), so (249 + 4 * q) (by omega) (by omega) (by omega) (by omega) (by omega), so (250 + 4 * q) (by omega) (by omega) (by omega) (by omega) (by omega), so (251 + 4 * q) (by omega) (by omega) (by omega) (by omega) (by omega)]
      exact ⟨f₁, f₂, f₃⟩
  · rw [c₂] at y₂
    by_cases y₃ : q = p
    · subst y₃
      exact ⟨a, b, b₃, b₄, b₅, by rw [c₂, if_pos rfl], by rw [c₃, if_pos rfl], by rw [c₁₃, if_pos (Or.inl rfl)], by rw [c₁₃, if_pos (Or.inr rfl)], s₅, s₇, rfl, rfl⟩
    · rw [if_neg y₃] at y₂
      obtain ⟨x, y, f₁, f₂, f₃, f₄, f₅, f₆, f₇, f₈, f₉, f₁₀⟩ := r₂.1 q y₁ y₂
      have g₁ := ne x q f₆ y₁
      have g₂ := ne y q f₇ y₁
      refine ⟨x, y, f₁, f₂, f₃, by rw [c₂, if_neg y₃]; exact f₄, by rw [c₃, if_neg y₃]; exact f₅, by rw [c₁₃, if_neg g₁]; exact f₆, by rw [c₁₃, if_neg g₂]; exact f₇, ?_, ?_, f₁₀⟩
      · rw [so _ (by omega) (by omega) (by omega) (by omega) (by omega)]
        exact f₈
      · rw [so _ (by omega) (by omega) (by omega) (by omega) (by omega)]
        exact f₉
  · rw [co 6 q (by omega) (by omega) (by omega) (by omega) (by omega)] at y₂ ⊢
    obtain ⟨x, f₁, f₂, f₃, f₄, f₅⟩ := r₂.2 q y₁ y₂
    have g₁ := ne x q f₃ y₁
    refine ⟨x, f₁, f₂, by rw [c₁₃, if_neg g₁]; exact f₃, ?_, f₅⟩
    rw [so _ (by omega) (by omega) (by omega) (by omega) (by omega)]
    exact f₄
  · obtain ⟨f₁, f₂⟩ := r₃ k y₁
    rw [so (8 + 6 * k) (by omega) (by omega) (by omega) (by omega) (by omega), so (11 + 6 * k) (by omega) (by omega) (by omega) (by omega) (by omega), so (12 + 6 * k) (by omega) (by omega) (by omega) (by omega) (by omega), co 11 k (by omega) (by omega) (by omega) (by omega) (by omega), co 12 k (by omega) (by omega) (by omega) (by omega) (by omega)]
    refine ⟨f₁, ?_⟩
    by_cases y₂ : k = a
    · subst y₂
      exact Or.inr (Or.inr (Or.inr ⟨rfl, p, b₂, by rw [c₁₃, if_pos (Or.inl rfl)], s₆, Or.inl ⟨s₅, by rw [c₂, if_pos rfl]; exact na k (by omega), Or.inl (by rw [c₂, if_pos rfl])⟩⟩))
    · by_cases y₃ : k = b
      · subst y₃
        exact Or.inr (Or.inr (Or.inr ⟨rfl, p, b₂, by rw [c₁₃, if_pos (Or.inr rfl)], s₈, Or.inl ⟨s₇, by rw [c₂, if_pos rfl]; exact na a (by omega), Or.inr (by rw [c₃, if_pos rfl])⟩⟩))
      · rw [c₁₃, if_neg (by omega : ¬ (k = a ∨ k = b)), so (9 + 6 * k) (by omega) (by omega) (by omega) (by omega) (by omega), so (10 + 6 * k) (by omega) (by omega) (by omega) (by omega) (by omega)]
        rcases f₂ with f₂ | f₂ | f₂ | ⟨f₂, q, f₃, f₄, f₅, f₆⟩
        · exact Or.inl f₂
        · exact Or.inr (Or.inl f₂)
        · exact Or.inr (Or.inr (Or.inl f₂))
        · refine Or.inr (Or.inr (Or.inr ⟨f₂, q, f₃, f₄, f₅, ?_⟩))
          rw [co 6 q (by omega) (by omega) (by omega) (by omega) (by omega)]
          rcases f₆ with ⟨f₆, f₇, f₈⟩ | f₆
          · have y₄ : q ≠ p := fun y₄ => f₇ (by rw [y₄]; exact h₃)
            refine Or.inl ⟨f₆, by rw [c₂, if_neg y₄]; exact f₇, ?_⟩
            rw [c₂, if_neg y₄, c₃, if_neg y₄]
            exact f₈
          · exact Or.inr f₆
  · obtain ⟨f₁, f₂, f₃, f₄, f₅⟩ := r₄
    have d₁ : ∀ k, (D 13 k = I (-2)) = (C 13 k = I (-2)) := fun k => by
      rw [c₁₃]
      by_cases y₂ : k = a ∨ k = b
      · rw [if_pos y₂, ccNm2 (by omega)]
        rcases y₂ with y₂ | y₂
        · rw [y₂, h₂, ccMM2]
        · rw [y₂, h₄, ccMM2]
      · rw [if_neg y₂]
    refine ⟨?_, by rw [co 10 5 (by omega) (by omega) (by omega) (by omega) (by omega)]; exact f₂, by rw [so 7 (by omega) (by omega) (by omega) (by omega) (by omega)]; exact f₃, fun v y₁ => ?_, fun k y₁ => ?_⟩
    · rw [f₁]
      exact ccCnt_congr n fun k _ => by simp only [d₁ k]
    · rw [so (728 + v) (by omega) (by omega) (by omega) (by omega) (by omega), co 14 v (by omega) (by omega) (by omega) (by omega) (by omega)]
      exact f₄ v y₁
    · simp only [d₁ k]
      rw [← f₅ k y₁]
      exact ccCnt_congr h fun v _ => by rw [co 14 v (by omega) (by omega) (by omega) (by omega) (by omega)]
  · unfold ccRF at r₆ ⊢
    have e₁ := ccSum_up (f := ccW1 wt C) (g := ccW1 wt D) (k := p) (fun j y₁ => by unfold ccW1; rw [c₂, if_neg y₁, c₃, if_neg y₁, co 6 j (by omega) (by omega) (by omega) (by omega) (by omega)]) 96
    rw [if_pos b₂] at e₁
    have e₂ : ccW1 wt D p - ccW1 wt C p = wt a + wt b := by
      have e₃ : ccW1 wt D p = (wt a + wt b) + (if C 6 p = I (-1) then N 0 else wt (mix (C 6 p))) := by
        unfold ccW1
        rw [c₂, if_pos rfl, c₃, if_pos rfl, if_neg (na a (by omega)), mix_N (by omega), mix_N (by omega), co 6 p (by omega) (by omega) (by omega) (by omega) (by omega)]
      have e₄ : ccW1 wt C p = N 0 + (if C 6 p = I (-1) then N 0 else wt (mix (C 6 p))) := by
        unfold ccW1
        rw [h₃, if_pos rfl]
      have e₅ : N 0 = 0 := rfl
      rw [e₃, e₄, e₅]
      grind
    have e₃ : ccW2 wt ccX0 s a = N 0 := by
      unfold ccW2
      rw [sa, if_neg (fun y₁ => absurd y₁.2 (by decide))]
    have e₄ : (fun k => if k = a then wt a else ccW2 wt ccX0 s k) b = N 0 := by
      show (if b = a then wt a else ccW2 wt ccX0 s b) = N 0
      rw [if_neg (by omega)]
      unfold ccW2
      rw [sb, if_neg (fun y₁ => absurd y₁.2 (by decide))]
    have e₅ : ccSum (ccW2 wt ccX0 u) n = ccSum (fun k => if k = b then wt b else (fun k => if k = a then wt a else ccW2 wt ccX0 s k) k) n := ccSum_congr n fun k y₁ => by
      show _ = if k = b then wt b else if k = a then wt a else ccW2 wt ccX0 s k
      by_cases y₂ : k = b
      · rw [if_pos y₂, y₂]
        unfold ccW2
        rw [s₇, if_pos ⟨rfl, by decide⟩]
      · rw [if_neg y₂]
        by_cases y₃ : k = a
        · rw [if_pos y₃, y₃]
          unfold ccW2
          rw [s₅, if_pos ⟨rfl, by decide⟩]
        · rw [if_neg y₃]
          unfold ccW2
          rw [so (9 + 6 * k) (by omega) (by omega) (by omega) (by omega) (by omega)]
    rw [e₁, e₂, e₅, ccSum_at b₄ e₄, ccSum_at b₃ e₃, r₆]
    grind
