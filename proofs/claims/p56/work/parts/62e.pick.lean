/-! CALLS: pickUp. -/
def ccNo (a : Nat) (H : Nat → Int32) : Nat → Bool := fun v => !(decide (H v = N a))
theorem ccPos_sur {f : Nat → Bool} : ∀ p u, u < ccCnt f p → ∃ v, v < p ∧ f v = true ∧ ccCnt f v = u := by
  intro p
  induction p with
  | zero =>
    intro u h₁
    have z₀ : ccCnt f 0 = 0 := rfl
    omega
  | succ p i₁ =>
    intro u h₁
    rw [ccCnt_s] at h₁
    by_cases h₂ : u < ccCnt f p
    · obtain ⟨v, v₁, v₂, v₃⟩ := i₁ u h₂
      exact ⟨v, by omega, v₂, v₃⟩
    · cases h₃ : f p
      · rw [h₃, if_neg (by decide)] at h₁
        omega
      · rw [h₃, if_pos rfl] at h₁
        exact ⟨p, by omega, h₃, by omega⟩
theorem ccCnt_mo {f : Nat → Bool} {v : Nat} (h₁ : f v = true) : ∀ p, v < p → ccCnt f v < ccCnt f p := by
  intro p
  induction p with
  | zero => intro h₂; omega
  | succ p i₁ =>
    intro h₂
    rw [ccCnt_s]
    by_cases h₃ : v = p
    · subst h₃
      rw [h₁, if_pos rfl]
      omega
    · have h₄ := i₁ (by omega)
      omega
theorem ccPos_cnt {H D : Nat → Int32} {a k h : Nat} (h₁ : k ≠ a) (h₂ : k < 1000) (h₃ : a < 1000) (h₄ : ∀ v, v < h → ccNo a H v = true → D (ccCnt (ccNo a H) v) = H v) : ∀ p, p ≤ h → ccCnt (fun u => decide (D u = N k)) (ccCnt (ccNo a H) p) = ccCnt (fun v => decide (H v = N k)) p := by
  intro p
  induction p with
  | zero => intro _; rfl
  | succ p i₁ =>
    intro g₁
    have g₂ := i₁ (by omega)
    rw [ccCnt_s, ccCnt_s]
    cases g₃ : ccNo a H p
    · have g₄ : H p = N a := by
        unfold ccNo at g₃
        simpa only [Bool.not_eq_false', decide_eq_true_eq] using g₃
      have g₅ : ¬ N a = N k := by rw [N_eq (by omega) (by omega)]; omega
      rw [if_neg (by decide), Nat.add_zero, g₂, g₄, decide_eq_false g₅, if_neg (by decide), Nat.add_zero]
    · rw [if_pos rfl, ccCnt_s, g₂, h₄ p (by omega) g₃]
theorem ccCnt_no {H : Nat → Int32} {a : Nat} : ∀ p, ccCnt (ccNo a H) p + ccCnt (fun v => decide (H v = N a)) p = p := by
  intro p
  induction p with
  | zero => rfl
  | succ p i₁ =>
    rw [ccCnt_s, ccCnt_s]
    unfold ccNo at i₁ ⊢
    by_cases g₁ : H p = N a
    · simp only [g₁, decide_true, Bool.not_true, Bool.false_eq_true, if_true, if_false]
      omega
    · simp only [g₁, decide_false, Bool.not_false, Bool.false_eq_true, if_true, if_false]
      omega
theorem ccR_pick {n h t a : Nat} {β wt : Nat → Int32} {C D : Nat → Nat → Int32} {s u : Nat → Int32} (h₁ : ccR ccX0 n β wt h t C s) (b₁ : n ≤ 40) (b₃ : a < n) (h₂ : C 13 a = I (-2))
    (c₁₃ : ∀ q, D 13 q = if q = a then I (-1) else C 13 q) (c₁₀ : D 10 5 = N (ccCnt (ccNo a (C 14)) h)) (co : ∀ j q, j ≠ 13 → j ≠ 14 → ¬ (j = 10 ∧ q = 5) → D j q = C j q) (c₁₄ : ∀ v, v < h → ccNo a (C 14) v = true → D 14 (ccCnt (ccNo a (C 14)) v) = C 14 v)
    (s₇ : u 7 = N (ccCnt (ccNo a (C 14)) h)) (s₉ : u (9 + 6 * a) = N 0) (s₁₄ : ∀ v, v < h → ccNo a (C 14) v = true → u (728 + ccCnt (ccNo a (C 14)) v) = C 14 v) (so : ∀ q, q ≠ 7 → q ≠ 9 + 6 * a → q ≠ 10 + 6 * a → ¬ (728 ≤ q ∧ q < 768) → u q = s q) : ccR ccX0 n β wt (ccCnt (ccNo a (C 14)) h) t D u := by
  have hn := ccR_h h₁
  obtain ⟨r₁, r₂, r₃, r₄, r₅, r₆⟩ := h₁
  have ne : ∀ k x, C 13 k = N x → x < 96 → k ≠ a := fun k x y₁ y₂ y₃ => by
    rw [y₃, h₂, ccM2N (by omega)] at y₁
    exact y₁
  have sa : s (9 + 6 * a) = N 1 := by
    rcases (r₃ a b₃).2 with ⟨g, _⟩ | ⟨_, e₁, _⟩ | ⟨_, _, e₂⟩ | ⟨_, p, e₀, e₁, _⟩
    · cases g
    · rw [h₂, ccM2M] at e₁
      exact e₁.elim
    · exact e₂
    · rw [h₂, ccM2N (by omega)] at e₁
      exact e₁.elim
  refine ⟨fun q y₁ => ?_, ⟨fun q y₁ y₂ => ?_, fun q y₁ y₂ => ?_⟩, fun k y₁ => ?_, ?_, ccRE_cg r₅ (fun j q y₁ => co j q (by omega) (by omega) (by omega)) (fun q y₁ => so q (by omega) (by omega) (by omega) (by omega)), ?_⟩
  · rw [so (248 + 4 * q) (by omega) (by omega) (by omega) (by omega), so (249 + 4 * q) (by omega) (by omega) (by omega) (by omega), so (250 + 4 * q) (by omega) (by omega) (by omega) (by omega), so (251 + 4 * q) (by omega) (by omega) (by omega) (by omega), so (632 + q) (by omega) (by omega) (by omega) (by omega), co 2 q (by omega) (by omega) (by omega), co 3 q (by omega) (by omega) (by omega), co 4 q (by omega) (by omega) (by omega), co 5 q (by omega) (by omega) (by omega), co 6 q (by omega) (by omega) (by omega)]
    exact r₁ q y₁
  · rw [co 2 q (by omega) (by omega) (by omega)] at y₂
    obtain ⟨x, v, f₁, f₂, f₃, f₄, f₅, f₆, f₇, f₈, f₉, f₁₀⟩ := r₂.1 q y₁ y₂
    have g₁ := ne x q f₆ y₁
    have g₂ := ne v q f₇ y₁
    refine ⟨x, v, f₁, f₂, f₃, by rw [co 2 q (by omega) (by omega) (by omega)]; exact f₄, by rw [co 3 q (by omega) (by omega) (by omega)]; exact f₅, by rw [c₁₃, if_neg g₁]; exact f₆, by rw [c₁₃, if_neg g₂]; exact f₇, ?_, ?_, f₁₀⟩
    · rw [so _ (by omega) (by omega) (by omega) (by omega)]
      exact f₈
    · rw [so _ (by omega) (by omega) (by omega) (by omega)]
      exact f₉
  · rw [co 6 q (by omega) (by omega) (by omega)] at y₂ ⊢
    obtain ⟨x, f₁, f₂, f₃, f₄, f₅⟩ := r₂.2 q y₁ y₂
    have g₁ := ne x q f₃ y₁
    refine ⟨x, f₁, f₂, by rw [c₁₃, if_neg g₁]; exact f₃, ?_, f₅⟩
    rw [so _ (by omega) (by omega) (by omega) (by omega)]
    exact f₄
  · obtain ⟨f₁, f₂⟩ := r₃ k y₁
    rw [so (8 + 6 * k) (by omega) (by omega) (by omega) (by omega), so (11 + 6 * k) (by omega) (by omega) (by omega) (by omega), so (12 + 6 * k) (by omega) (by omega) (by omega) (by omega), co 11 k (by omega) (by omega) (by omega), co 12 k (by omega) (by omega) (by omega)]
    refine ⟨f₁, ?_⟩
    by_cases y₂ : k = a
    · subst y₂
      exact Or.inr (Or.inl ⟨rfl, by rw [c₁₃, if_pos rfl], s₉⟩)
    · rw [c₁₃, if_neg y₂, so (9 + 6 * k) (by omega) (by omega) (by omega) (by omega), so (10 + 6 * k) (by omega) (by omega) (by omega) (by omega)]
      rcases f₂ with f₂ | f₂ | f₂ | ⟨f₂, q, f₃, f₄, f₅, f₆⟩
      · exact Or.inl f₂
      · exact Or.inr (Or.inl f₂)
      · exact Or.inr (Or.inr (Or.inl f₂))
      · refine Or.inr (Or.inr (Or.inr ⟨f₂, q, f₃, f₄, f₅, ?_⟩))
        rw [co 2 q (by omega) (by omega) (by omega), co 3 q (by omega) (by omega) (by omega), co 6 q (by omega) (by omega) (by omega)]
        exact f₆
  · obtain ⟨f₁, f₂, f₃, f₄, f₅⟩ := r₄
    have fa := f₅ a b₃
    rw [h₂, if_pos rfl] at fa
    have no := ccCnt_no (H := C 14) (a := a) h
    have up := ccCnt_up (f := fun k => decide (D 13 k = I (-2))) (g := fun k => decide (C 13 k = I (-2))) (k := a) (by rw [c₁₃, if_pos rfl]; exact decide_eq_false (by rw [ccMM2]; exact fun h => h)) (by rw [h₂]; exact decide_eq_true rfl) (fun j y₁ => by rw [c₁₃, if_neg y₁]) n
    rw [← f₁, if_pos b₃] at up
    refine ⟨by omega, c₁₀, s₇, fun v y₁ => ?_, fun k y₁ => ?_⟩
    · obtain ⟨x, x₁, x₂, x₃⟩ := ccPos_sur h v y₁
      rw [← x₃, s₁₄ x x₁ x₂, c₁₄ x x₁ x₂]
    · rw [c₁₃]
      by_cases y₂ : k = a
      · subst y₂
        rw [if_pos rfl, if_neg (by rw [ccMM2]; exact fun h => h)]
        rcases Nat.eq_zero_or_pos (ccCnt (fun u => decide (D 14 u = N k)) (ccCnt (ccNo k (C 14)) h)) with y₃ | y₃
        · exact y₃
        · obtain ⟨x, x₁, x₂, _⟩ := ccPos_sur (ccCnt (ccNo k (C 14)) h) 0 y₃
          obtain ⟨v, v₁, v₂, v₃⟩ := ccPos_sur h x x₁
          have v₄ := of_decide_eq_true x₂
          rw [← v₃, c₁₄ v v₁ v₂] at v₄
          unfold ccNo at v₂
          rw [decide_eq_true v₄] at v₂
          cases v₂
      · rw [if_neg y₂, ccPos_cnt y₂ (by omega) (by omega) c₁₄ h (Nat.le_refl h)]
        exact f₅ k y₁
  · unfold ccRF at r₆ ⊢
    rw [ccSum_congr (f := ccW1 wt D) (g := ccW1 wt C) 96 (fun p _ => by unfold ccW1; rw [co 2 p (by omega) (by omega) (by omega), co 3 p (by omega) (by omega) (by omega), co 6 p (by omega) (by omega) (by omega)]), ccSum_congr (f := ccW2 wt ccX0 u) (g := ccW2 wt ccX0 s) n (fun k y₁ => by
      unfold ccW2
      by_cases y₂ : k = a
      · rw [y₂, s₉, sa, if_neg (fun y₃ => absurd y₃.2 (by decide)), if_neg (fun y₃ => absurd y₃.2 (by decide))]
      · rw [so _ (by omega) (by omega) (by omega) (by omega)])]
    exact r₆
/-- the heap closes up, in the class -/
theorem ccL9 {i a h : Nat} {C : Nat → Nat → Int32} {m₀ : mMi} (h₁ : C 10 5 = N h) (h₂ : h ≤ 40) (h₃ : a < 40) : ∀ d p m, p + d = h → ccFr i m₀ m → (∀ j q, j ≠ 14 → m 0 i j q = C j q) → (∀ v, v < p → ccNo a (C 14) v = true → m 0 i 14 (ccCnt (ccNo a (C 14)) v) = C 14 v) → (∀ q, p ≤ q → m 0 i 14 q = C 14 q) →
    ∃ m₁, (∀ f rs, F9_4 i (f + d + 1) (N a) (N (ccCnt (ccNo a (C 14)) p)) (N p) m rs = rV m₁ rs) ∧ ccFr i m₀ m₁ ∧ (∀ q, m₁ 0 i 13 q = if q = a then I (-1) else C 13 q) ∧ m₁ 0 i 10 5 = N (ccCnt (ccNo a (C 14)) h) ∧ (∀ j q, j ≠ 13 → j ≠ 14 → ¬ (j = 10 ∧ q = 5) → m₁ 0 i j q = C j q) ∧ (∀ v, v < h → ccNo a (C 14) v = true → m₁ 0 i 14 (ccCnt (ccNo a (C 14)) v) = C 14 v) := by
  intro d
  induction d with
  | zero =>
    intro p m g₁ g₂ g₃ g₄ g₅
    have e₁ : p = h := by omega
    subst e₁
    have e₀ : N p ≤ N p := by rw [N_le (by omega) (by omega)]; omega
    refine ⟨mset (mset m 0 i 10 5 (N (ccCnt (ccNo a (C 14)) p))) 0 i 13 a (I (-1)), fun f rs => ?_, ccFr_set (ccFr_set g₂), fun q => ?_, ?_, fun j q y₁ y₂ y₃ => ?_, fun v y₁ y₂ => ?_⟩
    · rw [ccL9_4, g₃ 10 5 (by omega), h₁, ccIte, if_pos e₀, ccMckIn h₃ (by omega), mix_N (by omega)]
    · rw [ccRd]
      by_cases y₁ : q = a
      · rw [if_pos ⟨rfl, rfl, rfl, y₁⟩, if_pos y₁]
      · rw [if_neg (by omega), if_neg y₁, ccRd, if_neg (by omega)]
        exact g₃ 13 q (by omega)
    · rw [ccRd, if_neg (by omega), ccRd, if_pos ⟨rfl, rfl, rfl, rfl⟩]
    · rw [ccRd, if_neg (by omega), ccRd, if_neg (by omega)]
      exact g₃ j q y₂
    · rw [ccRd, if_neg (by omega), ccRd, if_neg (by omega)]
      exact g₄ v y₁ y₂
  | succ d i₁ =>
    intro p m g₁ g₂ g₃ g₄ g₅
    have e₀ : ¬ N h ≤ N p := by rw [N_le (by omega) (by omega)]; omega
    have e₂ := ccCnt_le (f := ccNo a (C 14)) p
    have e₃ := g₅ p (by omega)
    cases g₆ : ccNo a (C 14) p
    · have g₇ : C 14 p = N a := by
        unfold ccNo at g₆
        simpa only [Bool.not_eq_false', decide_eq_true_eq] using g₆
      have e₄ : ccCnt (ccNo a (C 14)) (p + 1) = ccCnt (ccNo a (C 14)) p := by rw [ccCnt_s, g₆]; rfl
      obtain ⟨m₁, a₁, a₂⟩ := i₁ (p + 1) m (by omega) g₂ g₃ (fun v y₁ y₂ => g₄ v (by
        rcases Classical.em (v = p) with y₃ | y₃
        · rw [y₃, g₆] at y₂
          cases y₂
        · omega) y₂) (fun q y₁ => g₅ q (by omega))
      refine ⟨m₁, fun f rs => ?_, a₂⟩
      have e₁ : f + (d + 1) + 1 = f + d + 1 + 1 := by omega
      have e₅ := a₁ f rs
      rw [e₄] at e₅
      rw [e₁, ccL9_4, g₃ 10 5 (by omega), h₁, ccIte, if_neg e₀, ccMckIn (by omega : p < 40) (by omega), mix_N (by omega), e₃, ccIte, if_pos g₇, N_add]
      exact e₅
    · have g₇ : ¬ C 14 p = N a := fun y₁ => by
        unfold ccNo at g₆
        rw [decide_eq_true y₁] at g₆
        cases g₆
      have e₄ : ccCnt (ccNo a (C 14)) (p + 1) = ccCnt (ccNo a (C 14)) p + 1 := by rw [ccCnt_s, g₆]; rfl
      obtain ⟨m₁, a₁, a₂⟩ := i₁ (p + 1) (mset m 0 i 14 (ccCnt (ccNo a (C 14)) p) (C 14 p)) (by omega) (ccFr_set g₂) (fun j q y₁ => by rw [ccRd, if_neg (by omega)]; exact g₃ j q y₁) (fun v y₁ y₂ => by
        rw [ccRd]
        by_cases y₃ : v = p
        · subst y₃
          rw [if_pos ⟨rfl, rfl, rfl, rfl⟩]
        · have y₄ := ccCnt_mo y₂ p (by omega)
          rw [if_neg (by omega)]
          exact g₄ v (by omega) y₂) (fun q y₁ => by rw [ccRd, if_neg (by omega)]; exact g₅ q (by omega))
      refine ⟨m₁, fun f rs => ?_, a₂⟩
      have e₁ : f + (d + 1) + 1 = f + d + 1 + 1 := by omega
      have e₅ := a₁ f rs
      rw [e₄] at e₅
      rw [e₁, ccL9_4, g₃ 10 5 (by omega), h₁, ccIte, if_neg e₀, ccMckIn (by omega : p < 40) (by omega), mix_N (by omega), e₃, ccIte, if_neg g₇, ccMckIn (by omega : p < 40) (by omega), ccMckIn (by omega : ccCnt (ccNo a (C 14)) p < 40) (by omega), mix_N (by omega), N_add, N_add]
      exact e₅
/-- and in the reference -/
theorem ccL297 {a h : Nat} {H : Nat → Int32} {s : Nat → Int32} {m₀ : mMi} (h₁ : s 7 = N h) (h₂ : h ≤ 40) (h₃ : a < 40) : ∀ d p m, p + d = h → ccFq m₀ m → (∀ q, ¬ (728 ≤ q ∧ q < 768) → m 4 0 3 q = s q) → (∀ v, v < p → ccNo a H v = true → m 4 0 3 (728 + ccCnt (ccNo a H) v) = H v) → (∀ q, p ≤ q → q < h → m 4 0 3 (728 + q) = H q) →
    ∃ m₁, (∀ f rs, F297_41 (f + d + 1) (N a) (N (ccCnt (ccNo a H) p)) (N p) m rs = rI (N (ccCnt (ccNo a H) h)) m₁ rs) ∧ ccFq m₀ m₁ ∧ m₁ 4 0 3 7 = N (ccCnt (ccNo a H) h) ∧ m₁ 4 0 3 (9 + 6 * a) = N 0 ∧ (∀ v, v < h → ccNo a H v = true → m₁ 4 0 3 (728 + ccCnt (ccNo a H) v) = H v) ∧ (∀ q, q ≠ 7 → q ≠ 9 + 6 * a → q ≠ 10 + 6 * a → ¬ (728 ≤ q ∧ q < 768) → m₁ 4 0 3 q = s q) := by
  intro d
  induction d with
  | zero =>
    intro p m g₁ g₂ g₃ g₄ g₅
    have e₁ : p = h := by omega
    subst e₁
    have e₀ : N p ≤ N p := by rw [N_le (by omega) (by omega)]; omega
    have e₂ := ccCnt_le (f := ccNo a H) p
    refine ⟨mset (mset (mset m 4 0 3 7 (N (ccCnt (ccNo a H) p))) 4 0 3 (9 + 6 * a) (N 0)) 4 0 3 (10 + 6 * a) (N 0), fun f rs => ?_, ccFq_set (ccFq_set (ccFq_set g₂ (by omega)) (by omega)) (by omega), ?_, ?_, fun v y₁ y₂ => ?_, fun q y₁ y₂ y₃ y₄ => ?_⟩
    · rw [ccL297_41, g₃ 7 (by omega), h₁, ccIte, if_pos e₀, ccE207 h₃, ccBv]
    · rw [ccRd, if_neg (by omega), ccRd, if_neg (by omega), ccRd, if_pos ⟨rfl, rfl, rfl, rfl⟩]
    · rw [ccRd, if_neg (by omega), ccRd, if_pos ⟨rfl, rfl, rfl, rfl⟩]
    · have y₃ := ccCnt_mo y₂ p y₁
      rw [ccRd, if_neg (by omega), ccRd, if_neg (by omega), ccRd, if_neg (by omega)]
      exact g₄ v y₁ y₂
    · rw [ccRd, if_neg (by omega), ccRd, if_neg (by omega), ccRd, if_neg (by omega)]
      exact g₃ q y₄
  | succ d i₁ =>
    intro p m g₁ g₂ g₃ g₄ g₅
    have e₀ : ¬ N h ≤ N p := by rw [N_le (by omega) (by omega)]; omega
    have e₂ := ccCnt_le (f := ccNo a H) p
    have e₃ := g₅ p (by omega) (by omega)
    have n₁ : N 728 + N p = N (728 + p) := by rw [N_add]
    have n₂ : N 728 + N (ccCnt (ccNo a H) p) = N (728 + ccCnt (ccNo a H) p) := by rw [N_add]
    obtain ⟨m₁, a₁, a₂⟩ := i₁ (p + 1) (mset m 4 0 3 (728 + ccCnt (ccNo a H) p) (H p)) (by omega) (ccFq_set g₂ (by omega)) (fun q y₁ => by rw [ccRd, if_neg (by omega)]; exact g₃ q y₁) (fun v y₁ y₂ => by
      rw [ccRd]
      by_cases y₃ : v = p
      · subst y₃
        rw [if_pos ⟨rfl, rfl, rfl, rfl⟩]
      · have y₄ := ccCnt_mo y₂ p (by omega)
        rw [if_neg (by omega)]
        exact g₄ v (by omega) y₂) (fun q y₁ y₂ => by rw [ccRd, if_neg (by omega)]; exact g₅ q (by omega) y₂)
    refine ⟨m₁, fun f rs => ?_, a₂⟩
    have e₁ : f + (d + 1) + 1 = f + d + 1 + 1 := by omega
    have e₅ := a₁ f rs
    cases g₆ : ccNo a H p
    · have g₇ : H p = N a := by
        unfold ccNo at g₆
        simpa only [Bool.not_eq_false', decide_eq_true_eq] using g₆
      have e₄ : ccCnt (ccNo a H) (p + 1) = ccCnt (ccNo a H) p + 0 := by rw [ccCnt_s, g₆]; rfl
      rw [e₄] at e₅
      rw [e₁, ccL297_41, g₃ 7 (by omega), h₁, ccIte, if_neg e₀, n₁, n₂, ccMckIn (by omega) (by omega), ccMckIn (by omega) (by omega), mix_N (by omega), mix_N (by omega), e₃, ccIte, if_pos g₇, ccE224f, ccBi, N_add, N_add]
      exact e₅
    · have g₇ : ¬ H p = N a := fun y₁ => by
        unfold ccNo at g₆
        rw [decide_eq_true y₁] at g₆
        cases g₆
      have e₄ : ccCnt (ccNo a H) (p + 1) = ccCnt (ccNo a H) p + 1 := by rw [ccCnt_s, g₆]; rfl
      rw [e₄] at e₅
      rw [e₁, ccL297_41, g₃ 7 (by omega), h₁, ccIte, if_neg e₀, n₁, n₂, ccMckIn (by omega) (by omega), ccMckIn (by omega) (by omega), mix_N (by omega), mix_N (by omega), e₃, ccIte, if_neg g₇, ccE224t, ccBi, N_add, N_add]
      exact e₅
theorem ccOk_162 {B : Nat} {m : mMi} {x : Int32} (hB : B ≤ 900000000) (h₁ : ccTop B m) : ccOk B (F162 x) (F297 x) [(1, 1), (2, 2), (3, 3)] m := by
  refine ccOk_card (b := N 0) h₁ (List.mem_cons_self) (List.mem_cons_of_mem _ List.mem_cons_self) (fun m rs => rfl) (fun m rs => rfl) (fun w l n bd lm dp cl β W a h₂ e₁ e₂ => ?_)
  have qr : ccRu m 0 w l n := h₂.2.2.1.1
  have b₃ : n ≤ 40 := qr.2.2.2.2.2.2.2
  subst e₁
  have i₃ : (3, 3) ∈ [(1, 1), (2, 2), (3, 3)] := List.mem_cons_of_mem _ (List.mem_cons_of_mem _ List.mem_cons_self)
  obtain ⟨h', t', q₁, q₂, _⟩ := ccLd_R h₂
  have k₀ : a < 40 := by omega
  have st : (m 0 0 13 a = I (-2) ∧ m 4 0 3 (9 + 6 * a) = N 1) ∨ (m 0 0 13 a ≠ I (-2) ∧ m 4 0 3 (9 + 6 * a) ≠ N 1) := by
    rcases (q₁.2.2.1 a e₂).2 with ⟨g, _⟩ | ⟨_, f₁, f₂⟩ | ⟨_, f₁, f₂⟩ | ⟨_, p, f₀, f₁, _, f₂⟩
    · cases g
    · exact Or.inr ⟨by rw [f₁, ne_eq, ccMM2]; exact fun h => h, by rw [f₂, ne_eq, N_eq (by omega) (by omega)]; omega⟩
    · exact Or.inl ⟨f₁, f₂⟩
    · refine Or.inr ⟨by rw [f₁, ne_eq, ccNm2 (by omega)]; exact fun h => h, ?_⟩
      rcases f₂ with ⟨f₂, _⟩ | ⟨f₂, _⟩
      · rw [f₂, ne_eq, N_eq (by omega) (by omega)]
        omega
      · rw [f₂, ne_eq, N_eq (by omega) (by omega)]
        omega
  have u₁ : ∀ M, ccMo4 m M → ccM0 M 4 0 3 (9 + 6 * a) = m 4 0 3 (9 + 6 * a) := fun M y₁ => by rw [ccM0_r (by omega), y₁]
  rcases st with ⟨g₁, g₂⟩ | ⟨g₁, g₂⟩
  rotate_left
  · refine ccOk_no (E := 3) (c := 3) h₁ i₃ (fun rs => ?_) (fun rs => ?_)
    · show mckO (mIn (N a) 40) _ = _
      rw [ccMckIn k₀ (by omega), mix_N (by omega), ccIte, if_pos g₁, ccE107f, ccBvX]
    · show bI (F204 (N a) (N 1) (ccM0 m) rs) _ = _
      rw [ccE204b k₀, ccBi, u₁ m (fun _ _ _ => rfl), ccIte, if_neg g₂, ccE178t ccT0s (by omega) (by omega), ccBi, ccIf1e]
  refine ccOk_imp (ccChange (oc := fun m r => bV (F9 0 (N a) m r) (fun m r => rI (m 0 0 10 5) m r)) (om := fun M r => F297_41 FU (N a) (N 0) (N 0) M r) h₁ h₂ (fun mc mm k₁ k₂ k₃ k₄ k₅ => ?_)) (fun rs => ?_) (fun M rs y₁ => ?_)
  · obtain ⟨h, t, j₁, j₂, j₃, j₄, _⟩ := ccJ_of hB h₂ k₁ k₂ k₃ k₄ k₅
    have r₀ := j₁.1.2.2.2.2.2.1
    have hn := ccR_h r₀
    have hh := ccR_hh r₀
    have rd := r₀.2.2.2.1.2.2.2.1
    obtain ⟨m₁, a₁, a₂, a₃, a₄, a₅, a₆⟩ := ccL9 (i := 0) (a := a) (C := mc 0 0) (m₀ := mc) hh.1 (by omega) k₀ h 0 mc (by omega) ccFr_rfl (fun _ _ _ => rfl) (fun v y₁ _ => by omega) (fun _ _ => rfl)
    obtain ⟨m₂, c₁, c₂, c₃, c₄, c₅, c₆⟩ := ccL297 (a := a) (H := mc 0 0 14) (s := mm 4 0 3) (m₀ := mm) hh.2 (by omega) k₀ h 0 mm (by omega) ccFq_rfl (fun _ _ => rfl) (fun v y₁ _ => by omega) (fun q _ y₁ => rd q y₁)
    have r₁ := ccR_pick (a := a) (D := m₁ 0 0) (u := m₂ 4 0 3) r₀ b₃ e₂ (by rw [k₁]; exact g₁) a₃ a₄ a₅ a₆ c₃ c₄ c₅ c₆
    have co : ∀ j q, j ≠ 13 → j ≠ 14 → j ≠ 10 → m₁ 0 0 j q = mc 0 0 j q := fun j q y₁ y₂ y₃ => a₅ j q y₁ y₂ (by omega)
    have d₁ : ccJ m₁ m₂ 0 w l n bd β (fun k => N (W k)) W (ccCnt (ccNo a (mc 0 0 14)) h) t := by
      refine ccJ_new (h' := ccCnt (ccNo a (mc 0 0 14)) h) j₁ a₂ c₂ r₁ (fun p y₁ => ?_) (fun p y₁ y₂ => ?_) (by omega)
      · rw [co 2 p (by omega) (by omega) (by omega), co 6 p (by omega) (by omega) (by omega)]
        exact j₁.1.2.2.2.2.2.2.1 p y₁
      · have y₃ := j₁.2.1 p y₁ y₂
        unfold ccVf ccVp at y₃ ⊢
        rw [co 2 p (by omega) (by omega) (by omega), co 2 (p - 12) (by omega) (by omega) (by omega), co 2 (p - 11) (by omega) (by omega) (by omega), co 6 p (by omega) (by omega) (by omega)]
        exact y₃
    have qt : ccQt W (m₁ 0 0) w l := ccQt_congr (fun p => co 2 p (by omega) (by omega) (by omega)) (fun p => co 3 p (by omega) (by omega) (by omega)) (fun p => co 6 p (by omega) (by omega) (by omega)) (fun p => co 4 p (by omega) (by omega) (by omega)) (fun p => co 11 p (by omega) (by omega) (by omega)) j₃
    have nn : ccQn (N lm) (m₁ 0 0) := ccQn_less (fun q => Or.inl (co 2 q (by omega) (by omega) (by omega))) (fun q => co 4 q (by omega) (by omega) (by omega)) (fun q => co 5 q (by omega) (by omega) (by omega)) j₄
    refine ⟨m₁, m₂, N (ccCnt (ccNo a (mc 0 0 14)) h), fun rs => ?_, fun rs => ?_, a₂, c₂, ccKK_of d₁ qt nn (by omega)⟩
    · obtain ⟨g, hg⟩ := ccFU (k := h) (by omega)
      have y₁ := a₁ g rs
      show bV (F9 0 (N a) mc rs) _ = _
      unfold F9
      rw [hg]
      show bV (F9_4 0 (g + h + 1) (N a) (N (ccCnt (ccNo a (mc 0 0 14)) 0)) (N 0) mc rs) _ = _
      rw [y₁, ccBv, a₄]
    · obtain ⟨g, hg⟩ := ccFU (k := h) (by omega)
      show F297_41 FU (N a) (N (ccCnt (ccNo a (mc 0 0 14)) 0)) (N 0) mm rs = _
      rw [hg, c₁]
  · show mckO (mIn (N a) 40) _ = _
    have g₃ : ¬ m 0 0 13 a ≠ I (-2) := fun y₁ => y₁ g₁
    rw [ccMckIn k₀ (by omega), mix_N (by omega), ccIte, if_neg g₃, ccE107t, ccBv]
  · show bI (F204 (N a) (N 1) (ccM0 M) rs) _ = _
    rw [ccE204b k₀, ccBi, u₁ M y₁, ccIte, if_pos g₂, ccE178f ccT0s, ccBi, ccIf0e]
