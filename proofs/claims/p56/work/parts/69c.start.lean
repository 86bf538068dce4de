/-! LOAD: the first state, a card more, what is kept aside. -/
theorem ccSum_0 {f : Nat → Int32} : ∀ n, (∀ k, k < n → f k = N 0) → ccSum f n = N 0 := by
  intro n
  induction n with
  | zero => intro _; rfl
  | succ n i₁ =>
    intro h₁
    have e₁ := i₁ (fun k g₁ => h₁ k (by omega))
    show ccSum f n + f n = N 0
    rw [e₁, h₁ n (by omega), N_add]
theorem ccR_init {β wt : Nat → Int32} {C : Nat → Nat → Int32} {s : Nat → Int32} (c₂ : ∀ p, p < 96 → C 2 p = I (-1)) (c₆ : ∀ p, p < 96 → C 6 p = I (-1)) (c₁₀ : C 10 5 = N 0) (c₇ : C 7 2 = N 0) (c₉ : ∀ u, u < 4 → C 9 u = N 0) (c₅ : C 0 5 = N 0) (c₀ : C 0 6 = N 0)
    (s₂ : ∀ p, p < 96 → s (248 + 4 * p) = I (-1)) (s₆ : ∀ p, p < 96 → s (632 + p) = I (-1)) (s₀ : ∀ q, q < 8 → s q = N 0) : ccR ccX0 0 β wt 0 0 C s := by
  refine ⟨fun p y₁ => ⟨by rw [s₂ p y₁, c₂ p y₁], by rw [s₆ p y₁, c₆ p y₁], fun y₂ => absurd (c₂ p y₁) y₂⟩, ⟨fun p y₁ y₂ => absurd (c₂ p y₁) y₂, fun p y₁ y₂ => absurd (c₆ p y₁) y₂⟩, fun k y₁ => by omega, ⟨rfl, c₁₀, s₀ 7 (by omega), fun u y₁ => by omega, fun k y₁ => by omega⟩, ⟨c₇, s₀ 1 (by omega), fun u y₁ y₂ => by omega, fun u y₁ => by rw [s₀ (2 + u) (by omega), c₉ u y₁], by rw [s₀ 0 (by omega), c₅], by rw [s₀ 6 (by omega), c₀], 0, c₅, by omega⟩, ?_⟩
  unfold ccRF
  have e₁ : ccSum (ccW2 wt ccX0 s) 0 = N 0 := rfl
  rw [e₁]
  refine ccSum_0 96 (fun p y₁ => ?_)
  unfold ccW1
  rw [if_pos (c₂ p y₁), if_pos (c₆ p y₁), N_add]
theorem ccR_card {n t z : Nat} {β wt β₂ wt₂ : Nat → Int32} {C D : Nat → Nat → Int32} {s u : Nat → Int32} (h₁ : ccR ccX0 n β wt 0 t C s) (b₁ : n < 40) (hz : 1 ≤ z ∧ z ≤ 9)
    (k₁ : C 13 n = I (-1)) (k₂ : C 12 n = N 0) (k₃ : s (9 + 6 * n) = N 0) (k₄ : s (11 + 6 * n) = N 0) (k₅ : s (12 + 6 * n) = N 0)
    (cn : D 11 n = N z) (co : ∀ j q, ¬ (j = 11 ∧ q = n) → D j q = C j q) (s₁ : u (8 + 6 * n) = N z) (so : ∀ q, q ≠ 8 + 6 * n → u q = s q)
    (hb : ∀ k, k < n → β₂ k = β k) (hn : β₂ n = N z) (hw : ∀ k, k < n → wt₂ k = wt k) : ccR ccX0 (n + 1) β₂ wt₂ 0 t D u := by
  obtain ⟨r₁, r₂, r₃, r₄, r₅, r₆⟩ := h₁
  refine ⟨fun p y₁ => ?_, ⟨fun p y₁ y₂ => ?_, fun p y₁ y₂ => ?_⟩, fun k y₁ => ?_, ⟨?_, ?_, ?_, fun v y₁ => by omega, fun k y₁ => ?_⟩, ccRE_cg r₅ (fun j q y₁ => co j q (by omega)) (fun q y₁ => so q (by omega)), ?_⟩
  · rw [so (248 + 4 * p) (by omega), so (249 + 4 * p) (by omega), so (250 + 4 * p) (by omega), so (251 + 4 * p) (by omega), so (632 + p) (by omega), co 2 p (by omega), co 3 p (by omega), co 4 p (by omega), co 5 p (by omega), co 6 p (by omega)]
    exact r₁ p y₁
  · rw [co 2 p (by omega)] at y₂
    obtain ⟨a, b, f₁, f₂, f₃, f₄, f₅, f₆, f₇, f₈, f₉, f₁₀⟩ := r₂.1 p y₁ y₂
    refine ⟨a, b, by omega, by omega, f₃, by rw [co 2 p (by omega)]; exact f₄, by rw [co 3 p (by omega)]; exact f₅, by rw [co 13 a (by omega)]; exact f₆, by rw [co 13 b (by omega)]; exact f₇, by rw [so _ (by omega)]; exact f₈, by rw [so _ (by omega)]; exact f₉, f₁₀⟩
  · rw [co 6 p (by omega)] at y₂
    obtain ⟨a, f₁, f₂, f₃, f₄, f₅⟩ := r₂.2 p y₁ y₂
    exact ⟨a, by omega, by rw [co 6 p (by omega)]; exact f₂, by rw [co 13 a (by omega)]; exact f₃, by rw [so _ (by omega)]; exact f₄, f₅⟩
  · by_cases y₂ : k = n
    · subst y₂
      refine ⟨⟨by rw [s₁, cn], by rw [so _ (by omega), co 12 k (by omega), k₄, k₂], z, 0, cn, by rw [so _ (by omega)]; exact k₅, hn, hz.1, hz.2⟩, Or.inr (Or.inl ⟨rfl, by rw [co 13 k (by omega)]; exact k₁, by rw [so _ (by omega)]; exact k₃⟩)⟩
    · have y₃ := r₃ k (by omega)
      rw [so (8 + 6 * k) (by omega), so (9 + 6 * k) (by omega), so (10 + 6 * k) (by omega), so (11 + 6 * k) (by omega), so (12 + 6 * k) (by omega), co 11 k (by omega), co 12 k (by omega), co 13 k (by omega), hb k (by omega)]
      refine ⟨y₃.1, ?_⟩
      rcases y₃.2 with f₂ | f₂ | f₂ | ⟨f₂, q, f₃, f₄, f₅, f₆⟩
      · exact Or.inl f₂
      · exact Or.inr (Or.inl f₂)
      · exact Or.inr (Or.inr (Or.inl f₂))
      · exact Or.inr (Or.inr (Or.inr ⟨f₂, q, f₃, f₄, f₅, by rw [co 2 q (by omega), co 3 q (by omega), co 6 q (by omega)]; exact f₆⟩))
  · have y₁ := r₄.1
    have y₂ : decide (D 13 n = I (-2)) = false := by
      rw [co 13 n (by omega), k₁]
      exact decide_eq_false (fun z₁ => by rw [ccMM2] at z₁; exact z₁)
    show 0 = ccCnt (fun k => decide (D 13 k = I (-2))) n + (if decide (D 13 n = I (-2)) = true then 1 else 0)
    rw [y₂, if_neg (by intro z₁; cases z₁), Nat.add_zero, y₁]
    exact ccCnt_congr n (fun k _ => by rw [co 13 k (by omega)])
  · rw [co 10 5 (by omega)]
    exact r₄.2.1
  · rw [so 7 (by omega)]
    exact r₄.2.2.1
  · have y₃ : ∀ g : Nat → Bool, ccCnt g 0 = 0 := fun g => rfl
    rw [y₃]
    by_cases y₂ : k = n
    · rw [y₂, co 13 n (by omega), k₁, if_neg (fun z₁ => by rw [ccMM2] at z₁; exact z₁)]
    · have y₄ := r₄.2.2.2.2 k (by omega)
      rw [y₃] at y₄
      rw [co 13 k (by omega)]
      exact y₄
  · unfold ccRF at r₆ ⊢
    have e₁ : ccSum (ccW1 wt₂ D) 96 = ccSum (ccW1 wt C) 96 := ccSum_congr 96 (fun p y₁ => by
      unfold ccW1
      rw [co 2 p (by omega), co 3 p (by omega), co 6 p (by omega)]
      have z₁ : (if C 2 p = I (-1) then N 0 else wt₂ (mix (C 2 p)) + wt₂ (mix (C 3 p))) = if C 2 p = I (-1) then N 0 else wt (mix (C 2 p)) + wt (mix (C 3 p)) := by
        by_cases z₂ : C 2 p = I (-1)
        · rw [if_pos z₂, if_pos z₂]
        · obtain ⟨a, b, f₁, f₂, f₃, f₄, f₅, _⟩ := r₂.1 p y₁ z₂
          rw [if_neg z₂, if_neg z₂, f₄, f₅, mix_N (by omega), mix_N (by omega), hw a f₁, hw b f₂]
      have z₃ : (if C 6 p = I (-1) then N 0 else wt₂ (mix (C 6 p))) = if C 6 p = I (-1) then N 0 else wt (mix (C 6 p)) := by
        by_cases z₂ : C 6 p = I (-1)
        · rw [if_pos z₂, if_pos z₂]
        · obtain ⟨a, f₁, f₂, _⟩ := r₂.2 p y₁ z₂
          rw [if_neg z₂, if_neg z₂, f₂, mix_N (by omega), hw a f₁]
      rw [z₁, z₃])
    have e₂ : ccSum (ccW2 wt₂ ccX0 u) n = ccSum (ccW2 wt ccX0 s) n := ccSum_congr n (fun k y₁ => by
      unfold ccW2
      rw [so _ (by omega), hw k y₁])
    have e₃ : ccW2 wt₂ ccX0 u n = N 0 := by
      have z₁ : ¬ N 2 ≤ N 0 := by rw [N_le (by omega) (by omega)]; omega
      unfold ccW2
      rw [so _ (by omega), k₃, if_neg (fun z₂ => z₁ z₂.2)]
    have e₄ : ccSum (ccW2 wt₂ ccX0 u) (n + 1) = ccSum (ccW2 wt₂ ccX0 u) n + ccW2 wt₂ ccX0 u n := rfl
    have e₅ : ccSum (ccW2 wt ccX0 s) n + N 0 = ccSum (ccW2 wt ccX0 s) n := Int32.add_zero _
    rw [e₁, e₄, e₂, e₃, e₅]
    exact r₆
theorem ccCpL179_55 : ∀ d p m, p + d = 918 → ∃ m₁, (∀ f rs, F179_55 (f + d + 1) (N p) m rs = rV (mset (mset (mset (mset (mset (mset (mset m₁ 4 0 11 0 (m₁ 4 0 0 2)) 4 0 11 1 (m₁ 4 0 0 3)) 4 0 11 2 (m₁ 4 0 0 4)) 4 0 11 3 (m₁ 4 0 0 5)) 4 0 11 4 (m₁ 4 0 0 6)) 4 0 11 5 (m₁ 4 0 0 7)) 4 0 11 6 (m₁ 4 0 0 8)) rs) ∧ (∀ q, p ≤ q → q < 918 → m₁ 4 0 10 q = m 4 0 3 q) ∧ ∀ f a j q, ¬ (f = 4 ∧ a = 0 ∧ j = 10 ∧ p ≤ q ∧ q < 918) → m₁ f a j q = m f a j q := by
  intro d
  induction d with
  | zero =>
    intro p m g₁
    have e₁ : N 918 ≤ N p := by rw [N_le (by omega) (by omega)]; omega
    exact ⟨m, fun f rs => by rw [ccL179_55, ccIte, if_pos e₁], fun q y₁ y₂ => by omega, fun _ _ _ _ _ => rfl⟩
  | succ d i₁ =>
    intro p m g₁
    have e₁ : ¬ N 918 ≤ N p := by rw [N_le (by omega) (by omega)]; omega
    obtain ⟨m₁, a₁, a₂, a₃⟩ := i₁ (p + 1) (mset m 4 0 10 p (m 4 0 3 p)) (by omega)
    refine ⟨m₁, fun f rs => ?_, fun q y₁ y₂ => ?_, fun f a j q y₁ => ?_⟩
    · have e₂ : f + (d + 1) + 1 = f + d + 1 + 1 := by omega
      rw [e₂, ccL179_55, ccIte, if_neg e₁, ccMckIn (by omega) (by omega), ccMckIn (by omega) (by omega), mix_N (by omega), N_add]
      exact a₁ f rs
    · by_cases y₃ : q = p
      · rw [y₃, a₃ 4 0 10 p (by omega), ccRd, if_pos ⟨rfl, rfl, rfl, rfl⟩]
      · rw [a₂ q (by omega) y₂, ccRd, if_neg (by omega)]
    · rw [a₃ f a j q (by omega), ccRd, if_neg (by omega)]
theorem ccCpL179_29 : ∀ d p m, p + d = 40 → ∃ m₁, (∀ f rs, F179_29 (f + d + 1) (N p) m rs = F179_55 FU (N 0) m₁ rs) ∧ (∀ q, p ≤ q → q < 40 → m₁ 4 0 9 q = m 4 0 2 q) ∧ ∀ f a j q, ¬ (f = 4 ∧ a = 0 ∧ j = 9 ∧ p ≤ q ∧ q < 40) → m₁ f a j q = m f a j q := by
  intro d
  induction d with
  | zero =>
    intro p m g₁
    have e₁ : N 40 ≤ N p := by rw [N_le (by omega) (by omega)]; omega
    exact ⟨m, fun f rs => by rw [ccL179_29, ccIte, if_pos e₁], fun q y₁ y₂ => by omega, fun _ _ _ _ _ => rfl⟩
  | succ d i₁ =>
    intro p m g₁
    have e₁ : ¬ N 40 ≤ N p := by rw [N_le (by omega) (by omega)]; omega
    obtain ⟨m₁, a₁, a₂, a₃⟩ := i₁ (p + 1) (mset m 4 0 9 p (m 4 0 2 p)) (by omega)
    refine ⟨m₁, fun f rs => ?_, fun q y₁ y₂ => ?_, fun f a j q y₁ => ?_⟩
    · have e₂ : f + (d + 1) + 1 = f + d + 1 + 1 := by omega
      rw [e₂, ccL179_29, ccIte, if_neg e₁, ccMckIn (by omega) (by omega), ccMckIn (by omega) (by omega), mix_N (by omega), N_add]
      exact a₁ f rs
    · by_cases y₃ : q = p
      · rw [y₃, a₃ 4 0 9 p (by omega), ccRd, if_pos ⟨rfl, rfl, rfl, rfl⟩]
      · rw [a₂ q (by omega) y₂, ccRd, if_neg (by omega)]
    · rw [a₃ f a j q (by omega), ccRd, if_neg (by omega)]
theorem ccCpL179_2 : ∀ d p m, p + d = 240 → ∃ m₁, (∀ f rs, F179_2 (f + d + 1) (N p) m rs = F179_29 FU (N 0) m₁ rs) ∧ (∀ q, p ≤ q → q < 240 → m₁ 4 0 8 q = m 4 0 1 q) ∧ ∀ f a j q, ¬ (f = 4 ∧ a = 0 ∧ j = 8 ∧ p ≤ q ∧ q < 240) → m₁ f a j q = m f a j q := by
  intro d
  induction d with
  | zero =>
    intro p m g₁
    have e₁ : N 240 ≤ N p := by rw [N_le (by omega) (by omega)]; omega
    exact ⟨m, fun f rs => by rw [ccL179_2, ccIte, if_pos e₁], fun q y₁ y₂ => by omega, fun _ _ _ _ _ => rfl⟩
  | succ d i₁ =>
    intro p m g₁
    have e₁ : ¬ N 240 ≤ N p := by rw [N_le (by omega) (by omega)]; omega
    obtain ⟨m₁, a₁, a₂, a₃⟩ := i₁ (p + 1) (mset m 4 0 8 p (m 4 0 1 p)) (by omega)
    refine ⟨m₁, fun f rs => ?_, fun q y₁ y₂ => ?_, fun f a j q y₁ => ?_⟩
    · have e₂ : f + (d + 1) + 1 = f + d + 1 + 1 := by omega
      rw [e₂, ccL179_2, ccIte, if_neg e₁, ccMckIn (by omega) (by omega), ccMckIn (by omega) (by omega), mix_N (by omega), N_add]
      exact a₁ f rs
    · by_cases y₃ : q = p
      · rw [y₃, a₃ 4 0 8 p (by omega), ccRd, if_pos ⟨rfl, rfl, rfl, rfl⟩]
      · rw [a₂ q (by omega) y₂, ccRd, if_neg (by omega)]
    · rw [a₃ f a j q (by omega), ccRd, if_neg (by omega)]
theorem ccCpL211_55 : ∀ d p m, p + d = 918 → ∃ m₁, (∀ f rs, F211_55 (f + d + 1) (N p) m rs = rV (mset (mset (mset (mset (mset (mset (mset m₁ 4 0 0 2 (m₁ 4 0 11 0)) 4 0 0 3 (m₁ 4 0 11 1)) 4 0 0 4 (m₁ 4 0 11 2)) 4 0 0 5 (m₁ 4 0 11 3)) 4 0 0 6 (m₁ 4 0 11 4)) 4 0 0 7 (m₁ 4 0 11 5)) 4 0 0 8 (m₁ 4 0 11 6)) rs) ∧ (∀ q, p ≤ q → q < 918 → m₁ 4 0 3 q = m 4 0 10 q) ∧ ∀ f a j q, ¬ (f = 4 ∧ a = 0 ∧ j = 3 ∧ p ≤ q ∧ q < 918) → m₁ f a j q = m f a j q := by
  intro d
  induction d with
  | zero =>
    intro p m g₁
    have e₁ : N 918 ≤ N p := by rw [N_le (by omega) (by omega)]; omega
    exact ⟨m, fun f rs => by rw [ccL211_55, ccIte, if_pos e₁], fun q y₁ y₂ => by omega, fun _ _ _ _ _ => rfl⟩
  | succ d i₁ =>
    intro p m g₁
    have e₁ : ¬ N 918 ≤ N p := by rw [N_le (by omega) (by omega)]; omega
    obtain ⟨m₁, a₁, a₂, a₃⟩ := i₁ (p + 1) (mset m 4 0 3 p (m 4 0 10 p)) (by omega)
    refine ⟨m₁, fun f rs => ?_, fun q y₁ y₂ => ?_, fun f a j q y₁ => ?_⟩
    · have e₂ : f + (d + 1) + 1 = f + d + 1 + 1 := by omega
      rw [e₂, ccL211_55, ccIte, if_neg e₁, ccMckIn (by omega) (by omega), ccMckIn (by omega) (by omega), mix_N (by omega), N_add]
      exact a₁ f rs
    · by_cases y₃ : q = p
      · rw [y₃, a₃ 4 0 3 p (by omega), ccRd, if_pos ⟨rfl, rfl, rfl, rfl⟩]
      · rw [a₂ q (by omega) y₂, ccRd, if_neg (by omega)]
    · rw [a₃ f a j q (by omega), ccRd, if_neg (by omega)]
theorem ccCpL211_29 : ∀ d p m, p + d = 40 → ∃ m₁, (∀ f rs, F211_29 (f + d + 1) (N p) m rs = F211_55 FU (N 0) m₁ rs) ∧ (∀ q, p ≤ q → q < 40 → m₁ 4 0 2 q = m 4 0 9 q) ∧ ∀ f a j q, ¬ (f = 4 ∧ a = 0 ∧ j = 2 ∧ p ≤ q ∧ q < 40) → m₁ f a j q = m f a j q := by
  intro d
  induction d with
  | zero =>
    intro p m g₁
    have e₁ : N 40 ≤ N p := by rw [N_le (by omega) (by omega)]; omega
    exact ⟨m, fun f rs => by rw [ccL211_29, ccIte, if_pos e₁], fun q y₁ y₂ => by omega, fun _ _ _ _ _ => rfl⟩
  | succ d i₁ =>
    intro p m g₁
    have e₁ : ¬ N 40 ≤ N p := by rw [N_le (by omega) (by omega)]; omega
    obtain ⟨m₁, a₁, a₂, a₃⟩ := i₁ (p + 1) (mset m 4 0 2 p (m 4 0 9 p)) (by omega)
    refine ⟨m₁, fun f rs => ?_, fun q y₁ y₂ => ?_, fun f a j q y₁ => ?_⟩
    · have e₂ : f + (d + 1) + 1 = f + d + 1 + 1 := by omega
      rw [e₂, ccL211_29, ccIte, if_neg e₁, ccMckIn (by omega) (by omega), ccMckIn (by omega) (by omega), mix_N (by omega), N_add]
      exact a₁ f rs
    · by_cases y₃ : q = p
      · rw [y₃, a₃ 4 0 2 p (by omega), ccRd, if_pos ⟨rfl, rfl, rfl, rfl⟩]
      · rw [a₂ q (by omega) y₂, ccRd, if_neg (by omega)]
    · rw [a₃ f a j q (by omega), ccRd, if_neg (by omega)]
theorem ccCpL211_2 : ∀ d p m, p + d = 240 → ∃ m₁, (∀ f rs, F211_2 (f + d + 1) (N p) m rs = F211_29 FU (N 0) m₁ rs) ∧ (∀ q, p ≤ q → q < 240 → m₁ 4 0 1 q = m 4 0 8 q) ∧ ∀ f a j q, ¬ (f = 4 ∧ a = 0 ∧ j = 1 ∧ p ≤ q ∧ q < 240) → m₁ f a j q = m f a j q := by
  intro d
  induction d with
  | zero =>
    intro p m g₁
    have e₁ : N 240 ≤ N p := by rw [N_le (by omega) (by omega)]; omega
    exact ⟨m, fun f rs => by rw [ccL211_2, ccIte, if_pos e₁], fun q y₁ y₂ => by omega, fun _ _ _ _ _ => rfl⟩
  | succ d i₁ =>
    intro p m g₁
    have e₁ : ¬ N 240 ≤ N p := by rw [N_le (by omega) (by omega)]; omega
    obtain ⟨m₁, a₁, a₂, a₃⟩ := i₁ (p + 1) (mset m 4 0 1 p (m 4 0 8 p)) (by omega)
    refine ⟨m₁, fun f rs => ?_, fun q y₁ y₂ => ?_, fun f a j q y₁ => ?_⟩
    · have e₂ : f + (d + 1) + 1 = f + d + 1 + 1 := by omega
      rw [e₂, ccL211_2, ccIte, if_neg e₁, ccMckIn (by omega) (by omega), ccMckIn (by omega) (by omega), mix_N (by omega), N_add]
      exact a₁ f rs
    · by_cases y₃ : q = p
      · rw [y₃, a₃ 4 0 1 p (by omega), ccRd, if_pos ⟨rfl, rfl, rfl, rfl⟩]
      · rw [a₂ q (by omega) y₂, ccRd, if_neg (by omega)]
    · rw [a₃ f a j q (by omega), ccRd, if_neg (by omega)]
theorem ccE179 {m : mMi} : ∃ m₁, (∀ rs, F179 m rs = rV m₁ rs) ∧ (∀ q, q < 240 → m₁ 4 0 8 q = m 4 0 1 q) ∧ (∀ q, q < 40 → m₁ 4 0 9 q = m 4 0 2 q) ∧ (∀ q, q < 918 → m₁ 4 0 10 q = m 4 0 3 q) ∧ (∀ u, u < 7 → m₁ 4 0 11 u = m 4 0 0 (2 + u)) ∧ ∀ f a j q, ¬ (f = 4 ∧ a = 0 ∧ 8 ≤ j ∧ j ≤ 11) → m₁ f a j q = m f a j q := by
  obtain ⟨f₁, hf₁⟩ := ccFU (k := 240) (by omega)
  obtain ⟨f₂, hf₂⟩ := ccFU (k := 40) (by omega)
  obtain ⟨f₃, hf₃⟩ := ccFU (k := 918) (by omega)
  obtain ⟨x, a₁, a₂, a₃⟩ := ccCpL179_2 240 0 m (by omega)
  obtain ⟨y, b₁, b₂, b₃⟩ := ccCpL179_29 40 0 x (by omega)
  obtain ⟨z, c₁, c₂, c₃⟩ := ccCpL179_55 918 0 y (by omega)
  refine ⟨(mset (mset (mset (mset (mset (mset (mset z 4 0 11 0 (z 4 0 0 2)) 4 0 11 1 (z 4 0 0 3)) 4 0 11 2 (z 4 0 0 4)) 4 0 11 3 (z 4 0 0 5)) 4 0 11 4 (z 4 0 0 6)) 4 0 11 5 (z 4 0 0 7)) 4 0 11 6 (z 4 0 0 8)), fun rs => ?_, fun q y₁ => ?_, fun q y₁ => ?_, fun q y₁ => ?_, fun u y₁ => ?_, fun f a j q y₁ => ?_⟩
  rotate_left
  · rw [ccRd, if_neg (by omega), ccRd, if_neg (by omega), ccRd, if_neg (by omega), ccRd, if_neg (by omega), ccRd, if_neg (by omega), ccRd, if_neg (by omega), ccRd, if_neg (by omega), c₃ 4 0 8 q (by omega), b₃ 4 0 8 q (by omega), a₂ q (by omega) y₁]
  · rw [ccRd, if_neg (by omega), ccRd, if_neg (by omega), ccRd, if_neg (by omega), ccRd, if_neg (by omega), ccRd, if_neg (by omega), ccRd, if_neg (by omega), ccRd, if_neg (by omega), c₃ 4 0 9 q (by omega), b₂ q (by omega) y₁, a₃ 4 0 2 q (by omega)]
  · rw [ccRd, if_neg (by omega), ccRd, if_neg (by omega), ccRd, if_neg (by omega), ccRd, if_neg (by omega), ccRd, if_neg (by omega), ccRd, if_neg (by omega), ccRd, if_neg (by omega), c₂ q (by omega) y₁, b₃ 4 0 3 q (by omega), a₃ 4 0 3 q (by omega)]
  · have y₂ : u = 0 ∨ u = 1 ∨ u = 2 ∨ u = 3 ∨ u = 4 ∨ u = 5 ∨ u = 6 := by omega
    rcases y₂ with y₂ | y₂ | y₂ | y₂ | y₂ | y₂ | y₂
    · subst y₂
      show _ = m 4 0 0 2
      rw [ccRd, if_neg (by omega), ccRd, if_neg (by omega), ccRd, if_neg (by omega), ccRd, if_neg (by omega), ccRd, if_neg (by omega), ccRd, if_neg (by omega), ccRd, if_pos ⟨rfl, rfl, rfl, rfl⟩, c₃ 4 0 0 2 (by omega), b₃ 4 0 0 2 (by omega), a₃ 4 0 0 2 (by omega)]
    · subst y₂
      show _ = m 4 0 0 3
      rw [ccRd, if_neg (by omega), ccRd, if_neg (by omega), ccRd, if_neg (by omega), ccRd, if_neg (by omega), ccRd, if_neg (by omega), ccRd, if_pos ⟨rfl, rfl, rfl, rfl⟩, c₃ 4 0 0 3 (by omega), b₃ 4 0 0 3 (by omega), a₃ 4 0 0 3 (by omega)]
    · subst y₂
      show _ = m 4 0 0 4
      rw [ccRd, if_neg (by omega), ccRd, if_neg (by omega), ccRd, if_neg (by omega), ccRd, if_neg (by omega), ccRd, if_pos ⟨rfl, rfl, rfl, rfl⟩, c₃ 4 0 0 4 (by omega), b₃ 4 0 0 4 (by omega), a₃ 4 0 0 4 (by omega)]
    · subst y₂
      show _ = m 4 0 0 5
      rw [ccRd, if_neg (by omega), ccRd, if_neg (by omega), ccRd, if_neg (by omega), ccRd, if_pos ⟨rfl, rfl, rfl, rfl⟩, c₃ 4 0 0 5 (by omega), b₃ 4 0 0 5 (by omega), a₃ 4 0 0 5 (by omega)]
    · subst y₂
      show _ = m 4 0 0 6
      rw [ccRd, if_neg (by omega), ccRd, if_neg (by omega), ccRd, if_pos ⟨rfl, rfl, rfl, rfl⟩, c₃ 4 0 0 6 (by omega), b₃ 4 0 0 6 (by omega), a₃ 4 0 0 6 (by omega)]
    · subst y₂
      show _ = m 4 0 0 7
      rw [ccRd, if_neg (by omega), ccRd, if_pos ⟨rfl, rfl, rfl, rfl⟩, c₃ 4 0 0 7 (by omega), b₃ 4 0 0 7 (by omega), a₃ 4 0 0 7 (by omega)]
    · subst y₂
      show _ = m 4 0 0 8
      rw [ccRd, if_pos ⟨rfl, rfl, rfl, rfl⟩, c₃ 4 0 0 8 (by omega), b₃ 4 0 0 8 (by omega), a₃ 4 0 0 8 (by omega)]
  · rw [ccRd, if_neg (by omega), ccRd, if_neg (by omega), ccRd, if_neg (by omega), ccRd, if_neg (by omega), ccRd, if_neg (by omega), ccRd, if_neg (by omega), ccRd, if_neg (by omega), c₃ f a j q (by omega), b₃ f a j q (by omega), a₃ f a j q (by omega)]
  · unfold F179
    rw [hf₁, a₁, hf₂, b₁, hf₃, c₁]
theorem ccE211 {m : mMi} : ∃ m₁, (∀ rs, F211 m rs = rV m₁ rs) ∧ (∀ q, q < 240 → m₁ 4 0 1 q = m 4 0 8 q) ∧ (∀ q, q < 40 → m₁ 4 0 2 q = m 4 0 9 q) ∧ (∀ q, q < 918 → m₁ 4 0 3 q = m 4 0 10 q) ∧ (∀ u, u < 7 → m₁ 4 0 0 (2 + u) = m 4 0 11 u) ∧ ∀ f a j q, ¬ (f = 4 ∧ a = 0 ∧ ((j = 1 ∧ q < 240) ∨ (j = 2 ∧ q < 40) ∨ (j = 3 ∧ q < 918) ∨ (j = 0 ∧ 2 ≤ q ∧ q ≤ 8))) → m₁ f a j q = m f a j q := by
  obtain ⟨f₁, hf₁⟩ := ccFU (k := 240) (by omega)
  obtain ⟨f₂, hf₂⟩ := ccFU (k := 40) (by omega)
  obtain ⟨f₃, hf₃⟩ := ccFU (k := 918) (by omega)
  obtain ⟨x, a₁, a₂, a₃⟩ := ccCpL211_2 240 0 m (by omega)
  obtain ⟨y, b₁, b₂, b₃⟩ := ccCpL211_29 40 0 x (by omega)
  obtain ⟨z, c₁, c₂, c₃⟩ := ccCpL211_55 918 0 y (by omega)
  refine ⟨(mset (mset (mset (mset (mset (mset (mset z 4 0 0 2 (z 4 0 11 0)) 4 0 0 3 (z 4 0 11 1)) 4 0 0 4 (z 4 0 11 2)) 4 0 0 5 (z 4 0 11 3)) 4 0 0 6 (z 4 0 11 4)) 4 0 0 7 (z 4 0 11 5)) 4 0 0 8 (z 4 0 11 6)), fun rs => ?_, fun q y₁ => ?_, fun q y₁ => ?_, fun q y₁ => ?_, fun u y₁ => ?_, fun f a j q y₁ => ?_⟩
  rotate_left
  · rw [ccRd, if_neg (by omega), ccRd, if_neg (by omega), ccRd, if_neg (by omega), ccRd, if_neg (by omega), ccRd, if_neg (by omega), ccRd, if_neg (by omega), ccRd, if_neg (by omega), c₃ 4 0 1 q (by omega), b₃ 4 0 1 q (by omega), a₂ q (by omega) y₁]
  · rw [ccRd, if_neg (by omega), ccRd, if_neg (by omega), ccRd, if_neg (by omega), ccRd, if_neg (by omega), ccRd, if_neg (by omega), ccRd, if_neg (by omega), ccRd, if_neg (by omega), c₃ 4 0 2 q (by omega), b₂ q (by omega) y₁, a₃ 4 0 9 q (by omega)]
  · rw [ccRd, if_neg (by omega), ccRd, if_neg (by omega), ccRd, if_neg (by omega), ccRd, if_neg (by omega), ccRd, if_neg (by omega), ccRd, if_neg (by omega), ccRd, if_neg (by omega), c₂ q (by omega) y₁, b₃ 4 0 10 q (by omega), a₃ 4 0 10 q (by omega)]
  · have y₂ : u = 0 ∨ u = 1 ∨ u = 2 ∨ u = 3 ∨ u = 4 ∨ u = 5 ∨ u = 6 := by omega
    rcases y₂ with y₂ | y₂ | y₂ | y₂ | y₂ | y₂ | y₂
    · subst y₂
      show _ = m 4 0 11 0
      rw [ccRd, if_neg (by omega), ccRd, if_neg (by omega), ccRd, if_neg (by omega), ccRd, if_neg (by omega), ccRd, if_neg (by omega), ccRd, if_neg (by omega), ccRd, if_pos ⟨rfl, rfl, rfl, rfl⟩, c₃ 4 0 11 0 (by omega), b₃ 4 0 11 0 (by omega), a₃ 4 0 11 0 (by omega)]
    · subst y₂
      show _ = m 4 0 11 1
      rw [ccRd, if_neg (by omega), ccRd, if_neg (by omega), ccRd, if_neg (by omega), ccRd, if_neg (by omega), ccRd, if_neg (by omega), ccRd, if_pos ⟨rfl, rfl, rfl, rfl⟩, c₃ 4 0 11 1 (by omega), b₃ 4 0 11 1 (by omega), a₃ 4 0 11 1 (by omega)]
    · subst y₂
      show _ = m 4 0 11 2
      rw [ccRd, if_neg (by omega), ccRd, if_neg (by omega), ccRd, if_neg (by omega), ccRd, if_neg (by omega), ccRd, if_pos ⟨rfl, rfl, rfl, rfl⟩, c₃ 4 0 11 2 (by omega), b₃ 4 0 11 2 (by omega), a₃ 4 0 11 2 (by omega)]
    · subst y₂
      show _ = m 4 0 11 3
      rw [ccRd, if_neg (by omega), ccRd, if_neg (by omega), ccRd, if_neg (by omega), ccRd, if_pos ⟨rfl, rfl, rfl, rfl⟩, c₃ 4 0 11 3 (by omega), b₃ 4 0 11 3 (by omega), a₃ 4 0 11 3 (by omega)]
    · subst y₂
      show _ = m 4 0 11 4
      rw [ccRd, if_neg (by omega), ccRd, if_neg (by omega), ccRd, if_pos ⟨rfl, rfl, rfl, rfl⟩, c₃ 4 0 11 4 (by omega), b₃ 4 0 11 4 (by omega), a₃ 4 0 11 4 (by omega)]
    · subst y₂
      show _ = m 4 0 11 5
      rw [ccRd, if_neg (by omega), ccRd, if_pos ⟨rfl, rfl, rfl, rfl⟩, c₃ 4 0 11 5 (by omega), b₃ 4 0 11 5 (by omega), a₃ 4 0 11 5 (by omega)]
    · subst y₂
      show _ = m 4 0 11 6
      rw [ccRd, if_pos ⟨rfl, rfl, rfl, rfl⟩, c₃ 4 0 11 6 (by omega), b₃ 4 0 11 6 (by omega), a₃ 4 0 11 6 (by omega)]
  · rw [ccRd, if_neg (by omega), ccRd, if_neg (by omega), ccRd, if_neg (by omega), ccRd, if_neg (by omega), ccRd, if_neg (by omega), ccRd, if_neg (by omega), ccRd, if_neg (by omega), c₃ f a j q (by omega), b₃ f a j q (by omega), a₃ f a j q (by omega)]
  · unfold F211
    rw [hf₁, a₁, hf₂, b₁, hf₃, c₁]
