/-! LOAD: what is built while the text is read; a line of a card. -/
def ccNm7 (mc mm : mMi) (k : Nat) : Prop := ∃ g e, 1 ≤ e ∧ e ≤ 6 ∧ (∀ i, i < e → 97 ≤ g i ∧ g i ≤ 122 ∧ mm 4 0 1 (6 * k + i) = N (g i)) ∧ (∀ i, e ≤ i → i < 6 → mm 4 0 1 (6 * k + i) = N 0) ∧ mc 1 1 2 k = N (ccNum g e)
def ccBld (mc mm : mMi) (w l n bd lm dp cl : Nat) (β : Nat → Int32) (W : Nat → Nat) : Prop :=
  ccRu mc 1 w l n ∧ ccMo mm w l n ∧ (mc 1 1 1 5 = N bd ∧ mm 4 0 0 7 = N bd ∧ bd ≤ 8) ∧ (mc 1 1 1 2 = N lm ∧ mm 4 0 0 4 = N lm ∧ lm ≤ 99) ∧ (mc 1 1 1 3 = N dp ∧ mm 4 0 0 5 = N dp ∧ dp ≤ 9) ∧ (mc 1 1 1 4 = N cl ∧ mm 4 0 0 6 = N cl ∧ cl ≤ 20) ∧
  ccR ccX0 n β (fun k => N (W k)) 0 0 (mc 0 2) (mm 4 0 3) ∧ (ccPlc w l (mc 0 2) ∧ ccStd (mc 0 2)) ∧ ((∀ k, k < n → mc 1 1 4 k = N (W k)) ∧ (∀ k, k < n → mm 4 0 2 k = N (W k)) ∧ ccWok n W) ∧ (∀ k, k < n → mc 1 1 3 k = β k) ∧ (∀ k, k < n → ccNm7 mc mm k) ∧
  (∀ p, p < 96 → mc 0 2 2 p ≠ I (-1) → (∃ a, mc 0 2 4 p = N a ∧ 20 ≤ a ∧ a ≤ 70) ∧ mc 0 2 5 p = N 0) ∧
  ∀ k, n ≤ k → k < 40 → mc 0 2 13 k = I (-1) ∧ mc 0 2 12 k = N 0 ∧ mm 4 0 3 (9 + 6 * k) = N 0 ∧ mm 4 0 3 (11 + 6 * k) = N 0 ∧ mm 4 0 3 (12 + 6 * k) = N 0
theorem ccBld_fr {mc mm m₁ m₂ : mMi} {w l n bd lm dp cl : Nat} {β : Nat → Int32} {W : Nat → Nat} (q : ccBld mc mm w l n bd lm dp cl β W) (h₁ : ccFc0 mc m₁) (h₂ : ccFm0 mm m₂) : ccBld m₁ m₂ w l n bd lm dp cl β W := by
  obtain ⟨⟨a₁, a₂, a₃, a₄⟩, ⟨b₁, b₂, b₃, b₄⟩, ⟨c₁, c₂, c₃⟩, ⟨d₁, d₂, d₃⟩, ⟨d₄, d₅, d₆⟩, ⟨d₇, d₈, d₉⟩, e₁, e₂, ⟨f₁, f₂, f₃⟩, g₁, g₂, g₃, g₄⟩ := q
  have k₁ : ∀ j p, m₁ 1 1 j p = mc 1 1 j p := fun j p => h₁ 1 1 j p (by omega) (by omega)
  have k₂ : m₁ 0 2 = mc 0 2 := by
    funext j p
    exact h₁ 0 2 j p (by omega) (by omega)
  have k₃ : ∀ p, p ≤ 8 → m₂ 4 0 0 p = mm 4 0 0 p := fun p y₁ => h₂ 4 0 0 p (by omega)
  have k₄ : m₂ 4 0 3 = mm 4 0 3 := by
    funext p
    exact h₂ 4 0 3 p (by omega)
  have k₅ : ∀ p, m₂ 4 0 1 p = mm 4 0 1 p := fun p => h₂ 4 0 1 p (by omega)
  have k₆ : ∀ p, m₂ 4 0 2 p = mm 4 0 2 p := fun p => h₂ 4 0 2 p (by omega)
  refine ⟨⟨by rw [k₁]; exact a₁, by rw [k₁]; exact a₂, by rw [k₁]; exact a₃, a₄⟩, ⟨by rw [k₃ 2 (by omega)]; exact b₁, by rw [k₃ 3 (by omega)]; exact b₂, by rw [k₃ 8 (by omega)]; exact b₃, b₄⟩, ⟨by rw [k₁]; exact c₁, by rw [k₃ 7 (by omega)]; exact c₂, c₃⟩, ⟨by rw [k₁]; exact d₁, by rw [k₃ 4 (by omega)]; exact d₂, d₃⟩, ⟨by rw [k₁]; exact d₄, by rw [k₃ 5 (by omega)]; exact d₅, d₆⟩, ⟨by rw [k₁]; exact d₇, by rw [k₃ 6 (by omega)]; exact d₈, d₉⟩, by rw [k₂, k₄]; exact e₁, by rw [k₂]; exact e₂, ⟨fun k y₁ => by rw [k₁]; exact f₁ k y₁, fun k y₁ => by rw [k₆]; exact f₂ k y₁, f₃⟩, fun k y₁ => by rw [k₁]; exact g₁ k y₁, fun k y₁ => ?_, by rw [k₂]; exact g₃, by rw [k₂, k₄]; exact g₄⟩
  obtain ⟨g, e, x₁, x₂, x₃, x₄, x₅⟩ := g₂ k y₁
  exact ⟨g, e, x₁, x₂, fun i z₁ => ⟨(x₃ i z₁).1, (x₃ i z₁).2.1, by rw [k₅]; exact (x₃ i z₁).2.2⟩, fun i z₁ z₂ => by rw [k₅]; exact x₄ i z₁ z₂, by rw [k₁]; exact x₅⟩
theorem ccBld_J {mc mm : mMi} {w l n bd lm dp cl : Nat} {β : Nat → Int32} {W : Nat → Nat} (q : ccBld mc mm w l n bd lm dp cl β W) : ccJ mc mm 2 w l n bd β (fun k => N (W k)) W 0 0 := by
  obtain ⟨a, b, ⟨c₁, c₂, c₃⟩, _, _, _, e₁, ⟨e₂, e₃⟩, ⟨f₁, f₂, f₃⟩, _⟩ := q
  have y₁ := ccPcs_le (C := mc 0 2)
  exact ⟨⟨a, c₁, b, c₂, c₃, e₁, e₂, by omega⟩, e₃, f₁, f₂, f₃⟩
/-- what a line changes -/
def ccFrc (m m₁ : mMi) : Prop := ∀ f a j q, ¬ (f = 2 ∧ a = 4 ∧ j = 0 ∧ 2 ≤ q ∧ q ≤ 5) → ¬ (f = 2 ∧ a = 3 ∧ j = 0 ∧ 3 ≤ q ∧ q ≤ 6) → ¬ (f = 1 ∧ a = 1) → ¬ (f = 0 ∧ a = 2) → m₁ f a j q = m f a j q
def ccFrm (m m₁ : mMi) : Prop := ∀ f a j q, ¬ (f = 4 ∧ a = 0 ∧ ((j = 0 ∧ ((2 ≤ q ∧ q ≤ 8) ∨ (21 ≤ q ∧ q ≤ 26))) ∨ (j = 1 ∧ q < 240) ∨ (j = 2 ∧ q < 40) ∨ (j = 3 ∧ q < 918))) → m₁ f a j q = m f a j q
theorem ccFrc_0 {m m₁ : mMi} (h : ccFc0 m m₁) : ccFrc m m₁ := fun f a j q y₁ y₂ y₃ y₄ => h f a j q y₁ (by omega)
theorem ccFrm_0 {m m₁ : mMi} (h : ccFm0 m m₁) : ccFrm m m₁ := fun f a j q y₁ => h f a j q (by omega)
theorem ccFrc_tr {m m₁ m₂ : mMi} (h₁ : ccFrc m m₁) (h₂ : ccFrc m₁ m₂) : ccFrc m m₂ := fun f a j q g₁ g₂ g₃ g₄ => by rw [h₂ f a j q g₁ g₂ g₃ g₄, h₁ f a j q g₁ g₂ g₃ g₄]
theorem ccFrm_tr {m m₁ m₂ : mMi} (h₁ : ccFrm m m₁) (h₂ : ccFrm m₁ m₂) : ccFrm m m₂ := fun f a j q g₁ => by rw [h₂ f a j q g₁, h₁ f a j q g₁]
theorem ccCx_fr {m m₁ : mMi} {b : Nat → Nat} {L e p : Nat} (c : ccCx m b L e p) (h : ∀ j q, j = 0 ∨ j = 1 → m₁ 2 1 j q = m 2 1 j q) (h₂ : ∀ q, q = 1 ∨ q = 2 → m₁ 2 4 0 q = m 2 4 0 q) (h₃ : ∀ q, q = 3 ∨ q = 4 → m₁ 2 3 0 q = m 2 3 0 q) : ccCx m₁ b L e p := ⟨c.1, ⟨c.2.1.1, by rw [h 0 1 (by omega)]; exact c.2.1.2.1, fun k y₁ => ⟨(c.2.1.2.2 k y₁).1, by rw [h 1 k (by omega)]; exact (c.2.1.2.2 k y₁).2⟩⟩, by rw [h₂ 1 (by omega)]; exact c.2.2.1, by rw [h₂ 2 (by omega)]; exact c.2.2.2.1, by rw [h₃ 3 (by omega)]; exact c.2.2.2.2.1, by rw [h₃ 4 (by omega)]; exact c.2.2.2.2.2⟩
theorem ccMx_fr {m m₁ : mMi} {b : Nat → Nat} {L e s r kd : Nat} (c : ccMx m b L e s r kd) (h : ∀ q, m₁ 4 0 7 q = m 4 0 7 q) (h₂ : ∀ q, 20 ≤ q → q ≤ 26 → m₁ 4 0 0 q = m 4 0 0 q) : ccMx m₁ b L e s r kd := by
  obtain ⟨c₁, c₂, c₃, c₄, c₅, c₆, c₇, c₈, c₉⟩ := c
  exact ⟨c₁, ccBm_fr c₂ h, by rw [h₂ 20 (by omega) (by omega)]; exact c₃, by rw [h₂ 21 (by omega) (by omega)]; exact c₄, by rw [h₂ 22 (by omega) (by omega)]; exact c₅, by rw [h₂ 23 (by omega) (by omega)]; exact c₆, fun z => by rw [h₂ 24 (by omega) (by omega)]; exact c₇ z, by rw [h₂ 25 (by omega) (by omega)]; exact c₈, by rw [h₂ 26 (by omega) (by omega)]; exact c₉⟩
/-- the same name is found on both sides -/
theorem ccNames {mc mm : mMi} {b : Nat → Nat} {L e p s r n : Nat} (m : ccMx mm b L e s r 1) (t : ccTok b L p s r 1) (h₁ : mc 1 1 0 4 = N n) (h₂ : mm 4 0 0 8 = N n) (h₃ : n ≤ 40) (h₄ : ∀ k, k < n → ccNm7 mc mm k) :
    ∃ v, (∀ rs, F79 1 (N (ccNum (fun i => b (s + i)) (r - s))) mc rs = rI v mc rs) ∧ (∀ rs, F194 (N s) (N r) mm rs = rI v mm rs) ∧ (v = I (-1) ∨ ∃ q, v = N q ∧ q < n) := by
  obtain ⟨w₁, w₂, w₃, w₄, w₅, w₆, w₇⟩ := ccTok_b t
  obtain ⟨x₁, x₂⟩ := w₆ rfl
  have x₃ := w₅ (by omega)
  obtain ⟨c₁, c₂, _⟩ := m
  have q₀ := c₂.1
  have y₁ : s + (r - s) = r := by omega
  have y₂ : ccNmv (fun i => b (s + i)) (r - s) 0 = N (ccNum (fun i => b (s + i)) (r - s)) := by
    rcases ccNmv_is (g := fun i => b (s + i)) (r - s) 0 with ⟨_, z₃⟩ | ⟨⟨i, z₃, z₄, z₅⟩, _⟩
    · rw [z₃, Nat.zero_add]
    · exact absurd (x₂ (s + i) (by omega) (by omega)) z₅
  have y₃ : ∀ rs, F194 (N s) (N r) mm rs = rI (ccFst (fun q => ccCmp (fun i => mm 4 0 1 (6 * q + i)) (fun i => b (s + i)) (r - s) 6 0) n 0) mm rs := fun rs => by
    have z₁ := ccE194 (rs := rs) (g := fun i => b (s + i)) (s := s) (k := r - s) h₂ h₃ (by omega) ⟨by omega, x₁⟩ (fun i z₂ => c₂.2 (s + i) (by omega))
    rw [y₁] at z₁
    exact z₁
  have y₄ : ccFst (fun q => ccCmp (fun i => mm 4 0 1 (6 * q + i)) (fun i => b (s + i)) (r - s) 6 0) n 0 = ccFst (fun k => decide (mc 1 1 2 k = N (ccNum (fun i => b (s + i)) (r - s)))) n 0 := by
    refine ccFst_cg n 0 (fun q z₁ z₂ => ?_)
    obtain ⟨u, a, a₁, a₂, a₃, a₄, a₅⟩ := h₄ q (by omega)
    have z₃ := ccNmq (c := fun i => mm 4 0 1 (6 * q + i)) (g := fun i => b (s + i)) (u := u) (k := r - s) (e := a) ⟨a₁, a₂⟩ a₃ a₄ x₁ (fun i z₄ => (c₂.2 (s + i) (by omega)).1)
    show ccCmp (fun i => mm 4 0 1 (6 * q + i)) (fun i => b (s + i)) (r - s) 6 0 = decide (mc 1 1 2 q = N (ccNum (fun i => b (s + i)) (r - s)))
    rw [a₅, ← y₂]
    by_cases z₄ : N (ccNum u a) = ccNmv (fun i => b (s + i)) (r - s) 0
    · rw [decide_eq_true z₄]
      exact z₃.1 z₄
    · rw [decide_eq_false z₄]
      cases z₅ : ccCmp (fun i => mm 4 0 1 (6 * q + i)) (fun i => b (s + i)) (r - s) 6 0
      · rfl
      · exact absurd (z₃.2 z₅) z₄
  refine ⟨_, fun rs => ccE79 h₁ h₃, fun rs => by rw [y₃, y₄], ?_⟩
  rcases ccFst_is (f := fun k => decide (mc 1 1 2 k = N (ccNum (fun i => b (s + i)) (r - s)))) n 0 with z₁ | ⟨q, z₁, z₂, z₃, _⟩
  · exact Or.inl z₁
  · exact Or.inr ⟨q, z₁, by omega⟩
/-- the letters of a card, kept -/
theorem ccL193 {b : Nat → Nat} {L e s r n p kd : Nat} (hn : n < 40) (t : ccTok b L p s r kd) : ∀ d j m, j + d = 6 → ccMx m b L e s r kd → ∃ m₁, (∀ f rs, F193_94 (f + d + 1) (N n) (N j) m rs = F193_94 (f + 1) (N n) (N 6) m₁ rs) ∧ (∀ i, j ≤ i → i < 6 → m₁ 4 0 1 (6 * n + i) = if s + i < r then N (b (s + i)) else N 0) ∧ ∀ f a u q, ¬ (f = 4 ∧ a = 0 ∧ u = 1 ∧ 6 * n + j ≤ q ∧ q < 6 * n + 6) → m₁ f a u q = m f a u q := by
  have w₃ := (ccTok_b t).2.2.1
  have w₂ := (ccTok_b t).2.1
  intro d
  induction d with
  | zero =>
    intro j m g₁ _
    have e₁ : j = 6 := by omega
    subst e₁
    exact ⟨m, fun f rs => rfl, fun i y₁ y₂ => by omega, fun _ _ _ _ _ => rfl⟩
  | succ d i₁ =>
    intro j m g₁ c
    have q₀ := c.2.1.1
    have q₁ := c.1
    have c₃ := c.2.2.1
    have c₄ := c.2.2.2.1
    have c₅ := c.2.2.2.2.1
    have c₈ := c.2.2.2.2.2.2.2.1
    have e₁ : ¬ N 6 ≤ N j := by rw [N_le (by omega) (by omega)]; omega
    have e₂ : N 6 * N n + N j = N (6 * n + j) := by rw [N_mul, N_add]
    have e₃ : N s + N j = N (s + j) := by rw [N_add]
    obtain ⟨v, hv⟩ : ∃ v, v = (if s + j < r then N (b (s + j)) else N 0) := ⟨_, rfl⟩
    obtain ⟨m₁, a₁, a₂, a₃⟩ := i₁ (j + 1) (mset m 4 0 1 (6 * n + j) v) (by omega) (ccMx_fr c (fun q => by rw [ccRd, if_neg (by omega)]) (fun q y₁ y₂ => by rw [ccRd, if_neg (by omega)]))
    refine ⟨m₁, fun f rs => ?_, fun i y₁ y₂ => ?_, fun f a u q y₁ => ?_⟩
    · have e₄ : f + (d + 1) + 1 = f + d + 1 + 1 := by omega
      rw [e₄, ccL193_94, ccIte, if_neg e₁, c₈, ccIf0, c₄, c₅, e₂, e₃, N_add, ccIte]
      by_cases g : s + j < r
      · have e₅ : ¬ N r ≤ N (s + j) := by rw [N_le (by omega) (by omega)]; omega
        rw [if_pos g] at hv
        rw [if_neg e₅, ccE183 c.2.1 q₁ c₃ (by omega), ccBi, ccMckIn (by omega) (by omega), mix_N (by omega), ← hv]
        exact a₁ f rs
      · have e₅ : N r ≤ N (s + j) := by rw [N_le (by omega) (by omega)]; omega
        rw [if_neg g] at hv
        rw [if_pos e₅, ccMckIn (by omega) (by omega), mix_N (by omega), ← hv]
        exact a₁ f rs
    · by_cases y₃ : i = j
      · subst y₃
        rw [a₃ 4 0 1 (6 * n + i) (by omega), ccRd, if_pos ⟨rfl, rfl, rfl, rfl⟩, hv]
      · exact a₂ i (by omega) y₂
    · rw [a₃ f a u q (by omega), ccRd, if_neg (by omega)]
theorem ccE193e {m : mMi} {x : Int32} {rs : mRs} (h : m 4 0 0 25 ≠ N 0) : F193_94 FU x (N 0) m rs = rV m rs := by
  obtain ⟨f, hf⟩ := ccFU (k := 0) (by omega)
  have e₁ : ¬ N 6 ≤ N 0 := by rw [N_le (by omega) (by omega)]; omega
  rw [hf, ccL193_94, ccIte, if_neg e₁, ccIte, if_pos h, ccE189e h, ccBv, ccE190e h, ccBi, ccE190e h, ccBi, ccIte, if_pos h]
