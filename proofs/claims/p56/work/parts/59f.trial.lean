/-! A TRIAL: on a copy, and nothing stays. -/
theorem ccTrial {B : Nat} {m : mMi} {w l n bd lm dp cl : Nat} {β : Nat → Int32} {W : Nat → Nat} {oc om : mMi → mRs → mRz} {ec : List (Nat × Nat)} (h₁ : ccTop B m) (h₂ : ccLd B m w l n bd lm dp cl β W)
    (hop : ∀ mc mm : mMi, ccAg (m 0 0) (mc 0 1) → (∀ j p, mc 1 0 j p = m 1 0 j p) → mm 4 0 3 = m 4 0 3 → (∀ p, 2 ≤ p → p ≤ 8 → mm 4 0 0 p = m 4 0 0 p) → (∀ p, mm 4 0 2 p = m 4 0 2 p) →
      ∃ m₁ m₂ v, (∀ rs, oc mc rs = rI v m₁ rs) ∧ (∀ rs, om mm rs = rI v m₂ rs) ∧ ccFr 1 mc m₁ ∧ ccFq mm m₂) :
    ccOk B (fun m rs => bV (F18 1 0 m rs) oc) (fun m rs => bV (F255 (ccM0 m) rs) (fun m r => bI (om m r) (fun v m r => bV (F256 m r) (fun m r => rI v m r)))) ec m := by
  obtain ⟨mc, k₁, k₂, k₃⟩ := ccE18 (m := m) (i := 1) (i₂ := 0) (by omega)
  have g₂ : ∀ j p, mc 1 0 j p = m 1 0 j p := fun j p => k₂ 1 0 j p (by omega)
  have gm : ∀ M : mMi, (∀ a j p, M 4 a j p = m 4 a j p) → (ccCp (ccM0 M) 4 0 3 0 918 4 0 3 = m 4 0 3) ∧ (∀ p, 2 ≤ p → p ≤ 8 → ccCp (ccM0 M) 4 0 3 0 918 4 0 0 p = m 4 0 0 p) ∧ (∀ p, ccCp (ccM0 M) 4 0 3 0 918 4 0 2 p = m 4 0 2 p) := fun M z₁ => by
    refine ⟨?_, fun p z₂ z₃ => ?_, fun p => ?_⟩
    · funext q
      rw [ccCp_o (by omega), ccM0_r (by omega)]
      exact z₁ 0 3 q
    · rw [ccCp_o (by omega), ccM0_r (by omega)]
      exact z₁ 0 0 p
    · rw [ccCp_o (by omega), ccM0_r (by omega)]
      exact z₁ 0 2 p
  obtain ⟨z₁, z₂, z₃⟩ := gm m (fun _ _ _ => rfl)
  obtain ⟨m₁, m₀, v, a₁, a₂, a₃, a₄⟩ := hop mc (ccCp (ccM0 m) 4 0 3 0 918) k₃ g₂ z₁ z₂ z₃
  have f₄ : ∀ a j p, m₁ 4 a j p = m 4 a j p := fun a j p => by rw [a₃ 4 a j p (by omega) (by omega), k₂ 4 a j p (by omega)]
  obtain ⟨z₄, z₅, z₆⟩ := gm m₁ f₄
  obtain ⟨m₃, m₂, u, c₁, c₂, c₃, c₄⟩ := hop mc (ccCp (ccM0 m₁) 4 0 3 0 918) k₃ g₂ z₄ z₅ z₆
  obtain ⟨e₁, e₂⟩ := ccInj (v := v) (u := u) (m₁ := m₁) (m₂ := m₃) (fun rs => by rw [← a₁ rs, ← c₁ rs])
  subst e₁ e₂
  refine ccOk_q (v := v) (m₁ := m₁) (m₂ := ccCp m₂ 3 0 4 0 918) h₁ (fun rs => ?_) (fun rs => ?_) ?_ (fun f a j p y₁ => ?_) (fun f a j p y₁ => ?_) f₄
  · show bV (F18 1 0 m rs) oc = _
    rw [k₁, ccBv, a₁]
  · show bV (F255 (ccM0 m₁) rs) _ = _
    rw [ccE255, ccBv, c₂, ccBi, ccE256, ccBv]
  · rw [ccCp_o (by omega), c₄ 4 0 0 0 (by omega) (by omega), ccCp_o (by omega)]
    exact ccT0s
  · unfold ccJk at y₁
    rw [a₃ f a j p (by omega) (by omega), k₂ f a j p (by omega)]
  · by_cases y₂ : f = 4 ∧ a = 0 ∧ j = 3
    · obtain ⟨y₃, y₄, y₅⟩ := y₂
      subst y₃ y₄ y₅
      have y₆ : p < 918 := by
        unfold ccJk at y₁
        omega
      have e₃ : p = 0 + p := by omega
      have x₁ : ccCp m₂ 3 0 4 0 918 4 0 3 p = m₂ 4 0 4 p := by
        rw [e₃]
        exact ccCp_i y₆
      have x₂ : ccCp (ccM0 m₁) 4 0 3 0 918 4 0 4 p = ccM0 m₁ 4 0 3 p := by
        rw [e₃]
        exact ccCp_i y₆
      rw [x₁, c₄ 4 0 4 p (by omega) (by omega), x₂, ccM0_r (by omega)]
    · unfold ccJk at y₁
      rw [ccCp_o (by omega), c₄ f a j p (by omega) (by omega), ccCp_o (by omega)]
      unfold ccM0
      rw [ccRd, if_neg (by omega)]
/-- both memories of a trial, as the theorems of falls want them -/
theorem ccJ_tr {B : Nat} {m mc mm : mMi} {w l n bd lm dp cl : Nat} {β : Nat → Int32} {W : Nat → Nat} (hB : B ≤ 900000000) (h₂ : ccLd B m w l n bd lm dp cl β W) (g₁ : ccAg (m 0 0) (mc 0 1)) (g₂ : ∀ j p, mc 1 0 j p = m 1 0 j p) (g₃ : mm 4 0 3 = m 4 0 3) (g₄ : ∀ p, 2 ≤ p → p ≤ 8 → mm 4 0 0 p = m 4 0 0 p) (g₅ : ∀ p, mm 4 0 2 p = m 4 0 2 p) :
    ∃ h t, ccJ mc mm 1 w l n bd β (fun k => N (W k)) W h t ∧ t ≤ B ∧ ccQt W (mc 0 1) w l ∧ ccQn (N lm) (mc 0 1) ∧ mc 1 0 1 2 = N lm ∧ mm 4 0 0 4 = N lm ∧ mc 1 0 1 3 = N dp ∧ mm 4 0 0 5 = N dp := by
  obtain ⟨⟨a₁, a₂, a₃, a₄⟩, ⟨c₁, c₂, c₃, c₄⟩, ⟨d₁, d₂, d₃⟩, ⟨d₄, d₅, d₆⟩, ⟨d₇, d₈, d₉⟩, ⟨f₁, f₂, f₃⟩, f₄, f₅, f₆, f₇, f₈⟩ := h₂.2.2.1
  obtain ⟨h, t, r₁, r₂, r₃, r₄, r₅, r₆⟩ := ccK_ag (u := mm 4 0 3) h₂.2.2.2.1 a₄.2.1 a₄.2.2.2.1 a₄.2.2.2.2 g₁ (by rw [g₃]; exact ccAr_rfl)
  have p₁ := ccPcs_le (C := mc 0 1)
  exact ⟨h, t, ⟨⟨⟨Eq.trans (g₂ 1 0) a₁, Eq.trans (g₂ 1 1) a₂, Eq.trans (g₂ 0 4) a₃, a₄⟩, Eq.trans (g₂ 1 5) d₁, ⟨by rw [g₄ 2 (by omega) (by omega)]; exact c₁, by rw [g₄ 3 (by omega) (by omega)]; exact c₂, by rw [g₄ 8 (by omega) (by omega)]; exact c₃, c₄⟩, by rw [g₄ 7 (by omega) (by omega)]; exact d₂, d₃, r₁, r₂, by omega⟩, r₃, fun k y₁ => Eq.trans (g₂ 4 k) (f₄ k y₁), fun k y₁ => by rw [g₅]; exact f₅ k y₁, f₆⟩, r₆, r₄, r₅, by rw [g₂]; exact d₄, by rw [g₄ 4 (by omega) (by omega)]; exact d₅, by rw [g₂]; exact d₇, by rw [g₄ 5 (by omega) (by omega)]; exact d₈⟩
