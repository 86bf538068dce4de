/-! LOAD: all the lines. -/
theorem ccLines {b : Nat → Nat} {L e w l bd lm dp cl : Nat} {x y : Int32} : ∀ d k mc mm p s r kd n β W, L < p + d → k + 1 ≤ p → ccCx mc b L e p → ccMx mm b L e s r kd → ccTok b L p s r kd → ccBld mc mm w l n bd lm dp cl β W →
    (∃ n' β' W' mc₁ mm₁, (∀ f rs, F67_43 (f + d + 1) x (N k) mc rs = rI (N 1) mc₁ rs) ∧ (∀ f rs, F180_117 (f + d + 1) y mm rs = rV mm₁ rs) ∧ ccBld mc₁ mm₁ w l n' bd lm dp cl β' W' ∧ mm₁ 4 0 0 25 = N 0 ∧ mm₁ 4 0 0 26 = I (-1) ∧ ccFrc mc mc₁ ∧ ccFrm mm mm₁ ∧ mc₁ 2 3 0 3 = N 0 ∧ mc₁ 2 3 0 4 = I (-1)) ∨
    (∃ mc₁ mm₁, (∀ f rs, F67_43 (f + d + 1) x (N k) mc rs = rI (N 0) mc₁ rs) ∧ (∀ f rs, F180_117 (f + d + 1) y mm rs = rV mm₁ rs) ∧ ccErd mc₁ mm₁ ∧ ccFrc mc mc₁ ∧ ccFrm mm mm₁) := by
  intro d
  induction d with
  | zero =>
    intro k mc mm p s r kd n β W g₁ _ _ _ t _
    have tb := ccTok_b t
    omega
  | succ d i₁ =>
    intro k mc mm p s r kd n β W g₁ g₂ c m t q
    have tb := ccTok_b t
    have q₀ := m.2.1.1
    have q₁ := m.1
    have m₈ := m.2.2.2.2.2.2.2.1
    have m₉ := m.2.2.2.2.2.2.2.2
    have m₅ := m.2.2.2.2.1
    have m₆ := m.2.2.2.2.2.1
    obtain ⟨m₁, k₁, k₂, k₃, k₄⟩ := ccE94x c t
    have k₅ := k₂.2.2.2.2.2
    have y₁ : ¬ N 900 ≤ N k := by rw [N_le (by omega) (by omega)]; omega
    have e₁ : ∀ f, f + (d + 1) + 1 = f + d + 1 + 1 := fun f => by omega
    by_cases g₃ : kd = 0
    · have y₂ : ¬ N kd ≠ N 0 := fun z => z (by rw [g₃])
      have y₃ : N kd ≠ N 3 := by rw [g₃, ne_eq, N_eq (by omega) (by omega)]; omega
      have y₄ : N kd = N 0 := by rw [g₃]
      refine Or.inl ⟨n, β, W, m₁, mm, fun f rs => ?_, fun f rs => ?_, ccBld_fr q k₄ ccFm0_rfl, m₈, m₉, ccFrc_0 k₄, ccFrm_0 ccFm0_rfl, k₃.2.2.2.2.1, k₃.2.2.2.2.2⟩
      · rw [e₁, ccL67_43, ccIte, if_neg y₁, k₁, ccBv, k₂.2.2.1, ccIte, if_neg y₂]
      · rw [e₁, ccL180_117, m₈, ccIf0, m₆, ccIte, if_pos y₃, ccIte, if_pos y₄, ccE187z, ccBv]
    have y₂ : N kd ≠ N 0 := by rw [ne_eq, N_eq (by omega) (by omega)]; exact g₃
    by_cases g₄ : kd = 3
    rotate_left
    · have y₃ : ¬ N kd = N 3 := by rw [N_eq (by omega) (by omega)]; exact g₄
      have er := ccErd_mk (mc := m₁) (mm := mm) (k := 1) (s := s) (by omega) (by omega) (by omega)
      refine Or.inr ⟨ccEc m₁ 1 s, ccEm mm 1 s, fun f rs => ?_, fun f rs => ?_, er, ccFrc_0 (ccFc0_tr k₄ ccEc_fr), ccFrm_0 ccEm_fr⟩
      · rw [e₁, ccL67_43, ccIte, if_neg y₁, k₁, ccBv, k₂.2.2.1, ccIte, if_pos y₂, ccIte, if_neg y₃, ccE69 k₂.2.1]
        rfl
      · rw [e₁, ccL180_117, m₈, ccIf0, m₆, ccIte, if_pos y₃, ccIte, if_neg y₂, ccE187 m₈ m₅, ccBv]
    have y₃ : N kd = N 3 := by rw [g₄]
    have sr := tb.2.2.2.2.1 g₃
    obtain ⟨mm₁, s', r', kd', h₁, h₂, h₃, h₄⟩ := ccE182x m tb.2.2.1
    have tb' := ccTok_b h₂
    have A : ∀ f rs, F67_43 (f + (d + 1) + 1) x (N k) mc rs = bI (F71 m₁ rs) (fun v m r => mifO (decide (v ≠ (N 0))) (F67_43 (f + d + 1) x (N (k + 1)) m r) (some (.inl (some (mI (N 0))), m, r))) := fun f rs => by
      rw [e₁, ccL67_43, ccIte, if_neg y₁, k₁, ccBv, k₂.2.2.1, ccIte, if_pos y₂, ccIte, if_pos y₃, N_add]
    have B : ∀ f rs, F180_117 (f + (d + 1) + 1) y mm rs = bV (F192 mm₁ rs) (fun m r => F180_117 (f + d + 1) y m r) := fun f rs => by
      rw [e₁, ccL180_117, m₈, ccIf0, m₆, ccIte, if_neg (fun z => z y₃), h₁, ccBv]
    rcases ccLine k₃ h₃ h₂ (ccBld_fr q k₄ h₄) with ⟨n', β', W', mc₂, mm₂, p', s₂, r₂, kd₂, x₁, x₂, x₃, x₄, x₅, x₆, x₇, x₈, x₉⟩ | ⟨mc₂, mm₂, x₁, x₂, x₃, x₄, x₅⟩
    rotate_left
    · have er := ccErd_e x₃
      refine Or.inr ⟨mc₂, mm₂, fun f rs => ?_, fun f rs => ?_, x₃, ccFrc_tr (ccFrc_0 k₄) x₄, ccFrm_tr (ccFrm_0 h₄) x₅⟩
      · have z : F71 m₁ rs = rI (N 0) mc₂ rs := x₁ rs
        rw [A, z, ccBi, ccIf0]
      · have z : F192 mm₁ rs = rV mm₂ rs := x₂ rs
        rw [B, z, ccBv, ccL180_117, ccIte, if_pos er, ccE187e er, ccE187e er, ccBv, ccIte]
        by_cases g₅ : mm₂ 4 0 0 23 = N 0
        · rw [if_pos g₅]
        · rw [if_neg g₅]
    have A₂ : ∀ f rs, F67_43 (f + (d + 1) + 1) x (N k) mc rs = F67_43 (f + d + 1) x (N (k + 1)) mc₂ rs := fun f rs => by
      have z : F71 m₁ rs = rI (N 1) mc₂ rs := x₁ rs
      rw [A, z, ccBi, ccIf1]
    have B₂ : ∀ f rs, F180_117 (f + (d + 1) + 1) y mm rs = F180_117 (f + d + 1) y mm₂ rs := fun f rs => by
      have z : F192 mm₁ rs = rV mm₂ rs := x₂ rs
      rw [B, z, ccBv]
    rcases i₁ (k + 1) mc₂ mm₂ p' s₂ r₂ kd₂ n' β' W' (by omega) (by omega) x₃ x₄ x₅ x₆ with ⟨n₂, β₂, W₂, mc₃, mm₃, u₁, u₂, u₃, u₄, u₅, u₆, u₇, u₈⟩ | ⟨mc₃, mm₃, u₁, u₂, u₃, u₄, u₅⟩
    · exact Or.inl ⟨n₂, β₂, W₂, mc₃, mm₃, fun f rs => by rw [A₂, u₁], fun f rs => by rw [B₂, u₂], u₃, u₄, u₅, ccFrc_tr (ccFrc_0 k₄) (ccFrc_tr x₇ u₆), ccFrm_tr (ccFrm_0 h₄) (ccFrm_tr x₈ u₇), u₈⟩
    · exact Or.inr ⟨mc₃, mm₃, fun f rs => by rw [A₂, u₁], fun f rs => by rw [B₂, u₂], u₃, ccFrc_tr (ccFrc_0 k₄) (ccFrc_tr x₇ u₄), ccFrm_tr (ccFrm_0 h₄) (ccFrm_tr x₈ u₅)⟩
