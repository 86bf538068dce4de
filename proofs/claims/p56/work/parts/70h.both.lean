/-! CLASS AND WORLD in one memory. -/
theorem ccJ_cg {mc mm m₁ : mMi} {w l n bd h t : Nat} {β wt : Nat → Int32} {W : Nat → Nat} (q : ccJ mc mm 0 w l n bd β wt W h t) (h₁ : m₁ 0 0 = mc 0 0) (h₂ : ∀ j p, m₁ 1 0 j p = mc 1 0 j p) : ccJ m₁ mm 0 w l n bd β wt W h t := by
  obtain ⟨⟨q₁, q₂, q₃, q₄, q₅, q₆, q₇, q₈⟩, a₁, a₂, a₃, a₄⟩ := q
  have e₀ : RO 0 = 0 := rfl
  refine ⟨⟨?_, ?_, q₃, q₄, q₅, by rw [h₁]; exact q₆, by rw [h₁]; exact q₇, by rw [h₁]; exact q₈⟩, by rw [h₁]; exact a₁, fun k g => ?_, a₃, a₄⟩
  · unfold ccRu at q₁ ⊢
    rw [e₀] at q₁ ⊢
    rw [h₂, h₂, h₂]
    exact q₁
  · rw [e₀] at q₂ ⊢
    rw [h₂]
    exact q₂
  · have y₁ := a₂ k g
    rw [e₀] at y₁ ⊢
    rw [h₂]
    exact y₁
theorem kwU_cg {n t B : Nat} {β : Nat → Int32} {bx : Bool} {m m₁ : mMi} {C : Nat → Nat → Int32} (u : kwU n t β bx m B C) (h₁ : ∀ f j p, f = 6 ∨ (20 ≤ f ∧ f ≤ 25) → m₁ f B j p = m f B j p) : kwU n t β bx m₁ B C := by
  obtain ⟨u₁, u₂, ⟨u₃, a, h, u₄, u₅, u₆⟩, u₇, u₈⟩ := u
  have e₆ : ∀ j p, m₁ 6 B j p = m 6 B j p := fun j p => h₁ 6 j p (Or.inl rfl)
  refine ⟨fun L c g₁ g₂ => ?_, fun k g₁ => ?_, ⟨by rw [e₆]; exact u₃, a, h, by rw [e₆]; exact u₄, u₅, u₆⟩, u₇, fun y => ?_⟩
  · rw [h₁ 20 L c (by omega), h₁ 24 L c (by omega), h₁ 21 L c (by omega), h₁ 22 L c (by omega), h₁ 23 L c (by omega)]
    exact u₁ L c g₁ g₂
  · obtain ⟨f₁, f₂⟩ := u₂ k g₁
    refine ⟨by rw [e₆]; exact f₁, ?_⟩
    rcases f₂ with f₂ | f₂
    · exact Or.inl f₂
    · refine Or.inr ?_
      unfold kwL at f₂ ⊢
      simp only [e₆]
      exact f₂
  · obtain ⟨x₁, x₂, ⟨x₃, x₄⟩, x₅, x₆, x₇⟩ := u₈ y
    refine ⟨fun u e g₁ g₂ g₃ => by rw [h₁ 25 u e (by omega)]; exact x₁ u e g₁ g₂ g₃, fun u g₁ => by rw [e₆]; exact x₂ u g₁, ⟨by rw [e₆]; exact x₃, fun h g₁ g₂ u g₃ => by rw [e₆]; exact x₄ h g₁ g₂ u g₃⟩, fun k g₁ => by rw [e₆, e₆]; exact x₅ k g₁, by rw [e₆]; exact x₆, by rw [e₆]; exact x₇⟩
theorem kwJ_cg {mc mw m₁ m₂ : mMi} {B w l n lm dp cl bd h t : Nat} {β wt : Nat → Int32} {W : Nat → Nat} {bx : Bool} (q : kwJ mc mw 0 B w l n lm dp cl bd β wt W bx h t) (h₁ : m₁ 0 0 = mc 0 0) (h₂ : ∀ j p, m₁ 1 0 j p = mc 1 0 j p) (h₃ : ∀ f j p, f = 6 ∨ (20 ≤ f ∧ f ≤ 25) → m₂ f B j p = mw f B j p) : kwJ m₁ m₂ 0 B w l n lm dp cl bd β wt W bx h t := by
  obtain ⟨⟨mm, j₀⟩, s₀, u₀, w₀⟩ := q
  exact ⟨⟨mm, ccJ_cg j₀ h₁ h₂⟩, kwS_st (fun j p _ => h₃ 6 j p (Or.inl rfl)) s₀, by rw [h₁]; exact kwU_cg u₀ h₃, kwW_st (fun j p _ => h₃ 6 j p (Or.inl rfl)) w₀⟩
/-- the class loaded, at rest; all but the ghost -/
def kwC (m : mMi) (w l n lm dp cl bd T t : Nat) (β : Nat → Int32) (W : Nat → Nat) : Prop := m 2 0 0 10 = N 1 ∧ (∀ k, k < n → m 1 0 3 k = β k) ∧ (m 1 0 1 2 = N lm ∧ m 1 0 1 3 = N dp ∧ m 1 0 1 4 = N cl ∧ m 1 0 1 5 = N bd) ∧ ccQt W (m 0 0) w l ∧ ccQn (N lm) (m 0 0) ∧ t ≤ T ∧ ∃ k x, k ≤ 8 ∧ x < 8 ∧ m 2 5 0 1 = N k ∧ m 2 5 0 2 = N x
/-- class and World stand alike -/
def kwT (m : mMi) (B w l n lm dp cl bd : Nat) (β : Nat → Int32) (W : Nat → Nat) (T : Nat) : Prop := ∃ h t, kwJ m m 0 B w l n lm dp cl bd β (fun k => N (W k)) W true h t ∧ kwC m w l n lm dp cl bd T t β W
theorem kwT_ru {m : mMi} {B w l n lm dp cl bd T : Nat} {β : Nat → Int32} {W : Nat → Nat} (q : kwT m B w l n lm dp cl bd β W T) : ccRu m 0 w l n := by
  obtain ⟨h, t, ⟨⟨mm, j₀⟩, _⟩, _⟩ := q
  exact j₀.1.1
theorem kwC_cg {m m₁ : mMi} {w l n lm dp cl bd T t : Nat} {β : Nat → Int32} {W : Nat → Nat} (q : kwC m w l n lm dp cl bd T t β W) (h₁ : m₁ 0 0 = m 0 0) (h₂ : ∀ j p, m₁ 1 0 j p = m 1 0 j p) (h₃ : m₁ 2 0 0 10 = m 2 0 0 10) (h₄ : ∀ p, m₁ 2 5 0 p = m 2 5 0 p) : kwC m₁ w l n lm dp cl bd T t β W := by
  obtain ⟨a₁, a₀, ⟨a₂, a₃, a₄, a₅⟩, a₆, a₇, a₈, k, x, b₁, b₂, b₃, b₄⟩ := q
  exact ⟨by rw [h₃]; exact a₁, fun k y => by rw [h₂]; exact a₀ k y, ⟨by rw [h₂]; exact a₂, by rw [h₂]; exact a₃, by rw [h₂]; exact a₄, by rw [h₂]; exact a₅⟩, by rw [h₁]; exact a₆, by rw [h₁]; exact a₇, a₈, k, x, b₁, b₂, by rw [h₄]; exact b₃, by rw [h₄]; exact b₄⟩
theorem kwT_cg {m m₁ : mMi} {B w l n lm dp cl bd T : Nat} {β : Nat → Int32} {W : Nat → Nat} (q : kwT m B w l n lm dp cl bd β W T) (h₁ : m₁ 0 0 = m 0 0) (h₂ : ∀ j p, m₁ 1 0 j p = m 1 0 j p) (h₃ : m₁ 2 0 0 10 = m 2 0 0 10) (h₄ : ∀ p, m₁ 2 5 0 p = m 2 5 0 p) (h₅ : ∀ f j p, f = 6 ∨ (20 ≤ f ∧ f ≤ 25) → m₁ f B j p = m f B j p) : kwT m₁ B w l n lm dp cl bd β W T := by
  obtain ⟨h, t, j₀, c₀⟩ := q
  exact ⟨h, t, kwJ_cg j₀ h₁ h₂ h₅, kwC_cg c₀ h₁ h₂ h₃ h₄⟩
/-! what is made on the way -/
def kwRs (k s : Nat) (r r₁ : mRs) : Prop := r₁.1 = r.1 ∧ r₁.2.1.1 = r.2.1.1 ∧ r.2.2.1 ≤ r₁.2.2.1 ∧ r₁.2.2.2.1 ≤ r.2.2.2.1 + k ∧ r₁.2.2.2.2 ≤ r.2.2.2.2 + s ∧ ∀ a, a < r.2.2.1 → r₁.2.1.2.1 a = r.2.1.2.1 a
theorem kwRs_rfl {r : mRs} : kwRs 0 0 r r := ⟨rfl, rfl, Nat.le_refl _, Nat.le_refl _, Nat.le_refl _, fun _ _ => rfl⟩
theorem kwRs_trans {k s k₁ s₁ : Nat} {r r₁ r₂ : mRs} (h₁ : kwRs k s r r₁) (h₂ : kwRs k₁ s₁ r₁ r₂) : kwRs (k + k₁) (s + s₁) r r₂ := by
  obtain ⟨a₁, a₂, a₃, a₄, a₅, a₆⟩ := h₁
  obtain ⟨b₁, b₂, b₃, b₄, b₅, b₆⟩ := h₂
  exact ⟨Eq.trans b₁ a₁, Eq.trans b₂ a₂, by omega, by omega, by omega, fun a g => Eq.trans (b₆ a (by omega)) (a₆ a g)⟩
theorem kwRs_le {k s k₁ s₁ : Nat} {r r₁ : mRs} (h₁ : kwRs k s r r₁) (h₂ : k ≤ k₁) (h₃ : s ≤ s₁) : kwRs k₁ s₁ r r₁ := by
  obtain ⟨a₁, a₂, a₃, a₄, a₅, a₆⟩ := h₁
  exact ⟨a₁, a₂, a₃, by omega, by omega, a₆⟩
theorem kwRs_T {r : mRs} : kwRs 1 6 r (rsT r) := ⟨rfl, rfl, Nat.le_succ _, Nat.le_refl _, Nat.le_refl _, fun _ _ => rfl⟩
theorem kwRs_A {r : mRs} {kd n s : Nat} : kwRs 1 s r (rsA r kd n s) := ⟨rfl, rfl, Nat.le_succ _, Nat.le_refl _, Nat.le_refl _, fun a g => by
  have e : Nat.beq r.2.2.1 a = false := Bool.eq_false_iff.mpr (fun y => absurd (Nat.eq_of_beq_eq_true y) (by omega))
  unfold rsA
  dsimp only
  rw [e]⟩
theorem kwRs_O {r : mRs} {ci n : Nat} : kwRs 1 n r (rsO r ci n) := ⟨rfl, rfl, Nat.le_succ _, Nat.le_refl _, Nat.le_refl _, fun a g => by
  have e : Nat.beq r.2.2.1 a = false := Bool.eq_false_iff.mpr (fun y => absurd (Nat.eq_of_beq_eq_true y) (by omega))
  unfold rsO
  dsimp only
  rw [e]⟩
theorem kwRs_B {k s B : Nat} {r r₁ : mRs} (h₁ : kwRs k s r r₁) (h₂ : r.2.1.1 B = true) : r₁.2.1.1 B = true := by
  rw [h₁.2.1]
  exact h₂
theorem kwA_kd {r : mRs} {kd n s : Nat} : (rsA r kd n s).2.1.2.1 r.2.2.1 = some (kd, n) := by
  have e : Nat.beq r.2.2.1 r.2.2.1 = true := Nat.beq_refl _
  unfold rsA
  dsimp only
  rw [e]
/-- new cells carry their numbers from here on -/
def kwNx (r : mRs) : Prop := ∀ x, r.2.2.1 ≤ x → mNam r.1 x = (9, x, 0)
theorem kwNx_k {k s : Nat} {r r₁ : mRs} (h₁ : kwRs k s r r₁) (h₂ : kwNx r) : kwNx r₁ := fun x g => by
  rw [h₁.1]
  exact h₂ x (Nat.le_trans h₁.2.2.1 g)
theorem kwNx_ok {r : mRs} (h₂ : kwNx r) : nOk r = true := decide_eq_true (h₂ _ (Nat.le_refl _))
/-- a new row of whole numbers -/
theorem kwBn {m : mMi} {r : mRs} {a : Nat} {k : Nat → mMi → mRs → mRz} (h₁ : kwNx r) (h₂ : a ≤ 100) : bN 20 (N a) m r k = k r.2.2.1 (mfill m 9 r.2.2.1 0 a 0) (rsA r 20 a a) := by
  have e₁ : decide (N a < 0) = false := by
    have e₃ : (0 : Int32) = N 0 := rfl
    rw [e₃]
    have e₄ : ¬ N a < N 0 := by rw [N_lt (by omega) (by omega)]; omega
    rw [decide_eq_false e₄]
  have e₂ : Nat.ble a 100000 = true := Nat.ble_eq_true_of_le (by omega)
  unfold bN
  rw [e₁, mix_N (by omega), e₂, kwNx_ok h₁]
  rfl
