/-! A CHANGE of both: the class first, or World first. -/
def kwZ (m : mMi) (Z : Nat) : Prop := ∃ z, m 0 0 0 5 = N z ∧ z ≤ Z
/-- all but the class's castles, its scratch and World's cells stays -/
def kwFx (B : Nat) (m m₁ : mMi) : Prop := ∀ f a j p, f ≠ 0 → f ≠ 2 → ¬ (f = 6 ∧ a = B) → ¬ (20 ≤ f ∧ f ≤ 25 ∧ a = B) → m₁ f a j p = m f a j p
theorem kwFx_rfl {B : Nat} {m : mMi} : kwFx B m m := fun _ _ _ _ _ _ _ _ => rfl
theorem kwFx_trans {B : Nat} {m m₁ m₂ : mMi} (h₁ : kwFx B m m₁) (h₂ : kwFx B m₁ m₂) : kwFx B m m₂ := fun f a j p g₁ g₂ g₃ g₄ => Eq.trans (h₂ f a j p g₁ g₂ g₃ g₄) (h₁ f a j p g₁ g₂ g₃ g₄)
theorem kwFx_c {B : Nat} {m m₁ : mMi} (h₁ : ccFr 0 m m₁) : kwFx B m m₁ := fun f a j p g₁ g₂ _ _ => h₁ f a j p (by omega) (by omega)
theorem kwFx_w {B : Nat} {m m₁ : mMi} (h₁ : kwFr B m m₁) : kwFx B m m₁ := fun f a j p _ _ g₃ g₄ => h₁ f a j p g₃ g₄
def kwSame (B : Nat) (m mw : mMi) : Prop := ∀ f j p, f = 6 ∨ (20 ≤ f ∧ f ≤ 25) → mw f B j p = m f B j p
/-- a step of both -/
def kwHop (m : mMi) (B w l n lm dp cl bd : Nat) (β : Nat → Int32) (W : Nat → Nat) (T Z : Nat) (oc : mMi → mRs → mRz) (Ow : mMi → Int32 → mMi → Prop) (Q : Int32 → (Nat → Nat → Int32) → Prop) : Prop := ∀ mc mw : mMi, mc 0 0 = m 0 0 → (∀ j p, mc 1 0 j p = m 1 0 j p) → kwSame B m mw → ∃ m₁ m₂ v h t, (∀ rs, oc mc rs = rI v m₁ rs) ∧ Ow mw v m₂ ∧ kwJ m₁ m₂ 0 B w l n lm dp cl bd β (fun k => N (W k)) W true h t ∧ ccFr 0 mc m₁ ∧ kwFr B mw m₂ ∧ ccQt W (m₁ 0 0) w l ∧ ccQn (N lm) (m₁ 0 0) ∧ t ≤ T ∧ kwZ m₁ Z ∧ Q v (m₁ 0 0)
theorem kwKeep {m : mMi} {w l n lm dp cl bd T t : Nat} {β : Nat → Int32} {W : Nat → Nat} (q : kwC m w l n lm dp cl bd T t β W) : ∃ mk, (∀ rs, F60 0 m rs = rV mk rs) ∧ mk 0 0 = m 0 0 ∧ (∀ f a j p, f ≠ 0 → ¬ (f = 2 ∧ a = 5) → mk f a j p = m f a j p) ∧ ∃ k x, k ≤ 8 ∧ x < 8 ∧ mk 2 5 0 1 = N k ∧ mk 2 5 0 2 = N x := by
  obtain ⟨a₁, a₀, a₂, a₆, a₇, a₈, k, x, b₁, b₂, b₃, b₄⟩ := q
  obtain ⟨mk, k₁, k₂, k₃, k₄, k₅⟩ := ccE60 b₄ b₂ b₃ b₁
  refine ⟨mk, k₁, ?_, fun f a j p g₁ g₂ => k₂ f a j p (by omega) (by omega), if k = 8 then 8 else k + 1, (x + 1) % 8, ?_, by omega, k₅, k₄⟩
  · funext j p
    exact k₂ 0 0 j p (by omega) (by omega)
  · by_cases y : k = 8
    · rw [if_pos y]
      omega
    · rw [if_neg y]
      omega
theorem kwStepC {m : mMi} {B w l n lm dp cl bd T T₁ Z : Nat} {β : Nat → Int32} {W : Nat → Nat} {oc : mMi → mRs → mRz} {Ow : mMi → Int32 → mMi → Prop} {Q : Int32 → (Nat → Nat → Int32) → Prop} (q : kwT m B w l n lm dp cl bd β W T) (hop : kwHop m B w l n lm dp cl bd β W T₁ Z oc Ow Q) : ∃ m₁ m₂ v, (∀ rs, bV (F60 0 m rs) oc = rI v m₁ rs) ∧ Ow m₁ v m₂ ∧ kwT m₂ B w l n lm dp cl bd β W T₁ ∧ kwZ m₂ Z ∧ kwFx B m m₂ ∧ kwFx B m m₁ ∧ Q v (m₂ 0 0) := by
  obtain ⟨h₀, t₀, j₀, c₀⟩ := q
  obtain ⟨mk, k₁, k₂, k₃, k, x, k₄, k₅, k₆, k₇⟩ := kwKeep c₀
  obtain ⟨a₁, a₀, ⟨a₂, a₃, a₄, a₅⟩, _, _, _, _⟩ := c₀
  have fk : kwFx B m mk := fun f a j p g₁ g₂ _ _ => k₃ f a j p g₁ (by omega)
  obtain ⟨m₁, _, v, _, _, e₁, _, _, e₄, _, _, _, _, _, _⟩ := hop mk m k₂ (fun j p => k₃ 1 0 j p (by omega) (by omega)) (fun _ _ _ _ => rfl)
  have s₁ : kwSame B m m₁ := fun f j p g => by
    rw [e₄ f B j p (by omega) (by omega), k₃ f B j p (by omega) (by omega)]
  obtain ⟨m₃, m₂, u, h, t, d₁, d₂, d₃, d₄, d₅, d₆, d₇, d₈, d₉, dQ⟩ := hop mk m₁ k₂ (fun j p => k₃ 1 0 j p (by omega) (by omega)) s₁
  obtain ⟨i₁, i₂⟩ := ccInj (v := v) (u := u) (m₁ := m₁) (m₂ := m₃) (fun rs => by rw [← e₁ rs, ← d₁ rs])
  subst i₁ i₂
  have o₀ : m₂ 0 0 = m₁ 0 0 := by
    funext j p
    exact d₅ 0 0 j p (by omega) (by omega)
  have o₁ : ∀ j p, m₂ 1 0 j p = m 1 0 j p := fun j p => by rw [d₅ 1 0 j p (by omega) (by omega), d₄ 1 0 j p (by omega) (by omega), k₃ 1 0 j p (by omega) (by omega)]
  have o₂ : ∀ a j p, a ≠ 2 → m₂ 2 a j p = mk 2 a j p := fun a j p g => by rw [d₅ 2 a j p (by omega) (by omega), d₄ 2 a j p (by omega) (by omega)]
  refine ⟨m₁, m₂, v, fun rs => by rw [k₁, ccBv]; exact d₁ rs, d₂, ⟨h, t, kwJ_cg d₃ o₀ (fun j p => d₅ 1 0 j p (by omega) (by omega)) (fun _ _ _ _ => rfl), ?_, fun k y => by rw [o₁]; exact a₀ k y, ⟨by rw [o₁]; exact a₂, by rw [o₁]; exact a₃, by rw [o₁]; exact a₄, by rw [o₁]; exact a₅⟩, by rw [o₀]; exact d₆, by rw [o₀]; exact d₇, d₈, k, x, k₄, k₅, by rw [o₂ 5 0 1 (by omega)]; exact k₆, by rw [o₂ 5 0 2 (by omega)]; exact k₇⟩, ?_, kwFx_trans fk (kwFx_trans (kwFx_c d₄) (kwFx_w d₅)), kwFx_trans fk (kwFx_c d₄), by rw [o₀]; exact dQ⟩
  · rw [o₂ 0 0 10 (by omega), k₃ 2 0 0 10 (by omega) (by omega)]
    exact a₁
  · unfold kwZ
    rw [o₀]
    exact d₉
theorem kwStepW {m : mMi} {B w l n lm dp cl bd T T₁ Z : Nat} {β : Nat → Int32} {W : Nat → Nat} {oc : mMi → mRs → mRz} {Ow : mMi → Int32 → mMi → Prop} {Q : Int32 → (Nat → Nat → Int32) → Prop} (q : kwT m B w l n lm dp cl bd β W T) (hd : ∀ mw v m₂ u m₃, Ow mw v m₂ → Ow mw u m₃ → v = u ∧ m₂ = m₃) (hop : kwHop m B w l n lm dp cl bd β W T₁ Z oc Ow Q) : ∃ m₁ m₂ v, Ow m v m₁ ∧ (∀ rs, bV (F60 0 m₁ rs) oc = rI v m₂ rs) ∧ kwT m₂ B w l n lm dp cl bd β W T₁ ∧ kwZ m₂ Z ∧ kwFx B m m₂ ∧ kwFr B m m₁ ∧ kwSame B m₁ m₂ ∧ Q v (m₂ 0 0) := by
  obtain ⟨h₀, t₀, j₀, c₀⟩ := q
  obtain ⟨_, m₂, v, _, _, _, e₂, _, _, e₅, _, _, _, _, _⟩ := hop m m rfl (fun _ _ => rfl) (fun _ _ _ _ => rfl)
  have p₀ : m₂ 0 0 = m 0 0 := by
    funext j p
    exact e₅ 0 0 j p (by omega) (by omega)
  have p₁ : ∀ j p, m₂ 1 0 j p = m 1 0 j p := fun j p => e₅ 1 0 j p (by omega) (by omega)
  have p₂ : ∀ a j p, m₂ 2 a j p = m 2 a j p := fun a j p => e₅ 2 a j p (by omega) (by omega)
  have c₁ := kwC_cg c₀ p₀ p₁ (p₂ 0 0 10) (p₂ 5 0)
  obtain ⟨mk, k₁, k₂, k₃, k, x, k₄, k₅, k₆, k₇⟩ := kwKeep c₁
  obtain ⟨a₁, a₀, ⟨a₂, a₃, a₄, a₅⟩, _, _, _, _⟩ := c₁
  obtain ⟨m₁, m₃, u, h, t, d₁, d₂, d₃, d₄, d₅, d₆, d₇, d₈, d₉, dQ⟩ := hop mk m (Eq.trans k₂ p₀) (fun j p => by rw [k₃ 1 0 j p (by omega) (by omega), p₁]) (fun _ _ _ _ => rfl)
  obtain ⟨i₁, i₂⟩ := hd m v m₂ u m₃ e₂ d₂
  subst i₁ i₂
  have s₁ : kwSame B m₂ m₁ := fun f j p g => by
    rw [d₄ f B j p (by omega) (by omega), k₃ f B j p (by omega) (by omega)]
  have o₁ : ∀ j p, m₁ 1 0 j p = m₂ 1 0 j p := fun j p => by rw [d₄ 1 0 j p (by omega) (by omega), k₃ 1 0 j p (by omega) (by omega)]
  have o₂ : ∀ a j p, a ≠ 2 → m₁ 2 a j p = mk 2 a j p := fun a j p g => by rw [d₄ 2 a j p (by omega) (by omega)]
  refine ⟨m₂, m₁, v, e₂, fun rs => by rw [k₁, ccBv]; exact d₁ rs, ⟨h, t, kwJ_cg d₃ rfl (fun _ _ => rfl) s₁, ?_, fun k y => by rw [o₁]; exact a₀ k y, ⟨by rw [o₁]; exact a₂, by rw [o₁]; exact a₃, by rw [o₁]; exact a₄, by rw [o₁]; exact a₅⟩, d₆, d₇, d₈, k, x, k₄, k₅, by rw [o₂ 5 0 1 (by omega)]; exact k₆, by rw [o₂ 5 0 2 (by omega)]; exact k₇⟩, d₉, kwFx_trans (kwFx_w e₅) (kwFx_trans (fun f a j p g₁ g₂ _ _ => k₃ f a j p g₁ (by omega)) (kwFx_c d₄)), e₅, s₁, dQ⟩
  rw [o₂ 0 0 10 (by omega), k₃ 2 0 0 10 (by omega) (by omega)]
  exact a₁
