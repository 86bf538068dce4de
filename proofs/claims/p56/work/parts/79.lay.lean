/-! THE ARMS of an act: laid. -/
theorem kwSet0_f {B : Nat} {Om : mMi → mMi → Prop} (hOm : ∀ mw a b, Om mw a → Om mw b → a = b) : ∀ mw v m₂ u m₃, kwSet0 B Om mw v m₂ → kwSet0 B Om mw u m₃ → v = u ∧ m₂ = m₃ := fun mw v m₂ u m₃ ⟨x₁, a₁, a₂, a₃⟩ ⟨x₂, b₁, b₂, b₃⟩ => by
  let rs₀ : mRs := ((0, 0), (fun _ => true, fun _ => none, fun _ => 0), 0, 0, 0)
  have e₁ := hOm mw x₁ x₂ a₁ b₁
  subst e₁
  have e₂ : m₂ = m₃ := rV_inj (Eq.trans (a₂ rs₀ rfl).symm (b₂ rs₀ rfl))
  subst e₂
  exact ⟨by rw [a₃, b₃], rfl⟩
theorem kwNth_no {f : Nat → Bool} : ∀ d p, kwNth f d 0 p = I (-1) → p + d < 1000 → ∀ q, p ≤ q → q < p + d → f q = false := by
  intro d
  induction d with
  | zero => intro p _ _ q g₁ g₂; omega
  | succ d i₁ =>
    intro p h₁ h₂ q g₁ g₂
    have h₃ : (if f p = true then N p else kwNth f d 0 (p + 1)) = I (-1) := h₁
    by_cases h₄ : f p = true
    · rw [if_pos h₄, ccNm (by omega)] at h₃
      exact h₃.elim
    · rw [if_neg h₄] at h₃
      by_cases h₅ : q = p
      · subst h₅
        exact Bool.eq_false_iff.mpr h₄
      · exact i₁ (p + 1) h₃ (by omega) q (by omega) (by omega)
theorem kwPlt {w l L c : Nat} (h₁ : L < l) (h₂ : L + c < w) : ccPl w l L c = true := by
  unfold ccPl
  rw [decide_eq_true h₁, decide_eq_true h₂]
  rfl
theorem kwNo13 {m : mMi} {r : mRs} {B w l n lm dp cl bd T Z D L₁ c₁ a : Nat} {β : Nat → Int32} {W : Nat → Nat} (q : kwI m r B w l n lm dp cl bd β W T Z D) (h₁ : L₁ < l) (h₂ : L₁ + c₁ < w) (h₃ : a < n) (h₄ : ¬ (ccMayLay (m 0 0) w l L₁ c₁ = true ∧ ccHeld (m 0 0) a = true)) : ∃ M R, kwRs 3 22 r R ∧ (∀ f i j p, ¬ (f = 9 ∧ r.2.2.1 ≤ i) → M f i j p = m f i j p) ∧ ∀ K : Int32 → mMi → mRs → mRz, bN 20 (N 3) m r (fun n m2 r2 => mckO (r2.2.1.1 B) (mckO (mIsArr (r2.2.1.2.1 n) 20 (N 0)) (mckO (mIsArr (r2.2.1.2.1 n) 20 (N 1)) (mckO (mIsArr (r2.2.1.2.1 n) 20 (N 2)) (bI (H238 n (N 13) (mset (mset (mset m2 9 n 0 0 (N L₁)) 9 n 0 1 (N c₁)) 9 n 0 2 (N a)) r2) K))))) = K (N 3) M R := kwK13 q.2.2.2.1 q.2.2.2.2 (by omega) (fun M R y => by
    obtain ⟨y₁, y₂, y₃⟩ := kwI_M q y
    rw [kwE158 y₁ y₂ h₁ h₂ h₃, y₃, if_neg h₄])
theorem kwAy_well {m : mMi} {r : mRs} {L B w l n lm dp cl bd T Z D L₁ c₁ : Nat} {β : Nat → Int32} {W : Nat → Nat} {v : Int32} (q : kwI m r B w l n lm dp cl bd β W T Z D) (bT : T ≤ 800000000) (h₁ : L₁ < l) (h₂ : L₁ + c₁ < w) : ∃ T₁, T₁ ≤ T + 192 ∧ kwWell m r B w l n lm dp cl bd β W T₁ Z D (kwAy L B v (N L₁) (N c₁) m r) := by
  obtain ⟨h₀, ru⟩ := kwI_0 q
  have hB := q.2.2.2.2
  obtain ⟨hh, t, j₀, c₀⟩ := q.1
  have s := j₀.2.1
  have u := j₀.2.2.1
  obtain ⟨mm, jj⟩ := j₀.1
  have cd : ccCd n (m 0 0) := ccCd_of jj.1.2.2.2.2.2.1.2.1
  have b₁ : w ≤ 12 := ru.2.2.2.2.1
  have b₂ : l ≤ 8 := ru.2.2.2.2.2.2.1
  have b₃ : n ≤ 40 := ru.2.2.2.2.2.2.2
  have e₁ := kwE180 (rs := r) (e := 0) hB s u.2.1 (by omega)
  have e₂ := kwE183 (rs := r) hB s u.1 cd (by omega) (by omega) (kwPlt h₁ h₂)
  unfold kwAy
  rw [e₁, ccBi, hB, ccMckT]
  rcases kwNth_is (f := ccHeld (m 0 0)) n 0 0 with g | ⟨a, g, _, g₁, g₂⟩
  · have no := kwNth_no n 0 g (by omega)
    have g₃ : ¬ N 0 ≤ I (-1) := by decide
    have s₁₇ : m 6 B 0 17 = N n := s.2.2.2.2.2.2.1
    rw [g, ccIte, if_neg g₃, s₁₇, ccIte]
    by_cases g₄ : n = 0
    · subst g₄
      refine ⟨T, by omega, m, r, ?_, q, kwRs_le kwRs_rfl (by omega) (by omega), kwFy_rfl⟩
      rw [if_pos rfl]
      rfl
    · have g₅ : ¬ N n = N 0 := by rw [N_eq (by omega) (by omega)]; exact g₄
      obtain ⟨M, R, k₁, k₂, k₃⟩ := kwNo13 (a := 0) q h₁ h₂ (by omega) (fun y => by
        rw [no 0 (by omega) (by omega)] at y
        exact absurd y.2 (by decide))
      have q₁ := kwI_9 q k₂ k₁
      refine ⟨T, by omega, M, R, ?_, q₁, kwRs_le k₁ (by omega) (by omega), kwFy_9 k₂⟩
      rw [if_neg g₅, k₃, q₁.2.2.2.2, ccMckT, kwEnd3]
  · have g₃ : N 0 ≤ N a := by rw [N_le (by omega) (by omega)]; omega
    rw [g, ccIte, if_pos g₃, e₂, ccBi, hB, ccMckT]
    cases g₄ : ccMayLay (m 0 0) w l L₁ c₁
    · obtain ⟨M, R, k₁, k₂, k₃⟩ := kwNo13 (a := a) q h₁ h₂ (by omega) (fun y => by
        rw [g₄] at y
        exact absurd y.1 (by decide))
      have q₁ := kwI_9 q k₂ k₁
      refine ⟨T, by omega, M, R, ?_, q₁, kwRs_le k₁ (by omega) (by omega), kwFy_9 k₂⟩
      rw [ccT_f, ccIf0, k₃, q₁.2.2.2.2, ccMckT, kwEnd3]
    · obtain ⟨m₁, m₂, v₁, ⟨mx, x₁, x₂, x₃⟩, k₂, k₃, k₄, k₅, k₆, k₇, _⟩ := kwStepW q.1 (kwSet0_f (fun mw a b y₁ y₂ => by rw [y₁, y₂])) (kwHop158 (L := L₁) (c := c₁) (a := a) q.1 q.2.1 bT h₁ h₂ (by omega) g₄ g₂)
      subst x₁
      have o₀ : m₁ 0 0 = m 0 0 := by
        funext j p
        exact k₆ 0 0 j p (by omega) (by omega)
      have o₁ : m₁ 2 0 0 10 = N 1 := by rw [k₆ 2 0 0 10 (by omega) (by omega)]; exact h₀
      have o₂ : ccRu m₁ 0 w l n := by
        unfold ccRu at ru ⊢
        rw [k₆ 1 0 1 0 (by omega) (by omega), k₆ 1 0 1 1 (by omega) (by omega), k₆ 1 0 0 4 (by omega) (by omega)]
        exact ru
      have o₃ : m₂ 6 B 0 20 - m 6 B 0 20 = v₁ := by rw [k₇ 6 0 20 (Or.inl rfl), x₃]
      have e₃ : F158 (N L₁) (N c₁) (N a) m₁ r = rI v₁ m₂ r := by
        rw [kwE158 o₁ o₂ h₁ h₂ (by omega : a < n), o₀, if_pos ⟨g₄, g₂⟩]
        exact k₂ r
      refine ⟨T + 192, by omega, m₂, r, ?_, kwI_s q k₃ k₄ k₅, kwRs_le kwRs_rfl (by omega) (by omega), kwFy_x k₅⟩
      rw [ccT_t, ccIf1, kwE184 hB (by omega) (by omega) (by omega), ccBv, hB, ccMckT, x₂ r hB, ccBv, hB, ccMckT, e₃, ccBi, hB, ccMckT, o₃, kwEndV]
