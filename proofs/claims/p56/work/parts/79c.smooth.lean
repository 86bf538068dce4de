/-! THE ARMS of an act: a card is pulled out, smoothed. -/
def kwMs (m : mMi) (B a z y : Nat) : mMi := mset (mset m 6 B 8 a (N y)) 6 B 2 a (N (z + 1))
theorem kwMs_o {m : mMi} {B a z y f j p : Nat} (h₁ : ¬ (f = 6 ∧ p = a ∧ (j = 8 ∨ j = 2))) : kwMs m B a z y f B j p = m f B j p := by
  unfold kwMs
  rw [ccRd, if_neg (by omega), ccRd, if_neg (by omega)]
theorem kwU_smooth {m : mMi} {B n t a z y : Nat} {β : Nat → Int32} {C : Nat → Nat → Int32} (u : kwU n t β true m B C) (h₃ : a < n) (b₃ : n ≤ 40) (h₅ : β a = N (z + (y + 1))) (h₇ : z + (y + 1) ≤ 9) : kwU n t β true (kwMs m B a z y) B (ccU C 11 a (N (z + 1))) := by
  obtain ⟨u₁, u₂, u₃, u₇, u₈⟩ := u
  have co : ∀ j q, j ≠ 11 → ccU C 11 a (N (z + 1)) j q = C j q := fun j q y₁ => by
    unfold ccU
    rw [if_neg (by omega)]
  have ca : ccU C 11 a (N (z + 1)) 11 a = N (z + 1) := by
    unfold ccU
    rw [if_pos ⟨rfl, rfl⟩]
  have cb : ∀ k, k ≠ a → ccU C 11 a (N (z + 1)) 11 k = C 11 k := fun k y₁ => by
    unfold ccU
    rw [if_neg (by omega)]
  have m₂ : kwMs m B a z y 6 B 2 a = N (z + 1) := by
    unfold kwMs
    rw [ccRd, if_pos ⟨rfl, rfl, rfl, rfl⟩]
  have m₈ : kwMs m B a z y 6 B 8 a = N y := by
    unfold kwMs
    rw [ccRd, if_neg (by omega), ccRd, if_pos ⟨rfl, rfl, rfl, rfl⟩]
  refine ⟨fun L₁ c₁ g₁ g₂ => ?_, fun k g₁ => ?_, kwF_ch u₃ (fun p => kwMs_o (by omega)) (co 7 2 (by omega)) (co 10 5 (by omega)), by rw [co 7 2 (by omega)]; exact u₇, fun _ => ?_⟩
  · rw [kwMs_o (f := 20) (by omega), kwMs_o (f := 24) (by omega), kwMs_o (f := 21) (by omega), kwMs_o (f := 22) (by omega), kwMs_o (f := 23) (by omega), co 2 _ (by omega), co 6 _ (by omega), co 3 _ (by omega), co 4 _ (by omega), co 5 _ (by omega)]
    exact u₁ L₁ c₁ g₁ g₂
  · obtain ⟨e₁, e₂⟩ := u₂ k g₁
    refine ⟨?_, ?_⟩
    · by_cases y₁ : k = a
      · rw [y₁, m₂, ca]
      · rw [kwMs_o (by omega), cb k y₁]
        exact e₁
    · rcases e₂ with e₂ | e₂
      · exact Or.inl e₂
      · refine Or.inr ?_
        have z₄ : kwMs m B a z y 6 B 4 k = m 6 B 4 k := kwMs_o (by omega)
        have z₅ : kwMs m B a z y 6 B 5 k = m 6 B 5 k := kwMs_o (by omega)
        have z₆ : kwMs m B a z y 6 B 6 k = m 6 B 6 k := kwMs_o (by omega)
        have c₂ : ∀ p, ccU C 11 a (N (z + 1)) 2 p = C 2 p := fun p => co 2 p (by omega)
        have c₃ : ∀ p, ccU C 11 a (N (z + 1)) 3 p = C 3 p := fun p => co 3 p (by omega)
        have c₆ : ∀ p, ccU C 11 a (N (z + 1)) 6 p = C 6 p := fun p => co 6 p (by omega)
        have c₇ : ∀ p, ccU C 11 a (N (z + 1)) 13 p = C 13 p := fun p => co 13 p (by omega)
        unfold kwL at e₂ ⊢
        simp only [z₄, z₅, z₆, c₂, c₃, c₆, c₇]
        exact e₂
  · obtain ⟨x₁, x₂, ⟨x₃, x₄⟩, x₅, x₆, x₇⟩ := u₈ rfl
    refine ⟨fun u e g₁ g₂ g₃ => ?_, fun u g₁ => ?_, ⟨?_, fun h g₁ g₂ u g₃ => ?_⟩, fun k g₁ => ?_, ?_, ?_⟩
    · rw [kwMs_o (by omega), co 8 _ (by omega)]
      exact x₁ u e g₁ g₂ g₃
    · rw [kwMs_o (by omega), co 9 _ (by omega)]
      exact x₂ u g₁
    · rw [kwMs_o (by omega), co 10 _ (by omega)]
      exact x₃
    · rw [co 10 _ (by omega)] at g₁
      rw [kwMs_o (by omega), co 14 _ (by omega)]
      exact x₄ h g₁ g₂ u g₃
    · rw [kwMs_o (j := 7) (by omega), co 12 _ (by omega)]
      obtain ⟨w₁, z₁, y₁, w₂, w₃, w₄, w₅, w₆⟩ := x₅ k g₁
      refine ⟨w₁, ?_⟩
      by_cases y₂ : k = a
      · subst y₂
        have e₀ : z + 1 + y = z + (y + 1) := by omega
        exact ⟨z + 1, y, ca, m₈, by rw [e₀]; exact h₅, by omega, by omega⟩
      · exact ⟨z₁, y₁, by rw [cb k y₂]; exact w₂, by rw [kwMs_o (by omega)]; exact w₃, w₄, w₅, w₆⟩
    · rw [kwMs_o (by omega), co 0 5 (by omega)]
      exact x₆
    · rw [kwMs_o (by omega), co 0 6 (by omega)]
      exact x₇
theorem kwE166 {m : mMi} {r : mRs} {w l n a z b : Nat} (h₀ : m 2 0 0 10 = N 1) (qr : ccRu m 0 w l n) (h₃ : a < n) (h₄ : m 0 0 11 a = N z) (h₅ : m 1 0 3 a = N b) (h₆ : z < 1000) (h₇ : b < 1000) : F166 (N a) m r = if (ccHeld (m 0 0) a = true ∧ z < b) then bV (F60 0 m r) (fun m r => mckO (mIn (N a) 40) (mckO (mIn (N a) 40) (mckO (mIn (N a) 40) (rI (mset m 0 0 11 (mix (N a)) (m 0 0 11 (mix (N a)) + N 1) 0 0 11 (mix (N a))) (mset m 0 0 11 (mix (N a)) (m 0 0 11 (mix (N a)) + N 1)) r)))) else rX 3 m (rsT r) := by
  have b₃ : n ≤ 40 := qr.2.2.2.2.2.2.2
  have k₀ : a < 40 := by omega
  have ha : decide (m 0 0 13 a = I (-1)) = ccHeld (m 0 0) a := rfl
  show bV (F120 (N a) m r) _ = _
  rw [ccE120t h₀ qr h₃, ccBv]
  show bI (F2 0 (N a) m r) _ = _
  rw [ccE2 k₀, ha]
  cases g₁ : ccHeld (m 0 0) a
  · rw [ccBi, ccT_f, ccIf0e, ccE107f, ccBvX, if_neg (by intro y; exact absurd y.1 (by decide))]
  · rw [ccBi, ccT_t, ccIf1e, ccMckIn k₀ (by omega), ccMckIn k₀ (by omega), mix_N (by omega), h₅, h₄, ccIte]
    by_cases g₂ : z < b
    · have y₁ : ¬ N b ≤ N z := by rw [N_le (by omega) (by omega)]; omega
      rw [if_neg y₁, ccE107t, ccBv, if_pos (by exact ⟨rfl, g₂⟩)]
    · have y₁ : N b ≤ N z := by rw [N_le (by omega) (by omega)]; omega
      rw [if_pos y₁, ccE107f, ccBvX, if_neg (by intro y; exact g₂ y.2)]
theorem kwHop166 {m : mMi} {B w l n lm dp cl bd T Z a z y : Nat} {β : Nat → Int32} {W : Nat → Nat} (q : kwT m B w l n lm dp cl bd β W T) (zz : kwZ m Z) (bT : T ≤ 800000000) (e₂ : a < n) (g₂ : m 0 0 13 a = I (-1)) (z₁ : m 0 0 11 a = N z) (z₃ : β a = N (z + (y + 1))) (z₄ : 1 ≤ z) (z₅ : z + (y + 1) ≤ 9) : kwHop m B w l n lm dp cl bd β W (T + 192) Z (fun m r => mckO (mIn (N a) 40) (mckO (mIn (N a) 40) (mckO (mIn (N a) 40) (rI (mset m 0 0 11 (mix (N a)) (m 0 0 11 (mix (N a)) + N 1) 0 0 11 (mix (N a))) (mset m 0 0 11 (mix (N a)) (m 0 0 11 (mix (N a)) + N 1)) r)))) (fun mw v m₂ => m₂ = kwMs mw B a z y ∧ v = N (z + 1)) (fun _ _ => True) := by
  intro mc mw k₁ k₂ k₃
  obtain ⟨h, t, j₀, t₀, qt, qn, _, _, _⟩ := kwHop0 q k₁ k₂ k₃
  have s₀ := j₀.2.1
  have b₁ : w ≤ 12 := s₀.2.2.2.2.2.2.2.2.1
  have b₂ : l ≤ 8 := s₀.2.2.2.2.2.2.2.2.2.2.1
  have b₃ : n ≤ 40 := s₀.2.2.2.2.2.2.2.2.2.2.2.1
  have k₀ : a < 40 := by omega
  obtain ⟨⟨mm, j₁⟩, s₁, u₁, w₁⟩ := j₀
  have r₀ := j₁.1.2.2.2.2.2.1
  have c₁ : mc 0 0 11 a = N z := by rw [k₁]; exact z₁
  obtain ⟨_, _, z', y', d₁, d₂, d₃, _, d₅⟩ := (r₀.2.2.1 a e₂).1
  have ez : z' = z := ccNinj (by rw [← d₁, c₁]) (by omega) (by omega)
  subst ez
  have ey : z' + y' = z' + (y + 1) := ccNinj (by rw [← d₃, z₃]) (by omega) (by omega)
  have ey' : y' = y + 1 := by omega
  subst ey'
  have n₁ : N z' + N 1 = N (z' + 1) := by rw [N_add]
  have cC : mset mc 0 0 11 a (N (z' + 1)) 0 0 = ccU (mc 0 0) 11 a (N (z' + 1)) := by simp only [ccU_set]
  have cS : mset (mset mm 4 0 3 (8 + 6 * a) (N (z' + 1))) 4 0 3 (12 + 6 * a) (N y) 4 0 3 = ccV (ccV (mm 4 0 3) (8 + 6 * a) (N (z' + 1))) (12 + 6 * a) (N y) := by simp only [ccV_set]
  have co : ∀ j q, j ≠ 11 → ccU (mc 0 0) 11 a (N (z' + 1)) j q = mc 0 0 j q := fun j q y₁ => by
    simp (disch := omega) only [ccU, if_neg, Nat.reduceEqDiff, eq_self, true_and, and_true, false_and, and_false, if_true, if_false]
  have c₁₁ : ∀ q, ccU (mc 0 0) 11 a (N (z' + 1)) 11 q = if q = a then N (z' + 1) else mc 0 0 11 q := fun q => by
    simp (disch := omega) only [ccU, if_neg, Nat.reduceEqDiff, eq_self, true_and, and_true, false_and, and_false, if_true, if_false]
  have r₁ := ccR_smooth (a := a) (z := z') (y := y) (D := ccU (mc 0 0) 11 a (N (z' + 1))) (u := ccV (ccV (mm 4 0 3) (8 + 6 * a) (N (z' + 1))) (12 + 6 * a) (N y)) r₀ b₃ e₂ (by rw [k₁]; exact g₂) c₁ d₂ z₃ z₄ z₅ c₁₁ co (by simp (disch := omega) only [ccV, if_neg, Nat.reduceEqDiff, eq_self, true_and, and_true, false_and, and_false, if_true, if_false]) (by simp (disch := omega) only [ccV, if_neg, Nat.reduceEqDiff, eq_self, true_and, and_true, false_and, and_false, if_true, if_false]) (fun q y₁ y₂ => by simp (disch := omega) only [ccV, if_neg, Nat.reduceEqDiff, eq_self, true_and, and_true, false_and, and_false, if_true, if_false])
  have d₁ : ccJ (mset mc 0 0 11 a (N (z' + 1))) (mset (mset mm 4 0 3 (8 + 6 * a) (N (z' + 1))) 4 0 3 (12 + 6 * a) (N y)) 0 w l n bd β (fun k => N (W k)) W h t := by
    refine ccJ_new (h' := h) j₁ (ccFr_set ccFr_rfl) (ccFq_set (ccFq_set ccFq_rfl (by omega)) (by omega)) (by rw [cC, cS]; exact r₁) (fun p y₁ => ?_) (fun p y₁ y₂ => ?_) (by omega)
    · rw [cC, co 2 p (by omega), co 6 p (by omega)]
      exact j₁.1.2.2.2.2.2.2.1 p y₁
    · have y₃ := j₁.2.1 p y₁ y₂
      unfold ccVf ccVp at y₃ ⊢
      rw [cC, co 2 p (by omega), co 2 (p - 12) (by omega), co 2 (p - 11) (by omega), co 6 p (by omega)]
      exact y₃
  have st : ∀ p, p < 96 → ccU (mc 0 0) 11 a (N (z' + 1)) 2 p ≠ I (-1) → ccStf (ccU (mc 0 0) 11 a (N (z' + 1))) p = ccStf (mc 0 0) p := fun p y₁ y₂ => by
    rw [co 2 p (by omega)] at y₂
    obtain ⟨v, v', v₁, v₂, v₃, v₄, v₅, v₆, v₇, _⟩ := r₀.2.1.1 p y₁ y₂
    have ne : ∀ k, mc 0 0 13 k = N p → k ≠ a := fun k y₃ y₄ => by
      have y₅ : mc 0 0 13 a = I (-1) := by rw [k₁]; exact g₂
      rw [y₄, y₅, ccMN (by omega)] at y₃
      exact y₃
    unfold ccStf
    rw [co 2 p (by omega), co 3 p (by omega), v₄, v₅, mix_N (by omega), mix_N (by omega), c₁₁, c₁₁, if_neg (ne v v₆), if_neg (ne v' v₇)]
  have qt' := ccQt_less (D := ccU (mc 0 0) 11 a (N (z' + 1))) r₀ qn.2 j₁.2.2.2.2 b₁ b₂ b₃ (fun q => Or.inl (co 2 q (by omega))) (fun q => Or.inl (co 6 q (by omega))) (fun q => co 3 q (by omega)) (fun q => co 4 q (by omega)) st qt
  have nn := ccQn_less (D := ccU (mc 0 0) 11 a (N (z' + 1))) (fun q => Or.inl (co 2 q (by omega))) (fun q => co 4 q (by omega)) (fun q => co 5 q (by omega)) qn
  have fr : kwFr B mw (kwMs mw B a z' y) := kwFr_6 (kwFr_6 kwFr_rfl)
  have sw : kwSt B mw (kwMs mw B a z' y) := kwSt_6 (kwSt_6 kwSt_rfl (by omega)) (by omega)
  refine ⟨mset mc 0 0 11 a (N (z' + 1)), kwMs mw B a z' y, N (z' + 1), h, t, fun rs => ?_, ⟨rfl, rfl⟩, ⟨⟨_, d₁⟩, kwS_st sw s₁, by rw [cC]; exact kwU_smooth u₁ e₂ b₃ z₃ z₅, kwW_st sw w₁⟩, ccFr_set ccFr_rfl, fr, by rw [cC]; exact qt', by rw [cC]; exact nn, by omega, kwZ_cg ?_ zz, trivial⟩
  · show mckO (mIn (N a) 40) _ = _
    rw [ccMckIn k₀ (by omega), ccMckIn k₀ (by omega), ccMckIn k₀ (by omega), mix_N (by omega), c₁, n₁, mset_same]
  · rw [cC, co 0 5 (by omega), k₁]
