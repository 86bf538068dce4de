/-! CALLS: the weight of what is built. -/
theorem ccSum_s {f : Nat → Int32} {k : Nat} : ccSum f (k + 1) = ccSum f k + f k := rfl
theorem ccL33 {m : mMi} {i n : Nat} {W : Nat → Nat} {C : Nat → Nat → Int32} (h₀ : m 0 i = C) (h₁ : ccWt m (RO i) n W) (h₂ : ccCd n C) (h₃ : n ≤ 40) : ∀ d p f rs, p + d = 96 → F33_4 i (f + d + 1) (ccSum (fun q => N (ccWP W C q) + N (ccWF W C q)) p) (N p) m rs = rI (ccSum (fun q => N (ccWP W C q) + N (ccWF W C q)) 96) m rs := by
  intro d
  induction d with
  | zero =>
    intro p f rs g₁
    have e₁ : p = 96 := by omega
    have e₂ : N 96 ≤ N 96 := by rw [N_le (by omega) (by omega)]; omega
    subst e₁
    rw [ccL33_4, ccIte, if_pos e₂]
  | succ d i₁ =>
    intro p f rs g₁
    have e₁ : f + (d + 1) + 1 = f + d + 1 + 1 := by omega
    have e₂ := i₁ (p + 1) f rs (by omega)
    have e₃ : ¬ N 96 ≤ N p := by rw [N_le (by omega) (by omega)]; omega
    have e₄ : N p + N 1 = N (p + 1) := by rw [N_add]
    rw [ccSum_s] at e₂
    rw [e₁, ccL33_4, ccIte, if_neg e₃, ccE22 h₀ h₁ h₂ h₃ (by omega), ccBi, ccE21 h₀ h₁ h₂ h₃ (by omega), ccBi, e₄]
    exact e₂
theorem ccL258 {m : mMi} {w l n : Nat} {W : Nat → Nat} (q₀ : ccMo m w l n) (q₁ : ∀ k, k < n → m 4 0 2 k = N (W k)) : ∀ d p f rs, p + d = n → F258_4 (f + d + 1) (ccSum (ccW2 (fun k => N (W k)) ccX0 (m 4 0 3)) p) (N p) m rs = rI (ccSum (ccW2 (fun k => N (W k)) ccX0 (m 4 0 3)) n) m rs := by
  have b₃ : n ≤ 40 := q₀.2.2.2.2.2.2.2
  intro d
  induction d with
  | zero =>
    intro p f rs g₁
    have e₁ : p = n := by omega
    have e₂ : N n ≤ N n := by rw [N_le (by omega) (by omega)]; omega
    subst e₁
    rw [ccL258_4, q₀.2.2.1, ccIte, if_pos e₂]
  | succ d i₁ =>
    intro p f rs g₁
    have e₁ : f + (d + 1) + 1 = f + d + 1 + 1 := by omega
    have e₂ := i₁ (p + 1) f rs (by omega)
    have e₃ : ¬ N n ≤ N p := by rw [N_le (by omega) (by omega)]; omega
    have e₄ : N p + N 1 = N (p + 1) := by rw [N_add]
    rw [ccSum_s] at e₂
    rw [e₁, ccL258_4, q₀.2.2.1, ccIte, if_neg e₃, ccE204b (by omega), ccBi, ccIte, e₄]
    by_cases g₂ : m 4 0 3 (9 + 6 * p) < N 2
    · have g₃ : ccW2 (fun k => N (W k)) ccX0 (m 4 0 3) p = N 0 := by
        unfold ccW2
        rw [if_neg (fun y₁ => absurd g₂ (Int32.not_lt.mpr y₁.2))]
      rw [g₃] at e₂
      rw [if_pos g₂]
      exact e₂
    · have g₃ : ccW2 (fun k => N (W k)) ccX0 (m 4 0 3) p = N (W p) := by
        unfold ccW2
        rw [if_pos ⟨rfl, Int32.not_lt.mp g₂⟩]
      rw [g₃] at e₂
      rw [if_neg g₂, ccMckIn (by omega : p < 40) (by omega), mix_N (by omega), q₁ p (by omega)]
      exact e₂
theorem ccW1_e {W : Nat → Nat} {C : Nat → Nat → Int32} {p : Nat} : N (ccWP W C p) + N (ccWF W C p) = ccW1 (fun k => N (W k)) C p := by
  have e₁ : N (ccWP W C p) = if C 2 p = I (-1) then N 0 else N (W (mix (C 2 p))) + N (W (mix (C 3 p))) := by
    unfold ccWP ccP
    by_cases h₁ : C 2 p = I (-1)
    · rw [decide_eq_true h₁, if_pos h₁]
      rfl
    · rw [decide_eq_false h₁, if_neg h₁, N_add]
      rfl
  have e₂ : N (ccWF W C p) = if C 6 p = I (-1) then N 0 else N (W (mix (C 6 p))) := by
    unfold ccWF ccF
    by_cases h₁ : C 6 p = I (-1)
    · rw [decide_eq_true h₁, if_pos h₁]
      rfl
    · rw [decide_eq_false h₁, if_neg h₁]
      rfl
  rw [e₁, e₂]
  rfl
theorem ccOk_136 {B : Nat} {m : mMi} (h₁ : ccTop B m) : ccOk B F136 F260 [(1, 1)] m := by
  refine ccOk_texte (b := N 0) h₁ (List.mem_cons_self) (fun m rs => rfl) (fun m rs => rfl) (fun w l n bd lm dp cl β W h₂ => ?_)
  obtain ⟨h, t, q₁, _⟩ := ccLd_R h₂
  have b₃ : n ≤ 40 := h₂.2.2.1.1.2.2.2.2.2.2.2
  obtain ⟨z₁, z₂, z₃⟩ := ccLd_wm0 h₂
  have s₀ : ccM0 m 4 0 3 = m 4 0 3 := by
    funext q
    rw [ccM0_r (by omega)]
  have e₁ := q₁.2.2.2.2.2
  unfold ccRF at e₁
  have wt : ccWt m 0 n W := h₂.2.2.1.2.2.2.2.2.2.1
  refine ccOk_q (v := ccSum (ccW2 (fun k => N (W k)) ccX0 (m 4 0 3)) n) (m₁ := m) (m₂ := ccM0 m) h₁ (fun rs => ?_) (fun rs => ?_) ccT0s ccEq_rfl (ccEq_t ccEq_rfl) (fun _ _ _ => rfl)
  · obtain ⟨g, hg⟩ := ccFU (k := 96) (by omega)
    have e₂ := ccL33 (m := m) (i := 0) (C := m 0 0) rfl wt (ccCd_of q₁.2.1) b₃ 96 0 g rs (by omega)
    rw [ccSum_congr (g := ccW1 (fun k => N (W k)) (m 0 0)) 96 (fun p _ => ccW1_e), e₁] at e₂
    have e₃ : F33 0 m rs = rI (ccSum (ccW2 (fun k => N (W k)) ccX0 (m 4 0 3)) n) m rs := by
      unfold F33
      rw [hg]
      exact e₂
    rw [e₃, ccBi]
  · obtain ⟨g, hg⟩ := ccFU (k := n) (by omega)
    have e₂ := ccL258 (m := ccM0 m) z₁ z₃ n 0 g rs (by omega)
    rw [s₀] at e₂
    have e₃ : F258 (ccM0 m) rs = rI (ccSum (ccW2 (fun k => N (W k)) ccX0 (m 4 0 3)) n) (ccM0 m) rs := by
      unfold F258
      rw [hg]
      exact e₂
    rw [e₃, ccBi]
