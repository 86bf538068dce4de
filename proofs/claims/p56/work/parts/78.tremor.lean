/-! the tail of a tremor -/
def kwTq (L B : Nat) (v148 v150 : Int32) (m150 : mMi) (r150 : mRs) : mRz := bI (F163 v148 v150 m150 r150) (fun v152 m152 r152 => mckO (r152.2.1.1 B) (bI (H196 B v148 v150 m152 r152) (fun v154 m154 r154 => mckO (r154.2.1.1 B) (mifO (decide (v152 ≠ v154)) (mckO (mZ (N 0) || false) (some (.inl (some (mI (N 0))), m154, r154))) (bN 20 (N 2) m154 r154 (fun n156 m156 r156 => mckO (r156.2.1.1 B) (mckO (mIsArr (r156.2.1.2.1 n156) 20 (N 0)) (mckO (mIsArr (r156.2.1.2.1 n156) 20 (N 1)) (bI (H238 n156 (N 18) (mset (mset m156 9 n156 0 0 (N 100)) 9 n156 0 1 (N 0)) r156) (fun v158 m158 r158 => mckO (r158.2.1.1 B) (mifO (decide (v158 ≠ (N 3))) (mckO (mZ (N 0) || false) (some (.inl (some (mI (N 0))), m158, r158))) (bN 20 (N 2) m158 r158 (fun n160 m160 r160 => mckO (r160.2.1.1 B) (mckO (mIsArr (r160.2.1.2.1 n160) 20 (N 0)) (mckO (mIn (N 0) 6) (mckO (mIsArr (r160.2.1.2.1 n160) 20 (N 1)) (bI (H238 n160 (N 18) (mset (mset m160 9 n160 0 0 (N 1)) 9 n160 0 1 (m160 6 B 1 0)) r160) (fun v162 m162 r162 => mckO (r162.2.1.1 B) (mifO (decide (v162 ≠ (N 3))) (mckO (mZ (N 0) || false) (some (.inl (some (mI (N 0))), m162, r162))) (mckO (mZ (N 1) || false) (some (.inl (some (mI (N 1))), m162, r162))))))))))))))))))))))
theorem kwAq_eq {L B : Nat} {v20 v22 v24 : Int32} {m26 : mMi} {r26 : mRs} : kwAq L B v20 v22 v24 m26 r26 = bI (H171 L (N 0) (N 1) m26 r26) (fun v146 m146 r146 => mckO (r146.2.1.1 B) (mifO (decide (v146 ≠ (N 0))) (bI (H171 L (N 1) (N 99) m146 r146) (fun v148 m148 r148 => mckO (r148.2.1.1 B) (mckO (mIn (N 0) 6) (bI (H171 L (N 0) ((m148 6 B 1 0) - (N 1)) m148 r148) (fun v150 m150 r150 => mckO (r150.2.1.1 B) (kwTq L B v148 v150 m150 r150)))))) (bI (H171 L (N 1) (N 20) m146 r146) (fun v164 m164 r164 => mckO (r164.2.1.1 B) (mckO (mIn (N 0) 6) (bI (H171 L (N 0) ((m164 6 B 1 0) - (N 1)) m164 r164) (fun v166 m166 r166 => mckO (r166.2.1.1 B) (kwTq L B v164 v166 m166 r166)))))))) := rfl
theorem kwTq_well {m : mMi} {r : mRs} {L B w l n lm dp cl bd T Z D a c : Nat} {β : Nat → Int32} {W : Nat → Nat} (q₁ : kwI m r B w l n lm dp cl bd β W T Z D) (h₁ : 1 ≤ a) (h₂ : a ≤ 99) (h₃ : c < w) : kwWell m r B w l n lm dp cl bd β W (T + 192) Z D (kwTq L B (N a) (N c) m r) := by
  obtain ⟨h₀, ru⟩ := kwI_0 q₁
  have hB := q₁.2.2.2.2
  obtain ⟨m₂, m₃, v₁, k₁, k₂, k₃, k₄, k₅, _, _⟩ := kwStepC q₁.1 (kwHop163 (a := a) (c := c) q₁.1 q₁.2.1 h₂ h₃)
  have q₃ := kwI_s q₁ k₃ k₄ k₅
  have e₁ : F163 (N a) (N c) m r = rI v₁ m₂ r := by rw [kwE163 h₀ ru h₁ h₂ h₃]; exact k₁ r
  have b₁ : w ≤ 12 := ru.2.2.2.2.1
  obtain ⟨M, R, g₁, g₂, g₃⟩ := kwK18 (B := B) (m := m₃) (r := r) (E := 3) (x₁ := N 100) (x₂ := N 0) q₃.2.2.2.1 hB (by omega) (fun M R y => by
    obtain ⟨y₁, y₂, _⟩ := kwI_M q₃ y
    refine kwN163 y₁ y₂ (fun ⟨b, d₀, b₁, b₂, b₃, b₄, b₅⟩ => ?_)
    have b₆ := ccNinj b₁ (by omega) (by omega)
    omega)
  have q₄ := kwI_9 q₃ g₂ g₁
  have s₄ : M 6 B 1 0 = N w := (kwI_S q₄).1
  obtain ⟨M', R', f₁, f₂, f₃⟩ := kwX18 (m := M) (r := R) (E := 3) (x₁ := N 1) (x₂ := N w) q₄.2.2.2.1 (by omega) (fun M R y => by
    obtain ⟨y₁, y₂, _⟩ := kwI_M q₄ y
    refine kwN163 y₁ y₂ (fun ⟨b, d₀, c₁, c₂, c₃, c₄, c₅⟩ => ?_)
    have c₆ := ccNinj c₂ (by omega) (by omega)
    omega)
  have q₅ := kwI_9 q₄ f₂ f₁
  have o₁ : mfill M 9 R.2.2.1 0 2 0 6 B 1 0 = N w := by rw [mfill_ne (by omega)]; exact s₄
  refine ⟨M', R', ?_, q₅, kwRs_le (kwRs_trans g₁ f₁) (by omega) (by omega), kwFy_trans (kwFy_trans (kwFy_x k₅) kwRs_rfl (kwFy_9 g₂)) g₁ (kwFy_9 f₂)⟩
  unfold kwTq
  rw [e₁, ccBi, hB, ccMckT, k₂ r hB, ccBi, hB, ccMckT, kwEqV, g₃, q₄.2.2.2.2, ccMckT, kwEq3, kwBn q₄.2.2.2.1 (by omega)]
  simp (disch := omega) only [kwAl, q₄.2.2.2.2, kwIsA, ccMckT, ccMckIn, o₁, f₃, ccBi]
  rw [q₅.2.2.2.2, ccMckT, kwEnd3]
theorem kwAq_well {m : mMi} {r : mRs} {L B w l n lm dp cl bd T Z D : Nat} {β : Nat → Int32} {W : Nat → Nat} {v x y : Int32} (q : kwI m r B w l n lm dp cl bd β W T Z D) (hL : L < 2147483648) (bD : D < 900000) : kwWell m r B w l n lm dp cl bd β W (T + 192) Z (D + 3) (kwAq L B v x y m r) := by
  have hB := q.2.2.2.2
  obtain ⟨i, i₁, i₂⟩ := q.2.2.1
  obtain ⟨s, s₁, s₂, s₃⟩ := kwE171 (r := r) (lo := 0) (hi := 1) i₁ (by omega) hL (by omega) (by omega)
  have q₁ := kwI_7 q (i := i + 1) (by omega)
  obtain ⟨m₁, hm₁⟩ : ∃ M, M = mset m 7 0 0 1 (N (i + 1)) := ⟨_, rfl⟩
  rw [← hm₁] at s₃ q₁
  have f₁ : kwFy B r m m₁ := by rw [hm₁]; exact kwFy_7
  have d₁ : m₁ 7 0 0 1 = N (i + 1) := by rw [hm₁, ccRd, if_pos ⟨rfl, rfl, rfl, rfl⟩]
  have gen : ∀ hi, 1 ≤ hi → hi ≤ 99 → ∃ a c M₂ M₃, 1 ≤ a ∧ a ≤ 99 ∧ c < w ∧ H171 L (N 1) (N hi) m₁ r = rI (N a) M₂ r ∧ M₂ 6 B 1 0 = N w ∧ H171 L (N 0) (N (w - 1)) M₂ r = rI (N c) M₃ r ∧ kwI M₃ r B w l n lm dp cl bd β W T Z (D + 3) ∧ kwFy B r m M₃ := fun hi y₁ y₂ => by
    obtain ⟨a, a₁, a₂, a₃⟩ := kwE171 (r := r) (lo := 1) (hi := hi) d₁ (by omega) hL y₁ (by omega)
    have q₂ := kwI_7 q₁ (i := i + 2) (by omega)
    obtain ⟨M₂, h₂⟩ : ∃ M, M = mset m₁ 7 0 0 1 (N (i + 1 + 1)) := ⟨_, rfl⟩
    have e₀ : i + 1 + 1 = i + 2 := by omega
    rw [e₀] at h₂ a₃
    rw [← h₂] at a₃ q₂
    have d₂ : M₂ 7 0 0 1 = N (i + 2) := by rw [h₂, ccRd, if_pos ⟨rfl, rfl, rfl, rfl⟩]
    have sW := kwI_S q₂
    have bw : 2 ≤ w ∧ w ≤ 12 := ⟨sW.2.2.2.2.2.2.2.1, sW.2.2.2.2.2.2.2.2.1⟩
    obtain ⟨c, c₁, c₂, c₃⟩ := kwE171 (r := r) (lo := 0) (hi := w - 1) d₂ (by omega) hL (by omega) (by omega)
    have q₃ := kwI_7 q₂ (i := i + 3) (by omega)
    have e₂ : i + 2 + 1 = i + 3 := by omega
    rw [e₂] at c₃
    refine ⟨a, c, M₂, _, a₁, by omega, by omega, a₃, sW.1, c₃, q₃, kwFy_trans (kwFy_trans f₁ kwRs_rfl (by rw [h₂]; exact kwFy_7)) kwRs_rfl kwFy_7⟩
  have bw : 2 ≤ w ∧ w ≤ 12 := by
    have sW := kwI_S q
    exact ⟨sW.2.2.2.2.2.2.2.1, sW.2.2.2.2.2.2.2.2.1⟩
  have ew : N w - N 1 = N (w - 1) := N_sub (by omega)
  have fin : ∀ hi, 1 ≤ hi → hi ≤ 99 → ∃ M R, bI (H171 L (N 1) (N hi) m₁ r) (fun v148 m148 r148 => mckO (r148.2.1.1 B) (mckO (mIn (N 0) 6) (bI (H171 L (N 0) ((m148 6 B 1 0) - (N 1)) m148 r148) (fun v150 m150 r150 => mckO (r150.2.1.1 B) (kwTq L B v148 v150 m150 r150))))) = rI (N 1) M R ∧ kwI M R B w l n lm dp cl bd β W (T + 192) Z (D + 3) ∧ kwRs 9 66 r R ∧ kwFy B r m M := fun hi y₁ y₂ => by
    obtain ⟨a, c, M₂, M₃, g₁, g₂, g₃, g₄, g₅, g₆, g₇, g₈⟩ := gen hi y₁ y₂
    obtain ⟨M, R, k₁, k₂, k₃, k₄⟩ := kwTq_well (L := L) g₇ g₁ g₂ g₃
    refine ⟨M, R, ?_, k₂, k₃, kwFy_trans g₈ kwRs_rfl k₄⟩
    rw [g₄, ccBi, hB, ccMckT, ccMckIn (by omega : 0 < 6) (by omega), g₅, ew, g₆, ccBi, hB, ccMckT, k₁]
  rw [kwAq_eq]
  unfold kwWell
  rw [s₃, ccBi, hB, ccMckT, ccIte]
  by_cases g : s = 0
  · subst g
    rw [if_neg (by intro y; exact y rfl)]
    exact fin 20 (by omega) (by omega)
  · rw [if_pos (by rw [ne_eq, N_eq (by omega) (by omega)]; exact g)]
    exact fin 99 (by omega) (by omega)
