/-! THE ARMS of an act: no place, time, a tremor. -/
theorem kwEnd3 {A : mRz} {m : mMi} {r : mRs} : mifO (decide (N 3 ≠ N 3)) A (mckO (mZ (N 1) || false) (some (.inl (some (mI (N 1))), m, r))) = rI (N 1) m r := rfl
theorem kwEnd2 {A : mRz} {m : mMi} {r : mRs} : mifO (decide (N 2 ≠ N 2)) A (mckO (mZ (N 1) || false) (some (.inl (some (mI (N 1))), m, r))) = rI (N 1) m r := rfl
theorem kwEq3 {A X : mRz} : mifO (decide (N 3 ≠ N 3)) A X = X := rfl
theorem kwEq2 {A X : mRz} : mifO (decide (N 2 ≠ N 2)) A X = X := rfl
theorem kwEqV {v : Int32} {A X : mRz} : mifO (decide (v ≠ v)) A X = X := by
  rw [ccIte, if_neg (fun y => y rfl)]
theorem kwEndV {v : Int32} {A : mRz} {m : mMi} {r : mRs} : mifO (decide (v ≠ v)) A (mckO (mZ (N 1) || false) (some (.inl (some (mI (N 1))), m, r))) = rI (N 1) m r := by
  rw [kwEqV]
  rfl
theorem kwI_0 {m : mMi} {r : mRs} {B w l n lm dp cl bd T Z D : Nat} {β : Nat → Int32} {W : Nat → Nat} (q : kwI m r B w l n lm dp cl bd β W T Z D) : m 2 0 0 10 = N 1 ∧ ccRu m 0 w l n := by
  obtain ⟨h, t, j₀, c₀⟩ := q.1
  exact ⟨c₀.1, kwT_ru q.1⟩
theorem kwI_M {m M : mMi} {r : mRs} {B w l n lm dp cl bd T Z D : Nat} {β : Nat → Int32} {W : Nat → Nat} (q : kwI m r B w l n lm dp cl bd β W T Z D) (h : ∀ f i j p, f ≠ 9 → M f i j p = m f i j p) : M 2 0 0 10 = N 1 ∧ ccRu M 0 w l n ∧ M 0 0 = m 0 0 := by
  obtain ⟨g₁, g₂⟩ := kwI_0 q
  refine ⟨by rw [h 2 0 0 10 (by omega)]; exact g₁, ?_, ?_⟩
  · unfold ccRu at g₂ ⊢
    rw [h 1 0 1 0 (by omega), h 1 0 1 1 (by omega), h 1 0 0 4 (by omega)]
    exact g₂
  · funext j p
    exact h 0 0 j p (by omega)
theorem kwI_S {m : mMi} {r : mRs} {B w l n lm dp cl bd T Z D : Nat} {β : Nat → Int32} {W : Nat → Nat} (q : kwI m r B w l n lm dp cl bd β W T Z D) : kwS m B w l n lm dp cl bd := by
  obtain ⟨h, t, j₀, c₀⟩ := q.1
  exact j₀.2.1
/-- a step of both in the middle of an act -/
theorem kwI_s {m m₁ : mMi} {r : mRs} {B w l n lm dp cl bd T Z D T₁ Z₁ : Nat} {β : Nat → Int32} {W : Nat → Nat} (q : kwI m r B w l n lm dp cl bd β W T Z D) (h₁ : kwT m₁ B w l n lm dp cl bd β W T₁) (h₂ : kwZ m₁ Z₁) (h₃ : kwFx B m m₁) : kwI m₁ r B w l n lm dp cl bd β W T₁ Z₁ D := by
  obtain ⟨q₁, q₂, ⟨i, q₃, q₆⟩, q₄, q₅⟩ := q
  exact ⟨h₁, h₂, ⟨i, by rw [h₃ 7 0 0 1 (by omega) (by omega) (by omega) (by omega)]; exact q₃, q₆⟩, q₄, q₅⟩
theorem kwAn_well {m : mMi} {r : mRs} {L B w l n lm dp cl bd T Z D L₁ c₁ : Nat} {β : Nat → Int32} {W : Nat → Nat} {v : Int32} (q : kwI m r B w l n lm dp cl bd β W T Z D) (h : ¬ ccIsPl w l (N L₁) (N c₁)) : kwWell m r B w l n lm dp cl bd β W T Z D (kwAn L B v (N L₁) (N c₁) m r) := by
  have hB := q.2.2.2.2
  obtain ⟨M, R, g₁, g₂, g₃⟩ := kwK12 (B := B) (m := m) (r := r) (E := 2) (x₁ := N L₁) (x₂ := N c₁) (x₃ := N 0) (x₄ := N 0) (x₅ := N 45) q.2.2.2.1 hB (by omega) (fun M R y => by
    obtain ⟨y₁, y₂, _⟩ := kwI_M q y
    exact kwN157p y₁ y₂ h)
  have q₁ := kwI_9 q g₂ g₁
  obtain ⟨M', R', f₁, f₂, f₃⟩ := kwK15 (B := B) (m := M) (r := R) (E := 2) (x₁ := N L₁) (x₂ := N c₁) q₁.2.2.2.1 q₁.2.2.2.2 (by omega) (fun M R y => by
    obtain ⟨y₁, y₂, _⟩ := kwI_M q₁ y
    exact kwN160p y₁ y₂ h)
  have q₂ := kwI_9 q₁ f₂ f₁
  refine ⟨M', R', ?_, q₂, kwRs_le (kwRs_trans g₁ f₁) (by omega) (by omega), kwFy_trans (kwFy_9 g₂) g₁ (kwFy_9 f₂)⟩
  unfold kwAn
  rw [g₃, q₁.2.2.2.2, ccMckT, kwEq2, f₃, q₂.2.2.2.2, ccMckT, kwEnd2]
theorem kwAt_well {m : mMi} {r : mRs} {L B w l n lm dp cl bd T Z D : Nat} {β : Nat → Int32} {W : Nat → Nat} {v x y : Int32} (q : kwI m r B w l n lm dp cl bd β W T Z D) (hL : L < 2147483648) (bD : D < 900000) (bZ : Z + 6 ≤ 9999) : kwWell m r B w l n lm dp cl bd β W (T + 192) (Z + 6) (D + 1) (kwAt L B v x y m r) := by
  obtain ⟨i, i₁, i₂⟩ := q.2.2.1
  obtain ⟨a, a₁, a₂, a₃⟩ := kwE171 (r := r) (lo := 1) (hi := 6) i₁ (by omega) hL (by omega) (by omega)
  have q₁ := kwI_7 q (i := i + 1) (by omega)
  obtain ⟨m₁, hm₁⟩ : ∃ M, M = mset m 7 0 0 1 (N (i + 1)) := ⟨_, rfl⟩
  rw [← hm₁] at a₃ q₁
  obtain ⟨h₀, ru⟩ := kwI_0 q₁
  have hB := q₁.2.2.2.2
  obtain ⟨z, z₁, z₂⟩ := q₁.2.1
  obtain ⟨m₂, m₃, v₁, k₁, k₂, k₃, k₄, k₅, _, _⟩ := kwStepC q₁.1 (kwHop164 (a := a) q₁.1 q₁.2.1 (by omega) (by omega))
  have q₃ := kwI_s q₁ k₃ (Z₁ := Z + 6) (by obtain ⟨z, z₁, z₂⟩ := k₄; exact ⟨z, z₁, by omega⟩) k₅
  have e₁ : F164 (N a) m₁ r = rI v₁ m₂ r := by rw [kwE164 h₀ (by omega) (by omega) z₁ (by omega)]; exact k₁ r
  obtain ⟨M, R, g₁, g₂, g₃⟩ := kwK19 (B := B) (m := m₃) (r := r) (E := 3) (x₁ := N 101) q₃.2.2.2.1 hB (by omega) (fun M R y => by
    obtain ⟨y₁, y₂, _⟩ := kwI_M q₃ y
    refine kwN164 y₁ (fun ⟨b, b₁, b₂, b₃⟩ => ?_)
    have b₄ := ccNinj b₁ (by omega) (by omega)
    omega)
  have q₄ := kwI_9 q₃ g₂ g₁
  refine ⟨M, R, ?_, q₄, kwRs_le g₁ (by omega) (by omega), kwFy_trans (kwFy_trans (r₁ := r) (by rw [hm₁]; exact kwFy_7) kwRs_rfl (kwFy_x k₅)) kwRs_rfl (kwFy_9 g₂)⟩
  unfold kwAt
  rw [a₃, ccBi, hB, ccMckT, e₁, ccBi, hB, ccMckT, k₂ r hB, ccBi, hB, ccMckT, kwEqV, g₃, q₄.2.2.2.2, ccMckT, kwEnd3]
