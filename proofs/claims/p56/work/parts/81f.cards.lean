/-! THE LAW COMPARES the cards: all of them. -/
theorem kwCards {B w l n lm dp cl bd T Z D : Nat} {β : Nat → Int32} {W : Nat → Nat} {x2 x3 x4 : Int32} : ∀ d k m r a x6 x8, k + d = n → kwI m r B w l n lm dp cl bd β W T Z D → ∃ M R, kwI M R B w l n lm dp cl bd β W T Z D ∧ kwRs d (6 * d) r R ∧ (∀ f i j p, ¬ (f = 9 ∧ r.2.2.1 ≤ i) → M f i j p = m f i j p) ∧ ∀ f, H240_10 B a (f + 8 * d + 1) 10 x2 x3 x4 (N k) x6 x8 m r = H240_164 B 0 FU 164 x2 x3 x4 (N 0) (N 0) (N 0) (N 0) (N 0) M R := by
  intro d
  induction d with
  | zero =>
    intro k m r a x6 x8 y q
    have e₁ : k = n := by omega
    subst e₁
    have b₃ : k ≤ 40 := (kwI_0 q).2.2.2.2.2.2.2.2
    have s₁₇ : m 6 B 0 17 = N k := (kwI_S q).2.2.2.2.2.2.1
    have e₂ : N k ≤ N k := by rw [N_le (by omega) (by omega)]; omega
    refine ⟨m, r, q, kwRs_rfl, fun _ _ _ _ _ => rfl, fun f => ?_⟩
    rw [kwH10, q.2.2.2.2, ccMckT, s₁₇, ccIte, if_pos e₂]
  | succ d i₁ =>
    intro k m r a x6 x8 y q
    obtain ⟨m₁, v, g₁, g₂, g₃⟩ := kwRow (a7 := a) (x2 := x2) (x3 := x3) (x4 := x4) (x6 := x6) (x8 := x8) q (by omega : k < n)
    have q₁ := kwI_9 q g₃ (kwRs_A (kd := 20) (n := 6) (s := 6))
    obtain ⟨M, R, k₁, k₂, k₃, k₄⟩ := i₁ (k + 1) m₁ (rsA r 20 6 6) 0 (N 0) (N 0) (by omega) q₁
    refine ⟨M, R, k₁, kwRs_le (kwRs_trans kwRs_A k₂) (by omega) (by omega), fun f i j p z => ?_, fun f => ?_⟩
    · have e₀ : (rsA r 20 6 6).2.2.1 = r.2.2.1 + 1 := rfl
      rw [k₃ f i j p (by omega)]
      exact g₃ f i j p z
    · have e₀ : f + 8 * (d + 1) + 1 = ((f + 8 * d + 1) + 6 + 1) + 1 := by omega
      rw [e₀, g₁, kwL124 q₁ (by omega) g₂ kwA_kd 6 0 (f + 8 * d + 1) (by omega)]
      exact k₄ f
theorem kwE127 {m : mMi} {r : mRs} {w l n L c : Nat} (h₀ : m 2 0 0 10 = N 1) (qr : ccRu m 0 w l n) (h₁ : L < l) (h₂ : L + c < w) : F127 (N L) (N c) m r = rI (ccT (ccMayLean (m 0 0) w l L c)) m r := by
  have b₁ : w ≤ 12 := qr.2.2.2.2.1
  have b₂ : l ≤ 8 := qr.2.2.2.2.2.2.1
  show bV (F122 (N L) (N c) m r) _ = _
  rw [ccE122t h₀ qr h₁ h₂, ccBv, ccE12 qr (by omega) (by omega), ccBi]
  cases ccMayLean (m 0 0) w l L c <;> rfl
theorem kwE128 {m : mMi} {r : mRs} {w l n L c : Nat} (h₀ : m 2 0 0 10 = N 1) (qr : ccRu m 0 w l n) (h₁ : L < l) (h₂ : L + c < w) : F128 (N L) (N c) m r = rI (ccT (ccMayLay (m 0 0) w l L c)) m r := by
  have b₁ : w ≤ 12 := qr.2.2.2.2.1
  have b₂ : l ≤ 8 := qr.2.2.2.2.2.2.1
  show bV (F122 (N L) (N c) m r) _ = _
  rw [ccE122t h₀ qr h₁ h₂, ccBv, ccE16 qr (by omega) (by omega), ccBi]
  cases ccMayLay (m 0 0) w l L c <;> rfl
